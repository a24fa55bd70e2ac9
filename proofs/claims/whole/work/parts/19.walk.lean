theorem dX12_over_0 : decode cX12_over 0 = .ok (.aload_n 0, 1) := by decide +kernel
theorem dX12_over_1 : decode cX12_over 1 = .ok (.iconst 0, 1) := by decide +kernel
theorem dX12_over_2 : decode cX12_over 2 = .ok (.putfield 1, 3) := by decide +kernel
theorem dX12_over_5 : decode cX12_over 5 = .ok (.iload_n 1, 1) := by decide +kernel
theorem dX12_over_6 : decode cX12_over 6 = .ok (.i2l, 1) := by decide +kernel
theorem dX12_over_7 : decode cX12_over 7 = .ok (.lconst 0, 1) := by decide +kernel
theorem dX12_over_8 : decode cX12_over 8 = .ok (.aload_n 0, 1) := by decide +kernel
theorem dX12_over_9 : decode cX12_over 9 = .ok (.getfield 79, 3) := by decide +kernel
theorem dX12_over_12 : decode cX12_over 12 = .ok (.iconst 1, 1) := by decide +kernel
theorem dX12_over_13 : decode cX12_over 13 = .ok (.isub, 1) := by decide +kernel
theorem dX12_over_14 : decode cX12_over 14 = .ok (.i2l, 1) := by decide +kernel
theorem dX12_over_15 : decode cX12_over 15 = .ok (.invokestatic 29, 3) := by decide +kernel
theorem dX12_over_18 : decode cX12_over 18 = .ok (.ifCond .eq 37, 3) := by decide +kernel
theorem dX12_over_21 : decode cX12_over 21 = .ok (.iload_n 2, 1) := by decide +kernel
theorem dX12_over_22 : decode cX12_over 22 = .ok (.i2l, 1) := by decide +kernel
theorem dX12_over_23 : decode cX12_over 23 = .ok (.lconst 0, 1) := by decide +kernel
theorem dX12_over_24 : decode cX12_over 24 = .ok (.aload_n 0, 1) := by decide +kernel
theorem dX12_over_25 : decode cX12_over 25 = .ok (.getfield 79, 3) := by decide +kernel
theorem dX12_over_28 : decode cX12_over 28 = .ok (.iconst 1, 1) := by decide +kernel
theorem dX12_over_29 : decode cX12_over 29 = .ok (.isub, 1) := by decide +kernel
theorem dX12_over_30 : decode cX12_over 30 = .ok (.i2l, 1) := by decide +kernel
theorem dX12_over_31 : decode cX12_over 31 = .ok (.invokestatic 29, 3) := by decide +kernel
theorem dX12_over_34 : decode cX12_over 34 = .ok (.ifCond .eq 21, 3) := by decide +kernel
theorem dX12_over_37 : decode cX12_over 37 = .ok (.iload_n 1, 1) := by decide +kernel
theorem dX12_over_38 : decode cX12_over 38 = .ok (.iload_n 2, 1) := by decide +kernel
theorem dX12_over_39 : decode cX12_over 39 = .ok (.if_icmp .eq 16, 3) := by decide +kernel
theorem dX12_over_42 : decode cX12_over 42 = .ok (.aload_n 0, 1) := by decide +kernel
theorem dX12_over_43 : decode cX12_over 43 = .ok (.getfield 88, 3) := by decide +kernel
theorem dX12_over_46 : decode cX12_over 46 = .ok (.bipush 12, 2) := by decide +kernel
theorem dX12_over_48 : decode cX12_over 48 = .ok (.if_icmp .ge 7, 3) := by decide +kernel
theorem dX12_over_51 : decode cX12_over 51 = .ok (.iconst 1, 1) := by decide +kernel
theorem dX12_over_52 : decode cX12_over 52 = .ok (.goto 4, 3) := by decide +kernel
theorem dX12_over_55 : decode cX12_over 55 = .ok (.iconst 0, 1) := by decide +kernel
theorem dX12_over_56 : decode cX12_over 56 = .ok (.istore_n 3, 1) := by decide +kernel
theorem dX12_over_57 : decode cX12_over 57 = .ok (.iconst 0, 1) := by decide +kernel
theorem dX12_over_58 : decode cX12_over 58 = .ok (.istore 4, 2) := by decide +kernel
theorem dX12_over_60 : decode cX12_over 60 = .ok (.iload 4, 2) := by decide +kernel
theorem dX12_over_62 : decode cX12_over 62 = .ok (.aload_n 0, 1) := by decide +kernel
theorem dX12_over_63 : decode cX12_over 63 = .ok (.getfield 88, 3) := by decide +kernel
theorem dX12_over_66 : decode cX12_over 66 = .ok (.if_icmp .ge 41, 3) := by decide +kernel
theorem dX12_over_69 : decode cX12_over 69 = .ok (.iload_n 3, 1) := by decide +kernel
theorem dX12_over_70 : decode cX12_over 70 = .ok (.ifCond .eq 37, 3) := by decide +kernel
theorem dX12_over_73 : decode cX12_over 73 = .ok (.aload_n 0, 1) := by decide +kernel
theorem dX12_over_74 : decode cX12_over 74 = .ok (.getfield 245, 3) := by decide +kernel
theorem dX12_over_77 : decode cX12_over 77 = .ok (.iload 4, 2) := by decide +kernel
theorem dX12_over_79 : decode cX12_over 79 = .ok (.iaload, 1) := by decide +kernel
theorem dX12_over_80 : decode cX12_over 80 = .ok (.iload_n 1, 1) := by decide +kernel
theorem dX12_over_81 : decode cX12_over 81 = .ok (.if_icmp .ne 14, 3) := by decide +kernel
theorem dX12_over_84 : decode cX12_over 84 = .ok (.aload_n 0, 1) := by decide +kernel
theorem dX12_over_85 : decode cX12_over 85 = .ok (.getfield 248, 3) := by decide +kernel
theorem dX12_over_88 : decode cX12_over 88 = .ok (.iload 4, 2) := by decide +kernel
theorem dX12_over_90 : decode cX12_over 90 = .ok (.iaload, 1) := by decide +kernel
theorem dX12_over_91 : decode cX12_over 91 = .ok (.iload_n 2, 1) := by decide +kernel
theorem dX12_over_92 : decode cX12_over 92 = .ok (.if_icmp .eq 7, 3) := by decide +kernel
theorem dX12_over_95 : decode cX12_over 95 = .ok (.iconst 1, 1) := by decide +kernel
theorem dX12_over_96 : decode cX12_over 96 = .ok (.goto 4, 3) := by decide +kernel
theorem dX12_over_99 : decode cX12_over 99 = .ok (.iconst 0, 1) := by decide +kernel
theorem dX12_over_100 : decode cX12_over 100 = .ok (.istore_n 3, 1) := by decide +kernel
theorem dX12_over_101 : decode cX12_over 101 = .ok (.iinc 4 1, 3) := by decide +kernel
theorem dX12_over_104 : decode cX12_over 104 = .ok (.goto (-44), 3) := by decide +kernel
theorem dX12_over_107 : decode cX12_over 107 = .ok (.iload_n 3, 1) := by decide +kernel
theorem dX12_over_108 : decode cX12_over 108 = .ok (.ifCond .ne 5, 3) := by decide +kernel
theorem dX12_over_111 : decode cX12_over 111 = .ok (.iconst (-1), 1) := by decide +kernel
theorem dX12_over_112 : decode cX12_over 112 = .ok (.ireturn, 1) := by decide +kernel
theorem dX12_over_113 : decode cX12_over 113 = .ok (.aload_n 0, 1) := by decide +kernel
theorem dX12_over_114 : decode cX12_over 114 = .ok (.getfield 245, 3) := by decide +kernel
theorem dX12_over_117 : decode cX12_over 117 = .ok (.aload_n 0, 1) := by decide +kernel
theorem dX12_over_118 : decode cX12_over 118 = .ok (.getfield 88, 3) := by decide +kernel
theorem dX12_over_121 : decode cX12_over 121 = .ok (.iload_n 1, 1) := by decide +kernel
theorem dX12_over_122 : decode cX12_over 122 = .ok (.iastore, 1) := by decide +kernel
theorem dX12_over_123 : decode cX12_over 123 = .ok (.aload_n 0, 1) := by decide +kernel
theorem dX12_over_124 : decode cX12_over 124 = .ok (.getfield 248, 3) := by decide +kernel
theorem dX12_over_127 : decode cX12_over 127 = .ok (.aload_n 0, 1) := by decide +kernel
theorem dX12_over_128 : decode cX12_over 128 = .ok (.getfield 88, 3) := by decide +kernel
theorem dX12_over_131 : decode cX12_over 131 = .ok (.iload_n 2, 1) := by decide +kernel
theorem dX12_over_132 : decode cX12_over 132 = .ok (.iastore, 1) := by decide +kernel
theorem dX12_over_133 : decode cX12_over 133 = .ok (.aload_n 0, 1) := by decide +kernel
theorem dX12_over_134 : decode cX12_over 134 = .ok (.dup, 1) := by decide +kernel
theorem dX12_over_135 : decode cX12_over 135 = .ok (.getfield 88, 3) := by decide +kernel
theorem dX12_over_138 : decode cX12_over 138 = .ok (.iconst 1, 1) := by decide +kernel
theorem dX12_over_139 : decode cX12_over 139 = .ok (.iadd, 1) := by decide +kernel
theorem dX12_over_140 : decode cX12_over 140 = .ok (.putfield 88, 3) := by decide +kernel
theorem dX12_over_143 : decode cX12_over 143 = .ok (.aload_n 0, 1) := by decide +kernel
theorem dX12_over_144 : decode cX12_over 144 = .ok (.getfield 88, 3) := by decide +kernel
theorem dX12_over_147 : decode cX12_over 147 = .ok (.ireturn, 1) := by decide +kernel
def w_X12_over_107 (post : Int32 → sI → sJ → Prop) (x1 : Int32) (x2 : Int32) (x3 : Int32) (I : sI) (J : sJ) : Prop :=
  ((¬ x3 = 0 → (vp_in (I 248 15) 12 ∧ (∀ I_122 : sI, I_122 = sUI I 255 (Int32.toNatClampNeg (I 248 15)) x1 → (vp_in (I_122 248 15) 12 ∧ (∀ I_132 : sI, I_132 = sUI I_122 256 (Int32.toNatClampNeg (I_122 248 15)) x2 → (∀ I_140 : sI, I_140 = sUI I_132 248 15 ((I_132 248 15) + 1) → post (I_140 248 15) I_140 J)))))) ∧ (x3 = 0 → post (-1) I J))
set_option maxHeartbeats 4000000 in
set_option maxRecDepth 100000 in
theorem t_X12_over_107 {X : sX} {post : Int32 → sI → sJ → Prop} (h : sOK X cX12_over RX12 5 1 25) (hr : sRt X (some .int) (sPi post)) {x1 : Int32} {x2 : Int32} {x3 : Int32} {I : sI} {J : sJ} (hw : w_X12_over_107 post x1 x2 x3 I J) : sG X 5 107 [(0, .ref 248), (1, .int x1), (2, .int x2), (3, .int x3)] [] I J := by
  unfold w_X12_over_107 at hw
  refine g_iload_n h rfl 3 rfl dX12_over_107 ?_
  refine g_if_ne (tgt := 113) h (by decide) dX12_over_108 (fun q108 => ?_) (fun q108 => ?_)
  · replace hw := hw.1 q108
    refine g_aload_n h rfl 0 rfl dX12_over_113 ?_
    refine g_get h is_248 fl_X12_245 fr_248_16 dX12_over_114 ?_
    refine g_aload_n h rfl 0 rfl dX12_over_117 ?_
    refine g_get h is_248 fl_X12_88 rfl dX12_over_118 ?_
    refine g_iload_n h rfl 1 rfl dX12_over_121 ?_
    obtain ⟨hi122, hw⟩ := hw
    refine g_iast h ar_255 hi122 dX12_over_122 ?_
    refine g_nI (fun I_122 eI_122 => ?_)
    replace hw := hw I_122 eI_122
    refine g_aload_n h rfl 0 rfl dX12_over_123 ?_
    refine g_get h is_248 fl_X12_248 fr_248_17 dX12_over_124 ?_
    refine g_aload_n h rfl 0 rfl dX12_over_127 ?_
    refine g_get h is_248 fl_X12_88 rfl dX12_over_128 ?_
    refine g_iload_n h rfl 2 rfl dX12_over_131 ?_
    obtain ⟨hi132, hw⟩ := hw
    refine g_iast h ar_256 hi132 dX12_over_132 ?_
    refine g_nI (fun I_132 eI_132 => ?_)
    replace hw := hw I_132 eI_132
    refine g_aload_n h rfl 0 rfl dX12_over_133 ?_
    refine g_dup h rfl dX12_over_134 ?_
    refine g_get h is_248 fl_X12_88 rfl dX12_over_135 ?_
    refine g_iconst (v := 1) h (by decide) dX12_over_138 ?_
    refine g_iadd h dX12_over_139 ?_
    refine g_putI h is_248 fl_X12_88 rfl rfl dX12_over_140 ?_
    refine g_nI (fun I_140 eI_140 => ?_)
    replace hw := hw I_140 eI_140
    refine g_aload_n h rfl 0 rfl dX12_over_143 ?_
    refine g_get h is_248 fl_X12_88 rfl dX12_over_144 ?_
    exact g_iret h hr dX12_over_147 hw
  · replace hw := hw.2 q108
    refine g_iconst (v := (-1)) h (by decide) dX12_over_111 ?_
    exact g_iret h hr dX12_over_112 hw
def w_X12_over_100 (post : Int32 → sI → sJ → Prop) (k60 : Int32 → Int32 → Int32 → Int32 → sI → sJ → Prop) (x1 : Int32) (x2 : Int32) (x4 : Int32) (s0 : Int32) (I : sI) (J : sJ) : Prop :=
  (∀ v4_101 : Int32, v4_101 = x4 + 1 → k60 x1 x2 s0 v4_101 I J)
set_option maxHeartbeats 4000000 in
set_option maxRecDepth 100000 in
theorem t_X12_over_100 {X : sX} {post : Int32 → sI → sJ → Prop} (h : sOK X cX12_over RX12 5 1 25) (hr : sRt X (some .int) (sPi post)) {k60 : Int32 → Int32 → Int32 → Int32 → sI → sJ → Prop} (hk60 : ∀ (x1 : Int32) (x2 : Int32) (x3 : Int32) (x4 : Int32) (I : sI) (J : sJ), k60 x1 x2 x3 x4 I J → sG X 5 60 [(0, .ref 248), (1, .int x1), (2, .int x2), (3, .int x3), (4, .int x4)] [] I J) {x1 : Int32} {x2 : Int32} {x4 : Int32} {s0 : Int32} {I : sI} {J : sJ} (hw : w_X12_over_100 post k60 x1 x2 x4 s0 I J) : sG X 5 100 [(0, .ref 248), (1, .int x1), (2, .int x2), (4, .int x4)] [.int s0] I J := by
  unfold w_X12_over_100 at hw
  refine g_istore_n (lo2 := [(3, .int s0), (0, .ref 248), (1, .int x1), (2, .int x2), (4, .int x4)]) h rfl (by decide) rfl dX12_over_100 ?_
  obtain ⟨v4_101, ev4_101⟩ : ∃ z : Int32, z = x4 + 1 := ⟨_, rfl⟩
  replace hw := hw v4_101 ev4_101
  refine g_iinc (v := v4_101) (lo2 := [(4, .int v4_101), (3, .int s0), (0, .ref 248), (1, .int x1), (2, .int x2)]) h 4 rfl (by rw [ev4_101]; rfl) (by decide) rfl dX12_over_101 ?_
  refine g_goto (tgt := 60) h (by decide) dX12_over_104 ?_
  exact g_sub [2, 3, 4, 1, 0] rfl (hk60 _ _ _ _ _ _ hw)
def w_X12_over_95 (post : Int32 → sI → sJ → Prop) (k60 : Int32 → Int32 → Int32 → Int32 → sI → sJ → Prop) (x1 : Int32) (x2 : Int32) (x4 : Int32) (I : sI) (J : sJ) : Prop :=
  w_X12_over_100 post k60 x1 x2 x4 1 I J
set_option maxHeartbeats 4000000 in
set_option maxRecDepth 100000 in
theorem t_X12_over_95 {X : sX} {post : Int32 → sI → sJ → Prop} (h : sOK X cX12_over RX12 5 1 25) (hr : sRt X (some .int) (sPi post)) {k60 : Int32 → Int32 → Int32 → Int32 → sI → sJ → Prop} (hk60 : ∀ (x1 : Int32) (x2 : Int32) (x3 : Int32) (x4 : Int32) (I : sI) (J : sJ), k60 x1 x2 x3 x4 I J → sG X 5 60 [(0, .ref 248), (1, .int x1), (2, .int x2), (3, .int x3), (4, .int x4)] [] I J) {x1 : Int32} {x2 : Int32} {x4 : Int32} {I : sI} {J : sJ} (hw : w_X12_over_95 post k60 x1 x2 x4 I J) : sG X 5 95 [(0, .ref 248), (1, .int x1), (2, .int x2), (4, .int x4)] [] I J := by
  unfold w_X12_over_95 at hw
  refine g_iconst (v := 1) h (by decide) dX12_over_95 ?_
  refine g_goto (tgt := 100) h (by decide) dX12_over_96 ?_
  exact g_sub [0, 1, 2, 3] rfl (t_X12_over_100 h hr hk60 hw)
def w_X12_over_60_s (post : Int32 → sI → sJ → Prop) (k60 : Int32 → Int32 → Int32 → Int32 → sI → sJ → Prop) (x1 : Int32) (x2 : Int32) (x3 : Int32) (x4 : Int32) (I : sI) (J : sJ) : Prop :=
  (((I 248 15) ≤ x4 → w_X12_over_107 post x1 x2 x3 I J) ∧ (¬ (I 248 15) ≤ x4 → ((x3 = 0 → w_X12_over_107 post x1 x2 x3 I J) ∧ (¬ x3 = 0 → (vp_in x4 12 ∧ ((¬ (I 255 (Int32.toNatClampNeg x4)) = x1 → w_X12_over_95 post k60 x1 x2 x4 I J) ∧ ((I 255 (Int32.toNatClampNeg x4)) = x1 → (vp_in x4 12 ∧ (((I 256 (Int32.toNatClampNeg x4)) = x2 → w_X12_over_100 post k60 x1 x2 x4 0 I J) ∧ (¬ (I 256 (Int32.toNatClampNeg x4)) = x2 → w_X12_over_95 post k60 x1 x2 x4 I J))))))))))
def w_X12_over_60_n (post : Int32 → sI → sJ → Prop) : Nat → Int32 → Int32 → Int32 → Int32 → sI → sJ → Prop
  | 0 => fun _ _ _ _ _ _ => False
  | n + 1 => fun x1 x2 x3 x4 I J => w_X12_over_60_s post (w_X12_over_60_n post n) x1 x2 x3 x4 I J
def w_X12_over_60 (post : Int32 → sI → sJ → Prop) (x1 : Int32) (x2 : Int32) (x3 : Int32) (x4 : Int32) (I : sI) (J : sJ) : Prop := ∃ n, w_X12_over_60_n post n x1 x2 x3 x4 I J
set_option maxHeartbeats 4000000 in
set_option maxRecDepth 100000 in
theorem t_X12_over_60_s {X : sX} {post : Int32 → sI → sJ → Prop} (h : sOK X cX12_over RX12 5 1 25) (hr : sRt X (some .int) (sPi post)) {k60 : Int32 → Int32 → Int32 → Int32 → sI → sJ → Prop} (hk60 : ∀ (x1 : Int32) (x2 : Int32) (x3 : Int32) (x4 : Int32) (I : sI) (J : sJ), k60 x1 x2 x3 x4 I J → sG X 5 60 [(0, .ref 248), (1, .int x1), (2, .int x2), (3, .int x3), (4, .int x4)] [] I J) {x1 : Int32} {x2 : Int32} {x3 : Int32} {x4 : Int32} {I : sI} {J : sJ} (hw : w_X12_over_60_s post k60 x1 x2 x3 x4 I J) : sG X 5 60 [(0, .ref 248), (1, .int x1), (2, .int x2), (3, .int x3), (4, .int x4)] [] I J := by
  unfold w_X12_over_60_s at hw
  refine g_iload h 4 rfl dX12_over_60 ?_
  refine g_aload_n h rfl 0 rfl dX12_over_62 ?_
  refine g_get h is_248 fl_X12_88 rfl dX12_over_63 ?_
  refine g_icmp_ge (tgt := 107) h (by decide) dX12_over_66 (fun q66 => ?_) (fun q66 => ?_)
  · replace hw := hw.1 q66
    exact g_sub [0, 1, 2, 3] rfl (t_X12_over_107 h hr hw)
  · replace hw := hw.2 q66
    refine g_iload_n h rfl 3 rfl dX12_over_69 ?_
    refine g_if_eq (tgt := 107) h (by decide) dX12_over_70 (fun q70 => ?_) (fun q70 => ?_)
    · replace hw := hw.1 q70
      exact g_sub [0, 1, 2, 3] rfl (t_X12_over_107 h hr hw)
    · replace hw := hw.2 q70
      refine g_aload_n h rfl 0 rfl dX12_over_73 ?_
      refine g_get h is_248 fl_X12_245 fr_248_16 dX12_over_74 ?_
      refine g_iload h 4 rfl dX12_over_77 ?_
      obtain ⟨hi79, hw⟩ := hw
      refine g_iald h ar_255 hi79 dX12_over_79 ?_
      refine g_iload_n h rfl 1 rfl dX12_over_80 ?_
      refine g_icmp_ne (tgt := 95) h (by decide) dX12_over_81 (fun q81 => ?_) (fun q81 => ?_)
      · replace hw := hw.1 q81
        exact g_sub [0, 1, 2, 4] rfl (t_X12_over_95 h hr hk60 hw)
      · replace hw := hw.2 q81
        refine g_aload_n h rfl 0 rfl dX12_over_84 ?_
        refine g_get h is_248 fl_X12_248 fr_248_17 dX12_over_85 ?_
        refine g_iload h 4 rfl dX12_over_88 ?_
        obtain ⟨hi90, hw⟩ := hw
        refine g_iald h ar_256 hi90 dX12_over_90 ?_
        refine g_iload_n h rfl 2 rfl dX12_over_91 ?_
        refine g_icmp_eq (tgt := 99) h (by decide) dX12_over_92 (fun q92 => ?_) (fun q92 => ?_)
        · replace hw := hw.1 q92
          refine g_iconst (v := 0) h (by decide) dX12_over_99 ?_
          exact g_sub [0, 1, 2, 4] rfl (t_X12_over_100 h hr hk60 hw)
        · replace hw := hw.2 q92
          exact g_sub [0, 1, 2, 4] rfl (t_X12_over_95 h hr hk60 hw)
theorem t_X12_over_60 {X : sX} {post : Int32 → sI → sJ → Prop} (h : sOK X cX12_over RX12 5 1 25) (hr : sRt X (some .int) (sPi post)) {x1 : Int32} {x2 : Int32} {x3 : Int32} {x4 : Int32} {I : sI} {J : sJ} (hw : w_X12_over_60 post x1 x2 x3 x4 I J) : sG X 5 60 [(0, .ref 248), (1, .int x1), (2, .int x2), (3, .int x3), (4, .int x4)] [] I J := by
  obtain ⟨n, hw⟩ := hw
  induction n generalizing x1 x2 x3 x4 I J with
  | zero => exact hw.elim
  | succ n ih => exact t_X12_over_60_s h hr (fun _ _ _ _ _ _ q => ih q) hw
def w_X12_over_56 (post : Int32 → sI → sJ → Prop) (x1 : Int32) (x2 : Int32) (s0 : Int32) (I : sI) (J : sJ) : Prop :=
  w_X12_over_60 post x1 x2 s0 0 I J
set_option maxHeartbeats 4000000 in
set_option maxRecDepth 100000 in
theorem t_X12_over_56 {X : sX} {post : Int32 → sI → sJ → Prop} (h : sOK X cX12_over RX12 5 1 25) (hr : sRt X (some .int) (sPi post)) {x1 : Int32} {x2 : Int32} {s0 : Int32} {I : sI} {J : sJ} (hw : w_X12_over_56 post x1 x2 s0 I J) : sG X 5 56 [(0, .ref 248), (1, .int x1), (2, .int x2)] [.int s0] I J := by
  unfold w_X12_over_56 at hw
  refine g_istore_n (lo2 := [(3, .int s0), (0, .ref 248), (1, .int x1), (2, .int x2)]) h rfl (by decide) rfl dX12_over_56 ?_
  refine g_iconst (v := 0) h (by decide) dX12_over_57 ?_
  refine g_istore (lo2 := [(4, .int 0), (3, .int s0), (0, .ref 248), (1, .int x1), (2, .int x2)]) h (by decide) rfl dX12_over_58 ?_
  exact g_sub [2, 3, 4, 1, 0] rfl (t_X12_over_60 h hr hw)
def w_X12_over_55 (post : Int32 → sI → sJ → Prop) (x1 : Int32) (x2 : Int32) (I : sI) (J : sJ) : Prop :=
  w_X12_over_56 post x1 x2 0 I J
set_option maxHeartbeats 4000000 in
set_option maxRecDepth 100000 in
theorem t_X12_over_55 {X : sX} {post : Int32 → sI → sJ → Prop} (h : sOK X cX12_over RX12 5 1 25) (hr : sRt X (some .int) (sPi post)) {x1 : Int32} {x2 : Int32} {I : sI} {J : sJ} (hw : w_X12_over_55 post x1 x2 I J) : sG X 5 55 [(0, .ref 248), (1, .int x1), (2, .int x2)] [] I J := by
  unfold w_X12_over_55 at hw
  refine g_iconst (v := 0) h (by decide) dX12_over_55 ?_
  exact g_sub [0, 1, 2] rfl (t_X12_over_56 h hr hw)
def w_X12_over (a1 : Int32) (a2 : Int32) (I : sI) (J : sJ) (post : Int32 → sI → sJ → Prop) : Prop :=
  (∀ I_2 : sI, I_2 = sUI I 248 0 0 → w_X12_in (Int32.toInt64 a1) 0 (Int32.toInt64 ((I_2 248 12) - 1)) I_2 J (fun (r_15 : Int32) (I_15 : sI) (J_15 : sJ) => (((r_15 = 0 → w_X12_over_55 post a1 a2 I_15 J_15) ∧ (¬ r_15 = 0 → w_X12_in (Int32.toInt64 a2) 0 (Int32.toInt64 ((I_15 248 12) - 1)) I_15 J_15 (fun (r_31 : Int32) (I_31 : sI) (J_31 : sJ) => (((r_31 = 0 → w_X12_over_55 post a1 a2 I_31 J_31) ∧ (¬ r_31 = 0 → ((a1 = a2 → w_X12_over_55 post a1 a2 I_31 J_31) ∧ (¬ a1 = a2 → ((12 ≤ (I_31 248 15) → w_X12_over_55 post a1 a2 I_31 J_31) ∧ (¬ 12 ≤ (I_31 248 15) → w_X12_over_56 post a1 a2 1 I_31 J_31)))))))))))))
set_option maxHeartbeats 4000000 in
set_option maxRecDepth 100000 in
theorem t_X12_over {X : sX} {a1 : Int32} {a2 : Int32} {I : sI} {J : sJ} {post : Int32 → sI → sJ → Prop} (h : sOK X cX12_over RX12 5 1 25) (hr : sRt X (some .int) (sPi post)) (hw : w_X12_over a1 a2 I J post) : sG X 5 0 [(0, .ref 248), (1, .int a1), (2, .int a2)] [] I J := by
  unfold w_X12_over at hw
  refine g_aload_n h rfl 0 rfl dX12_over_0 ?_
  refine g_iconst (v := 0) h (by decide) dX12_over_1 ?_
  refine g_putI h is_248 fl_X12_1 rfl rfl dX12_over_2 ?_
  refine g_nI (fun I_2 eI_2 => ?_)
  replace hw := hw I_2 eI_2
  refine g_iload_n h rfl 1 rfl dX12_over_5 ?_
  refine g_i2l h dX12_over_6 ?_
  refine g_lconst (v := 0) h (by decide) dX12_over_7 ?_
  refine g_aload_n h rfl 0 rfl dX12_over_8 ?_
  refine g_get h is_248 fl_X12_79 rfl dX12_over_9 ?_
  refine g_iconst (v := 1) h (by decide) dX12_over_12 ?_
  refine g_isub h dX12_over_13 ?_
  refine g_i2l h dX12_over_14 ?_
  refine g_callS [.long (Int32.toInt64 a1), .long 0, .long (Int32.toInt64 ((I_2 248 12) - 1))] h (c_X12_in X hw) sPi_v mw_X12_in lk_X12_29 rfl ⟨by decide, by decide⟩ (Nat.le_of_ble_eq_true rfl) dX12_over_15 (sPi_k (fun r_15 I_15 J_15 hw => ?_))
  refine g_if_eq (tgt := 55) h (by decide) dX12_over_18 (fun q18 => ?_) (fun q18 => ?_)
  · replace hw := hw.1 q18
    exact g_sub [0, 1, 2] rfl (t_X12_over_55 h hr hw)
  · replace hw := hw.2 q18
    refine g_iload_n h rfl 2 rfl dX12_over_21 ?_
    refine g_i2l h dX12_over_22 ?_
    refine g_lconst (v := 0) h (by decide) dX12_over_23 ?_
    refine g_aload_n h rfl 0 rfl dX12_over_24 ?_
    refine g_get h is_248 fl_X12_79 rfl dX12_over_25 ?_
    refine g_iconst (v := 1) h (by decide) dX12_over_28 ?_
    refine g_isub h dX12_over_29 ?_
    refine g_i2l h dX12_over_30 ?_
    refine g_callS [.long (Int32.toInt64 a2), .long 0, .long (Int32.toInt64 ((I_15 248 12) - 1))] h (c_X12_in X hw) sPi_v mw_X12_in lk_X12_29 rfl ⟨by decide, by decide⟩ (Nat.le_of_ble_eq_true rfl) dX12_over_31 (sPi_k (fun r_31 I_31 J_31 hw => ?_))
    refine g_if_eq (tgt := 55) h (by decide) dX12_over_34 (fun q34 => ?_) (fun q34 => ?_)
    · replace hw := hw.1 q34
      exact g_sub [0, 1, 2] rfl (t_X12_over_55 h hr hw)
    · replace hw := hw.2 q34
      refine g_iload_n h rfl 1 rfl dX12_over_37 ?_
      refine g_iload_n h rfl 2 rfl dX12_over_38 ?_
      refine g_icmp_eq (tgt := 55) h (by decide) dX12_over_39 (fun q39 => ?_) (fun q39 => ?_)
      · replace hw := hw.1 q39
        exact g_sub [0, 1, 2] rfl (t_X12_over_55 h hr hw)
      · replace hw := hw.2 q39
        refine g_aload_n h rfl 0 rfl dX12_over_42 ?_
        refine g_get h is_248 fl_X12_88 rfl dX12_over_43 ?_
        refine g_bipush (v := 12) h (by decide) dX12_over_46 ?_
        refine g_icmp_ge (tgt := 55) h (by decide) dX12_over_48 (fun q48 => ?_) (fun q48 => ?_)
        · replace hw := hw.1 q48
          exact g_sub [0, 1, 2] rfl (t_X12_over_55 h hr hw)
        · replace hw := hw.2 q48
          refine g_iconst (v := 1) h (by decide) dX12_over_51 ?_
          refine g_goto (tgt := 56) h (by decide) dX12_over_52 ?_
          exact g_sub [0, 1, 2] rfl (t_X12_over_56 h hr hw)
theorem c_X12_over (X : sX) {a1 : Int32} {a2 : Int32} {I : sI} {J : sJ} {post : Int32 → sI → sJ → Prop} (hw : w_X12_over a1 a2 I J post) : sCall X yX12_over cX12_over 5 (some .int) 1 25 [.ref 248, .int a1, .int a2] I J (sPi post) := sCall_of (by decide +kernel) (Nat.le_of_ble_eq_true rfl) (fun X h hr => t_X12_over h hr hw)
theorem dX12_mayCome_0 : decode cX12_mayCome 0 = .ok (.iload_n 2, 1) := by decide +kernel
theorem dX12_mayCome_1 : decode cX12_mayCome 1 = .ok (.iload 5, 2) := by decide +kernel
theorem dX12_mayCome_3 : decode cX12_mayCome 3 = .ok (.if_icmp .ne 12, 3) := by decide +kernel
theorem dX12_mayCome_6 : decode cX12_mayCome 6 = .ok (.iload_n 1, 1) := by decide +kernel
theorem dX12_mayCome_7 : decode cX12_mayCome 7 = .ok (.iload 4, 2) := by decide +kernel
theorem dX12_mayCome_9 : decode cX12_mayCome 9 = .ok (.invokestatic 242, 3) := by decide +kernel
theorem dX12_mayCome_12 : decode cX12_mayCome 12 = .ok (.ifCond .eq 7, 3) := by decide +kernel
theorem dX12_mayCome_15 : decode cX12_mayCome 15 = .ok (.iconst 1, 1) := by decide +kernel
theorem dX12_mayCome_16 : decode cX12_mayCome 16 = .ok (.goto 4, 3) := by decide +kernel
theorem dX12_mayCome_19 : decode cX12_mayCome 19 = .ok (.iconst 0, 1) := by decide +kernel
theorem dX12_mayCome_20 : decode cX12_mayCome 20 = .ok (.istore 6, 2) := by decide +kernel
theorem dX12_mayCome_22 : decode cX12_mayCome 22 = .ok (.iconst 0, 1) := by decide +kernel
theorem dX12_mayCome_23 : decode cX12_mayCome 23 = .ok (.istore 7, 2) := by decide +kernel
theorem dX12_mayCome_25 : decode cX12_mayCome 25 = .ok (.iload 7, 2) := by decide +kernel
theorem dX12_mayCome_27 : decode cX12_mayCome 27 = .ok (.aload_n 0, 1) := by decide +kernel
theorem dX12_mayCome_28 : decode cX12_mayCome 28 = .ok (.getfield 88, 3) := by decide +kernel
theorem dX12_mayCome_31 : decode cX12_mayCome 31 = .ok (.if_icmp .ge 55, 3) := by decide +kernel
theorem dX12_mayCome_34 : decode cX12_mayCome 34 = .ok (.iload 6, 2) := by decide +kernel
theorem dX12_mayCome_36 : decode cX12_mayCome 36 = .ok (.ifCond .eq 50, 3) := by decide +kernel
theorem dX12_mayCome_39 : decode cX12_mayCome 39 = .ok (.iload_n 3, 1) := by decide +kernel
theorem dX12_mayCome_40 : decode cX12_mayCome 40 = .ok (.iload 7, 2) := by decide +kernel
theorem dX12_mayCome_42 : decode cX12_mayCome 42 = .ok (.invokestatic 242, 3) := by decide +kernel
theorem dX12_mayCome_45 : decode cX12_mayCome 45 = .ok (.ifCond .ne 28, 3) := by decide +kernel
theorem dX12_mayCome_48 : decode cX12_mayCome 48 = .ok (.aload_n 0, 1) := by decide +kernel
theorem dX12_mayCome_49 : decode cX12_mayCome 49 = .ok (.getfield 245, 3) := by decide +kernel
theorem dX12_mayCome_52 : decode cX12_mayCome 52 = .ok (.iload 7, 2) := by decide +kernel
theorem dX12_mayCome_54 : decode cX12_mayCome 54 = .ok (.iaload, 1) := by decide +kernel
theorem dX12_mayCome_55 : decode cX12_mayCome 55 = .ok (.iload_n 2, 1) := by decide +kernel
theorem dX12_mayCome_56 : decode cX12_mayCome 56 = .ok (.if_icmp .ne 17, 3) := by decide +kernel
theorem dX12_mayCome_59 : decode cX12_mayCome 59 = .ok (.iload_n 1, 1) := by decide +kernel
theorem dX12_mayCome_60 : decode cX12_mayCome 60 = .ok (.aload_n 0, 1) := by decide +kernel
theorem dX12_mayCome_61 : decode cX12_mayCome 61 = .ok (.getfield 248, 3) := by decide +kernel
theorem dX12_mayCome_64 : decode cX12_mayCome 64 = .ok (.iload 7, 2) := by decide +kernel
theorem dX12_mayCome_66 : decode cX12_mayCome 66 = .ok (.iaload, 1) := by decide +kernel
theorem dX12_mayCome_67 : decode cX12_mayCome 67 = .ok (.invokestatic 242, 3) := by decide +kernel
theorem dX12_mayCome_70 : decode cX12_mayCome 70 = .ok (.ifCond .eq 7, 3) := by decide +kernel
theorem dX12_mayCome_73 : decode cX12_mayCome 73 = .ok (.iconst 1, 1) := by decide +kernel
theorem dX12_mayCome_74 : decode cX12_mayCome 74 = .ok (.goto 4, 3) := by decide +kernel
theorem dX12_mayCome_77 : decode cX12_mayCome 77 = .ok (.iconst 0, 1) := by decide +kernel
theorem dX12_mayCome_78 : decode cX12_mayCome 78 = .ok (.istore 6, 2) := by decide +kernel
theorem dX12_mayCome_80 : decode cX12_mayCome 80 = .ok (.iinc 7 1, 3) := by decide +kernel
theorem dX12_mayCome_83 : decode cX12_mayCome 83 = .ok (.goto (-58), 3) := by decide +kernel
theorem dX12_mayCome_86 : decode cX12_mayCome 86 = .ok (.iload 6, 2) := by decide +kernel
theorem dX12_mayCome_88 : decode cX12_mayCome 88 = .ok (.ireturn, 1) := by decide +kernel
def w_X12_mayCome_78 (post : Int32 → sI → sJ → Prop) (k25 : Int32 → Int32 → Int32 → Int32 → Int32 → sI → sJ → Prop) (x1 : Int32) (x2 : Int32) (x3 : Int32) (x7 : Int32) (s0 : Int32) (I : sI) (J : sJ) : Prop :=
  (∀ v7_80 : Int32, v7_80 = x7 + 1 → k25 x1 x2 x3 s0 v7_80 I J)
set_option maxHeartbeats 4000000 in
set_option maxRecDepth 100000 in
theorem t_X12_mayCome_78 {X : sX} {post : Int32 → sI → sJ → Prop} (h : sOK X cX12_mayCome RX12 8 1 21) (hr : sRt X (some .boolean) (sPi post)) {k25 : Int32 → Int32 → Int32 → Int32 → Int32 → sI → sJ → Prop} (hk25 : ∀ (x1 : Int32) (x2 : Int32) (x3 : Int32) (x6 : Int32) (x7 : Int32) (I : sI) (J : sJ), k25 x1 x2 x3 x6 x7 I J → sG X 8 25 [(0, .ref 248), (1, .int x1), (2, .int x2), (3, .int x3), (6, .int x6), (7, .int x7)] [] I J) {x1 : Int32} {x2 : Int32} {x3 : Int32} {x7 : Int32} {s0 : Int32} {I : sI} {J : sJ} (hw : w_X12_mayCome_78 post k25 x1 x2 x3 x7 s0 I J) : sG X 8 78 [(0, .ref 248), (1, .int x1), (2, .int x2), (3, .int x3), (7, .int x7)] [.int s0] I J := by
  unfold w_X12_mayCome_78 at hw
  refine g_istore (lo2 := [(6, .int s0), (0, .ref 248), (1, .int x1), (2, .int x2), (3, .int x3), (7, .int x7)]) h (by decide) rfl dX12_mayCome_78 ?_
  obtain ⟨v7_80, ev7_80⟩ : ∃ z : Int32, z = x7 + 1 := ⟨_, rfl⟩
  replace hw := hw v7_80 ev7_80
  refine g_iinc (v := v7_80) (lo2 := [(7, .int v7_80), (6, .int s0), (0, .ref 248), (1, .int x1), (2, .int x2), (3, .int x3)]) h 5 rfl (by rw [ev7_80]; rfl) (by decide) rfl dX12_mayCome_80 ?_
  refine g_goto (tgt := 25) h (by decide) dX12_mayCome_83 ?_
  exact g_sub [2, 3, 4, 5, 1, 0] rfl (hk25 _ _ _ _ _ _ _ hw)
def w_X12_mayCome_73 (post : Int32 → sI → sJ → Prop) (k25 : Int32 → Int32 → Int32 → Int32 → Int32 → sI → sJ → Prop) (x1 : Int32) (x2 : Int32) (x3 : Int32) (x7 : Int32) (I : sI) (J : sJ) : Prop :=
  w_X12_mayCome_78 post k25 x1 x2 x3 x7 1 I J
set_option maxHeartbeats 4000000 in
set_option maxRecDepth 100000 in
theorem t_X12_mayCome_73 {X : sX} {post : Int32 → sI → sJ → Prop} (h : sOK X cX12_mayCome RX12 8 1 21) (hr : sRt X (some .boolean) (sPi post)) {k25 : Int32 → Int32 → Int32 → Int32 → Int32 → sI → sJ → Prop} (hk25 : ∀ (x1 : Int32) (x2 : Int32) (x3 : Int32) (x6 : Int32) (x7 : Int32) (I : sI) (J : sJ), k25 x1 x2 x3 x6 x7 I J → sG X 8 25 [(0, .ref 248), (1, .int x1), (2, .int x2), (3, .int x3), (6, .int x6), (7, .int x7)] [] I J) {x1 : Int32} {x2 : Int32} {x3 : Int32} {x7 : Int32} {I : sI} {J : sJ} (hw : w_X12_mayCome_73 post k25 x1 x2 x3 x7 I J) : sG X 8 73 [(0, .ref 248), (1, .int x1), (2, .int x2), (3, .int x3), (7, .int x7)] [] I J := by
  unfold w_X12_mayCome_73 at hw
  refine g_iconst (v := 1) h (by decide) dX12_mayCome_73 ?_
  refine g_goto (tgt := 78) h (by decide) dX12_mayCome_74 ?_
  exact g_sub [0, 1, 2, 3, 4] rfl (t_X12_mayCome_78 h hr hk25 hw)
def w_X12_mayCome_25_s (post : Int32 → sI → sJ → Prop) (k25 : Int32 → Int32 → Int32 → Int32 → Int32 → sI → sJ → Prop) (x1 : Int32) (x2 : Int32) (x3 : Int32) (x6 : Int32) (x7 : Int32) (I : sI) (J : sJ) : Prop :=
  (((I 248 15) ≤ x7 → (sZ x6 ∧ post x6 I J)) ∧ (¬ (I 248 15) ≤ x7 → ((x6 = 0 → (sZ x6 ∧ post x6 I J)) ∧ (¬ x6 = 0 → w_X12_has x3 x7 I J (fun (r_42 : Int32) (I_42 : sI) (J_42 : sJ) => (((¬ r_42 = 0 → w_X12_mayCome_73 post k25 x1 x2 x3 x7 I_42 J_42) ∧ (r_42 = 0 → (vp_in x7 12 ∧ ((¬ (I_42 255 (Int32.toNatClampNeg x7)) = x2 → w_X12_mayCome_73 post k25 x1 x2 x3 x7 I_42 J_42) ∧ ((I_42 255 (Int32.toNatClampNeg x7)) = x2 → (vp_in x7 12 ∧ w_X12_has x1 (I_42 256 (Int32.toNatClampNeg x7)) I_42 J_42 (fun (r_67 : Int32) (I_67 : sI) (J_67 : sJ) => (((r_67 = 0 → w_X12_mayCome_78 post k25 x1 x2 x3 x7 0 I_67 J_67) ∧ (¬ r_67 = 0 → w_X12_mayCome_73 post k25 x1 x2 x3 x7 I_67 J_67))))))))))))))))
def w_X12_mayCome_25_n (post : Int32 → sI → sJ → Prop) : Nat → Int32 → Int32 → Int32 → Int32 → Int32 → sI → sJ → Prop
  | 0 => fun _ _ _ _ _ _ _ => False
  | n + 1 => fun x1 x2 x3 x6 x7 I J => w_X12_mayCome_25_s post (w_X12_mayCome_25_n post n) x1 x2 x3 x6 x7 I J
def w_X12_mayCome_25 (post : Int32 → sI → sJ → Prop) (x1 : Int32) (x2 : Int32) (x3 : Int32) (x6 : Int32) (x7 : Int32) (I : sI) (J : sJ) : Prop := ∃ n, w_X12_mayCome_25_n post n x1 x2 x3 x6 x7 I J
set_option maxHeartbeats 4000000 in
set_option maxRecDepth 100000 in
theorem t_X12_mayCome_25_s {X : sX} {post : Int32 → sI → sJ → Prop} (h : sOK X cX12_mayCome RX12 8 1 21) (hr : sRt X (some .boolean) (sPi post)) {k25 : Int32 → Int32 → Int32 → Int32 → Int32 → sI → sJ → Prop} (hk25 : ∀ (x1 : Int32) (x2 : Int32) (x3 : Int32) (x6 : Int32) (x7 : Int32) (I : sI) (J : sJ), k25 x1 x2 x3 x6 x7 I J → sG X 8 25 [(0, .ref 248), (1, .int x1), (2, .int x2), (3, .int x3), (6, .int x6), (7, .int x7)] [] I J) {x1 : Int32} {x2 : Int32} {x3 : Int32} {x6 : Int32} {x7 : Int32} {I : sI} {J : sJ} (hw : w_X12_mayCome_25_s post k25 x1 x2 x3 x6 x7 I J) : sG X 8 25 [(0, .ref 248), (1, .int x1), (2, .int x2), (3, .int x3), (6, .int x6), (7, .int x7)] [] I J := by
  unfold w_X12_mayCome_25_s at hw
  refine g_iload h 5 rfl dX12_mayCome_25 ?_
  refine g_aload_n h rfl 0 rfl dX12_mayCome_27 ?_
  refine g_get h is_248 fl_X12_88 rfl dX12_mayCome_28 ?_
  refine g_icmp_ge (tgt := 86) h (by decide) dX12_mayCome_31 (fun q31 => ?_) (fun q31 => ?_)
  · replace hw := hw.1 q31
    refine g_iload h 4 rfl dX12_mayCome_86 ?_
    exact g_zret h hr hw.1 dX12_mayCome_88 hw.2
  · replace hw := hw.2 q31
    refine g_iload h 4 rfl dX12_mayCome_34 ?_
    refine g_if_eq (tgt := 86) h (by decide) dX12_mayCome_36 (fun q36 => ?_) (fun q36 => ?_)
    · replace hw := hw.1 q36
      refine g_iload h 4 rfl dX12_mayCome_86 ?_
      exact g_zret h hr hw.1 dX12_mayCome_88 hw.2
    · replace hw := hw.2 q36
      refine g_iload_n h rfl 3 rfl dX12_mayCome_39 ?_
      refine g_iload h 5 rfl dX12_mayCome_40 ?_
      refine g_callS [.int x3, .int x7] h (c_X12_has X hw) sPi_v mw_X12_has lk_X12_242 rfl ⟨by decide, by decide⟩ (Nat.le_of_ble_eq_true rfl) dX12_mayCome_42 (sPi_k (fun r_42 I_42 J_42 hw => ?_))
      refine g_if_ne (tgt := 73) h (by decide) dX12_mayCome_45 (fun q45 => ?_) (fun q45 => ?_)
      · replace hw := hw.1 q45
        exact g_sub [0, 1, 2, 3, 5] rfl (t_X12_mayCome_73 h hr hk25 hw)
      · replace hw := hw.2 q45
        refine g_aload_n h rfl 0 rfl dX12_mayCome_48 ?_
        refine g_get h is_248 fl_X12_245 fr_248_16 dX12_mayCome_49 ?_
        refine g_iload h 5 rfl dX12_mayCome_52 ?_
        obtain ⟨hi54, hw⟩ := hw
        refine g_iald h ar_255 hi54 dX12_mayCome_54 ?_
        refine g_iload_n h rfl 2 rfl dX12_mayCome_55 ?_
        refine g_icmp_ne (tgt := 73) h (by decide) dX12_mayCome_56 (fun q56 => ?_) (fun q56 => ?_)
        · replace hw := hw.1 q56
          exact g_sub [0, 1, 2, 3, 5] rfl (t_X12_mayCome_73 h hr hk25 hw)
        · replace hw := hw.2 q56
          refine g_iload_n h rfl 1 rfl dX12_mayCome_59 ?_
          refine g_aload_n h rfl 0 rfl dX12_mayCome_60 ?_
          refine g_get h is_248 fl_X12_248 fr_248_17 dX12_mayCome_61 ?_
          refine g_iload h 5 rfl dX12_mayCome_64 ?_
          obtain ⟨hi66, hw⟩ := hw
          refine g_iald h ar_256 hi66 dX12_mayCome_66 ?_
          refine g_callS [.int x1, .int (I_42 256 (Int32.toNatClampNeg x7))] h (c_X12_has X hw) sPi_v mw_X12_has lk_X12_242 rfl ⟨by decide, by decide⟩ (Nat.le_of_ble_eq_true rfl) dX12_mayCome_67 (sPi_k (fun r_67 I_67 J_67 hw => ?_))
          refine g_if_eq (tgt := 77) h (by decide) dX12_mayCome_70 (fun q70 => ?_) (fun q70 => ?_)
          · replace hw := hw.1 q70
            refine g_iconst (v := 0) h (by decide) dX12_mayCome_77 ?_
            exact g_sub [0, 1, 2, 3, 5] rfl (t_X12_mayCome_78 h hr hk25 hw)
          · replace hw := hw.2 q70
            exact g_sub [0, 1, 2, 3, 5] rfl (t_X12_mayCome_73 h hr hk25 hw)
theorem t_X12_mayCome_25 {X : sX} {post : Int32 → sI → sJ → Prop} (h : sOK X cX12_mayCome RX12 8 1 21) (hr : sRt X (some .boolean) (sPi post)) {x1 : Int32} {x2 : Int32} {x3 : Int32} {x6 : Int32} {x7 : Int32} {I : sI} {J : sJ} (hw : w_X12_mayCome_25 post x1 x2 x3 x6 x7 I J) : sG X 8 25 [(0, .ref 248), (1, .int x1), (2, .int x2), (3, .int x3), (6, .int x6), (7, .int x7)] [] I J := by
  obtain ⟨n, hw⟩ := hw
  induction n generalizing x1 x2 x3 x6 x7 I J with
  | zero => exact hw.elim
  | succ n ih => exact t_X12_mayCome_25_s h hr (fun _ _ _ _ _ _ _ q => ih q) hw
def w_X12_mayCome_20 (post : Int32 → sI → sJ → Prop) (x1 : Int32) (x2 : Int32) (x3 : Int32) (s0 : Int32) (I : sI) (J : sJ) : Prop :=
  w_X12_mayCome_25 post x1 x2 x3 s0 0 I J
set_option maxHeartbeats 4000000 in
set_option maxRecDepth 100000 in
theorem t_X12_mayCome_20 {X : sX} {post : Int32 → sI → sJ → Prop} (h : sOK X cX12_mayCome RX12 8 1 21) (hr : sRt X (some .boolean) (sPi post)) {x1 : Int32} {x2 : Int32} {x3 : Int32} {s0 : Int32} {I : sI} {J : sJ} (hw : w_X12_mayCome_20 post x1 x2 x3 s0 I J) : sG X 8 20 [(0, .ref 248), (1, .int x1), (2, .int x2), (3, .int x3)] [.int s0] I J := by
  unfold w_X12_mayCome_20 at hw
  refine g_istore (lo2 := [(6, .int s0), (0, .ref 248), (1, .int x1), (2, .int x2), (3, .int x3)]) h (by decide) rfl dX12_mayCome_20 ?_
  refine g_iconst (v := 0) h (by decide) dX12_mayCome_22 ?_
  refine g_istore (lo2 := [(7, .int 0), (6, .int s0), (0, .ref 248), (1, .int x1), (2, .int x2), (3, .int x3)]) h (by decide) rfl dX12_mayCome_23 ?_
  exact g_sub [2, 3, 4, 5, 1, 0] rfl (t_X12_mayCome_25 h hr hw)
def w_X12_mayCome_15 (post : Int32 → sI → sJ → Prop) (x1 : Int32) (x2 : Int32) (x3 : Int32) (I : sI) (J : sJ) : Prop :=
  w_X12_mayCome_20 post x1 x2 x3 1 I J
set_option maxHeartbeats 4000000 in
set_option maxRecDepth 100000 in
theorem t_X12_mayCome_15 {X : sX} {post : Int32 → sI → sJ → Prop} (h : sOK X cX12_mayCome RX12 8 1 21) (hr : sRt X (some .boolean) (sPi post)) {x1 : Int32} {x2 : Int32} {x3 : Int32} {I : sI} {J : sJ} (hw : w_X12_mayCome_15 post x1 x2 x3 I J) : sG X 8 15 [(0, .ref 248), (1, .int x1), (2, .int x2), (3, .int x3)] [] I J := by
  unfold w_X12_mayCome_15 at hw
  refine g_iconst (v := 1) h (by decide) dX12_mayCome_15 ?_
  refine g_goto (tgt := 20) h (by decide) dX12_mayCome_16 ?_
  exact g_sub [0, 1, 2, 3] rfl (t_X12_mayCome_20 h hr hw)
def w_X12_mayCome (a1 : Int32) (a2 : Int32) (a3 : Int32) (a4 : Int32) (a5 : Int32) (I : sI) (J : sJ) (post : Int32 → sI → sJ → Prop) : Prop :=
  ((¬ a2 = a5 → w_X12_mayCome_15 post a1 a2 a3 I J) ∧ (a2 = a5 → w_X12_has a1 a4 I J (fun (r_9 : Int32) (I_9 : sI) (J_9 : sJ) => (((r_9 = 0 → w_X12_mayCome_20 post a1 a2 a3 0 I_9 J_9) ∧ (¬ r_9 = 0 → w_X12_mayCome_15 post a1 a2 a3 I_9 J_9))))))
set_option maxHeartbeats 4000000 in
set_option maxRecDepth 100000 in
theorem t_X12_mayCome {X : sX} {a1 : Int32} {a2 : Int32} {a3 : Int32} {a4 : Int32} {a5 : Int32} {I : sI} {J : sJ} {post : Int32 → sI → sJ → Prop} (h : sOK X cX12_mayCome RX12 8 1 21) (hr : sRt X (some .boolean) (sPi post)) (hw : w_X12_mayCome a1 a2 a3 a4 a5 I J post) : sG X 8 0 [(0, .ref 248), (1, .int a1), (2, .int a2), (3, .int a3), (4, .int a4), (5, .int a5)] [] I J := by
  unfold w_X12_mayCome at hw
  refine g_iload_n h rfl 2 rfl dX12_mayCome_0 ?_
  refine g_iload h 5 rfl dX12_mayCome_1 ?_
  refine g_icmp_ne (tgt := 15) h (by decide) dX12_mayCome_3 (fun q3 => ?_) (fun q3 => ?_)
  · replace hw := hw.1 q3
    exact g_sub [0, 1, 2, 3] rfl (t_X12_mayCome_15 h hr hw)
  · replace hw := hw.2 q3
    refine g_iload_n h rfl 1 rfl dX12_mayCome_6 ?_
    refine g_iload h 4 rfl dX12_mayCome_7 ?_
    refine g_callS [.int a1, .int a4] h (c_X12_has X hw) sPi_v mw_X12_has lk_X12_242 rfl ⟨by decide, by decide⟩ (Nat.le_of_ble_eq_true rfl) dX12_mayCome_9 (sPi_k (fun r_9 I_9 J_9 hw => ?_))
    refine g_if_eq (tgt := 19) h (by decide) dX12_mayCome_12 (fun q12 => ?_) (fun q12 => ?_)
    · replace hw := hw.1 q12
      refine g_iconst (v := 0) h (by decide) dX12_mayCome_19 ?_
      exact g_sub [0, 1, 2, 3] rfl (t_X12_mayCome_20 h hr hw)
    · replace hw := hw.2 q12
      exact g_sub [0, 1, 2, 3] rfl (t_X12_mayCome_15 h hr hw)
theorem c_X12_mayCome (X : sX) {a1 : Int32} {a2 : Int32} {a3 : Int32} {a4 : Int32} {a5 : Int32} {I : sI} {J : sJ} {post : Int32 → sI → sJ → Prop} (hw : w_X12_mayCome a1 a2 a3 a4 a5 I J post) : sCall X yX12_mayCome cX12_mayCome 8 (some .boolean) 1 21 [.ref 248, .int a1, .int a2, .int a3, .int a4, .int a5] I J (sPi post) := sCall_of (by decide +kernel) (Nat.le_of_ble_eq_true rfl) (fun X h hr => t_X12_mayCome h hr hw)
theorem dX12_ordersOf_0 : decode cX12_ordersOf 0 = .ok (.iconst 1, 1) := by decide +kernel
theorem dX12_ordersOf_1 : decode cX12_ordersOf 1 = .ok (.aload_n 0, 1) := by decide +kernel
theorem dX12_ordersOf_2 : decode cX12_ordersOf 2 = .ok (.getfield 79, 3) := by decide +kernel
theorem dX12_ordersOf_5 : decode cX12_ordersOf 5 = .ok (.ishl, 1) := by decide +kernel
theorem dX12_ordersOf_6 : decode cX12_ordersOf 6 = .ok (.iconst 1, 1) := by decide +kernel
theorem dX12_ordersOf_7 : decode cX12_ordersOf 7 = .ok (.isub, 1) := by decide +kernel
theorem dX12_ordersOf_8 : decode cX12_ordersOf 8 = .ok (.istore 4, 2) := by decide +kernel
theorem dX12_ordersOf_10 : decode cX12_ordersOf 10 = .ok (.aload_n 0, 1) := by decide +kernel
theorem dX12_ordersOf_11 : decode cX12_ordersOf 11 = .ok (.getfield 251, 3) := by decide +kernel
theorem dX12_ordersOf_14 : decode cX12_ordersOf 14 = .ok (.iconst 0, 1) := by decide +kernel
theorem dX12_ordersOf_15 : decode cX12_ordersOf 15 = .ok (.lconst 1, 1) := by decide +kernel
theorem dX12_ordersOf_16 : decode cX12_ordersOf 16 = .ok (.lastore, 1) := by decide +kernel
theorem dX12_ordersOf_17 : decode cX12_ordersOf 17 = .ok (.iconst 1, 1) := by decide +kernel
theorem dX12_ordersOf_18 : decode cX12_ordersOf 18 = .ok (.istore 5, 2) := by decide +kernel
theorem dX12_ordersOf_20 : decode cX12_ordersOf 20 = .ok (.iload 5, 2) := by decide +kernel
theorem dX12_ordersOf_22 : decode cX12_ordersOf 22 = .ok (.iload 4, 2) := by decide +kernel
theorem dX12_ordersOf_24 : decode cX12_ordersOf 24 = .ok (.if_icmp .gt 89, 3) := by decide +kernel
theorem dX12_ordersOf_27 : decode cX12_ordersOf 27 = .ok (.lconst 0, 1) := by decide +kernel
theorem dX12_ordersOf_28 : decode cX12_ordersOf 28 = .ok (.lstore 6, 2) := by decide +kernel
theorem dX12_ordersOf_30 : decode cX12_ordersOf 30 = .ok (.iconst 0, 1) := by decide +kernel
theorem dX12_ordersOf_31 : decode cX12_ordersOf 31 = .ok (.istore 8, 2) := by decide +kernel
theorem dX12_ordersOf_33 : decode cX12_ordersOf 33 = .ok (.iload 8, 2) := by decide +kernel
theorem dX12_ordersOf_35 : decode cX12_ordersOf 35 = .ok (.aload_n 0, 1) := by decide +kernel
theorem dX12_ordersOf_36 : decode cX12_ordersOf 36 = .ok (.getfield 79, 3) := by decide +kernel
theorem dX12_ordersOf_39 : decode cX12_ordersOf 39 = .ok (.if_icmp .ge 59, 3) := by decide +kernel
theorem dX12_ordersOf_42 : decode cX12_ordersOf 42 = .ok (.iload 5, 2) := by decide +kernel
theorem dX12_ordersOf_44 : decode cX12_ordersOf 44 = .ok (.iload 8, 2) := by decide +kernel
theorem dX12_ordersOf_46 : decode cX12_ordersOf 46 = .ok (.invokestatic 242, 3) := by decide +kernel
theorem dX12_ordersOf_49 : decode cX12_ordersOf 49 = .ok (.ifCond .eq 43, 3) := by decide +kernel
theorem dX12_ordersOf_52 : decode cX12_ordersOf 52 = .ok (.aload_n 0, 1) := by decide +kernel
theorem dX12_ordersOf_53 : decode cX12_ordersOf 53 = .ok (.iload 5, 2) := by decide +kernel
theorem dX12_ordersOf_55 : decode cX12_ordersOf 55 = .ok (.iconst 1, 1) := by decide +kernel
theorem dX12_ordersOf_56 : decode cX12_ordersOf 56 = .ok (.iload 8, 2) := by decide +kernel
theorem dX12_ordersOf_58 : decode cX12_ordersOf 58 = .ok (.ishl, 1) := by decide +kernel
theorem dX12_ordersOf_59 : decode cX12_ordersOf 59 = .ok (.iconst (-1), 1) := by decide +kernel
theorem dX12_ordersOf_60 : decode cX12_ordersOf 60 = .ok (.ixor, 1) := by decide +kernel
theorem dX12_ordersOf_61 : decode cX12_ordersOf 61 = .ok (.iand, 1) := by decide +kernel
theorem dX12_ordersOf_62 : decode cX12_ordersOf 62 = .ok (.iload 8, 2) := by decide +kernel
theorem dX12_ordersOf_64 : decode cX12_ordersOf 64 = .ok (.iload_n 1, 1) := by decide +kernel
theorem dX12_ordersOf_65 : decode cX12_ordersOf 65 = .ok (.iload_n 2, 1) := by decide +kernel
theorem dX12_ordersOf_66 : decode cX12_ordersOf 66 = .ok (.iload_n 3, 1) := by decide +kernel
theorem dX12_ordersOf_67 : decode cX12_ordersOf 67 = .ok (.invokevirtual 254, 3) := by decide +kernel
theorem dX12_ordersOf_70 : decode cX12_ordersOf 70 = .ok (.ifCond .eq 22, 3) := by decide +kernel
theorem dX12_ordersOf_73 : decode cX12_ordersOf 73 = .ok (.lload 6, 2) := by decide +kernel
theorem dX12_ordersOf_75 : decode cX12_ordersOf 75 = .ok (.aload_n 0, 1) := by decide +kernel
theorem dX12_ordersOf_76 : decode cX12_ordersOf 76 = .ok (.getfield 251, 3) := by decide +kernel
theorem dX12_ordersOf_79 : decode cX12_ordersOf 79 = .ok (.iload 5, 2) := by decide +kernel
theorem dX12_ordersOf_81 : decode cX12_ordersOf 81 = .ok (.iconst 1, 1) := by decide +kernel
theorem dX12_ordersOf_82 : decode cX12_ordersOf 82 = .ok (.iload 8, 2) := by decide +kernel
theorem dX12_ordersOf_84 : decode cX12_ordersOf 84 = .ok (.ishl, 1) := by decide +kernel
theorem dX12_ordersOf_85 : decode cX12_ordersOf 85 = .ok (.iconst (-1), 1) := by decide +kernel
theorem dX12_ordersOf_86 : decode cX12_ordersOf 86 = .ok (.ixor, 1) := by decide +kernel
theorem dX12_ordersOf_87 : decode cX12_ordersOf 87 = .ok (.iand, 1) := by decide +kernel
theorem dX12_ordersOf_88 : decode cX12_ordersOf 88 = .ok (.laload, 1) := by decide +kernel
theorem dX12_ordersOf_89 : decode cX12_ordersOf 89 = .ok (.ladd, 1) := by decide +kernel
theorem dX12_ordersOf_90 : decode cX12_ordersOf 90 = .ok (.lstore 6, 2) := by decide +kernel
theorem dX12_ordersOf_92 : decode cX12_ordersOf 92 = .ok (.iinc 8 1, 3) := by decide +kernel
theorem dX12_ordersOf_95 : decode cX12_ordersOf 95 = .ok (.goto (-62), 3) := by decide +kernel
theorem dX12_ordersOf_98 : decode cX12_ordersOf 98 = .ok (.aload_n 0, 1) := by decide +kernel
theorem dX12_ordersOf_99 : decode cX12_ordersOf 99 = .ok (.getfield 251, 3) := by decide +kernel
theorem dX12_ordersOf_102 : decode cX12_ordersOf 102 = .ok (.iload 5, 2) := by decide +kernel
theorem dX12_ordersOf_104 : decode cX12_ordersOf 104 = .ok (.lload 6, 2) := by decide +kernel
theorem dX12_ordersOf_106 : decode cX12_ordersOf 106 = .ok (.lastore, 1) := by decide +kernel
theorem dX12_ordersOf_107 : decode cX12_ordersOf 107 = .ok (.iinc 5 1, 3) := by decide +kernel
theorem dX12_ordersOf_110 : decode cX12_ordersOf 110 = .ok (.goto (-90), 3) := by decide +kernel
theorem dX12_ordersOf_113 : decode cX12_ordersOf 113 = .ok (.aload_n 0, 1) := by decide +kernel
theorem dX12_ordersOf_114 : decode cX12_ordersOf 114 = .ok (.getfield 251, 3) := by decide +kernel
theorem dX12_ordersOf_117 : decode cX12_ordersOf 117 = .ok (.iload 4, 2) := by decide +kernel
theorem dX12_ordersOf_119 : decode cX12_ordersOf 119 = .ok (.laload, 1) := by decide +kernel
theorem dX12_ordersOf_120 : decode cX12_ordersOf 120 = .ok (.lreturn, 1) := by decide +kernel
def w_X12_ordersOf_92 (post : Int64 → sI → sJ → Prop) (k20 : Int32 → Int32 → Int32 → Int32 → Int32 → sI → sJ → Prop) (k33 : Int32 → Int32 → Int32 → Int32 → Int32 → Int64 → Int32 → sI → sJ → Prop) (x1 : Int32) (x2 : Int32) (x3 : Int32) (x4 : Int32) (x5 : Int32) (x6 : Int64) (x8 : Int32) (I : sI) (J : sJ) : Prop :=
  (∀ v8_92 : Int32, v8_92 = x8 + 1 → k33 x1 x2 x3 x4 x5 x6 v8_92 I J)
set_option maxHeartbeats 4000000 in
set_option maxRecDepth 100000 in
theorem t_X12_ordersOf_92 {X : sX} {post : Int64 → sI → sJ → Prop} (h : sOK X cX12_ordersOf RX12 9 2 48) (hr : sRt X (some .long) (sPl post)) {k20 : Int32 → Int32 → Int32 → Int32 → Int32 → sI → sJ → Prop} (hk20 : ∀ (x1 : Int32) (x2 : Int32) (x3 : Int32) (x4 : Int32) (x5 : Int32) (I : sI) (J : sJ), k20 x1 x2 x3 x4 x5 I J → sG X 9 20 [(0, .ref 248), (1, .int x1), (2, .int x2), (3, .int x3), (4, .int x4), (5, .int x5)] [] I J) {k33 : Int32 → Int32 → Int32 → Int32 → Int32 → Int64 → Int32 → sI → sJ → Prop} (hk33 : ∀ (x1 : Int32) (x2 : Int32) (x3 : Int32) (x4 : Int32) (x5 : Int32) (x6 : Int64) (x8 : Int32) (I : sI) (J : sJ), k33 x1 x2 x3 x4 x5 x6 x8 I J → sG X 9 33 [(0, .ref 248), (1, .int x1), (2, .int x2), (3, .int x3), (4, .int x4), (5, .int x5), (6, .long x6), (8, .int x8)] [] I J) {x1 : Int32} {x2 : Int32} {x3 : Int32} {x4 : Int32} {x5 : Int32} {x6 : Int64} {x8 : Int32} {I : sI} {J : sJ} (hw : w_X12_ordersOf_92 post k20 k33 x1 x2 x3 x4 x5 x6 x8 I J) : sG X 9 92 [(0, .ref 248), (1, .int x1), (2, .int x2), (3, .int x3), (4, .int x4), (5, .int x5), (6, .long x6), (8, .int x8)] [] I J := by
  unfold w_X12_ordersOf_92 at hw
  obtain ⟨v8_92, ev8_92⟩ : ∃ z : Int32, z = x8 + 1 := ⟨_, rfl⟩
  replace hw := hw v8_92 ev8_92
  refine g_iinc (v := v8_92) (lo2 := [(8, .int v8_92), (0, .ref 248), (1, .int x1), (2, .int x2), (3, .int x3), (4, .int x4), (5, .int x5), (6, .long x6)]) h 7 rfl (by rw [ev8_92]; rfl) (by decide) rfl dX12_ordersOf_92 ?_
  refine g_goto (tgt := 33) h (by decide) dX12_ordersOf_95 ?_
  exact g_sub [1, 2, 3, 4, 5, 6, 7, 0] rfl (hk33 _ _ _ _ _ _ _ _ _ hw)
def w_X12_ordersOf_33_s (post : Int64 → sI → sJ → Prop) (k20 : Int32 → Int32 → Int32 → Int32 → Int32 → sI → sJ → Prop) (k33 : Int32 → Int32 → Int32 → Int32 → Int32 → Int64 → Int32 → sI → sJ → Prop) (x1 : Int32) (x2 : Int32) (x3 : Int32) (x4 : Int32) (x5 : Int32) (x6 : Int64) (x8 : Int32) (I : sI) (J : sJ) : Prop :=
  (((I 248 12) ≤ x8 → (vp_in x5 16384 ∧ (∀ J_106 : sJ, J_106 = sUJ J 270 (Int32.toNatClampNeg x5) x6 → (∀ v5_107 : Int32, v5_107 = x5 + 1 → k20 x1 x2 x3 x4 v5_107 I J_106)))) ∧ (¬ (I 248 12) ≤ x8 → w_X12_has x5 x8 I J (fun (r_46 : Int32) (I_46 : sI) (J_46 : sJ) => (((r_46 = 0 → w_X12_ordersOf_92 post k20 k33 x1 x2 x3 x4 x5 x6 x8 I_46 J_46) ∧ (¬ r_46 = 0 → w_X12_mayCome (x5 &&& ((1 <<< (x8 &&& 31)) ^^^ (-1))) x8 x1 x2 x3 I_46 J_46 (fun (r_67 : Int32) (I_67 : sI) (J_67 : sJ) => (((r_67 = 0 → w_X12_ordersOf_92 post k20 k33 x1 x2 x3 x4 x5 x6 x8 I_67 J_67) ∧ (¬ r_67 = 0 → (vp_in (x5 &&& ((1 <<< (x8 &&& 31)) ^^^ (-1))) 16384 ∧ (∀ v6_90 : Int64, v6_90 = x6 + (J_67 270 (Int32.toNatClampNeg (x5 &&& ((1 <<< (x8 &&& 31)) ^^^ (-1))))) → w_X12_ordersOf_92 post k20 k33 x1 x2 x3 x4 x5 v6_90 x8 I_67 J_67))))))))))))
def w_X12_ordersOf_33_n (post : Int64 → sI → sJ → Prop) (k20 : Int32 → Int32 → Int32 → Int32 → Int32 → sI → sJ → Prop) : Nat → Int32 → Int32 → Int32 → Int32 → Int32 → Int64 → Int32 → sI → sJ → Prop
  | 0 => fun _ _ _ _ _ _ _ _ _ => False
  | n + 1 => fun x1 x2 x3 x4 x5 x6 x8 I J => w_X12_ordersOf_33_s post k20 (w_X12_ordersOf_33_n post k20 n) x1 x2 x3 x4 x5 x6 x8 I J
def w_X12_ordersOf_33 (post : Int64 → sI → sJ → Prop) (k20 : Int32 → Int32 → Int32 → Int32 → Int32 → sI → sJ → Prop) (x1 : Int32) (x2 : Int32) (x3 : Int32) (x4 : Int32) (x5 : Int32) (x6 : Int64) (x8 : Int32) (I : sI) (J : sJ) : Prop := ∃ n, w_X12_ordersOf_33_n post k20 n x1 x2 x3 x4 x5 x6 x8 I J
set_option maxHeartbeats 4000000 in
set_option maxRecDepth 100000 in
theorem t_X12_ordersOf_33_s {X : sX} {post : Int64 → sI → sJ → Prop} (h : sOK X cX12_ordersOf RX12 9 2 48) (hr : sRt X (some .long) (sPl post)) {k20 : Int32 → Int32 → Int32 → Int32 → Int32 → sI → sJ → Prop} (hk20 : ∀ (x1 : Int32) (x2 : Int32) (x3 : Int32) (x4 : Int32) (x5 : Int32) (I : sI) (J : sJ), k20 x1 x2 x3 x4 x5 I J → sG X 9 20 [(0, .ref 248), (1, .int x1), (2, .int x2), (3, .int x3), (4, .int x4), (5, .int x5)] [] I J) {k33 : Int32 → Int32 → Int32 → Int32 → Int32 → Int64 → Int32 → sI → sJ → Prop} (hk33 : ∀ (x1 : Int32) (x2 : Int32) (x3 : Int32) (x4 : Int32) (x5 : Int32) (x6 : Int64) (x8 : Int32) (I : sI) (J : sJ), k33 x1 x2 x3 x4 x5 x6 x8 I J → sG X 9 33 [(0, .ref 248), (1, .int x1), (2, .int x2), (3, .int x3), (4, .int x4), (5, .int x5), (6, .long x6), (8, .int x8)] [] I J) {x1 : Int32} {x2 : Int32} {x3 : Int32} {x4 : Int32} {x5 : Int32} {x6 : Int64} {x8 : Int32} {I : sI} {J : sJ} (hw : w_X12_ordersOf_33_s post k20 k33 x1 x2 x3 x4 x5 x6 x8 I J) : sG X 9 33 [(0, .ref 248), (1, .int x1), (2, .int x2), (3, .int x3), (4, .int x4), (5, .int x5), (6, .long x6), (8, .int x8)] [] I J := by
  unfold w_X12_ordersOf_33_s at hw
  refine g_iload h 7 rfl dX12_ordersOf_33 ?_
  refine g_aload_n h rfl 0 rfl dX12_ordersOf_35 ?_
  refine g_get h is_248 fl_X12_79 rfl dX12_ordersOf_36 ?_
  refine g_icmp_ge (tgt := 98) h (by decide) dX12_ordersOf_39 (fun q39 => ?_) (fun q39 => ?_)
  · replace hw := hw.1 q39
    refine g_aload_n h rfl 0 rfl dX12_ordersOf_98 ?_
    refine g_get h is_248 fl_X12_251 fr_248_39 dX12_ordersOf_99 ?_
    refine g_iload h 5 rfl dX12_ordersOf_102 ?_
    refine g_lload h 6 rfl dX12_ordersOf_104 ?_
    obtain ⟨hi106, hw⟩ := hw
    refine g_last h ar_270 hi106 dX12_ordersOf_106 ?_
    refine g_nJ (fun J_106 eJ_106 => ?_)
    replace hw := hw J_106 eJ_106
    obtain ⟨v5_107, ev5_107⟩ : ∃ z : Int32, z = x5 + 1 := ⟨_, rfl⟩
    replace hw := hw v5_107 ev5_107
    refine g_iinc (v := v5_107) (lo2 := [(5, .int v5_107), (0, .ref 248), (1, .int x1), (2, .int x2), (3, .int x3), (4, .int x4), (6, .long x6), (8, .int x8)]) h 5 rfl (by rw [ev5_107]; rfl) (by decide) rfl dX12_ordersOf_107 ?_
    refine g_goto (tgt := 20) h (by decide) dX12_ordersOf_110 ?_
    exact g_sub [1, 2, 3, 4, 5, 0] rfl (hk20 _ _ _ _ _ _ _ hw)
  · replace hw := hw.2 q39
    refine g_iload h 5 rfl dX12_ordersOf_42 ?_
    refine g_iload h 7 rfl dX12_ordersOf_44 ?_
    refine g_callS [.int x5, .int x8] h (c_X12_has X hw) sPi_v mw_X12_has lk_X12_242 rfl ⟨by decide, by decide⟩ (Nat.le_of_ble_eq_true rfl) dX12_ordersOf_46 (sPi_k (fun r_46 I_46 J_46 hw => ?_))
    refine g_if_eq (tgt := 92) h (by decide) dX12_ordersOf_49 (fun q49 => ?_) (fun q49 => ?_)
    · replace hw := hw.1 q49
      exact g_sub [0, 1, 2, 3, 4, 5, 6, 7] rfl (t_X12_ordersOf_92 h hr hk20 hk33 hw)
    · replace hw := hw.2 q49
      refine g_aload_n h rfl 0 rfl dX12_ordersOf_52 ?_
      refine g_iload h 5 rfl dX12_ordersOf_53 ?_
      refine g_iconst (v := 1) h (by decide) dX12_ordersOf_55 ?_
      refine g_iload h 7 rfl dX12_ordersOf_56 ?_
      refine g_ishl h dX12_ordersOf_58 ?_
      refine g_iconst (v := (-1)) h (by decide) dX12_ordersOf_59 ?_
      refine g_ixor h dX12_ordersOf_60 ?_
      refine g_iand h dX12_ordersOf_61 ?_
      refine g_iload h 7 rfl dX12_ordersOf_62 ?_
      refine g_iload_n h rfl 1 rfl dX12_ordersOf_64 ?_
      refine g_iload_n h rfl 2 rfl dX12_ordersOf_65 ?_
      refine g_iload_n h rfl 3 rfl dX12_ordersOf_66 ?_
      refine g_callV [.int (x5 &&& ((1 <<< (x8 &&& 31)) ^^^ (-1))), .int x8, .int x1, .int x2, .int x3] h (c_X12_mayCome X hw) sPi_v mw_X12_mayCome lk_X12_254 is_248 rfl rfl ⟨by decide, by decide⟩ (Nat.le_of_ble_eq_true rfl) dX12_ordersOf_67 (sPi_k (fun r_67 I_67 J_67 hw => ?_))
      refine g_if_eq (tgt := 92) h (by decide) dX12_ordersOf_70 (fun q70 => ?_) (fun q70 => ?_)
      · replace hw := hw.1 q70
        exact g_sub [0, 1, 2, 3, 4, 5, 6, 7] rfl (t_X12_ordersOf_92 h hr hk20 hk33 hw)
      · replace hw := hw.2 q70
        refine g_lload h 6 rfl dX12_ordersOf_73 ?_
        refine g_aload_n h rfl 0 rfl dX12_ordersOf_75 ?_
        refine g_get h is_248 fl_X12_251 fr_248_39 dX12_ordersOf_76 ?_
        refine g_iload h 5 rfl dX12_ordersOf_79 ?_
        refine g_iconst (v := 1) h (by decide) dX12_ordersOf_81 ?_
        refine g_iload h 7 rfl dX12_ordersOf_82 ?_
        refine g_ishl h dX12_ordersOf_84 ?_
        refine g_iconst (v := (-1)) h (by decide) dX12_ordersOf_85 ?_
        refine g_ixor h dX12_ordersOf_86 ?_
        refine g_iand h dX12_ordersOf_87 ?_
        obtain ⟨hi88, hw⟩ := hw
        refine g_lald h ar_270 hi88 dX12_ordersOf_88 ?_
        refine g_ladd h dX12_ordersOf_89 ?_
        refine g_nl (fun v6_90 ev6_90 => ?_)
        replace hw := hw v6_90 ev6_90
        refine g_lstore (lo2 := [(6, .long v6_90), (0, .ref 248), (1, .int x1), (2, .int x2), (3, .int x3), (4, .int x4), (5, .int x5), (8, .int x8)]) h (by decide) rfl dX12_ordersOf_90 ?_
        exact g_sub [1, 2, 3, 4, 5, 6, 0, 7] rfl (t_X12_ordersOf_92 h hr hk20 hk33 hw)
theorem t_X12_ordersOf_33 {X : sX} {post : Int64 → sI → sJ → Prop} (h : sOK X cX12_ordersOf RX12 9 2 48) (hr : sRt X (some .long) (sPl post)) {k20 : Int32 → Int32 → Int32 → Int32 → Int32 → sI → sJ → Prop} (hk20 : ∀ (x1 : Int32) (x2 : Int32) (x3 : Int32) (x4 : Int32) (x5 : Int32) (I : sI) (J : sJ), k20 x1 x2 x3 x4 x5 I J → sG X 9 20 [(0, .ref 248), (1, .int x1), (2, .int x2), (3, .int x3), (4, .int x4), (5, .int x5)] [] I J) {x1 : Int32} {x2 : Int32} {x3 : Int32} {x4 : Int32} {x5 : Int32} {x6 : Int64} {x8 : Int32} {I : sI} {J : sJ} (hw : w_X12_ordersOf_33 post k20 x1 x2 x3 x4 x5 x6 x8 I J) : sG X 9 33 [(0, .ref 248), (1, .int x1), (2, .int x2), (3, .int x3), (4, .int x4), (5, .int x5), (6, .long x6), (8, .int x8)] [] I J := by
  obtain ⟨n, hw⟩ := hw
  induction n generalizing x1 x2 x3 x4 x5 x6 x8 I J with
  | zero => exact hw.elim
  | succ n ih => exact t_X12_ordersOf_33_s h hr hk20 (fun _ _ _ _ _ _ _ _ _ q => ih q) hw
def w_X12_ordersOf_20_s (post : Int64 → sI → sJ → Prop) (k20 : Int32 → Int32 → Int32 → Int32 → Int32 → sI → sJ → Prop) (x1 : Int32) (x2 : Int32) (x3 : Int32) (x4 : Int32) (x5 : Int32) (I : sI) (J : sJ) : Prop :=
  ((x4 < x5 → (vp_in x4 16384 ∧ post (J 270 (Int32.toNatClampNeg x4)) I J)) ∧ (¬ x4 < x5 → w_X12_ordersOf_33 post k20 x1 x2 x3 x4 x5 0 0 I J))
def w_X12_ordersOf_20_n (post : Int64 → sI → sJ → Prop) : Nat → Int32 → Int32 → Int32 → Int32 → Int32 → sI → sJ → Prop
  | 0 => fun _ _ _ _ _ _ _ => False
  | n + 1 => fun x1 x2 x3 x4 x5 I J => w_X12_ordersOf_20_s post (w_X12_ordersOf_20_n post n) x1 x2 x3 x4 x5 I J
def w_X12_ordersOf_20 (post : Int64 → sI → sJ → Prop) (x1 : Int32) (x2 : Int32) (x3 : Int32) (x4 : Int32) (x5 : Int32) (I : sI) (J : sJ) : Prop := ∃ n, w_X12_ordersOf_20_n post n x1 x2 x3 x4 x5 I J
set_option maxHeartbeats 4000000 in
set_option maxRecDepth 100000 in
theorem t_X12_ordersOf_20_s {X : sX} {post : Int64 → sI → sJ → Prop} (h : sOK X cX12_ordersOf RX12 9 2 48) (hr : sRt X (some .long) (sPl post)) {k20 : Int32 → Int32 → Int32 → Int32 → Int32 → sI → sJ → Prop} (hk20 : ∀ (x1 : Int32) (x2 : Int32) (x3 : Int32) (x4 : Int32) (x5 : Int32) (I : sI) (J : sJ), k20 x1 x2 x3 x4 x5 I J → sG X 9 20 [(0, .ref 248), (1, .int x1), (2, .int x2), (3, .int x3), (4, .int x4), (5, .int x5)] [] I J) {x1 : Int32} {x2 : Int32} {x3 : Int32} {x4 : Int32} {x5 : Int32} {I : sI} {J : sJ} (hw : w_X12_ordersOf_20_s post k20 x1 x2 x3 x4 x5 I J) : sG X 9 20 [(0, .ref 248), (1, .int x1), (2, .int x2), (3, .int x3), (4, .int x4), (5, .int x5)] [] I J := by
  unfold w_X12_ordersOf_20_s at hw
  refine g_iload h 5 rfl dX12_ordersOf_20 ?_
  refine g_iload h 4 rfl dX12_ordersOf_22 ?_
  refine g_icmp_gt (tgt := 113) h (by decide) dX12_ordersOf_24 (fun q24 => ?_) (fun q24 => ?_)
  · replace hw := hw.1 q24
    refine g_aload_n h rfl 0 rfl dX12_ordersOf_113 ?_
    refine g_get h is_248 fl_X12_251 fr_248_39 dX12_ordersOf_114 ?_
    refine g_iload h 4 rfl dX12_ordersOf_117 ?_
    obtain ⟨hi119, hw⟩ := hw
    refine g_lald h ar_270 hi119 dX12_ordersOf_119 ?_
    exact g_lret h hr dX12_ordersOf_120 hw
  · replace hw := hw.2 q24
    refine g_lconst (v := 0) h (by decide) dX12_ordersOf_27 ?_
    refine g_lstore (lo2 := [(6, .long 0), (0, .ref 248), (1, .int x1), (2, .int x2), (3, .int x3), (4, .int x4), (5, .int x5)]) h (by decide) rfl dX12_ordersOf_28 ?_
    refine g_iconst (v := 0) h (by decide) dX12_ordersOf_30 ?_
    refine g_istore (lo2 := [(8, .int 0), (6, .long 0), (0, .ref 248), (1, .int x1), (2, .int x2), (3, .int x3), (4, .int x4), (5, .int x5)]) h (by decide) rfl dX12_ordersOf_31 ?_
    exact g_sub [2, 3, 4, 5, 6, 7, 1, 0] rfl (t_X12_ordersOf_33 h hr hk20 hw)
theorem t_X12_ordersOf_20 {X : sX} {post : Int64 → sI → sJ → Prop} (h : sOK X cX12_ordersOf RX12 9 2 48) (hr : sRt X (some .long) (sPl post)) {x1 : Int32} {x2 : Int32} {x3 : Int32} {x4 : Int32} {x5 : Int32} {I : sI} {J : sJ} (hw : w_X12_ordersOf_20 post x1 x2 x3 x4 x5 I J) : sG X 9 20 [(0, .ref 248), (1, .int x1), (2, .int x2), (3, .int x3), (4, .int x4), (5, .int x5)] [] I J := by
  obtain ⟨n, hw⟩ := hw
  induction n generalizing x1 x2 x3 x4 x5 I J with
  | zero => exact hw.elim
  | succ n ih => exact t_X12_ordersOf_20_s h hr (fun _ _ _ _ _ _ _ q => ih q) hw
def w_X12_ordersOf (a1 : Int32) (a2 : Int32) (a3 : Int32) (I : sI) (J : sJ) (post : Int64 → sI → sJ → Prop) : Prop :=
  (∀ v4_8 : Int32, v4_8 = (1 <<< ((I 248 12) &&& 31)) - 1 → (vp_in 0 16384 ∧ (∀ J_16 : sJ, J_16 = sUJ J 270 (Int32.toNatClampNeg 0) 1 → w_X12_ordersOf_20 post a1 a2 a3 v4_8 1 I J_16)))
set_option maxHeartbeats 4000000 in
set_option maxRecDepth 100000 in
theorem t_X12_ordersOf {X : sX} {a1 : Int32} {a2 : Int32} {a3 : Int32} {I : sI} {J : sJ} {post : Int64 → sI → sJ → Prop} (h : sOK X cX12_ordersOf RX12 9 2 48) (hr : sRt X (some .long) (sPl post)) (hw : w_X12_ordersOf a1 a2 a3 I J post) : sG X 9 0 [(0, .ref 248), (1, .int a1), (2, .int a2), (3, .int a3)] [] I J := by
  unfold w_X12_ordersOf at hw
  refine g_iconst (v := 1) h (by decide) dX12_ordersOf_0 ?_
  refine g_aload_n h rfl 0 rfl dX12_ordersOf_1 ?_
  refine g_get h is_248 fl_X12_79 rfl dX12_ordersOf_2 ?_
  refine g_ishl h dX12_ordersOf_5 ?_
  refine g_iconst (v := 1) h (by decide) dX12_ordersOf_6 ?_
  refine g_isub h dX12_ordersOf_7 ?_
  refine g_ni (fun v4_8 ev4_8 => ?_)
  replace hw := hw v4_8 ev4_8
  refine g_istore (lo2 := [(4, .int v4_8), (0, .ref 248), (1, .int a1), (2, .int a2), (3, .int a3)]) h (by decide) rfl dX12_ordersOf_8 ?_
  refine g_aload_n h rfl 1 rfl dX12_ordersOf_10 ?_
  refine g_get h is_248 fl_X12_251 fr_248_39 dX12_ordersOf_11 ?_
  refine g_iconst (v := 0) h (by decide) dX12_ordersOf_14 ?_
  refine g_lconst (v := 1) h (by decide) dX12_ordersOf_15 ?_
  obtain ⟨hi16, hw⟩ := hw
  refine g_last h ar_270 hi16 dX12_ordersOf_16 ?_
  refine g_nJ (fun J_16 eJ_16 => ?_)
  replace hw := hw J_16 eJ_16
  refine g_iconst (v := 1) h (by decide) dX12_ordersOf_17 ?_
  refine g_istore (lo2 := [(5, .int 1), (4, .int v4_8), (0, .ref 248), (1, .int a1), (2, .int a2), (3, .int a3)]) h (by decide) rfl dX12_ordersOf_18 ?_
  exact g_sub [2, 3, 4, 5, 1, 0] rfl (t_X12_ordersOf_20 h hr hw)
theorem c_X12_ordersOf (X : sX) {a1 : Int32} {a2 : Int32} {a3 : Int32} {I : sI} {J : sJ} {post : Int64 → sI → sJ → Prop} (hw : w_X12_ordersOf a1 a2 a3 I J post) : sCall X yX12_ordersOf cX12_ordersOf 9 (some .long) 2 48 [.ref 248, .int a1, .int a2, .int a3] I J (sPl post) := sCall_of (by decide +kernel) (Nat.le_of_ble_eq_true rfl) (fun X h hr => t_X12_ordersOf h hr hw)
theorem dX12_isOrdered_0 : decode cX12_isOrdered 0 = .ok (.aload_n 0, 1) := by decide +kernel
theorem dX12_isOrdered_1 : decode cX12_isOrdered 1 = .ok (.getfield 79, 3) := by decide +kernel
theorem dX12_isOrdered_4 : decode cX12_isOrdered 4 = .ok (.i2l, 1) := by decide +kernel
theorem dX12_isOrdered_5 : decode cX12_isOrdered 5 = .ok (.lconst 1, 1) := by decide +kernel
theorem dX12_isOrdered_6 : decode cX12_isOrdered 6 = .ok (.ldc2_w 258, 3) := by decide +kernel
theorem dX12_isOrdered_9 : decode cX12_isOrdered 9 = .ok (.invokestatic 29, 3) := by decide +kernel
theorem dX12_isOrdered_12 : decode cX12_isOrdered 12 = .ok (.ireturn, 1) := by decide +kernel
def w_X12_isOrdered (I : sI) (J : sJ) (post : Int32 → sI → sJ → Prop) : Prop :=
  w_X12_in (Int32.toInt64 (I 248 12)) 1 14 I J (fun (r_9 : Int32) (I_9 : sI) (J_9 : sJ) => ((sZ r_9 ∧ post r_9 I_9 J_9)))
set_option maxHeartbeats 4000000 in
set_option maxRecDepth 100000 in
theorem t_X12_isOrdered {X : sX} {I : sI} {J : sJ} {post : Int32 → sI → sJ → Prop} (h : sOK X cX12_isOrdered RX12 1 1 25) (hr : sRt X (some .boolean) (sPi post)) (hw : w_X12_isOrdered I J post) : sG X 1 0 [(0, .ref 248)] [] I J := by
  unfold w_X12_isOrdered at hw
  refine g_aload_n h rfl 0 rfl dX12_isOrdered_0 ?_
  refine g_get h is_248 fl_X12_79 rfl dX12_isOrdered_1 ?_
  refine g_i2l h dX12_isOrdered_4 ?_
  refine g_lconst (v := 1) h (by decide) dX12_isOrdered_5 ?_
  refine g_ldc2 h lc_X12_258 dX12_isOrdered_6 ?_
  refine g_callS [.long (Int32.toInt64 (I 248 12)), .long 1, .long 14] h (c_X12_in X hw) sPi_v mw_X12_in lk_X12_29 rfl ⟨by decide, by decide⟩ (Nat.le_of_ble_eq_true rfl) dX12_isOrdered_9 (sPi_k (fun r_9 I_9 J_9 hw => ?_))
  exact g_zret h hr hw.1 dX12_isOrdered_12 hw.2
theorem c_X12_isOrdered (X : sX) {I : sI} {J : sJ} {post : Int32 → sI → sJ → Prop} (hw : w_X12_isOrdered I J post) : sCall X yX12_isOrdered cX12_isOrdered 1 (some .boolean) 1 25 [.ref 248] I J (sPi post) := sCall_of (by decide +kernel) (Nat.le_of_ble_eq_true rfl) (fun X h hr => t_X12_isOrdered h hr hw)
theorem dX12_orders_0 : decode cX12_orders 0 = .ok (.aload_n 0, 1) := by decide +kernel
theorem dX12_orders_1 : decode cX12_orders 1 = .ok (.iconst 0, 1) := by decide +kernel
theorem dX12_orders_2 : decode cX12_orders 2 = .ok (.putfield 1, 3) := by decide +kernel
theorem dX12_orders_5 : decode cX12_orders 5 = .ok (.aload_n 0, 1) := by decide +kernel
theorem dX12_orders_6 : decode cX12_orders 6 = .ok (.invokevirtual 260, 3) := by decide +kernel
theorem dX12_orders_9 : decode cX12_orders 9 = .ok (.ifCond .ne 5, 3) := by decide +kernel
theorem dX12_orders_12 : decode cX12_orders 12 = .ok (.iconst (-1), 1) := by decide +kernel
theorem dX12_orders_13 : decode cX12_orders 13 = .ok (.ireturn, 1) := by decide +kernel
theorem dX12_orders_14 : decode cX12_orders 14 = .ok (.aload_n 0, 1) := by decide +kernel
theorem dX12_orders_15 : decode cX12_orders 15 = .ok (.iconst 0, 1) := by decide +kernel
theorem dX12_orders_16 : decode cX12_orders 16 = .ok (.iconst (-1), 1) := by decide +kernel
theorem dX12_orders_17 : decode cX12_orders 17 = .ok (.iconst (-1), 1) := by decide +kernel
theorem dX12_orders_18 : decode cX12_orders 18 = .ok (.invokevirtual 264, 3) := by decide +kernel
theorem dX12_orders_21 : decode cX12_orders 21 = .ok (.lstore_n 1, 1) := by decide +kernel
theorem dX12_orders_22 : decode cX12_orders 22 = .ok (.lload_n 1, 1) := by decide +kernel
theorem dX12_orders_23 : decode cX12_orders 23 = .ok (.lconst 0, 1) := by decide +kernel
theorem dX12_orders_24 : decode cX12_orders 24 = .ok (.lcmp, 1) := by decide +kernel
theorem dX12_orders_25 : decode cX12_orders 25 = .ok (.ifCond .ne 6, 3) := by decide +kernel
theorem dX12_orders_28 : decode cX12_orders 28 = .ok (.bipush (-2), 2) := by decide +kernel
theorem dX12_orders_30 : decode cX12_orders 30 = .ok (.ireturn, 1) := by decide +kernel
theorem dX12_orders_31 : decode cX12_orders 31 = .ok (.aload_n 0, 1) := by decide +kernel
theorem dX12_orders_32 : decode cX12_orders 32 = .ok (.iconst 0, 1) := by decide +kernel
theorem dX12_orders_33 : decode cX12_orders 33 = .ok (.putfield 11, 3) := by decide +kernel
theorem dX12_orders_36 : decode cX12_orders 36 = .ok (.aload_n 0, 1) := by decide +kernel
theorem dX12_orders_37 : decode cX12_orders 37 = .ok (.lload_n 1, 1) := by decide +kernel
theorem dX12_orders_38 : decode cX12_orders 38 = .ok (.invokevirtual 18, 3) := by decide +kernel
theorem dX12_orders_41 : decode cX12_orders 41 = .ok (.iconst 0, 1) := by decide +kernel
theorem dX12_orders_42 : decode cX12_orders 42 = .ok (.ireturn, 1) := by decide +kernel
def w_X12_orders (I : sI) (J : sJ) (post : Int32 → sI → sJ → Prop) : Prop :=
  (∀ I_2 : sI, I_2 = sUI I 248 0 0 → w_X12_isOrdered I_2 J (fun (r_6 : Int32) (I_6 : sI) (J_6 : sJ) => (((¬ r_6 = 0 → w_X12_ordersOf 0 (-1) (-1) I_6 J_6 (fun (r_18 : Int64) (I_18 : sI) (J_18 : sJ) => (((¬ (lg_cmp r_18 0) = 0 → (∀ I_33 : sI, I_33 = sUI I_18 248 1 0 → w_X12_enters r_18 I_33 J_18 (fun (I_38 : sI) (J_38 : sJ) => (post 0 I_38 J_38)))) ∧ ((lg_cmp r_18 0) = 0 → post (-2) I_18 J_18))))) ∧ (r_6 = 0 → post (-1) I_6 J_6)))))
set_option maxHeartbeats 4000000 in
set_option maxRecDepth 100000 in
theorem t_X12_orders {X : sX} {I : sI} {J : sJ} {post : Int32 → sI → sJ → Prop} (h : sOK X cX12_orders RX12 3 3 76) (hr : sRt X (some .int) (sPi post)) (hw : w_X12_orders I J post) : sG X 3 0 [(0, .ref 248)] [] I J := by
  unfold w_X12_orders at hw
  refine g_aload_n h rfl 0 rfl dX12_orders_0 ?_
  refine g_iconst (v := 0) h (by decide) dX12_orders_1 ?_
  refine g_putI h is_248 fl_X12_1 rfl rfl dX12_orders_2 ?_
  refine g_nI (fun I_2 eI_2 => ?_)
  replace hw := hw I_2 eI_2
  refine g_aload_n h rfl 0 rfl dX12_orders_5 ?_
  refine g_callV [] h (c_X12_isOrdered X hw) sPi_v mw_X12_isOrdered lk_X12_260 is_248 rfl rfl ⟨by decide, by decide⟩ (Nat.le_of_ble_eq_true rfl) dX12_orders_6 (sPi_k (fun r_6 I_6 J_6 hw => ?_))
  refine g_if_ne (tgt := 14) h (by decide) dX12_orders_9 (fun q9 => ?_) (fun q9 => ?_)
  · replace hw := hw.1 q9
    refine g_aload_n h rfl 0 rfl dX12_orders_14 ?_
    refine g_iconst (v := 0) h (by decide) dX12_orders_15 ?_
    refine g_iconst (v := (-1)) h (by decide) dX12_orders_16 ?_
    refine g_iconst (v := (-1)) h (by decide) dX12_orders_17 ?_
    refine g_callV [.int 0, .int (-1), .int (-1)] h (c_X12_ordersOf X hw) sPl_v mw_X12_ordersOf lk_X12_264 is_248 rfl rfl ⟨by decide, by decide⟩ (Nat.le_of_ble_eq_true rfl) dX12_orders_18 (sPl_k (fun r_18 I_18 J_18 hw => ?_))
    refine g_lstore_n (lo2 := [(1, .long r_18), (0, .ref 248)]) h rfl (by decide) rfl dX12_orders_21 ?_
    refine g_lload_n h rfl 0 rfl dX12_orders_22 ?_
    refine g_lconst (v := 0) h (by decide) dX12_orders_23 ?_
    refine g_lcmp h dX12_orders_24 ?_
    refine g_if_ne (tgt := 31) h (by decide) dX12_orders_25 (fun q25 => ?_) (fun q25 => ?_)
    · replace hw := hw.1 q25
      refine g_aload_n h rfl 1 rfl dX12_orders_31 ?_
      refine g_iconst (v := 0) h (by decide) dX12_orders_32 ?_
      refine g_putI h is_248 fl_X12_11 rfl rfl dX12_orders_33 ?_
      refine g_nI (fun I_33 eI_33 => ?_)
      replace hw := hw I_33 eI_33
      refine g_aload_n h rfl 1 rfl dX12_orders_36 ?_
      refine g_lload_n h rfl 0 rfl dX12_orders_37 ?_
      refine g_callV [.long r_18] h (c_X12_enters X hw) sPv_v mw_X12_enters lk_X12_18 is_248 rfl rfl ⟨by decide, by decide⟩ (Nat.le_of_ble_eq_true rfl) dX12_orders_38 (sPv_k (fun I_38 J_38 hw => ?_))
      refine g_iconst (v := 0) h (by decide) dX12_orders_41 ?_
      exact g_iret h hr dX12_orders_42 hw
    · replace hw := hw.2 q25
      refine g_bipush (v := (-2)) h (by decide) dX12_orders_28 ?_
      exact g_iret h hr dX12_orders_30 hw
  · replace hw := hw.2 q9
    refine g_iconst (v := (-1)) h (by decide) dX12_orders_12 ?_
    exact g_iret h hr dX12_orders_13 hw
theorem c_X12_orders (X : sX) {I : sI} {J : sJ} {post : Int32 → sI → sJ → Prop} (hw : w_X12_orders I J post) : sCall X yX12_orders cX12_orders 3 (some .int) 3 76 [.ref 248] I J (sPi post) := sCall_of (by decide +kernel) (Nat.le_of_ble_eq_true rfl) (fun X h hr => t_X12_orders h hr hw)
theorem dX12_ahead_0 : decode cX12_ahead 0 = .ok (.aload_n 0, 1) := by decide +kernel
theorem dX12_ahead_1 : decode cX12_ahead 1 = .ok (.iconst 0, 1) := by decide +kernel
theorem dX12_ahead_2 : decode cX12_ahead 2 = .ok (.putfield 1, 3) := by decide +kernel
theorem dX12_ahead_5 : decode cX12_ahead 5 = .ok (.aload_n 0, 1) := by decide +kernel
theorem dX12_ahead_6 : decode cX12_ahead 6 = .ok (.invokevirtual 260, 3) := by decide +kernel
theorem dX12_ahead_9 : decode cX12_ahead 9 = .ok (.ifCond .eq 40, 3) := by decide +kernel
theorem dX12_ahead_12 : decode cX12_ahead 12 = .ok (.iload_n 1, 1) := by decide +kernel
theorem dX12_ahead_13 : decode cX12_ahead 13 = .ok (.i2l, 1) := by decide +kernel
theorem dX12_ahead_14 : decode cX12_ahead 14 = .ok (.lconst 0, 1) := by decide +kernel
theorem dX12_ahead_15 : decode cX12_ahead 15 = .ok (.aload_n 0, 1) := by decide +kernel
theorem dX12_ahead_16 : decode cX12_ahead 16 = .ok (.getfield 79, 3) := by decide +kernel
theorem dX12_ahead_19 : decode cX12_ahead 19 = .ok (.iconst 1, 1) := by decide +kernel
theorem dX12_ahead_20 : decode cX12_ahead 20 = .ok (.isub, 1) := by decide +kernel
theorem dX12_ahead_21 : decode cX12_ahead 21 = .ok (.i2l, 1) := by decide +kernel
theorem dX12_ahead_22 : decode cX12_ahead 22 = .ok (.invokestatic 29, 3) := by decide +kernel
theorem dX12_ahead_25 : decode cX12_ahead 25 = .ok (.ifCond .eq 24, 3) := by decide +kernel
theorem dX12_ahead_28 : decode cX12_ahead 28 = .ok (.iload_n 2, 1) := by decide +kernel
theorem dX12_ahead_29 : decode cX12_ahead 29 = .ok (.i2l, 1) := by decide +kernel
theorem dX12_ahead_30 : decode cX12_ahead 30 = .ok (.lconst 0, 1) := by decide +kernel
theorem dX12_ahead_31 : decode cX12_ahead 31 = .ok (.aload_n 0, 1) := by decide +kernel
theorem dX12_ahead_32 : decode cX12_ahead 32 = .ok (.getfield 79, 3) := by decide +kernel
theorem dX12_ahead_35 : decode cX12_ahead 35 = .ok (.iconst 1, 1) := by decide +kernel
theorem dX12_ahead_36 : decode cX12_ahead 36 = .ok (.isub, 1) := by decide +kernel
theorem dX12_ahead_37 : decode cX12_ahead 37 = .ok (.i2l, 1) := by decide +kernel
theorem dX12_ahead_38 : decode cX12_ahead 38 = .ok (.invokestatic 29, 3) := by decide +kernel
theorem dX12_ahead_41 : decode cX12_ahead 41 = .ok (.ifCond .eq 8, 3) := by decide +kernel
theorem dX12_ahead_44 : decode cX12_ahead 44 = .ok (.iload_n 1, 1) := by decide +kernel
theorem dX12_ahead_45 : decode cX12_ahead 45 = .ok (.iload_n 2, 1) := by decide +kernel
theorem dX12_ahead_46 : decode cX12_ahead 46 = .ok (.if_icmp .ne 5, 3) := by decide +kernel
theorem dX12_ahead_49 : decode cX12_ahead 49 = .ok (.iconst (-1), 1) := by decide +kernel
theorem dX12_ahead_50 : decode cX12_ahead 50 = .ok (.ireturn, 1) := by decide +kernel
theorem dX12_ahead_51 : decode cX12_ahead 51 = .ok (.aload_n 0, 1) := by decide +kernel
theorem dX12_ahead_52 : decode cX12_ahead 52 = .ok (.iconst 0, 1) := by decide +kernel
theorem dX12_ahead_53 : decode cX12_ahead 53 = .ok (.iconst (-1), 1) := by decide +kernel
theorem dX12_ahead_54 : decode cX12_ahead 54 = .ok (.iconst (-1), 1) := by decide +kernel
theorem dX12_ahead_55 : decode cX12_ahead 55 = .ok (.invokevirtual 264, 3) := by decide +kernel
theorem dX12_ahead_58 : decode cX12_ahead 58 = .ok (.lstore_n 3, 1) := by decide +kernel
theorem dX12_ahead_59 : decode cX12_ahead 59 = .ok (.lload_n 3, 1) := by decide +kernel
theorem dX12_ahead_60 : decode cX12_ahead 60 = .ok (.lconst 0, 1) := by decide +kernel
theorem dX12_ahead_61 : decode cX12_ahead 61 = .ok (.lcmp, 1) := by decide +kernel
theorem dX12_ahead_62 : decode cX12_ahead 62 = .ok (.ifCond .ne 6, 3) := by decide +kernel
theorem dX12_ahead_65 : decode cX12_ahead 65 = .ok (.bipush (-2), 2) := by decide +kernel
theorem dX12_ahead_67 : decode cX12_ahead 67 = .ok (.ireturn, 1) := by decide +kernel
theorem dX12_ahead_68 : decode cX12_ahead 68 = .ok (.aload_n 0, 1) := by decide +kernel
theorem dX12_ahead_69 : decode cX12_ahead 69 = .ok (.iconst 0, 1) := by decide +kernel
theorem dX12_ahead_70 : decode cX12_ahead 70 = .ok (.putfield 11, 3) := by decide +kernel
theorem dX12_ahead_73 : decode cX12_ahead 73 = .ok (.aload_n 0, 1) := by decide +kernel
theorem dX12_ahead_74 : decode cX12_ahead 74 = .ok (.aload_n 0, 1) := by decide +kernel
theorem dX12_ahead_75 : decode cX12_ahead 75 = .ok (.iconst 0, 1) := by decide +kernel
theorem dX12_ahead_76 : decode cX12_ahead 76 = .ok (.iload_n 1, 1) := by decide +kernel
theorem dX12_ahead_77 : decode cX12_ahead 77 = .ok (.iload_n 2, 1) := by decide +kernel
theorem dX12_ahead_78 : decode cX12_ahead 78 = .ok (.invokevirtual 264, 3) := by decide +kernel
theorem dX12_ahead_81 : decode cX12_ahead 81 = .ok (.lload_n 3, 1) := by decide +kernel
theorem dX12_ahead_82 : decode cX12_ahead 82 = .ok (.invokevirtual 268, 3) := by decide +kernel
theorem dX12_ahead_85 : decode cX12_ahead 85 = .ok (.iconst 0, 1) := by decide +kernel
theorem dX12_ahead_86 : decode cX12_ahead 86 = .ok (.ireturn, 1) := by decide +kernel
def w_X12_ahead (a1 : Int32) (a2 : Int32) (I : sI) (J : sJ) (post : Int32 → sI → sJ → Prop) : Prop :=
  (∀ I_2 : sI, I_2 = sUI I 248 0 0 → w_X12_isOrdered I_2 J (fun (r_6 : Int32) (I_6 : sI) (J_6 : sJ) => (((r_6 = 0 → post (-1) I_6 J_6) ∧ (¬ r_6 = 0 → w_X12_in (Int32.toInt64 a1) 0 (Int32.toInt64 ((I_6 248 12) - 1)) I_6 J_6 (fun (r_22 : Int32) (I_22 : sI) (J_22 : sJ) => (((r_22 = 0 → post (-1) I_22 J_22) ∧ (¬ r_22 = 0 → w_X12_in (Int32.toInt64 a2) 0 (Int32.toInt64 ((I_22 248 12) - 1)) I_22 J_22 (fun (r_38 : Int32) (I_38 : sI) (J_38 : sJ) => (((r_38 = 0 → post (-1) I_38 J_38) ∧ (¬ r_38 = 0 → ((¬ a1 = a2 → w_X12_ordersOf 0 (-1) (-1) I_38 J_38 (fun (r_55 : Int64) (I_55 : sI) (J_55 : sJ) => (((¬ (lg_cmp r_55 0) = 0 → (∀ I_70 : sI, I_70 = sUI I_55 248 1 0 → w_X12_ordersOf 0 a1 a2 I_70 J_55 (fun (r_78 : Int64) (I_78 : sI) (J_78 : sJ) => (w_X12_entersFraction r_78 r_55 I_78 J_78 (fun (I_82 : sI) (J_82 : sJ) => (post 0 I_82 J_82)))))) ∧ ((lg_cmp r_55 0) = 0 → post (-2) I_55 J_55))))) ∧ (a1 = a2 → post (-1) I_38 J_38)))))))))))))))
set_option maxHeartbeats 4000000 in
set_option maxRecDepth 100000 in
theorem t_X12_ahead {X : sX} {a1 : Int32} {a2 : Int32} {I : sI} {J : sJ} {post : Int32 → sI → sJ → Prop} (h : sOK X cX12_ahead RX12 5 3 76) (hr : sRt X (some .int) (sPi post)) (hw : w_X12_ahead a1 a2 I J post) : sG X 5 0 [(0, .ref 248), (1, .int a1), (2, .int a2)] [] I J := by
  unfold w_X12_ahead at hw
  refine g_aload_n h rfl 0 rfl dX12_ahead_0 ?_
  refine g_iconst (v := 0) h (by decide) dX12_ahead_1 ?_
  refine g_putI h is_248 fl_X12_1 rfl rfl dX12_ahead_2 ?_
  refine g_nI (fun I_2 eI_2 => ?_)
  replace hw := hw I_2 eI_2
  refine g_aload_n h rfl 0 rfl dX12_ahead_5 ?_
  refine g_callV [] h (c_X12_isOrdered X hw) sPi_v mw_X12_isOrdered lk_X12_260 is_248 rfl rfl ⟨by decide, by decide⟩ (Nat.le_of_ble_eq_true rfl) dX12_ahead_6 (sPi_k (fun r_6 I_6 J_6 hw => ?_))
  refine g_if_eq (tgt := 49) h (by decide) dX12_ahead_9 (fun q9 => ?_) (fun q9 => ?_)
  · replace hw := hw.1 q9
    refine g_iconst (v := (-1)) h (by decide) dX12_ahead_49 ?_
    exact g_iret h hr dX12_ahead_50 hw
  · replace hw := hw.2 q9
    refine g_iload_n h rfl 1 rfl dX12_ahead_12 ?_
    refine g_i2l h dX12_ahead_13 ?_
    refine g_lconst (v := 0) h (by decide) dX12_ahead_14 ?_
    refine g_aload_n h rfl 0 rfl dX12_ahead_15 ?_
    refine g_get h is_248 fl_X12_79 rfl dX12_ahead_16 ?_
    refine g_iconst (v := 1) h (by decide) dX12_ahead_19 ?_
    refine g_isub h dX12_ahead_20 ?_
    refine g_i2l h dX12_ahead_21 ?_
    refine g_callS [.long (Int32.toInt64 a1), .long 0, .long (Int32.toInt64 ((I_6 248 12) - 1))] h (c_X12_in X hw) sPi_v mw_X12_in lk_X12_29 rfl ⟨by decide, by decide⟩ (Nat.le_of_ble_eq_true rfl) dX12_ahead_22 (sPi_k (fun r_22 I_22 J_22 hw => ?_))
    refine g_if_eq (tgt := 49) h (by decide) dX12_ahead_25 (fun q25 => ?_) (fun q25 => ?_)
    · replace hw := hw.1 q25
      refine g_iconst (v := (-1)) h (by decide) dX12_ahead_49 ?_
      exact g_iret h hr dX12_ahead_50 hw
    · replace hw := hw.2 q25
      refine g_iload_n h rfl 2 rfl dX12_ahead_28 ?_
      refine g_i2l h dX12_ahead_29 ?_
      refine g_lconst (v := 0) h (by decide) dX12_ahead_30 ?_
      refine g_aload_n h rfl 0 rfl dX12_ahead_31 ?_
      refine g_get h is_248 fl_X12_79 rfl dX12_ahead_32 ?_
      refine g_iconst (v := 1) h (by decide) dX12_ahead_35 ?_
      refine g_isub h dX12_ahead_36 ?_
      refine g_i2l h dX12_ahead_37 ?_
      refine g_callS [.long (Int32.toInt64 a2), .long 0, .long (Int32.toInt64 ((I_22 248 12) - 1))] h (c_X12_in X hw) sPi_v mw_X12_in lk_X12_29 rfl ⟨by decide, by decide⟩ (Nat.le_of_ble_eq_true rfl) dX12_ahead_38 (sPi_k (fun r_38 I_38 J_38 hw => ?_))
      refine g_if_eq (tgt := 49) h (by decide) dX12_ahead_41 (fun q41 => ?_) (fun q41 => ?_)
      · replace hw := hw.1 q41
        refine g_iconst (v := (-1)) h (by decide) dX12_ahead_49 ?_
        exact g_iret h hr dX12_ahead_50 hw
      · replace hw := hw.2 q41
        refine g_iload_n h rfl 1 rfl dX12_ahead_44 ?_
        refine g_iload_n h rfl 2 rfl dX12_ahead_45 ?_
        refine g_icmp_ne (tgt := 51) h (by decide) dX12_ahead_46 (fun q46 => ?_) (fun q46 => ?_)
        · replace hw := hw.1 q46
          refine g_aload_n h rfl 0 rfl dX12_ahead_51 ?_
          refine g_iconst (v := 0) h (by decide) dX12_ahead_52 ?_
          refine g_iconst (v := (-1)) h (by decide) dX12_ahead_53 ?_
          refine g_iconst (v := (-1)) h (by decide) dX12_ahead_54 ?_
          refine g_callV [.int 0, .int (-1), .int (-1)] h (c_X12_ordersOf X hw) sPl_v mw_X12_ordersOf lk_X12_264 is_248 rfl rfl ⟨by decide, by decide⟩ (Nat.le_of_ble_eq_true rfl) dX12_ahead_55 (sPl_k (fun r_55 I_55 J_55 hw => ?_))
          refine g_lstore_n (lo2 := [(3, .long r_55), (0, .ref 248), (1, .int a1), (2, .int a2)]) h rfl (by decide) rfl dX12_ahead_58 ?_
          refine g_lload_n h rfl 0 rfl dX12_ahead_59 ?_
          refine g_lconst (v := 0) h (by decide) dX12_ahead_60 ?_
          refine g_lcmp h dX12_ahead_61 ?_
          refine g_if_ne (tgt := 68) h (by decide) dX12_ahead_62 (fun q62 => ?_) (fun q62 => ?_)
          · replace hw := hw.1 q62
            refine g_aload_n h rfl 1 rfl dX12_ahead_68 ?_
            refine g_iconst (v := 0) h (by decide) dX12_ahead_69 ?_
            refine g_putI h is_248 fl_X12_11 rfl rfl dX12_ahead_70 ?_
            refine g_nI (fun I_70 eI_70 => ?_)
            replace hw := hw I_70 eI_70
            refine g_aload_n h rfl 1 rfl dX12_ahead_73 ?_
            refine g_aload_n h rfl 1 rfl dX12_ahead_74 ?_
            refine g_iconst (v := 0) h (by decide) dX12_ahead_75 ?_
            refine g_iload_n h rfl 2 rfl dX12_ahead_76 ?_
            refine g_iload_n h rfl 3 rfl dX12_ahead_77 ?_
            refine g_callV [.int 0, .int a1, .int a2] h (c_X12_ordersOf X hw) sPl_v mw_X12_ordersOf lk_X12_264 is_248 rfl rfl ⟨by decide, by decide⟩ (Nat.le_of_ble_eq_true rfl) dX12_ahead_78 (sPl_k (fun r_78 I_78 J_78 hw => ?_))
            refine g_lload_n h rfl 0 rfl dX12_ahead_81 ?_
            refine g_callV [.long r_78, .long r_55] h (c_X12_entersFraction X hw) sPv_v mw_X12_entersFraction lk_X12_268 is_248 rfl rfl ⟨by decide, by decide⟩ (Nat.le_of_ble_eq_true rfl) dX12_ahead_82 (sPv_k (fun I_82 J_82 hw => ?_))
            refine g_iconst (v := 0) h (by decide) dX12_ahead_85 ?_
            exact g_iret h hr dX12_ahead_86 hw
          · replace hw := hw.2 q62
            refine g_bipush (v := (-2)) h (by decide) dX12_ahead_65 ?_
            exact g_iret h hr dX12_ahead_67 hw
        · replace hw := hw.2 q46
          refine g_iconst (v := (-1)) h (by decide) dX12_ahead_49 ?_
          exact g_iret h hr dX12_ahead_50 hw
theorem c_X12_ahead (X : sX) {a1 : Int32} {a2 : Int32} {I : sI} {J : sJ} {post : Int32 → sI → sJ → Prop} (hw : w_X12_ahead a1 a2 I J post) : sCall X yX12_ahead cX12_ahead 5 (some .int) 3 76 [.ref 248, .int a1, .int a2] I J (sPi post) := sCall_of (by decide +kernel) (Nat.le_of_ble_eq_true rfl) (fun X h hr => t_X12_ahead h hr hw)
theorem dX12_ends_0 : decode cX12_ends 0 = .ok (.aload_n 0, 1) := by decide +kernel
theorem dX12_ends_1 : decode cX12_ends 1 = .ok (.iconst 0, 1) := by decide +kernel
theorem dX12_ends_2 : decode cX12_ends 2 = .ok (.putfield 1, 3) := by decide +kernel
theorem dX12_ends_5 : decode cX12_ends 5 = .ok (.aload_n 0, 1) := by decide +kernel
theorem dX12_ends_6 : decode cX12_ends 6 = .ok (.invokevirtual 260, 3) := by decide +kernel
theorem dX12_ends_9 : decode cX12_ends 9 = .ok (.ifCond .eq 13, 3) := by decide +kernel
theorem dX12_ends_12 : decode cX12_ends 12 = .ok (.iload_n 1, 1) := by decide +kernel
theorem dX12_ends_13 : decode cX12_ends 13 = .ok (.i2l, 1) := by decide +kernel
theorem dX12_ends_14 : decode cX12_ends 14 = .ok (.lconst 0, 1) := by decide +kernel
theorem dX12_ends_15 : decode cX12_ends 15 = .ok (.lconst 1, 1) := by decide +kernel
theorem dX12_ends_16 : decode cX12_ends 16 = .ok (.invokestatic 29, 3) := by decide +kernel
theorem dX12_ends_19 : decode cX12_ends 19 = .ok (.ifCond .ne 5, 3) := by decide +kernel
theorem dX12_ends_22 : decode cX12_ends 22 = .ok (.iconst (-1), 1) := by decide +kernel
theorem dX12_ends_23 : decode cX12_ends 23 = .ok (.ireturn, 1) := by decide +kernel
theorem dX12_ends_24 : decode cX12_ends 24 = .ok (.aload_n 0, 1) := by decide +kernel
theorem dX12_ends_25 : decode cX12_ends 25 = .ok (.iconst 0, 1) := by decide +kernel
theorem dX12_ends_26 : decode cX12_ends 26 = .ok (.iconst (-1), 1) := by decide +kernel
theorem dX12_ends_27 : decode cX12_ends 27 = .ok (.iconst (-1), 1) := by decide +kernel
theorem dX12_ends_28 : decode cX12_ends 28 = .ok (.invokevirtual 264, 3) := by decide +kernel
theorem dX12_ends_31 : decode cX12_ends 31 = .ok (.lconst 0, 1) := by decide +kernel
theorem dX12_ends_32 : decode cX12_ends 32 = .ok (.lcmp, 1) := by decide +kernel
theorem dX12_ends_33 : decode cX12_ends 33 = .ok (.ifCond .ne 6, 3) := by decide +kernel
theorem dX12_ends_36 : decode cX12_ends 36 = .ok (.bipush (-2), 2) := by decide +kernel
theorem dX12_ends_38 : decode cX12_ends 38 = .ok (.ireturn, 1) := by decide +kernel
theorem dX12_ends_39 : decode cX12_ends 39 = .ok (.iconst 1, 1) := by decide +kernel
theorem dX12_ends_40 : decode cX12_ends 40 = .ok (.aload_n 0, 1) := by decide +kernel
theorem dX12_ends_41 : decode cX12_ends 41 = .ok (.getfield 79, 3) := by decide +kernel
theorem dX12_ends_44 : decode cX12_ends 44 = .ok (.ishl, 1) := by decide +kernel
theorem dX12_ends_45 : decode cX12_ends 45 = .ok (.iconst 1, 1) := by decide +kernel
theorem dX12_ends_46 : decode cX12_ends 46 = .ok (.isub, 1) := by decide +kernel
theorem dX12_ends_47 : decode cX12_ends 47 = .ok (.istore_n 2, 1) := by decide +kernel
theorem dX12_ends_48 : decode cX12_ends 48 = .ok (.iconst 0, 1) := by decide +kernel
theorem dX12_ends_49 : decode cX12_ends 49 = .ok (.istore_n 3, 1) := by decide +kernel
theorem dX12_ends_50 : decode cX12_ends 50 = .ok (.iload_n 3, 1) := by decide +kernel
theorem dX12_ends_51 : decode cX12_ends 51 = .ok (.aload_n 0, 1) := by decide +kernel
theorem dX12_ends_52 : decode cX12_ends 52 = .ok (.getfield 88, 3) := by decide +kernel
theorem dX12_ends_55 : decode cX12_ends 55 = .ok (.if_icmp .ge 35, 3) := by decide +kernel
theorem dX12_ends_58 : decode cX12_ends 58 = .ok (.iload_n 2, 1) := by decide +kernel
theorem dX12_ends_59 : decode cX12_ends 59 = .ok (.iconst 1, 1) := by decide +kernel
theorem dX12_ends_60 : decode cX12_ends 60 = .ok (.iload_n 1, 1) := by decide +kernel
theorem dX12_ends_61 : decode cX12_ends 61 = .ok (.ifCond .ne 12, 3) := by decide +kernel
theorem dX12_ends_64 : decode cX12_ends 64 = .ok (.aload_n 0, 1) := by decide +kernel
theorem dX12_ends_65 : decode cX12_ends 65 = .ok (.getfield 245, 3) := by decide +kernel
theorem dX12_ends_68 : decode cX12_ends 68 = .ok (.iload_n 3, 1) := by decide +kernel
theorem dX12_ends_69 : decode cX12_ends 69 = .ok (.iaload, 1) := by decide +kernel
theorem dX12_ends_70 : decode cX12_ends 70 = .ok (.goto 9, 3) := by decide +kernel
theorem dX12_ends_73 : decode cX12_ends 73 = .ok (.aload_n 0, 1) := by decide +kernel
theorem dX12_ends_74 : decode cX12_ends 74 = .ok (.getfield 248, 3) := by decide +kernel
theorem dX12_ends_77 : decode cX12_ends 77 = .ok (.iload_n 3, 1) := by decide +kernel
theorem dX12_ends_78 : decode cX12_ends 78 = .ok (.iaload, 1) := by decide +kernel
theorem dX12_ends_79 : decode cX12_ends 79 = .ok (.ishl, 1) := by decide +kernel
theorem dX12_ends_80 : decode cX12_ends 80 = .ok (.iconst (-1), 1) := by decide +kernel
theorem dX12_ends_81 : decode cX12_ends 81 = .ok (.ixor, 1) := by decide +kernel
theorem dX12_ends_82 : decode cX12_ends 82 = .ok (.iand, 1) := by decide +kernel
theorem dX12_ends_83 : decode cX12_ends 83 = .ok (.istore_n 2, 1) := by decide +kernel
theorem dX12_ends_84 : decode cX12_ends 84 = .ok (.iinc 3 1, 3) := by decide +kernel
theorem dX12_ends_87 : decode cX12_ends 87 = .ok (.goto (-37), 3) := by decide +kernel
theorem dX12_ends_90 : decode cX12_ends 90 = .ok (.iload_n 2, 1) := by decide +kernel
theorem dX12_ends_91 : decode cX12_ends 91 = .ok (.ireturn, 1) := by decide +kernel
def w_X12_ends_79 (post : Int32 → sI → sJ → Prop) (k50 : Int32 → Int32 → Int32 → sI → sJ → Prop) (x1 : Int32) (x3 : Int32) (s0 : Int32) (s1 : Int32) (s2 : Int32) (I : sI) (J : sJ) : Prop :=
  (∀ v2_83 : Int32, v2_83 = s2 &&& ((s1 <<< (s0 &&& 31)) ^^^ (-1)) → (∀ v3_84 : Int32, v3_84 = x3 + 1 → k50 x1 v2_83 v3_84 I J))
set_option maxHeartbeats 4000000 in
set_option maxRecDepth 100000 in
theorem t_X12_ends_79 {X : sX} {post : Int32 → sI → sJ → Prop} (h : sOK X cX12_ends RX12 4 3 76) (hr : sRt X (some .int) (sPi post)) {k50 : Int32 → Int32 → Int32 → sI → sJ → Prop} (hk50 : ∀ (x1 : Int32) (x2 : Int32) (x3 : Int32) (I : sI) (J : sJ), k50 x1 x2 x3 I J → sG X 4 50 [(0, .ref 248), (1, .int x1), (2, .int x2), (3, .int x3)] [] I J) {x1 : Int32} {x3 : Int32} {s0 : Int32} {s1 : Int32} {s2 : Int32} {I : sI} {J : sJ} (hw : w_X12_ends_79 post k50 x1 x3 s0 s1 s2 I J) : sG X 4 79 [(0, .ref 248), (1, .int x1), (3, .int x3)] [.int s0, .int s1, .int s2] I J := by
  unfold w_X12_ends_79 at hw
  refine g_ishl h dX12_ends_79 ?_
  refine g_iconst (v := (-1)) h (by decide) dX12_ends_80 ?_
  refine g_ixor h dX12_ends_81 ?_
  refine g_iand h dX12_ends_82 ?_
  refine g_ni (fun v2_83 ev2_83 => ?_)
  replace hw := hw v2_83 ev2_83
  refine g_istore_n (lo2 := [(2, .int v2_83), (0, .ref 248), (1, .int x1), (3, .int x3)]) h rfl (by decide) rfl dX12_ends_83 ?_
  obtain ⟨v3_84, ev3_84⟩ : ∃ z : Int32, z = x3 + 1 := ⟨_, rfl⟩
  replace hw := hw v3_84 ev3_84
  refine g_iinc (v := v3_84) (lo2 := [(3, .int v3_84), (2, .int v2_83), (0, .ref 248), (1, .int x1)]) h 3 rfl (by rw [ev3_84]; rfl) (by decide) rfl dX12_ends_84 ?_
  refine g_goto (tgt := 50) h (by decide) dX12_ends_87 ?_
  exact g_sub [2, 3, 1, 0] rfl (hk50 _ _ _ _ _ hw)
def w_X12_ends_50_s (post : Int32 → sI → sJ → Prop) (k50 : Int32 → Int32 → Int32 → sI → sJ → Prop) (x1 : Int32) (x2 : Int32) (x3 : Int32) (I : sI) (J : sJ) : Prop :=
  (((I 248 15) ≤ x3 → post x2 I J) ∧ (¬ (I 248 15) ≤ x3 → ((¬ x1 = 0 → (vp_in x3 12 ∧ w_X12_ends_79 post k50 x1 x3 (I 256 (Int32.toNatClampNeg x3)) 1 x2 I J)) ∧ (x1 = 0 → (vp_in x3 12 ∧ w_X12_ends_79 post k50 x1 x3 (I 255 (Int32.toNatClampNeg x3)) 1 x2 I J)))))
def w_X12_ends_50_n (post : Int32 → sI → sJ → Prop) : Nat → Int32 → Int32 → Int32 → sI → sJ → Prop
  | 0 => fun _ _ _ _ _ => False
  | n + 1 => fun x1 x2 x3 I J => w_X12_ends_50_s post (w_X12_ends_50_n post n) x1 x2 x3 I J
def w_X12_ends_50 (post : Int32 → sI → sJ → Prop) (x1 : Int32) (x2 : Int32) (x3 : Int32) (I : sI) (J : sJ) : Prop := ∃ n, w_X12_ends_50_n post n x1 x2 x3 I J
set_option maxHeartbeats 4000000 in
set_option maxRecDepth 100000 in
theorem t_X12_ends_50_s {X : sX} {post : Int32 → sI → sJ → Prop} (h : sOK X cX12_ends RX12 4 3 76) (hr : sRt X (some .int) (sPi post)) {k50 : Int32 → Int32 → Int32 → sI → sJ → Prop} (hk50 : ∀ (x1 : Int32) (x2 : Int32) (x3 : Int32) (I : sI) (J : sJ), k50 x1 x2 x3 I J → sG X 4 50 [(0, .ref 248), (1, .int x1), (2, .int x2), (3, .int x3)] [] I J) {x1 : Int32} {x2 : Int32} {x3 : Int32} {I : sI} {J : sJ} (hw : w_X12_ends_50_s post k50 x1 x2 x3 I J) : sG X 4 50 [(0, .ref 248), (1, .int x1), (2, .int x2), (3, .int x3)] [] I J := by
  unfold w_X12_ends_50_s at hw
  refine g_iload_n h rfl 3 rfl dX12_ends_50 ?_
  refine g_aload_n h rfl 0 rfl dX12_ends_51 ?_
  refine g_get h is_248 fl_X12_88 rfl dX12_ends_52 ?_
  refine g_icmp_ge (tgt := 90) h (by decide) dX12_ends_55 (fun q55 => ?_) (fun q55 => ?_)
  · replace hw := hw.1 q55
    refine g_iload_n h rfl 2 rfl dX12_ends_90 ?_
    exact g_iret h hr dX12_ends_91 hw
  · replace hw := hw.2 q55
    refine g_iload_n h rfl 2 rfl dX12_ends_58 ?_
    refine g_iconst (v := 1) h (by decide) dX12_ends_59 ?_
    refine g_iload_n h rfl 1 rfl dX12_ends_60 ?_
    refine g_if_ne (tgt := 73) h (by decide) dX12_ends_61 (fun q61 => ?_) (fun q61 => ?_)
    · replace hw := hw.1 q61
      refine g_aload_n h rfl 0 rfl dX12_ends_73 ?_
      refine g_get h is_248 fl_X12_248 fr_248_17 dX12_ends_74 ?_
      refine g_iload_n h rfl 3 rfl dX12_ends_77 ?_
      obtain ⟨hi78, hw⟩ := hw
      refine g_iald h ar_256 hi78 dX12_ends_78 ?_
      exact g_sub [0, 1, 3] rfl (t_X12_ends_79 h hr hk50 hw)
    · replace hw := hw.2 q61
      refine g_aload_n h rfl 0 rfl dX12_ends_64 ?_
      refine g_get h is_248 fl_X12_245 fr_248_16 dX12_ends_65 ?_
      refine g_iload_n h rfl 3 rfl dX12_ends_68 ?_
      obtain ⟨hi69, hw⟩ := hw
      refine g_iald h ar_255 hi69 dX12_ends_69 ?_
      refine g_goto (tgt := 79) h (by decide) dX12_ends_70 ?_
      exact g_sub [0, 1, 3] rfl (t_X12_ends_79 h hr hk50 hw)
theorem t_X12_ends_50 {X : sX} {post : Int32 → sI → sJ → Prop} (h : sOK X cX12_ends RX12 4 3 76) (hr : sRt X (some .int) (sPi post)) {x1 : Int32} {x2 : Int32} {x3 : Int32} {I : sI} {J : sJ} (hw : w_X12_ends_50 post x1 x2 x3 I J) : sG X 4 50 [(0, .ref 248), (1, .int x1), (2, .int x2), (3, .int x3)] [] I J := by
  obtain ⟨n, hw⟩ := hw
  induction n generalizing x1 x2 x3 I J with
  | zero => exact hw.elim
  | succ n ih => exact t_X12_ends_50_s h hr (fun _ _ _ _ _ q => ih q) hw
def w_X12_ends (a1 : Int32) (I : sI) (J : sJ) (post : Int32 → sI → sJ → Prop) : Prop :=
  (∀ I_2 : sI, I_2 = sUI I 248 0 0 → w_X12_isOrdered I_2 J (fun (r_6 : Int32) (I_6 : sI) (J_6 : sJ) => (((r_6 = 0 → post (-1) I_6 J_6) ∧ (¬ r_6 = 0 → w_X12_in (Int32.toInt64 a1) 0 1 I_6 J_6 (fun (r_16 : Int32) (I_16 : sI) (J_16 : sJ) => (((¬ r_16 = 0 → w_X12_ordersOf 0 (-1) (-1) I_16 J_16 (fun (r_28 : Int64) (I_28 : sI) (J_28 : sJ) => (((¬ (lg_cmp r_28 0) = 0 → (∀ v2_47 : Int32, v2_47 = (1 <<< ((I_28 248 12) &&& 31)) - 1 → w_X12_ends_50 post a1 v2_47 0 I_28 J_28)) ∧ ((lg_cmp r_28 0) = 0 → post (-2) I_28 J_28))))) ∧ (r_16 = 0 → post (-1) I_16 J_16)))))))))
set_option maxHeartbeats 4000000 in
set_option maxRecDepth 100000 in
theorem t_X12_ends {X : sX} {a1 : Int32} {I : sI} {J : sJ} {post : Int32 → sI → sJ → Prop} (h : sOK X cX12_ends RX12 4 3 76) (hr : sRt X (some .int) (sPi post)) (hw : w_X12_ends a1 I J post) : sG X 4 0 [(0, .ref 248), (1, .int a1)] [] I J := by
  unfold w_X12_ends at hw
  refine g_aload_n h rfl 0 rfl dX12_ends_0 ?_
  refine g_iconst (v := 0) h (by decide) dX12_ends_1 ?_
  refine g_putI h is_248 fl_X12_1 rfl rfl dX12_ends_2 ?_
  refine g_nI (fun I_2 eI_2 => ?_)
  replace hw := hw I_2 eI_2
  refine g_aload_n h rfl 0 rfl dX12_ends_5 ?_
  refine g_callV [] h (c_X12_isOrdered X hw) sPi_v mw_X12_isOrdered lk_X12_260 is_248 rfl rfl ⟨by decide, by decide⟩ (Nat.le_of_ble_eq_true rfl) dX12_ends_6 (sPi_k (fun r_6 I_6 J_6 hw => ?_))
  refine g_if_eq (tgt := 22) h (by decide) dX12_ends_9 (fun q9 => ?_) (fun q9 => ?_)
  · replace hw := hw.1 q9
    refine g_iconst (v := (-1)) h (by decide) dX12_ends_22 ?_
    exact g_iret h hr dX12_ends_23 hw
  · replace hw := hw.2 q9
    refine g_iload_n h rfl 1 rfl dX12_ends_12 ?_
    refine g_i2l h dX12_ends_13 ?_
    refine g_lconst (v := 0) h (by decide) dX12_ends_14 ?_
    refine g_lconst (v := 1) h (by decide) dX12_ends_15 ?_
    refine g_callS [.long (Int32.toInt64 a1), .long 0, .long 1] h (c_X12_in X hw) sPi_v mw_X12_in lk_X12_29 rfl ⟨by decide, by decide⟩ (Nat.le_of_ble_eq_true rfl) dX12_ends_16 (sPi_k (fun r_16 I_16 J_16 hw => ?_))
    refine g_if_ne (tgt := 24) h (by decide) dX12_ends_19 (fun q19 => ?_) (fun q19 => ?_)
    · replace hw := hw.1 q19
      refine g_aload_n h rfl 0 rfl dX12_ends_24 ?_
      refine g_iconst (v := 0) h (by decide) dX12_ends_25 ?_
      refine g_iconst (v := (-1)) h (by decide) dX12_ends_26 ?_
      refine g_iconst (v := (-1)) h (by decide) dX12_ends_27 ?_
      refine g_callV [.int 0, .int (-1), .int (-1)] h (c_X12_ordersOf X hw) sPl_v mw_X12_ordersOf lk_X12_264 is_248 rfl rfl ⟨by decide, by decide⟩ (Nat.le_of_ble_eq_true rfl) dX12_ends_28 (sPl_k (fun r_28 I_28 J_28 hw => ?_))
      refine g_lconst (v := 0) h (by decide) dX12_ends_31 ?_
      refine g_lcmp h dX12_ends_32 ?_
      refine g_if_ne (tgt := 39) h (by decide) dX12_ends_33 (fun q33 => ?_) (fun q33 => ?_)
      · replace hw := hw.1 q33
        refine g_iconst (v := 1) h (by decide) dX12_ends_39 ?_
        refine g_aload_n h rfl 0 rfl dX12_ends_40 ?_
        refine g_get h is_248 fl_X12_79 rfl dX12_ends_41 ?_
        refine g_ishl h dX12_ends_44 ?_
        refine g_iconst (v := 1) h (by decide) dX12_ends_45 ?_
        refine g_isub h dX12_ends_46 ?_
        refine g_ni (fun v2_47 ev2_47 => ?_)
        replace hw := hw v2_47 ev2_47
        refine g_istore_n (lo2 := [(2, .int v2_47), (0, .ref 248), (1, .int a1)]) h rfl (by decide) rfl dX12_ends_47 ?_
        refine g_iconst (v := 0) h (by decide) dX12_ends_48 ?_
        refine g_istore_n (lo2 := [(3, .int 0), (2, .int v2_47), (0, .ref 248), (1, .int a1)]) h rfl (by decide) rfl dX12_ends_49 ?_
        exact g_sub [2, 3, 1, 0] rfl (t_X12_ends_50 h hr hw)
      · replace hw := hw.2 q33
        refine g_bipush (v := (-2)) h (by decide) dX12_ends_36 ?_
        exact g_iret h hr dX12_ends_38 hw
    · replace hw := hw.2 q19
      refine g_iconst (v := (-1)) h (by decide) dX12_ends_22 ?_
      exact g_iret h hr dX12_ends_23 hw
theorem c_X12_ends (X : sX) {a1 : Int32} {I : sI} {J : sJ} {post : Int32 → sI → sJ → Prop} (hw : w_X12_ends a1 I J post) : sCall X yX12_ends cX12_ends 4 (some .int) 3 76 [.ref 248, .int a1] I J (sPi post) := sCall_of (by decide +kernel) (Nat.le_of_ble_eq_true rfl) (fun X h hr => t_X12_ends h hr hw)
theorem dX12_groupOf_0 : decode cX12_groupOf 0 = .ok (.iconst 0, 1) := by decide +kernel
theorem dX12_groupOf_1 : decode cX12_groupOf 1 = .ok (.istore_n 2, 1) := by decide +kernel
theorem dX12_groupOf_2 : decode cX12_groupOf 2 = .ok (.aload_n 0, 1) := by decide +kernel
theorem dX12_groupOf_3 : decode cX12_groupOf 3 = .ok (.getfield 82, 3) := by decide +kernel
theorem dX12_groupOf_6 : decode cX12_groupOf 6 = .ok (.iconst 0, 1) := by decide +kernel
theorem dX12_groupOf_7 : decode cX12_groupOf 7 = .ok (.iaload, 1) := by decide +kernel
theorem dX12_groupOf_8 : decode cX12_groupOf 8 = .ok (.istore_n 3, 1) := by decide +kernel
theorem dX12_groupOf_9 : decode cX12_groupOf 9 = .ok (.iload_n 3, 1) := by decide +kernel
theorem dX12_groupOf_10 : decode cX12_groupOf 10 = .ok (.iload_n 1, 1) := by decide +kernel
theorem dX12_groupOf_11 : decode cX12_groupOf 11 = .ok (.if_icmp .gt 18, 3) := by decide +kernel
theorem dX12_groupOf_14 : decode cX12_groupOf 14 = .ok (.iinc 2 1, 3) := by decide +kernel
theorem dX12_groupOf_17 : decode cX12_groupOf 17 = .ok (.iload_n 3, 1) := by decide +kernel
theorem dX12_groupOf_18 : decode cX12_groupOf 18 = .ok (.aload_n 0, 1) := by decide +kernel
theorem dX12_groupOf_19 : decode cX12_groupOf 19 = .ok (.getfield 82, 3) := by decide +kernel
theorem dX12_groupOf_22 : decode cX12_groupOf 22 = .ok (.iload_n 2, 1) := by decide +kernel
theorem dX12_groupOf_23 : decode cX12_groupOf 23 = .ok (.iaload, 1) := by decide +kernel
theorem dX12_groupOf_24 : decode cX12_groupOf 24 = .ok (.iadd, 1) := by decide +kernel
theorem dX12_groupOf_25 : decode cX12_groupOf 25 = .ok (.istore_n 3, 1) := by decide +kernel
theorem dX12_groupOf_26 : decode cX12_groupOf 26 = .ok (.goto (-17), 3) := by decide +kernel
theorem dX12_groupOf_29 : decode cX12_groupOf 29 = .ok (.iload_n 2, 1) := by decide +kernel
theorem dX12_groupOf_30 : decode cX12_groupOf 30 = .ok (.ireturn, 1) := by decide +kernel
def w_X12_groupOf_9_s (post : Int32 → sI → sJ → Prop) (k9 : Int32 → Int32 → Int32 → sI → sJ → Prop) (x1 : Int32) (x2 : Int32) (x3 : Int32) (I : sI) (J : sJ) : Prop :=
  ((x1 < x3 → post x2 I J) ∧ (¬ x1 < x3 → (∀ v2_14 : Int32, v2_14 = x2 + 1 → (vp_in v2_14 24 ∧ (∀ v3_25 : Int32, v3_25 = x3 + (I 253 (Int32.toNatClampNeg v2_14)) → k9 x1 v2_14 v3_25 I J)))))
def w_X12_groupOf_9_n (post : Int32 → sI → sJ → Prop) : Nat → Int32 → Int32 → Int32 → sI → sJ → Prop
  | 0 => fun _ _ _ _ _ => False
  | n + 1 => fun x1 x2 x3 I J => w_X12_groupOf_9_s post (w_X12_groupOf_9_n post n) x1 x2 x3 I J
def w_X12_groupOf_9 (post : Int32 → sI → sJ → Prop) (x1 : Int32) (x2 : Int32) (x3 : Int32) (I : sI) (J : sJ) : Prop := ∃ n, w_X12_groupOf_9_n post n x1 x2 x3 I J
set_option maxHeartbeats 4000000 in
set_option maxRecDepth 100000 in
theorem t_X12_groupOf_9_s {X : sX} {post : Int32 → sI → sJ → Prop} (h : sOK X cX12_groupOf RX12 4 0 0) (hr : sRt X (some .int) (sPi post)) {k9 : Int32 → Int32 → Int32 → sI → sJ → Prop} (hk9 : ∀ (x1 : Int32) (x2 : Int32) (x3 : Int32) (I : sI) (J : sJ), k9 x1 x2 x3 I J → sG X 4 9 [(0, .ref 248), (1, .int x1), (2, .int x2), (3, .int x3)] [] I J) {x1 : Int32} {x2 : Int32} {x3 : Int32} {I : sI} {J : sJ} (hw : w_X12_groupOf_9_s post k9 x1 x2 x3 I J) : sG X 4 9 [(0, .ref 248), (1, .int x1), (2, .int x2), (3, .int x3)] [] I J := by
  unfold w_X12_groupOf_9_s at hw
  refine g_iload_n h rfl 3 rfl dX12_groupOf_9 ?_
  refine g_iload_n h rfl 1 rfl dX12_groupOf_10 ?_
  refine g_icmp_gt (tgt := 29) h (by decide) dX12_groupOf_11 (fun q11 => ?_) (fun q11 => ?_)
  · replace hw := hw.1 q11
    refine g_iload_n h rfl 2 rfl dX12_groupOf_29 ?_
    exact g_iret h hr dX12_groupOf_30 hw
  · replace hw := hw.2 q11
    obtain ⟨v2_14, ev2_14⟩ : ∃ z : Int32, z = x2 + 1 := ⟨_, rfl⟩
    replace hw := hw v2_14 ev2_14
    refine g_iinc (v := v2_14) (lo2 := [(2, .int v2_14), (0, .ref 248), (1, .int x1), (3, .int x3)]) h 2 rfl (by rw [ev2_14]; rfl) (by decide) rfl dX12_groupOf_14 ?_
    refine g_iload_n h rfl 3 rfl dX12_groupOf_17 ?_
    refine g_aload_n h rfl 1 rfl dX12_groupOf_18 ?_
    refine g_get h is_248 fl_X12_82 fr_248_13 dX12_groupOf_19 ?_
    refine g_iload_n h rfl 0 rfl dX12_groupOf_22 ?_
    obtain ⟨hi23, hw⟩ := hw
    refine g_iald h ar_253 hi23 dX12_groupOf_23 ?_
    refine g_iadd h dX12_groupOf_24 ?_
    refine g_ni (fun v3_25 ev3_25 => ?_)
    replace hw := hw v3_25 ev3_25
    refine g_istore_n (lo2 := [(3, .int v3_25), (2, .int v2_14), (0, .ref 248), (1, .int x1)]) h rfl (by decide) rfl dX12_groupOf_25 ?_
    refine g_goto (tgt := 9) h (by decide) dX12_groupOf_26 ?_
    exact g_sub [2, 3, 1, 0] rfl (hk9 _ _ _ _ _ hw)
theorem t_X12_groupOf_9 {X : sX} {post : Int32 → sI → sJ → Prop} (h : sOK X cX12_groupOf RX12 4 0 0) (hr : sRt X (some .int) (sPi post)) {x1 : Int32} {x2 : Int32} {x3 : Int32} {I : sI} {J : sJ} (hw : w_X12_groupOf_9 post x1 x2 x3 I J) : sG X 4 9 [(0, .ref 248), (1, .int x1), (2, .int x2), (3, .int x3)] [] I J := by
  obtain ⟨n, hw⟩ := hw
  induction n generalizing x1 x2 x3 I J with
  | zero => exact hw.elim
  | succ n ih => exact t_X12_groupOf_9_s h hr (fun _ _ _ _ _ q => ih q) hw
def w_X12_groupOf (a1 : Int32) (I : sI) (J : sJ) (post : Int32 → sI → sJ → Prop) : Prop :=
  (vp_in 0 24 ∧ (∀ v3_8 : Int32, v3_8 = I 253 (Int32.toNatClampNeg 0) → w_X12_groupOf_9 post a1 0 v3_8 I J))
set_option maxHeartbeats 4000000 in
set_option maxRecDepth 100000 in
theorem t_X12_groupOf {X : sX} {a1 : Int32} {I : sI} {J : sJ} {post : Int32 → sI → sJ → Prop} (h : sOK X cX12_groupOf RX12 4 0 0) (hr : sRt X (some .int) (sPi post)) (hw : w_X12_groupOf a1 I J post) : sG X 4 0 [(0, .ref 248), (1, .int a1)] [] I J := by
  unfold w_X12_groupOf at hw
  refine g_iconst (v := 0) h (by decide) dX12_groupOf_0 ?_
  refine g_istore_n (lo2 := [(2, .int 0), (0, .ref 248), (1, .int a1)]) h rfl (by decide) rfl dX12_groupOf_1 ?_
  refine g_aload_n h rfl 1 rfl dX12_groupOf_2 ?_
  refine g_get h is_248 fl_X12_82 fr_248_13 dX12_groupOf_3 ?_
  refine g_iconst (v := 0) h (by decide) dX12_groupOf_6 ?_
  obtain ⟨hi7, hw⟩ := hw
  refine g_iald h ar_253 hi7 dX12_groupOf_7 ?_
  refine g_ni (fun v3_8 ev3_8 => ?_)
  replace hw := hw v3_8 ev3_8
  refine g_istore_n (lo2 := [(3, .int v3_8), (2, .int 0), (0, .ref 248), (1, .int a1)]) h rfl (by decide) rfl dX12_groupOf_8 ?_
  exact g_sub [2, 3, 1, 0] rfl (t_X12_groupOf_9 h hr hw)
theorem c_X12_groupOf (X : sX) {a1 : Int32} {I : sI} {J : sJ} {post : Int32 → sI → sJ → Prop} (hw : w_X12_groupOf a1 I J post) : sCall X yX12_groupOf cX12_groupOf 4 (some .int) 0 0 [.ref 248, .int a1] I J (sPi post) := sCall_of (by decide +kernel) (Nat.le_of_ble_eq_true rfl) (fun X h hr => t_X12_groupOf h hr hw)
theorem dX12_neighbours_0 : decode cX12_neighbours 0 = .ok (.iconst 0, 1) := by decide +kernel
theorem dX12_neighbours_1 : decode cX12_neighbours 1 = .ok (.istore_n 2, 1) := by decide +kernel
theorem dX12_neighbours_2 : decode cX12_neighbours 2 = .ok (.iconst 0, 1) := by decide +kernel
theorem dX12_neighbours_3 : decode cX12_neighbours 3 = .ok (.istore_n 3, 1) := by decide +kernel
theorem dX12_neighbours_4 : decode cX12_neighbours 4 = .ok (.iload_n 3, 1) := by decide +kernel
theorem dX12_neighbours_5 : decode cX12_neighbours 5 = .ok (.aload_n 0, 1) := by decide +kernel
theorem dX12_neighbours_6 : decode cX12_neighbours 6 = .ok (.getfield 88, 3) := by decide +kernel
theorem dX12_neighbours_9 : decode cX12_neighbours 9 = .ok (.if_icmp .ge 60, 3) := by decide +kernel
theorem dX12_neighbours_12 : decode cX12_neighbours 12 = .ok (.iload_n 2, 1) := by decide +kernel
theorem dX12_neighbours_13 : decode cX12_neighbours 13 = .ok (.aload_n 0, 1) := by decide +kernel
theorem dX12_neighbours_14 : decode cX12_neighbours 14 = .ok (.getfield 245, 3) := by decide +kernel
theorem dX12_neighbours_17 : decode cX12_neighbours 17 = .ok (.iload_n 3, 1) := by decide +kernel
theorem dX12_neighbours_18 : decode cX12_neighbours 18 = .ok (.iaload, 1) := by decide +kernel
theorem dX12_neighbours_19 : decode cX12_neighbours 19 = .ok (.aload_n 0, 1) := by decide +kernel
theorem dX12_neighbours_20 : decode cX12_neighbours 20 = .ok (.getfield 248, 3) := by decide +kernel
theorem dX12_neighbours_23 : decode cX12_neighbours 23 = .ok (.iload_n 3, 1) := by decide +kernel
theorem dX12_neighbours_24 : decode cX12_neighbours 24 = .ok (.iaload, 1) := by decide +kernel
theorem dX12_neighbours_25 : decode cX12_neighbours 25 = .ok (.isub, 1) := by decide +kernel
theorem dX12_neighbours_26 : decode cX12_neighbours 26 = .ok (.iload_n 1, 1) := by decide +kernel
theorem dX12_neighbours_27 : decode cX12_neighbours 27 = .ok (.if_icmp .ne 30, 3) := by decide +kernel
theorem dX12_neighbours_30 : decode cX12_neighbours 30 = .ok (.aload_n 0, 1) := by decide +kernel
theorem dX12_neighbours_31 : decode cX12_neighbours 31 = .ok (.aload_n 0, 1) := by decide +kernel
theorem dX12_neighbours_32 : decode cX12_neighbours 32 = .ok (.getfield 245, 3) := by decide +kernel
theorem dX12_neighbours_35 : decode cX12_neighbours 35 = .ok (.iload_n 3, 1) := by decide +kernel
theorem dX12_neighbours_36 : decode cX12_neighbours 36 = .ok (.iaload, 1) := by decide +kernel
theorem dX12_neighbours_37 : decode cX12_neighbours 37 = .ok (.invokevirtual 272, 3) := by decide +kernel
theorem dX12_neighbours_40 : decode cX12_neighbours 40 = .ok (.aload_n 0, 1) := by decide +kernel
theorem dX12_neighbours_41 : decode cX12_neighbours 41 = .ok (.aload_n 0, 1) := by decide +kernel
theorem dX12_neighbours_42 : decode cX12_neighbours 42 = .ok (.getfield 248, 3) := by decide +kernel
theorem dX12_neighbours_45 : decode cX12_neighbours 45 = .ok (.iload_n 3, 1) := by decide +kernel
theorem dX12_neighbours_46 : decode cX12_neighbours 46 = .ok (.iaload, 1) := by decide +kernel
theorem dX12_neighbours_47 : decode cX12_neighbours 47 = .ok (.invokevirtual 272, 3) := by decide +kernel
theorem dX12_neighbours_50 : decode cX12_neighbours 50 = .ok (.if_icmp .ne 7, 3) := by decide +kernel
theorem dX12_neighbours_53 : decode cX12_neighbours 53 = .ok (.iconst 1, 1) := by decide +kernel
theorem dX12_neighbours_54 : decode cX12_neighbours 54 = .ok (.goto 4, 3) := by decide +kernel
theorem dX12_neighbours_57 : decode cX12_neighbours 57 = .ok (.iconst 0, 1) := by decide +kernel
theorem dX12_neighbours_58 : decode cX12_neighbours 58 = .ok (.invokestatic 65, 3) := by decide +kernel
theorem dX12_neighbours_61 : decode cX12_neighbours 61 = .ok (.iadd, 1) := by decide +kernel
theorem dX12_neighbours_62 : decode cX12_neighbours 62 = .ok (.istore_n 2, 1) := by decide +kernel
theorem dX12_neighbours_63 : decode cX12_neighbours 63 = .ok (.iinc 3 1, 3) := by decide +kernel
theorem dX12_neighbours_66 : decode cX12_neighbours 66 = .ok (.goto (-62), 3) := by decide +kernel
theorem dX12_neighbours_69 : decode cX12_neighbours 69 = .ok (.iload_n 2, 1) := by decide +kernel
theorem dX12_neighbours_70 : decode cX12_neighbours 70 = .ok (.ireturn, 1) := by decide +kernel
def w_X12_neighbours_58 (post : Int32 → sI → sJ → Prop) (k4 : Int32 → Int32 → Int32 → sI → sJ → Prop) (x1 : Int32) (x3 : Int32) (s0 : Int32) (s1 : Int32) (I : sI) (J : sJ) : Prop :=
  w_X12_flag s0 I J (fun (r_58 : Int32) (I_58 : sI) (J_58 : sJ) => ((∀ v2_62 : Int32, v2_62 = s1 + r_58 → (∀ v3_63 : Int32, v3_63 = x3 + 1 → k4 x1 v2_62 v3_63 I_58 J_58))))
set_option maxHeartbeats 4000000 in
set_option maxRecDepth 100000 in
theorem t_X12_neighbours_58 {X : sX} {post : Int32 → sI → sJ → Prop} (h : sOK X cX12_neighbours RX12 4 1 23) (hr : sRt X (some .int) (sPi post)) {k4 : Int32 → Int32 → Int32 → sI → sJ → Prop} (hk4 : ∀ (x1 : Int32) (x2 : Int32) (x3 : Int32) (I : sI) (J : sJ), k4 x1 x2 x3 I J → sG X 4 4 [(0, .ref 248), (1, .int x1), (2, .int x2), (3, .int x3)] [] I J) {x1 : Int32} {x3 : Int32} {s0 : Int32} {s1 : Int32} {I : sI} {J : sJ} (hw : w_X12_neighbours_58 post k4 x1 x3 s0 s1 I J) : sG X 4 58 [(0, .ref 248), (1, .int x1), (3, .int x3)] [.int s0, .int s1] I J := by
  unfold w_X12_neighbours_58 at hw
  refine g_callS [.int s0] h (c_X12_flag X hw) sPi_v mw_X12_flag lk_X12_65 rfl ⟨by decide, by decide⟩ (Nat.le_of_ble_eq_true rfl) dX12_neighbours_58 (sPi_k (fun r_58 I_58 J_58 hw => ?_))
  refine g_iadd h dX12_neighbours_61 ?_
  refine g_ni (fun v2_62 ev2_62 => ?_)
  replace hw := hw v2_62 ev2_62
  refine g_istore_n (lo2 := [(2, .int v2_62), (0, .ref 248), (1, .int x1), (3, .int x3)]) h rfl (by decide) rfl dX12_neighbours_62 ?_
  obtain ⟨v3_63, ev3_63⟩ : ∃ z : Int32, z = x3 + 1 := ⟨_, rfl⟩
  replace hw := hw v3_63 ev3_63
  refine g_iinc (v := v3_63) (lo2 := [(3, .int v3_63), (2, .int v2_62), (0, .ref 248), (1, .int x1)]) h 3 rfl (by rw [ev3_63]; rfl) (by decide) rfl dX12_neighbours_63 ?_
  refine g_goto (tgt := 4) h (by decide) dX12_neighbours_66 ?_
  exact g_sub [2, 3, 1, 0] rfl (hk4 _ _ _ _ _ hw)
def w_X12_neighbours_57 (post : Int32 → sI → sJ → Prop) (k4 : Int32 → Int32 → Int32 → sI → sJ → Prop) (x1 : Int32) (x3 : Int32) (s0 : Int32) (I : sI) (J : sJ) : Prop :=
  w_X12_neighbours_58 post k4 x1 x3 0 s0 I J
set_option maxHeartbeats 4000000 in
set_option maxRecDepth 100000 in
theorem t_X12_neighbours_57 {X : sX} {post : Int32 → sI → sJ → Prop} (h : sOK X cX12_neighbours RX12 4 1 23) (hr : sRt X (some .int) (sPi post)) {k4 : Int32 → Int32 → Int32 → sI → sJ → Prop} (hk4 : ∀ (x1 : Int32) (x2 : Int32) (x3 : Int32) (I : sI) (J : sJ), k4 x1 x2 x3 I J → sG X 4 4 [(0, .ref 248), (1, .int x1), (2, .int x2), (3, .int x3)] [] I J) {x1 : Int32} {x3 : Int32} {s0 : Int32} {I : sI} {J : sJ} (hw : w_X12_neighbours_57 post k4 x1 x3 s0 I J) : sG X 4 57 [(0, .ref 248), (1, .int x1), (3, .int x3)] [.int s0] I J := by
  unfold w_X12_neighbours_57 at hw
  refine g_iconst (v := 0) h (by decide) dX12_neighbours_57 ?_
  exact g_sub [0, 1, 2] rfl (t_X12_neighbours_58 h hr hk4 hw)
def w_X12_neighbours_4_s (post : Int32 → sI → sJ → Prop) (k4 : Int32 → Int32 → Int32 → sI → sJ → Prop) (x1 : Int32) (x2 : Int32) (x3 : Int32) (I : sI) (J : sJ) : Prop :=
  (((I 248 15) ≤ x3 → post x2 I J) ∧ (¬ (I 248 15) ≤ x3 → (vp_in x3 12 ∧ (vp_in x3 12 ∧ ((¬ ((I 255 (Int32.toNatClampNeg x3)) - (I 256 (Int32.toNatClampNeg x3))) = x1 → w_X12_neighbours_57 post k4 x1 x3 x2 I J) ∧ (((I 255 (Int32.toNatClampNeg x3)) - (I 256 (Int32.toNatClampNeg x3))) = x1 → (vp_in x3 12 ∧ w_X12_groupOf (I 255 (Int32.toNatClampNeg x3)) I J (fun (r_37 : Int32) (I_37 : sI) (J_37 : sJ) => ((vp_in x3 12 ∧ w_X12_groupOf (I_37 256 (Int32.toNatClampNeg x3)) I_37 J_37 (fun (r_47 : Int32) (I_47 : sI) (J_47 : sJ) => (((¬ r_37 = r_47 → w_X12_neighbours_57 post k4 x1 x3 x2 I_47 J_47) ∧ (r_37 = r_47 → w_X12_neighbours_58 post k4 x1 x3 1 x2 I_47 J_47))))))))))))))
def w_X12_neighbours_4_n (post : Int32 → sI → sJ → Prop) : Nat → Int32 → Int32 → Int32 → sI → sJ → Prop
  | 0 => fun _ _ _ _ _ => False
  | n + 1 => fun x1 x2 x3 I J => w_X12_neighbours_4_s post (w_X12_neighbours_4_n post n) x1 x2 x3 I J
def w_X12_neighbours_4 (post : Int32 → sI → sJ → Prop) (x1 : Int32) (x2 : Int32) (x3 : Int32) (I : sI) (J : sJ) : Prop := ∃ n, w_X12_neighbours_4_n post n x1 x2 x3 I J
set_option maxHeartbeats 4000000 in
set_option maxRecDepth 100000 in
theorem t_X12_neighbours_4_s {X : sX} {post : Int32 → sI → sJ → Prop} (h : sOK X cX12_neighbours RX12 4 1 23) (hr : sRt X (some .int) (sPi post)) {k4 : Int32 → Int32 → Int32 → sI → sJ → Prop} (hk4 : ∀ (x1 : Int32) (x2 : Int32) (x3 : Int32) (I : sI) (J : sJ), k4 x1 x2 x3 I J → sG X 4 4 [(0, .ref 248), (1, .int x1), (2, .int x2), (3, .int x3)] [] I J) {x1 : Int32} {x2 : Int32} {x3 : Int32} {I : sI} {J : sJ} (hw : w_X12_neighbours_4_s post k4 x1 x2 x3 I J) : sG X 4 4 [(0, .ref 248), (1, .int x1), (2, .int x2), (3, .int x3)] [] I J := by
  unfold w_X12_neighbours_4_s at hw
  refine g_iload_n h rfl 3 rfl dX12_neighbours_4 ?_
  refine g_aload_n h rfl 0 rfl dX12_neighbours_5 ?_
  refine g_get h is_248 fl_X12_88 rfl dX12_neighbours_6 ?_
  refine g_icmp_ge (tgt := 69) h (by decide) dX12_neighbours_9 (fun q9 => ?_) (fun q9 => ?_)
  · replace hw := hw.1 q9
    refine g_iload_n h rfl 2 rfl dX12_neighbours_69 ?_
    exact g_iret h hr dX12_neighbours_70 hw
  · replace hw := hw.2 q9
    refine g_iload_n h rfl 2 rfl dX12_neighbours_12 ?_
    refine g_aload_n h rfl 0 rfl dX12_neighbours_13 ?_
    refine g_get h is_248 fl_X12_245 fr_248_16 dX12_neighbours_14 ?_
    refine g_iload_n h rfl 3 rfl dX12_neighbours_17 ?_
    obtain ⟨hi18, hw⟩ := hw
    refine g_iald h ar_255 hi18 dX12_neighbours_18 ?_
    refine g_aload_n h rfl 0 rfl dX12_neighbours_19 ?_
    refine g_get h is_248 fl_X12_248 fr_248_17 dX12_neighbours_20 ?_
    refine g_iload_n h rfl 3 rfl dX12_neighbours_23 ?_
    obtain ⟨hi24, hw⟩ := hw
    refine g_iald h ar_256 hi24 dX12_neighbours_24 ?_
    refine g_isub h dX12_neighbours_25 ?_
    refine g_iload_n h rfl 1 rfl dX12_neighbours_26 ?_
    refine g_icmp_ne (tgt := 57) h (by decide) dX12_neighbours_27 (fun q27 => ?_) (fun q27 => ?_)
    · replace hw := hw.1 q27
      exact g_sub [0, 1, 3] rfl (t_X12_neighbours_57 h hr hk4 hw)
    · replace hw := hw.2 q27
      refine g_aload_n h rfl 0 rfl dX12_neighbours_30 ?_
      refine g_aload_n h rfl 0 rfl dX12_neighbours_31 ?_
      refine g_get h is_248 fl_X12_245 fr_248_16 dX12_neighbours_32 ?_
      refine g_iload_n h rfl 3 rfl dX12_neighbours_35 ?_
      obtain ⟨hi36, hw⟩ := hw
      refine g_iald h ar_255 hi36 dX12_neighbours_36 ?_
      refine g_callV [.int (I 255 (Int32.toNatClampNeg x3))] h (c_X12_groupOf X hw) sPi_v mw_X12_groupOf lk_X12_272 is_248 rfl rfl ⟨by decide, by decide⟩ (Nat.le_of_ble_eq_true rfl) dX12_neighbours_37 (sPi_k (fun r_37 I_37 J_37 hw => ?_))
      refine g_aload_n h rfl 0 rfl dX12_neighbours_40 ?_
      refine g_aload_n h rfl 0 rfl dX12_neighbours_41 ?_
      refine g_get h is_248 fl_X12_248 fr_248_17 dX12_neighbours_42 ?_
      refine g_iload_n h rfl 3 rfl dX12_neighbours_45 ?_
      obtain ⟨hi46, hw⟩ := hw
      refine g_iald h ar_256 hi46 dX12_neighbours_46 ?_
      refine g_callV [.int (I_37 256 (Int32.toNatClampNeg x3))] h (c_X12_groupOf X hw) sPi_v mw_X12_groupOf lk_X12_272 is_248 rfl rfl ⟨by decide, by decide⟩ (Nat.le_of_ble_eq_true rfl) dX12_neighbours_47 (sPi_k (fun r_47 I_47 J_47 hw => ?_))
      refine g_icmp_ne (tgt := 57) h (by decide) dX12_neighbours_50 (fun q50 => ?_) (fun q50 => ?_)
      · replace hw := hw.1 q50
        exact g_sub [0, 1, 3] rfl (t_X12_neighbours_57 h hr hk4 hw)
      · replace hw := hw.2 q50
        refine g_iconst (v := 1) h (by decide) dX12_neighbours_53 ?_
        refine g_goto (tgt := 58) h (by decide) dX12_neighbours_54 ?_
        exact g_sub [0, 1, 3] rfl (t_X12_neighbours_58 h hr hk4 hw)
theorem t_X12_neighbours_4 {X : sX} {post : Int32 → sI → sJ → Prop} (h : sOK X cX12_neighbours RX12 4 1 23) (hr : sRt X (some .int) (sPi post)) {x1 : Int32} {x2 : Int32} {x3 : Int32} {I : sI} {J : sJ} (hw : w_X12_neighbours_4 post x1 x2 x3 I J) : sG X 4 4 [(0, .ref 248), (1, .int x1), (2, .int x2), (3, .int x3)] [] I J := by
  obtain ⟨n, hw⟩ := hw
  induction n generalizing x1 x2 x3 I J with
  | zero => exact hw.elim
  | succ n ih => exact t_X12_neighbours_4_s h hr (fun _ _ _ _ _ q => ih q) hw
def w_X12_neighbours (a1 : Int32) (I : sI) (J : sJ) (post : Int32 → sI → sJ → Prop) : Prop :=
  w_X12_neighbours_4 post a1 0 0 I J
set_option maxHeartbeats 4000000 in
set_option maxRecDepth 100000 in
theorem t_X12_neighbours {X : sX} {a1 : Int32} {I : sI} {J : sJ} {post : Int32 → sI → sJ → Prop} (h : sOK X cX12_neighbours RX12 4 1 23) (hr : sRt X (some .int) (sPi post)) (hw : w_X12_neighbours a1 I J post) : sG X 4 0 [(0, .ref 248), (1, .int a1)] [] I J := by
  unfold w_X12_neighbours at hw
  refine g_iconst (v := 0) h (by decide) dX12_neighbours_0 ?_
  refine g_istore_n (lo2 := [(2, .int 0), (0, .ref 248), (1, .int a1)]) h rfl (by decide) rfl dX12_neighbours_1 ?_
  refine g_iconst (v := 0) h (by decide) dX12_neighbours_2 ?_
  refine g_istore_n (lo2 := [(3, .int 0), (2, .int 0), (0, .ref 248), (1, .int a1)]) h rfl (by decide) rfl dX12_neighbours_3 ?_
  exact g_sub [2, 3, 1, 0] rfl (t_X12_neighbours_4 h hr hw)
theorem c_X12_neighbours (X : sX) {a1 : Int32} {I : sI} {J : sJ} {post : Int32 → sI → sJ → Prop} (hw : w_X12_neighbours a1 I J post) : sCall X yX12_neighbours cX12_neighbours 4 (some .int) 1 23 [.ref 248, .int a1] I J (sPi post) := sCall_of (by decide +kernel) (Nat.le_of_ble_eq_true rfl) (fun X h hr => t_X12_neighbours h hr hw)
theorem dX12_way_0 : decode cX12_way 0 = .ok (.aload_n 0, 1) := by decide +kernel
theorem dX12_way_1 : decode cX12_way 1 = .ok (.iconst 0, 1) := by decide +kernel
theorem dX12_way_2 : decode cX12_way 2 = .ok (.putfield 1, 3) := by decide +kernel
theorem dX12_way_5 : decode cX12_way 5 = .ok (.aload_n 0, 1) := by decide +kernel
theorem dX12_way_6 : decode cX12_way 6 = .ok (.iconst 1, 1) := by decide +kernel
theorem dX12_way_7 : decode cX12_way 7 = .ok (.invokevirtual 275, 3) := by decide +kernel
theorem dX12_way_10 : decode cX12_way 10 = .ok (.istore_n 1, 1) := by decide +kernel
theorem dX12_way_11 : decode cX12_way 11 = .ok (.aload_n 0, 1) := by decide +kernel
theorem dX12_way_12 : decode cX12_way 12 = .ok (.iconst (-1), 1) := by decide +kernel
theorem dX12_way_13 : decode cX12_way 13 = .ok (.invokevirtual 275, 3) := by decide +kernel
theorem dX12_way_16 : decode cX12_way 16 = .ok (.istore_n 2, 1) := by decide +kernel
theorem dX12_way_17 : decode cX12_way 17 = .ok (.aload_n 0, 1) := by decide +kernel
theorem dX12_way_18 : decode cX12_way 18 = .ok (.iconst 0, 1) := by decide +kernel
theorem dX12_way_19 : decode cX12_way 19 = .ok (.putfield 11, 3) := by decide +kernel
theorem dX12_way_22 : decode cX12_way 22 = .ok (.aload_n 0, 1) := by decide +kernel
theorem dX12_way_23 : decode cX12_way 23 = .ok (.iload_n 1, 1) := by decide +kernel
theorem dX12_way_24 : decode cX12_way 24 = .ok (.i2l, 1) := by decide +kernel
theorem dX12_way_25 : decode cX12_way 25 = .ok (.invokevirtual 18, 3) := by decide +kernel
theorem dX12_way_28 : decode cX12_way 28 = .ok (.aload_n 0, 1) := by decide +kernel
theorem dX12_way_29 : decode cX12_way 29 = .ok (.iload_n 2, 1) := by decide +kernel
theorem dX12_way_30 : decode cX12_way 30 = .ok (.i2l, 1) := by decide +kernel
theorem dX12_way_31 : decode cX12_way 31 = .ok (.invokevirtual 18, 3) := by decide +kernel
theorem dX12_way_34 : decode cX12_way 34 = .ok (.iload_n 1, 1) := by decide +kernel
theorem dX12_way_35 : decode cX12_way 35 = .ok (.iload_n 2, 1) := by decide +kernel
theorem dX12_way_36 : decode cX12_way 36 = .ok (.if_icmp .le 7, 3) := by decide +kernel
theorem dX12_way_39 : decode cX12_way 39 = .ok (.iconst 1, 1) := by decide +kernel
theorem dX12_way_40 : decode cX12_way 40 = .ok (.goto 13, 3) := by decide +kernel
theorem dX12_way_43 : decode cX12_way 43 = .ok (.iload_n 1, 1) := by decide +kernel
theorem dX12_way_44 : decode cX12_way 44 = .ok (.iload_n 2, 1) := by decide +kernel
theorem dX12_way_45 : decode cX12_way 45 = .ok (.if_icmp .ge 7, 3) := by decide +kernel
theorem dX12_way_48 : decode cX12_way 48 = .ok (.iconst 2, 1) := by decide +kernel
theorem dX12_way_49 : decode cX12_way 49 = .ok (.goto 4, 3) := by decide +kernel
theorem dX12_way_52 : decode cX12_way 52 = .ok (.iconst 0, 1) := by decide +kernel
theorem dX12_way_53 : decode cX12_way 53 = .ok (.ireturn, 1) := by decide +kernel
def w_X12_way (I : sI) (J : sJ) (post : Int32 → sI → sJ → Prop) : Prop :=
  (∀ I_2 : sI, I_2 = sUI I 248 0 0 → w_X12_neighbours 1 I_2 J (fun (r_7 : Int32) (I_7 : sI) (J_7 : sJ) => (w_X12_neighbours (-1) I_7 J_7 (fun (r_13 : Int32) (I_13 : sI) (J_13 : sJ) => ((∀ I_19 : sI, I_19 = sUI I_13 248 1 0 → w_X12_enters (Int32.toInt64 r_7) I_19 J_13 (fun (I_25 : sI) (J_25 : sJ) => (w_X12_enters (Int32.toInt64 r_13) I_25 J_25 (fun (I_31 : sI) (J_31 : sJ) => (((r_7 ≤ r_13 → ((r_13 ≤ r_7 → post 0 I_31 J_31) ∧ (¬ r_13 ≤ r_7 → post 2 I_31 J_31))) ∧ (¬ r_7 ≤ r_13 → post 1 I_31 J_31))))))))))))
set_option maxHeartbeats 4000000 in
set_option maxRecDepth 100000 in
theorem t_X12_way {X : sX} {I : sI} {J : sJ} {post : Int32 → sI → sJ → Prop} (h : sOK X cX12_way RX12 3 2 46) (hr : sRt X (some .int) (sPi post)) (hw : w_X12_way I J post) : sG X 3 0 [(0, .ref 248)] [] I J := by
  unfold w_X12_way at hw
  refine g_aload_n h rfl 0 rfl dX12_way_0 ?_
  refine g_iconst (v := 0) h (by decide) dX12_way_1 ?_
  refine g_putI h is_248 fl_X12_1 rfl rfl dX12_way_2 ?_
  refine g_nI (fun I_2 eI_2 => ?_)
  replace hw := hw I_2 eI_2
  refine g_aload_n h rfl 0 rfl dX12_way_5 ?_
  refine g_iconst (v := 1) h (by decide) dX12_way_6 ?_
  refine g_callV [.int 1] h (c_X12_neighbours X hw) sPi_v mw_X12_neighbours lk_X12_275 is_248 rfl rfl ⟨by decide, by decide⟩ (Nat.le_of_ble_eq_true rfl) dX12_way_7 (sPi_k (fun r_7 I_7 J_7 hw => ?_))
  refine g_istore_n (lo2 := [(1, .int r_7), (0, .ref 248)]) h rfl (by decide) rfl dX12_way_10 ?_
  refine g_aload_n h rfl 1 rfl dX12_way_11 ?_
  refine g_iconst (v := (-1)) h (by decide) dX12_way_12 ?_
  refine g_callV [.int (-1)] h (c_X12_neighbours X hw) sPi_v mw_X12_neighbours lk_X12_275 is_248 rfl rfl ⟨by decide, by decide⟩ (Nat.le_of_ble_eq_true rfl) dX12_way_13 (sPi_k (fun r_13 I_13 J_13 hw => ?_))
  refine g_istore_n (lo2 := [(2, .int r_13), (1, .int r_7), (0, .ref 248)]) h rfl (by decide) rfl dX12_way_16 ?_
  refine g_aload_n h rfl 2 rfl dX12_way_17 ?_
  refine g_iconst (v := 0) h (by decide) dX12_way_18 ?_
  refine g_putI h is_248 fl_X12_11 rfl rfl dX12_way_19 ?_
  refine g_nI (fun I_19 eI_19 => ?_)
  replace hw := hw I_19 eI_19
  refine g_aload_n h rfl 2 rfl dX12_way_22 ?_
  refine g_iload_n h rfl 1 rfl dX12_way_23 ?_
  refine g_i2l h dX12_way_24 ?_
  refine g_callV [.long (Int32.toInt64 r_7)] h (c_X12_enters X hw) sPv_v mw_X12_enters lk_X12_18 is_248 rfl rfl ⟨by decide, by decide⟩ (Nat.le_of_ble_eq_true rfl) dX12_way_25 (sPv_k (fun I_25 J_25 hw => ?_))
  refine g_aload_n h rfl 2 rfl dX12_way_28 ?_
  refine g_iload_n h rfl 0 rfl dX12_way_29 ?_
  refine g_i2l h dX12_way_30 ?_
  refine g_callV [.long (Int32.toInt64 r_13)] h (c_X12_enters X hw) sPv_v mw_X12_enters lk_X12_18 is_248 rfl rfl ⟨by decide, by decide⟩ (Nat.le_of_ble_eq_true rfl) dX12_way_31 (sPv_k (fun I_31 J_31 hw => ?_))
  refine g_iload_n h rfl 1 rfl dX12_way_34 ?_
  refine g_iload_n h rfl 0 rfl dX12_way_35 ?_
  refine g_icmp_le (tgt := 43) h (by decide) dX12_way_36 (fun q36 => ?_) (fun q36 => ?_)
  · replace hw := hw.1 q36
    refine g_iload_n h rfl 1 rfl dX12_way_43 ?_
    refine g_iload_n h rfl 0 rfl dX12_way_44 ?_
    refine g_icmp_ge (tgt := 52) h (by decide) dX12_way_45 (fun q45 => ?_) (fun q45 => ?_)
    · replace hw := hw.1 q45
      refine g_iconst (v := 0) h (by decide) dX12_way_52 ?_
      exact g_iret h hr dX12_way_53 hw
    · replace hw := hw.2 q45
      refine g_iconst (v := 2) h (by decide) dX12_way_48 ?_
      refine g_goto (tgt := 53) h (by decide) dX12_way_49 ?_
      exact g_iret h hr dX12_way_53 hw
  · replace hw := hw.2 q36
    refine g_iconst (v := 1) h (by decide) dX12_way_39 ?_
    refine g_goto (tgt := 53) h (by decide) dX12_way_40 ?_
    exact g_iret h hr dX12_way_53 hw
theorem c_X12_way (X : sX) {I : sI} {J : sJ} {post : Int32 → sI → sJ → Prop} (hw : w_X12_way I J post) : sCall X yX12_way cX12_way 3 (some .int) 2 46 [.ref 248] I J (sPi post) := sCall_of (by decide +kernel) (Nat.le_of_ble_eq_true rfl) (fun X h hr => t_X12_way h hr hw)
theorem dX12_lot_0 : decode cX12_lot 0 = .ok (.aload_n 0, 1) := by decide +kernel
theorem dX12_lot_1 : decode cX12_lot 1 = .ok (.iconst 0, 1) := by decide +kernel
theorem dX12_lot_2 : decode cX12_lot 2 = .ok (.putfield 1, 3) := by decide +kernel
theorem dX12_lot_5 : decode cX12_lot 5 = .ok (.aload_n 0, 1) := by decide +kernel
theorem dX12_lot_6 : decode cX12_lot 6 = .ok (.iconst 1, 1) := by decide +kernel
theorem dX12_lot_7 : decode cX12_lot 7 = .ok (.invokevirtual 275, 3) := by decide +kernel
theorem dX12_lot_10 : decode cX12_lot 10 = .ok (.aload_n 0, 1) := by decide +kernel
theorem dX12_lot_11 : decode cX12_lot 11 = .ok (.iconst (-1), 1) := by decide +kernel
theorem dX12_lot_12 : decode cX12_lot 12 = .ok (.invokevirtual 275, 3) := by decide +kernel
theorem dX12_lot_15 : decode cX12_lot 15 = .ok (.iadd, 1) := by decide +kernel
theorem dX12_lot_16 : decode cX12_lot 16 = .ok (.istore_n 1, 1) := by decide +kernel
theorem dX12_lot_17 : decode cX12_lot 17 = .ok (.aload_n 0, 1) := by decide +kernel
theorem dX12_lot_18 : decode cX12_lot 18 = .ok (.iconst 1, 1) := by decide +kernel
theorem dX12_lot_19 : decode cX12_lot 19 = .ok (.invokevirtual 275, 3) := by decide +kernel
theorem dX12_lot_22 : decode cX12_lot 22 = .ok (.aload_n 0, 1) := by decide +kernel
theorem dX12_lot_23 : decode cX12_lot 23 = .ok (.iconst (-1), 1) := by decide +kernel
theorem dX12_lot_24 : decode cX12_lot 24 = .ok (.invokevirtual 275, 3) := by decide +kernel
theorem dX12_lot_27 : decode cX12_lot 27 = .ok (.invokestatic 237, 3) := by decide +kernel
theorem dX12_lot_30 : decode cX12_lot 30 = .ok (.istore_n 2, 1) := by decide +kernel
theorem dX12_lot_31 : decode cX12_lot 31 = .ok (.iconst 0, 1) := by decide +kernel
theorem dX12_lot_32 : decode cX12_lot 32 = .ok (.istore_n 3, 1) := by decide +kernel
theorem dX12_lot_33 : decode cX12_lot 33 = .ok (.iconst 0, 1) := by decide +kernel
theorem dX12_lot_34 : decode cX12_lot 34 = .ok (.istore 4, 2) := by decide +kernel
theorem dX12_lot_36 : decode cX12_lot 36 = .ok (.iload 4, 2) := by decide +kernel
theorem dX12_lot_38 : decode cX12_lot 38 = .ok (.iconst 1, 1) := by decide +kernel
theorem dX12_lot_39 : decode cX12_lot 39 = .ok (.iload_n 1, 1) := by decide +kernel
theorem dX12_lot_40 : decode cX12_lot 40 = .ok (.ishl, 1) := by decide +kernel
theorem dX12_lot_41 : decode cX12_lot 41 = .ok (.if_icmp .ge 40, 3) := by decide +kernel
theorem dX12_lot_44 : decode cX12_lot 44 = .ok (.iload 4, 2) := by decide +kernel
theorem dX12_lot_46 : decode cX12_lot 46 = .ok (.invokestatic 278, 3) := by decide +kernel
theorem dX12_lot_49 : decode cX12_lot 49 = .ok (.istore 5, 2) := by decide +kernel
theorem dX12_lot_51 : decode cX12_lot 51 = .ok (.iload_n 3, 1) := by decide +kernel
theorem dX12_lot_52 : decode cX12_lot 52 = .ok (.iload 5, 2) := by decide +kernel
theorem dX12_lot_54 : decode cX12_lot 54 = .ok (.iload_n 1, 1) := by decide +kernel
theorem dX12_lot_55 : decode cX12_lot 55 = .ok (.iload 5, 2) := by decide +kernel
theorem dX12_lot_57 : decode cX12_lot 57 = .ok (.isub, 1) := by decide +kernel
theorem dX12_lot_58 : decode cX12_lot 58 = .ok (.invokestatic 237, 3) := by decide +kernel
theorem dX12_lot_61 : decode cX12_lot 61 = .ok (.iload_n 2, 1) := by decide +kernel
theorem dX12_lot_62 : decode cX12_lot 62 = .ok (.if_icmp .lt 7, 3) := by decide +kernel
theorem dX12_lot_65 : decode cX12_lot 65 = .ok (.iconst 1, 1) := by decide +kernel
theorem dX12_lot_66 : decode cX12_lot 66 = .ok (.goto 4, 3) := by decide +kernel
theorem dX12_lot_69 : decode cX12_lot 69 = .ok (.iconst 0, 1) := by decide +kernel
theorem dX12_lot_70 : decode cX12_lot 70 = .ok (.invokestatic 65, 3) := by decide +kernel
theorem dX12_lot_73 : decode cX12_lot 73 = .ok (.iadd, 1) := by decide +kernel
theorem dX12_lot_74 : decode cX12_lot 74 = .ok (.istore_n 3, 1) := by decide +kernel
theorem dX12_lot_75 : decode cX12_lot 75 = .ok (.iinc 4 1, 3) := by decide +kernel
theorem dX12_lot_78 : decode cX12_lot 78 = .ok (.goto (-42), 3) := by decide +kernel
theorem dX12_lot_81 : decode cX12_lot 81 = .ok (.aload_n 0, 1) := by decide +kernel
theorem dX12_lot_82 : decode cX12_lot 82 = .ok (.iconst 0, 1) := by decide +kernel
theorem dX12_lot_83 : decode cX12_lot 83 = .ok (.putfield 11, 3) := by decide +kernel
theorem dX12_lot_86 : decode cX12_lot 86 = .ok (.aload_n 0, 1) := by decide +kernel
theorem dX12_lot_87 : decode cX12_lot 87 = .ok (.iload_n 3, 1) := by decide +kernel
theorem dX12_lot_88 : decode cX12_lot 88 = .ok (.i2l, 1) := by decide +kernel
theorem dX12_lot_89 : decode cX12_lot 89 = .ok (.lconst 1, 1) := by decide +kernel
theorem dX12_lot_90 : decode cX12_lot 90 = .ok (.iload_n 1, 1) := by decide +kernel
theorem dX12_lot_91 : decode cX12_lot 91 = .ok (.lshl, 1) := by decide +kernel
theorem dX12_lot_92 : decode cX12_lot 92 = .ok (.invokevirtual 268, 3) := by decide +kernel
theorem dX12_lot_95 : decode cX12_lot 95 = .ok (.iconst 0, 1) := by decide +kernel
theorem dX12_lot_96 : decode cX12_lot 96 = .ok (.ireturn, 1) := by decide +kernel
def w_X12_lot_70 (post : Int32 → sI → sJ → Prop) (k36 : Int32 → Int32 → Int32 → Int32 → sI → sJ → Prop) (x1 : Int32) (x2 : Int32) (x4 : Int32) (s0 : Int32) (s1 : Int32) (I : sI) (J : sJ) : Prop :=
  w_X12_flag s0 I J (fun (r_70 : Int32) (I_70 : sI) (J_70 : sJ) => ((∀ v3_74 : Int32, v3_74 = s1 + r_70 → (∀ v4_75 : Int32, v4_75 = x4 + 1 → k36 x1 x2 v3_74 v4_75 I_70 J_70))))
set_option maxHeartbeats 4000000 in
set_option maxRecDepth 100000 in
theorem t_X12_lot_70 {X : sX} {post : Int32 → sI → sJ → Prop} (h : sOK X cX12_lot RX12 6 2 55) (hr : sRt X (some .int) (sPi post)) {k36 : Int32 → Int32 → Int32 → Int32 → sI → sJ → Prop} (hk36 : ∀ (x1 : Int32) (x2 : Int32) (x3 : Int32) (x4 : Int32) (I : sI) (J : sJ), k36 x1 x2 x3 x4 I J → sG X 6 36 [(0, .ref 248), (1, .int x1), (2, .int x2), (3, .int x3), (4, .int x4)] [] I J) {x1 : Int32} {x2 : Int32} {x4 : Int32} {s0 : Int32} {s1 : Int32} {I : sI} {J : sJ} (hw : w_X12_lot_70 post k36 x1 x2 x4 s0 s1 I J) : sG X 6 70 [(0, .ref 248), (1, .int x1), (2, .int x2), (4, .int x4)] [.int s0, .int s1] I J := by
  unfold w_X12_lot_70 at hw
  refine g_callS [.int s0] h (c_X12_flag X hw) sPi_v mw_X12_flag lk_X12_65 rfl ⟨by decide, by decide⟩ (Nat.le_of_ble_eq_true rfl) dX12_lot_70 (sPi_k (fun r_70 I_70 J_70 hw => ?_))
  refine g_iadd h dX12_lot_73 ?_
  refine g_ni (fun v3_74 ev3_74 => ?_)
  replace hw := hw v3_74 ev3_74
  refine g_istore_n (lo2 := [(3, .int v3_74), (0, .ref 248), (1, .int x1), (2, .int x2), (4, .int x4)]) h rfl (by decide) rfl dX12_lot_74 ?_
  obtain ⟨v4_75, ev4_75⟩ : ∃ z : Int32, z = x4 + 1 := ⟨_, rfl⟩
  replace hw := hw v4_75 ev4_75
  refine g_iinc (v := v4_75) (lo2 := [(4, .int v4_75), (3, .int v3_74), (0, .ref 248), (1, .int x1), (2, .int x2)]) h 4 rfl (by rw [ev4_75]; rfl) (by decide) rfl dX12_lot_75 ?_
  refine g_goto (tgt := 36) h (by decide) dX12_lot_78 ?_
  exact g_sub [2, 3, 4, 1, 0] rfl (hk36 _ _ _ _ _ _ hw)
def w_X12_lot_36_s (post : Int32 → sI → sJ → Prop) (k36 : Int32 → Int32 → Int32 → Int32 → sI → sJ → Prop) (x1 : Int32) (x2 : Int32) (x3 : Int32) (x4 : Int32) (I : sI) (J : sJ) : Prop :=
  (((1 <<< (x1 &&& 31)) ≤ x4 → (∀ I_83 : sI, I_83 = sUI I 248 1 0 → w_X12_entersFraction (Int32.toInt64 x3) (1 <<< (Int32.toInt64 x1 &&& 63)) I_83 J (fun (I_92 : sI) (J_92 : sJ) => (post 0 I_92 J_92)))) ∧ (¬ (1 <<< (x1 &&& 31)) ≤ x4 → w_J6_bitCount_0f7a4 x4 I J (fun (r_46 : Int32) (I_46 : sI) (J_46 : sJ) => (w_J9_max_7cf53 r_46 (x1 - r_46) I_46 J_46 (fun (r_58 : Int32) (I_58 : sI) (J_58 : sJ) => (((r_58 < x2 → w_X12_lot_70 post k36 x1 x2 x4 0 x3 I_58 J_58) ∧ (¬ r_58 < x2 → w_X12_lot_70 post k36 x1 x2 x4 1 x3 I_58 J_58))))))))
def w_X12_lot_36_n (post : Int32 → sI → sJ → Prop) : Nat → Int32 → Int32 → Int32 → Int32 → sI → sJ → Prop
  | 0 => fun _ _ _ _ _ _ => False
  | n + 1 => fun x1 x2 x3 x4 I J => w_X12_lot_36_s post (w_X12_lot_36_n post n) x1 x2 x3 x4 I J
def w_X12_lot_36 (post : Int32 → sI → sJ → Prop) (x1 : Int32) (x2 : Int32) (x3 : Int32) (x4 : Int32) (I : sI) (J : sJ) : Prop := ∃ n, w_X12_lot_36_n post n x1 x2 x3 x4 I J
set_option maxHeartbeats 4000000 in
set_option maxRecDepth 100000 in
theorem t_X12_lot_36_s {X : sX} {post : Int32 → sI → sJ → Prop} (h : sOK X cX12_lot RX12 6 2 55) (hr : sRt X (some .int) (sPi post)) {k36 : Int32 → Int32 → Int32 → Int32 → sI → sJ → Prop} (hk36 : ∀ (x1 : Int32) (x2 : Int32) (x3 : Int32) (x4 : Int32) (I : sI) (J : sJ), k36 x1 x2 x3 x4 I J → sG X 6 36 [(0, .ref 248), (1, .int x1), (2, .int x2), (3, .int x3), (4, .int x4)] [] I J) {x1 : Int32} {x2 : Int32} {x3 : Int32} {x4 : Int32} {I : sI} {J : sJ} (hw : w_X12_lot_36_s post k36 x1 x2 x3 x4 I J) : sG X 6 36 [(0, .ref 248), (1, .int x1), (2, .int x2), (3, .int x3), (4, .int x4)] [] I J := by
  unfold w_X12_lot_36_s at hw
  refine g_iload h 4 rfl dX12_lot_36 ?_
  refine g_iconst (v := 1) h (by decide) dX12_lot_38 ?_
  refine g_iload_n h rfl 1 rfl dX12_lot_39 ?_
  refine g_ishl h dX12_lot_40 ?_
  refine g_icmp_ge (tgt := 81) h (by decide) dX12_lot_41 (fun q41 => ?_) (fun q41 => ?_)
  · replace hw := hw.1 q41
    refine g_aload_n h rfl 0 rfl dX12_lot_81 ?_
    refine g_iconst (v := 0) h (by decide) dX12_lot_82 ?_
    refine g_putI h is_248 fl_X12_11 rfl rfl dX12_lot_83 ?_
    refine g_nI (fun I_83 eI_83 => ?_)
    replace hw := hw I_83 eI_83
    refine g_aload_n h rfl 0 rfl dX12_lot_86 ?_
    refine g_iload_n h rfl 3 rfl dX12_lot_87 ?_
    refine g_i2l h dX12_lot_88 ?_
    refine g_lconst (v := 1) h (by decide) dX12_lot_89 ?_
    refine g_iload_n h rfl 1 rfl dX12_lot_90 ?_
    refine g_lshl h dX12_lot_91 ?_
    refine g_callV [.long (Int32.toInt64 x3), .long (1 <<< (Int32.toInt64 x1 &&& 63))] h (c_X12_entersFraction X hw) sPv_v mw_X12_entersFraction lk_X12_268 is_248 rfl rfl ⟨by decide, by decide⟩ (Nat.le_of_ble_eq_true rfl) dX12_lot_92 (sPv_k (fun I_92 J_92 hw => ?_))
    refine g_iconst (v := 0) h (by decide) dX12_lot_95 ?_
    exact g_iret h hr dX12_lot_96 hw
  · replace hw := hw.2 q41
    refine g_iload h 4 rfl dX12_lot_44 ?_
    refine g_callS [.int x4] h (c_J6_bitCount_0f7a4 X hw) sPi_v mw_J6_bitCount_0f7a4 lk_X12_278 rfl ⟨by decide, by decide⟩ (Nat.le_of_ble_eq_true rfl) dX12_lot_46 (sPi_k (fun r_46 I_46 J_46 hw => ?_))
    refine g_istore (lo2 := [(5, .int r_46), (0, .ref 248), (1, .int x1), (2, .int x2), (3, .int x3), (4, .int x4)]) h (by decide) rfl dX12_lot_49 ?_
    refine g_iload_n h rfl 4 rfl dX12_lot_51 ?_
    refine g_iload h 0 rfl dX12_lot_52 ?_
    refine g_iload_n h rfl 2 rfl dX12_lot_54 ?_
    refine g_iload h 0 rfl dX12_lot_55 ?_
    refine g_isub h dX12_lot_57 ?_
    refine g_callS [.int r_46, .int (x1 - r_46)] h (c_J9_max_7cf53 X hw) sPi_v mw_J9_max_7cf53 lk_X12_237 rfl ⟨by decide, by decide⟩ (Nat.le_of_ble_eq_true rfl) dX12_lot_58 (sPi_k (fun r_58 I_58 J_58 hw => ?_))
    refine g_iload_n h rfl 3 rfl dX12_lot_61 ?_
    refine g_icmp_lt (tgt := 69) h (by decide) dX12_lot_62 (fun q62 => ?_) (fun q62 => ?_)
    · replace hw := hw.1 q62
      refine g_iconst (v := 0) h (by decide) dX12_lot_69 ?_
      exact g_sub [1, 2, 3, 5] rfl (t_X12_lot_70 h hr hk36 hw)
    · replace hw := hw.2 q62
      refine g_iconst (v := 1) h (by decide) dX12_lot_65 ?_
      refine g_goto (tgt := 70) h (by decide) dX12_lot_66 ?_
      exact g_sub [1, 2, 3, 5] rfl (t_X12_lot_70 h hr hk36 hw)
theorem t_X12_lot_36 {X : sX} {post : Int32 → sI → sJ → Prop} (h : sOK X cX12_lot RX12 6 2 55) (hr : sRt X (some .int) (sPi post)) {x1 : Int32} {x2 : Int32} {x3 : Int32} {x4 : Int32} {I : sI} {J : sJ} (hw : w_X12_lot_36 post x1 x2 x3 x4 I J) : sG X 6 36 [(0, .ref 248), (1, .int x1), (2, .int x2), (3, .int x3), (4, .int x4)] [] I J := by
  obtain ⟨n, hw⟩ := hw
  induction n generalizing x1 x2 x3 x4 I J with
  | zero => exact hw.elim
  | succ n ih => exact t_X12_lot_36_s h hr (fun _ _ _ _ _ _ q => ih q) hw
def w_X12_lot (I : sI) (J : sJ) (post : Int32 → sI → sJ → Prop) : Prop :=
  (∀ I_2 : sI, I_2 = sUI I 248 0 0 → w_X12_neighbours 1 I_2 J (fun (r_7 : Int32) (I_7 : sI) (J_7 : sJ) => (w_X12_neighbours (-1) I_7 J_7 (fun (r_12 : Int32) (I_12 : sI) (J_12 : sJ) => ((∀ v1_16 : Int32, v1_16 = r_7 + r_12 → w_X12_neighbours 1 I_12 J_12 (fun (r_19 : Int32) (I_19 : sI) (J_19 : sJ) => (w_X12_neighbours (-1) I_19 J_19 (fun (r_24 : Int32) (I_24 : sI) (J_24 : sJ) => (w_J9_max_7cf53 r_19 r_24 I_24 J_24 (fun (r_27 : Int32) (I_27 : sI) (J_27 : sJ) => (w_X12_lot_36 post v1_16 r_27 0 0 I_27 J_27))))))))))))
set_option maxHeartbeats 4000000 in
set_option maxRecDepth 100000 in
theorem t_X12_lot {X : sX} {I : sI} {J : sJ} {post : Int32 → sI → sJ → Prop} (h : sOK X cX12_lot RX12 6 2 55) (hr : sRt X (some .int) (sPi post)) (hw : w_X12_lot I J post) : sG X 6 0 [(0, .ref 248)] [] I J := by
  unfold w_X12_lot at hw
  refine g_aload_n h rfl 0 rfl dX12_lot_0 ?_
  refine g_iconst (v := 0) h (by decide) dX12_lot_1 ?_
  refine g_putI h is_248 fl_X12_1 rfl rfl dX12_lot_2 ?_
  refine g_nI (fun I_2 eI_2 => ?_)
  replace hw := hw I_2 eI_2
  refine g_aload_n h rfl 0 rfl dX12_lot_5 ?_
  refine g_iconst (v := 1) h (by decide) dX12_lot_6 ?_
  refine g_callV [.int 1] h (c_X12_neighbours X hw) sPi_v mw_X12_neighbours lk_X12_275 is_248 rfl rfl ⟨by decide, by decide⟩ (Nat.le_of_ble_eq_true rfl) dX12_lot_7 (sPi_k (fun r_7 I_7 J_7 hw => ?_))
  refine g_aload_n h rfl 0 rfl dX12_lot_10 ?_
  refine g_iconst (v := (-1)) h (by decide) dX12_lot_11 ?_
  refine g_callV [.int (-1)] h (c_X12_neighbours X hw) sPi_v mw_X12_neighbours lk_X12_275 is_248 rfl rfl ⟨by decide, by decide⟩ (Nat.le_of_ble_eq_true rfl) dX12_lot_12 (sPi_k (fun r_12 I_12 J_12 hw => ?_))
  refine g_iadd h dX12_lot_15 ?_
  refine g_ni (fun v1_16 ev1_16 => ?_)
  replace hw := hw v1_16 ev1_16
  refine g_istore_n (lo2 := [(1, .int v1_16), (0, .ref 248)]) h rfl (by decide) rfl dX12_lot_16 ?_
  refine g_aload_n h rfl 1 rfl dX12_lot_17 ?_
  refine g_iconst (v := 1) h (by decide) dX12_lot_18 ?_
  refine g_callV [.int 1] h (c_X12_neighbours X hw) sPi_v mw_X12_neighbours lk_X12_275 is_248 rfl rfl ⟨by decide, by decide⟩ (Nat.le_of_ble_eq_true rfl) dX12_lot_19 (sPi_k (fun r_19 I_19 J_19 hw => ?_))
  refine g_aload_n h rfl 1 rfl dX12_lot_22 ?_
  refine g_iconst (v := (-1)) h (by decide) dX12_lot_23 ?_
  refine g_callV [.int (-1)] h (c_X12_neighbours X hw) sPi_v mw_X12_neighbours lk_X12_275 is_248 rfl rfl ⟨by decide, by decide⟩ (Nat.le_of_ble_eq_true rfl) dX12_lot_24 (sPi_k (fun r_24 I_24 J_24 hw => ?_))
  refine g_callS [.int r_19, .int r_24] h (c_J9_max_7cf53 X hw) sPi_v mw_J9_max_7cf53 lk_X12_237 rfl ⟨by decide, by decide⟩ (Nat.le_of_ble_eq_true rfl) dX12_lot_27 (sPi_k (fun r_27 I_27 J_27 hw => ?_))
  refine g_istore_n (lo2 := [(2, .int r_27), (1, .int v1_16), (0, .ref 248)]) h rfl (by decide) rfl dX12_lot_30 ?_
  refine g_iconst (v := 0) h (by decide) dX12_lot_31 ?_
  refine g_istore_n (lo2 := [(3, .int 0), (2, .int r_27), (1, .int v1_16), (0, .ref 248)]) h rfl (by decide) rfl dX12_lot_32 ?_
  refine g_iconst (v := 0) h (by decide) dX12_lot_33 ?_
  refine g_istore (lo2 := [(4, .int 0), (3, .int 0), (2, .int r_27), (1, .int v1_16), (0, .ref 248)]) h (by decide) rfl dX12_lot_34 ?_
  exact g_sub [4, 3, 2, 1, 0] rfl (t_X12_lot_36 h hr hw)
theorem c_X12_lot (X : sX) {I : sI} {J : sJ} {post : Int32 → sI → sJ → Prop} (hw : w_X12_lot I J post) : sCall X yX12_lot cX12_lot 6 (some .int) 2 55 [.ref 248] I J (sPi post) := sCall_of (by decide +kernel) (Nat.le_of_ble_eq_true rfl) (fun X h hr => t_X12_lot h hr hw)
theorem dX12_isClear_0 : decode cX12_isClear 0 = .ok (.aload_n 0, 1) := by decide +kernel
theorem dX12_isClear_1 : decode cX12_isClear 1 = .ok (.getfield 79, 3) := by decide +kernel
theorem dX12_isClear_4 : decode cX12_isClear 4 = .ok (.istore_n 2, 1) := by decide +kernel
theorem dX12_isClear_5 : decode cX12_isClear 5 = .ok (.iconst 0, 1) := by decide +kernel
theorem dX12_isClear_6 : decode cX12_isClear 6 = .ok (.istore_n 3, 1) := by decide +kernel
theorem dX12_isClear_7 : decode cX12_isClear 7 = .ok (.iload_n 3, 1) := by decide +kernel
theorem dX12_isClear_8 : decode cX12_isClear 8 = .ok (.aload_n 0, 1) := by decide +kernel
theorem dX12_isClear_9 : decode cX12_isClear 9 = .ok (.getfield 79, 3) := by decide +kernel
theorem dX12_isClear_12 : decode cX12_isClear 12 = .ok (.if_icmp .ge 16, 3) := by decide +kernel
theorem dX12_isClear_15 : decode cX12_isClear 15 = .ok (.aload_n 0, 1) := by decide +kernel
theorem dX12_isClear_16 : decode cX12_isClear 16 = .ok (.getfield 283, 3) := by decide +kernel
theorem dX12_isClear_19 : decode cX12_isClear 19 = .ok (.iload_n 3, 1) := by decide +kernel
theorem dX12_isClear_20 : decode cX12_isClear 20 = .ok (.iconst 0, 1) := by decide +kernel
theorem dX12_isClear_21 : decode cX12_isClear 21 = .ok (.iastore, 1) := by decide +kernel
theorem dX12_isClear_22 : decode cX12_isClear 22 = .ok (.iinc 3 1, 3) := by decide +kernel
theorem dX12_isClear_25 : decode cX12_isClear 25 = .ok (.goto (-18), 3) := by decide +kernel
theorem dX12_isClear_28 : decode cX12_isClear 28 = .ok (.iconst 0, 1) := by decide +kernel
theorem dX12_isClear_29 : decode cX12_isClear 29 = .ok (.istore_n 3, 1) := by decide +kernel
theorem dX12_isClear_30 : decode cX12_isClear 30 = .ok (.iload_n 3, 1) := by decide +kernel
theorem dX12_isClear_31 : decode cX12_isClear 31 = .ok (.aload_n 0, 1) := by decide +kernel
theorem dX12_isClear_32 : decode cX12_isClear 32 = .ok (.getfield 88, 3) := by decide +kernel
theorem dX12_isClear_35 : decode cX12_isClear 35 = .ok (.if_icmp .ge 36, 3) := by decide +kernel
theorem dX12_isClear_38 : decode cX12_isClear 38 = .ok (.aload_n 0, 1) := by decide +kernel
theorem dX12_isClear_39 : decode cX12_isClear 39 = .ok (.getfield 283, 3) := by decide +kernel
theorem dX12_isClear_42 : decode cX12_isClear 42 = .ok (.aload_n 0, 1) := by decide +kernel
theorem dX12_isClear_43 : decode cX12_isClear 43 = .ok (.getfield 245, 3) := by decide +kernel
theorem dX12_isClear_46 : decode cX12_isClear 46 = .ok (.iload_n 3, 1) := by decide +kernel
theorem dX12_isClear_47 : decode cX12_isClear 47 = .ok (.iaload, 1) := by decide +kernel
theorem dX12_isClear_48 : decode cX12_isClear 48 = .ok (.dup2, 1) := by decide +kernel
theorem dX12_isClear_49 : decode cX12_isClear 49 = .ok (.iaload, 1) := by decide +kernel
theorem dX12_isClear_50 : decode cX12_isClear 50 = .ok (.iload_n 1, 1) := by decide +kernel
theorem dX12_isClear_51 : decode cX12_isClear 51 = .ok (.iload_n 3, 1) := by decide +kernel
theorem dX12_isClear_52 : decode cX12_isClear 52 = .ok (.invokestatic 242, 3) := by decide +kernel
theorem dX12_isClear_55 : decode cX12_isClear 55 = .ok (.ifCond .eq 7, 3) := by decide +kernel
theorem dX12_isClear_58 : decode cX12_isClear 58 = .ok (.iconst 0, 1) := by decide +kernel
theorem dX12_isClear_59 : decode cX12_isClear 59 = .ok (.goto 4, 3) := by decide +kernel
theorem dX12_isClear_62 : decode cX12_isClear 62 = .ok (.iconst 1, 1) := by decide +kernel
theorem dX12_isClear_63 : decode cX12_isClear 63 = .ok (.iadd, 1) := by decide +kernel
theorem dX12_isClear_64 : decode cX12_isClear 64 = .ok (.iastore, 1) := by decide +kernel
theorem dX12_isClear_65 : decode cX12_isClear 65 = .ok (.iinc 3 1, 3) := by decide +kernel
theorem dX12_isClear_68 : decode cX12_isClear 68 = .ok (.goto (-38), 3) := by decide +kernel
theorem dX12_isClear_71 : decode cX12_isClear 71 = .ok (.iconst 1, 1) := by decide +kernel
theorem dX12_isClear_72 : decode cX12_isClear 72 = .ok (.istore_n 3, 1) := by decide +kernel
theorem dX12_isClear_73 : decode cX12_isClear 73 = .ok (.iload_n 3, 1) := by decide +kernel
theorem dX12_isClear_74 : decode cX12_isClear 74 = .ok (.ifCond .eq 111, 3) := by decide +kernel
theorem dX12_isClear_77 : decode cX12_isClear 77 = .ok (.iconst 0, 1) := by decide +kernel
theorem dX12_isClear_78 : decode cX12_isClear 78 = .ok (.istore_n 3, 1) := by decide +kernel
theorem dX12_isClear_79 : decode cX12_isClear 79 = .ok (.iconst 0, 1) := by decide +kernel
theorem dX12_isClear_80 : decode cX12_isClear 80 = .ok (.istore 4, 2) := by decide +kernel
theorem dX12_isClear_82 : decode cX12_isClear 82 = .ok (.iload 4, 2) := by decide +kernel
theorem dX12_isClear_84 : decode cX12_isClear 84 = .ok (.aload_n 0, 1) := by decide +kernel
theorem dX12_isClear_85 : decode cX12_isClear 85 = .ok (.getfield 79, 3) := by decide +kernel
theorem dX12_isClear_88 : decode cX12_isClear 88 = .ok (.if_icmp .ge 94, 3) := by decide +kernel
theorem dX12_isClear_91 : decode cX12_isClear 91 = .ok (.aload_n 0, 1) := by decide +kernel
theorem dX12_isClear_92 : decode cX12_isClear 92 = .ok (.getfield 283, 3) := by decide +kernel
theorem dX12_isClear_95 : decode cX12_isClear 95 = .ok (.iload 4, 2) := by decide +kernel
theorem dX12_isClear_97 : decode cX12_isClear 97 = .ok (.iaload, 1) := by decide +kernel
theorem dX12_isClear_98 : decode cX12_isClear 98 = .ok (.ifCond .eq 6, 3) := by decide +kernel
theorem dX12_isClear_101 : decode cX12_isClear 101 = .ok (.goto 75, 3) := by decide +kernel
theorem dX12_isClear_104 : decode cX12_isClear 104 = .ok (.aload_n 0, 1) := by decide +kernel
theorem dX12_isClear_105 : decode cX12_isClear 105 = .ok (.getfield 283, 3) := by decide +kernel
theorem dX12_isClear_108 : decode cX12_isClear 108 = .ok (.iload 4, 2) := by decide +kernel
theorem dX12_isClear_110 : decode cX12_isClear 110 = .ok (.iconst (-1), 1) := by decide +kernel
theorem dX12_isClear_111 : decode cX12_isClear 111 = .ok (.iastore, 1) := by decide +kernel
theorem dX12_isClear_112 : decode cX12_isClear 112 = .ok (.iinc 2 (-1), 3) := by decide +kernel
theorem dX12_isClear_115 : decode cX12_isClear 115 = .ok (.iconst 1, 1) := by decide +kernel
theorem dX12_isClear_116 : decode cX12_isClear 116 = .ok (.istore_n 3, 1) := by decide +kernel
theorem dX12_isClear_117 : decode cX12_isClear 117 = .ok (.iconst 0, 1) := by decide +kernel
theorem dX12_isClear_118 : decode cX12_isClear 118 = .ok (.istore 5, 2) := by decide +kernel
theorem dX12_isClear_120 : decode cX12_isClear 120 = .ok (.iload 5, 2) := by decide +kernel
theorem dX12_isClear_122 : decode cX12_isClear 122 = .ok (.aload_n 0, 1) := by decide +kernel
theorem dX12_isClear_123 : decode cX12_isClear 123 = .ok (.getfield 88, 3) := by decide +kernel
theorem dX12_isClear_126 : decode cX12_isClear 126 = .ok (.if_icmp .ge 50, 3) := by decide +kernel
theorem dX12_isClear_129 : decode cX12_isClear 129 = .ok (.aload_n 0, 1) := by decide +kernel
theorem dX12_isClear_130 : decode cX12_isClear 130 = .ok (.getfield 283, 3) := by decide +kernel
theorem dX12_isClear_133 : decode cX12_isClear 133 = .ok (.aload_n 0, 1) := by decide +kernel
theorem dX12_isClear_134 : decode cX12_isClear 134 = .ok (.getfield 245, 3) := by decide +kernel
theorem dX12_isClear_137 : decode cX12_isClear 137 = .ok (.iload 5, 2) := by decide +kernel
theorem dX12_isClear_139 : decode cX12_isClear 139 = .ok (.iaload, 1) := by decide +kernel
theorem dX12_isClear_140 : decode cX12_isClear 140 = .ok (.dup2, 1) := by decide +kernel
theorem dX12_isClear_141 : decode cX12_isClear 141 = .ok (.iaload, 1) := by decide +kernel
theorem dX12_isClear_142 : decode cX12_isClear 142 = .ok (.iload_n 1, 1) := by decide +kernel
theorem dX12_isClear_143 : decode cX12_isClear 143 = .ok (.iload 5, 2) := by decide +kernel
theorem dX12_isClear_145 : decode cX12_isClear 145 = .ok (.invokestatic 242, 3) := by decide +kernel
theorem dX12_isClear_148 : decode cX12_isClear 148 = .ok (.ifCond .ne 19, 3) := by decide +kernel
theorem dX12_isClear_151 : decode cX12_isClear 151 = .ok (.aload_n 0, 1) := by decide +kernel
theorem dX12_isClear_152 : decode cX12_isClear 152 = .ok (.getfield 248, 3) := by decide +kernel
theorem dX12_isClear_155 : decode cX12_isClear 155 = .ok (.iload 5, 2) := by decide +kernel
theorem dX12_isClear_157 : decode cX12_isClear 157 = .ok (.iaload, 1) := by decide +kernel
theorem dX12_isClear_158 : decode cX12_isClear 158 = .ok (.iload 4, 2) := by decide +kernel
theorem dX12_isClear_160 : decode cX12_isClear 160 = .ok (.if_icmp .ne 7, 3) := by decide +kernel
theorem dX12_isClear_163 : decode cX12_isClear 163 = .ok (.iconst 1, 1) := by decide +kernel
theorem dX12_isClear_164 : decode cX12_isClear 164 = .ok (.goto 4, 3) := by decide +kernel
theorem dX12_isClear_167 : decode cX12_isClear 167 = .ok (.iconst 0, 1) := by decide +kernel
theorem dX12_isClear_168 : decode cX12_isClear 168 = .ok (.isub, 1) := by decide +kernel
theorem dX12_isClear_169 : decode cX12_isClear 169 = .ok (.iastore, 1) := by decide +kernel
theorem dX12_isClear_170 : decode cX12_isClear 170 = .ok (.iinc 5 1, 3) := by decide +kernel
theorem dX12_isClear_173 : decode cX12_isClear 173 = .ok (.goto (-53), 3) := by decide +kernel
theorem dX12_isClear_176 : decode cX12_isClear 176 = .ok (.iinc 4 1, 3) := by decide +kernel
theorem dX12_isClear_179 : decode cX12_isClear 179 = .ok (.goto (-97), 3) := by decide +kernel
theorem dX12_isClear_182 : decode cX12_isClear 182 = .ok (.goto (-109), 3) := by decide +kernel
theorem dX12_isClear_185 : decode cX12_isClear 185 = .ok (.iload_n 2, 1) := by decide +kernel
theorem dX12_isClear_186 : decode cX12_isClear 186 = .ok (.ifCond .ne 7, 3) := by decide +kernel
theorem dX12_isClear_189 : decode cX12_isClear 189 = .ok (.iconst 1, 1) := by decide +kernel
theorem dX12_isClear_190 : decode cX12_isClear 190 = .ok (.goto 4, 3) := by decide +kernel
theorem dX12_isClear_193 : decode cX12_isClear 193 = .ok (.iconst 0, 1) := by decide +kernel
theorem dX12_isClear_194 : decode cX12_isClear 194 = .ok (.ireturn, 1) := by decide +kernel
def w_X12_isClear_176 (post : Int32 → sI → sJ → Prop) (k73 : Int32 → Int32 → Int32 → sI → sJ → Prop) (k82 : Int32 → Int32 → Int32 → Int32 → sI → sJ → Prop) (x1 : Int32) (x2 : Int32) (x3 : Int32) (x4 : Int32) (I : sI) (J : sJ) : Prop :=
  (∀ v4_176 : Int32, v4_176 = x4 + 1 → k82 x1 x2 x3 v4_176 I J)
set_option maxHeartbeats 4000000 in
set_option maxRecDepth 100000 in
theorem t_X12_isClear_176 {X : sX} {post : Int32 → sI → sJ → Prop} (h : sOK X cX12_isClear RX12 6 1 21) (hr : sRt X (some .boolean) (sPi post)) {k73 : Int32 → Int32 → Int32 → sI → sJ → Prop} (hk73 : ∀ (x1 : Int32) (x2 : Int32) (x3 : Int32) (I : sI) (J : sJ), k73 x1 x2 x3 I J → sG X 6 73 [(0, .ref 248), (1, .int x1), (2, .int x2), (3, .int x3)] [] I J) {k82 : Int32 → Int32 → Int32 → Int32 → sI → sJ → Prop} (hk82 : ∀ (x1 : Int32) (x2 : Int32) (x3 : Int32) (x4 : Int32) (I : sI) (J : sJ), k82 x1 x2 x3 x4 I J → sG X 6 82 [(0, .ref 248), (1, .int x1), (2, .int x2), (3, .int x3), (4, .int x4)] [] I J) {x1 : Int32} {x2 : Int32} {x3 : Int32} {x4 : Int32} {I : sI} {J : sJ} (hw : w_X12_isClear_176 post k73 k82 x1 x2 x3 x4 I J) : sG X 6 176 [(0, .ref 248), (1, .int x1), (2, .int x2), (3, .int x3), (4, .int x4)] [] I J := by
  unfold w_X12_isClear_176 at hw
  obtain ⟨v4_176, ev4_176⟩ : ∃ z : Int32, z = x4 + 1 := ⟨_, rfl⟩
  replace hw := hw v4_176 ev4_176
  refine g_iinc (v := v4_176) (lo2 := [(4, .int v4_176), (0, .ref 248), (1, .int x1), (2, .int x2), (3, .int x3)]) h 4 rfl (by rw [ev4_176]; rfl) (by decide) rfl dX12_isClear_176 ?_
  refine g_goto (tgt := 82) h (by decide) dX12_isClear_179 ?_
  exact g_sub [1, 2, 3, 4, 0] rfl (hk82 _ _ _ _ _ _ hw)
def w_X12_isClear_168 (post : Int32 → sI → sJ → Prop) (k73 : Int32 → Int32 → Int32 → sI → sJ → Prop) (k82 : Int32 → Int32 → Int32 → Int32 → sI → sJ → Prop) (k120 : Int32 → Int32 → Int32 → Int32 → Int32 → sI → sJ → Prop) (x1 : Int32) (x2 : Int32) (x3 : Int32) (x4 : Int32) (x5 : Int32) (s0 : Int32) (s1 : Int32) (s2 : Int32) (I : sI) (J : sJ) : Prop :=
  (vp_in s2 80 ∧ (∀ I_169 : sI, I_169 = sUI I 271 (Int32.toNatClampNeg s2) (s1 - s0) → (∀ v5_170 : Int32, v5_170 = x5 + 1 → k120 x1 x2 x3 x4 v5_170 I_169 J)))
set_option maxHeartbeats 4000000 in
set_option maxRecDepth 100000 in
theorem t_X12_isClear_168 {X : sX} {post : Int32 → sI → sJ → Prop} (h : sOK X cX12_isClear RX12 6 1 21) (hr : sRt X (some .boolean) (sPi post)) {k73 : Int32 → Int32 → Int32 → sI → sJ → Prop} (hk73 : ∀ (x1 : Int32) (x2 : Int32) (x3 : Int32) (I : sI) (J : sJ), k73 x1 x2 x3 I J → sG X 6 73 [(0, .ref 248), (1, .int x1), (2, .int x2), (3, .int x3)] [] I J) {k82 : Int32 → Int32 → Int32 → Int32 → sI → sJ → Prop} (hk82 : ∀ (x1 : Int32) (x2 : Int32) (x3 : Int32) (x4 : Int32) (I : sI) (J : sJ), k82 x1 x2 x3 x4 I J → sG X 6 82 [(0, .ref 248), (1, .int x1), (2, .int x2), (3, .int x3), (4, .int x4)] [] I J) {k120 : Int32 → Int32 → Int32 → Int32 → Int32 → sI → sJ → Prop} (hk120 : ∀ (x1 : Int32) (x2 : Int32) (x3 : Int32) (x4 : Int32) (x5 : Int32) (I : sI) (J : sJ), k120 x1 x2 x3 x4 x5 I J → sG X 6 120 [(0, .ref 248), (1, .int x1), (2, .int x2), (3, .int x3), (4, .int x4), (5, .int x5)] [] I J) {x1 : Int32} {x2 : Int32} {x3 : Int32} {x4 : Int32} {x5 : Int32} {s0 : Int32} {s1 : Int32} {s2 : Int32} {I : sI} {J : sJ} (hw : w_X12_isClear_168 post k73 k82 k120 x1 x2 x3 x4 x5 s0 s1 s2 I J) : sG X 6 168 [(0, .ref 248), (1, .int x1), (2, .int x2), (3, .int x3), (4, .int x4), (5, .int x5)] [.int s0, .int s1, .int s2, .ref 271] I J := by
  unfold w_X12_isClear_168 at hw
  refine g_isub h dX12_isClear_168 ?_
  obtain ⟨hi169, hw⟩ := hw
  refine g_iast h ar_271 hi169 dX12_isClear_169 ?_
  refine g_nI (fun I_169 eI_169 => ?_)
  replace hw := hw I_169 eI_169
  obtain ⟨v5_170, ev5_170⟩ : ∃ z : Int32, z = x5 + 1 := ⟨_, rfl⟩
  replace hw := hw v5_170 ev5_170
  refine g_iinc (v := v5_170) (lo2 := [(5, .int v5_170), (0, .ref 248), (1, .int x1), (2, .int x2), (3, .int x3), (4, .int x4)]) h 5 rfl (by rw [ev5_170]; rfl) (by decide) rfl dX12_isClear_170 ?_
  refine g_goto (tgt := 120) h (by decide) dX12_isClear_173 ?_
  exact g_sub [1, 2, 3, 4, 5, 0] rfl (hk120 _ _ _ _ _ _ _ hw)
def w_X12_isClear_167 (post : Int32 → sI → sJ → Prop) (k73 : Int32 → Int32 → Int32 → sI → sJ → Prop) (k82 : Int32 → Int32 → Int32 → Int32 → sI → sJ → Prop) (k120 : Int32 → Int32 → Int32 → Int32 → Int32 → sI → sJ → Prop) (x1 : Int32) (x2 : Int32) (x3 : Int32) (x4 : Int32) (x5 : Int32) (s0 : Int32) (s1 : Int32) (I : sI) (J : sJ) : Prop :=
  w_X12_isClear_168 post k73 k82 k120 x1 x2 x3 x4 x5 0 s0 s1 I J
set_option maxHeartbeats 4000000 in
set_option maxRecDepth 100000 in
theorem t_X12_isClear_167 {X : sX} {post : Int32 → sI → sJ → Prop} (h : sOK X cX12_isClear RX12 6 1 21) (hr : sRt X (some .boolean) (sPi post)) {k73 : Int32 → Int32 → Int32 → sI → sJ → Prop} (hk73 : ∀ (x1 : Int32) (x2 : Int32) (x3 : Int32) (I : sI) (J : sJ), k73 x1 x2 x3 I J → sG X 6 73 [(0, .ref 248), (1, .int x1), (2, .int x2), (3, .int x3)] [] I J) {k82 : Int32 → Int32 → Int32 → Int32 → sI → sJ → Prop} (hk82 : ∀ (x1 : Int32) (x2 : Int32) (x3 : Int32) (x4 : Int32) (I : sI) (J : sJ), k82 x1 x2 x3 x4 I J → sG X 6 82 [(0, .ref 248), (1, .int x1), (2, .int x2), (3, .int x3), (4, .int x4)] [] I J) {k120 : Int32 → Int32 → Int32 → Int32 → Int32 → sI → sJ → Prop} (hk120 : ∀ (x1 : Int32) (x2 : Int32) (x3 : Int32) (x4 : Int32) (x5 : Int32) (I : sI) (J : sJ), k120 x1 x2 x3 x4 x5 I J → sG X 6 120 [(0, .ref 248), (1, .int x1), (2, .int x2), (3, .int x3), (4, .int x4), (5, .int x5)] [] I J) {x1 : Int32} {x2 : Int32} {x3 : Int32} {x4 : Int32} {x5 : Int32} {s0 : Int32} {s1 : Int32} {I : sI} {J : sJ} (hw : w_X12_isClear_167 post k73 k82 k120 x1 x2 x3 x4 x5 s0 s1 I J) : sG X 6 167 [(0, .ref 248), (1, .int x1), (2, .int x2), (3, .int x3), (4, .int x4), (5, .int x5)] [.int s0, .int s1, .ref 271] I J := by
  unfold w_X12_isClear_167 at hw
  refine g_iconst (v := 0) h (by decide) dX12_isClear_167 ?_
  exact g_sub [0, 1, 2, 3, 4, 5] rfl (t_X12_isClear_168 h hr hk73 hk82 hk120 hw)
def w_X12_isClear_120_s (post : Int32 → sI → sJ → Prop) (k73 : Int32 → Int32 → Int32 → sI → sJ → Prop) (k82 : Int32 → Int32 → Int32 → Int32 → sI → sJ → Prop) (k120 : Int32 → Int32 → Int32 → Int32 → Int32 → sI → sJ → Prop) (x1 : Int32) (x2 : Int32) (x3 : Int32) (x4 : Int32) (x5 : Int32) (I : sI) (J : sJ) : Prop :=
  (((I 248 15) ≤ x5 → w_X12_isClear_176 post k73 k82 x1 x2 x3 x4 I J) ∧ (¬ (I 248 15) ≤ x5 → (vp_in x5 12 ∧ (vp_in (I 255 (Int32.toNatClampNeg x5)) 80 ∧ w_X12_has x1 x5 I J (fun (r_145 : Int32) (I_145 : sI) (J_145 : sJ) => (((¬ r_145 = 0 → w_X12_isClear_167 post k73 k82 k120 x1 x2 x3 x4 x5 (I 271 (Int32.toNatClampNeg (I 255 (Int32.toNatClampNeg x5)))) (I 255 (Int32.toNatClampNeg x5)) I_145 J_145) ∧ (r_145 = 0 → (vp_in x5 12 ∧ ((¬ (I_145 256 (Int32.toNatClampNeg x5)) = x4 → w_X12_isClear_167 post k73 k82 k120 x1 x2 x3 x4 x5 (I 271 (Int32.toNatClampNeg (I 255 (Int32.toNatClampNeg x5)))) (I 255 (Int32.toNatClampNeg x5)) I_145 J_145) ∧ ((I_145 256 (Int32.toNatClampNeg x5)) = x4 → w_X12_isClear_168 post k73 k82 k120 x1 x2 x3 x4 x5 1 (I 271 (Int32.toNatClampNeg (I 255 (Int32.toNatClampNeg x5)))) (I 255 (Int32.toNatClampNeg x5)) I_145 J_145)))))))))))
def w_X12_isClear_120_n (post : Int32 → sI → sJ → Prop) (k73 : Int32 → Int32 → Int32 → sI → sJ → Prop) (k82 : Int32 → Int32 → Int32 → Int32 → sI → sJ → Prop) : Nat → Int32 → Int32 → Int32 → Int32 → Int32 → sI → sJ → Prop
  | 0 => fun _ _ _ _ _ _ _ => False
  | n + 1 => fun x1 x2 x3 x4 x5 I J => w_X12_isClear_120_s post k73 k82 (w_X12_isClear_120_n post k73 k82 n) x1 x2 x3 x4 x5 I J
def w_X12_isClear_120 (post : Int32 → sI → sJ → Prop) (k73 : Int32 → Int32 → Int32 → sI → sJ → Prop) (k82 : Int32 → Int32 → Int32 → Int32 → sI → sJ → Prop) (x1 : Int32) (x2 : Int32) (x3 : Int32) (x4 : Int32) (x5 : Int32) (I : sI) (J : sJ) : Prop := ∃ n, w_X12_isClear_120_n post k73 k82 n x1 x2 x3 x4 x5 I J
set_option maxHeartbeats 4000000 in
set_option maxRecDepth 100000 in
theorem t_X12_isClear_120_s {X : sX} {post : Int32 → sI → sJ → Prop} (h : sOK X cX12_isClear RX12 6 1 21) (hr : sRt X (some .boolean) (sPi post)) {k73 : Int32 → Int32 → Int32 → sI → sJ → Prop} (hk73 : ∀ (x1 : Int32) (x2 : Int32) (x3 : Int32) (I : sI) (J : sJ), k73 x1 x2 x3 I J → sG X 6 73 [(0, .ref 248), (1, .int x1), (2, .int x2), (3, .int x3)] [] I J) {k82 : Int32 → Int32 → Int32 → Int32 → sI → sJ → Prop} (hk82 : ∀ (x1 : Int32) (x2 : Int32) (x3 : Int32) (x4 : Int32) (I : sI) (J : sJ), k82 x1 x2 x3 x4 I J → sG X 6 82 [(0, .ref 248), (1, .int x1), (2, .int x2), (3, .int x3), (4, .int x4)] [] I J) {k120 : Int32 → Int32 → Int32 → Int32 → Int32 → sI → sJ → Prop} (hk120 : ∀ (x1 : Int32) (x2 : Int32) (x3 : Int32) (x4 : Int32) (x5 : Int32) (I : sI) (J : sJ), k120 x1 x2 x3 x4 x5 I J → sG X 6 120 [(0, .ref 248), (1, .int x1), (2, .int x2), (3, .int x3), (4, .int x4), (5, .int x5)] [] I J) {x1 : Int32} {x2 : Int32} {x3 : Int32} {x4 : Int32} {x5 : Int32} {I : sI} {J : sJ} (hw : w_X12_isClear_120_s post k73 k82 k120 x1 x2 x3 x4 x5 I J) : sG X 6 120 [(0, .ref 248), (1, .int x1), (2, .int x2), (3, .int x3), (4, .int x4), (5, .int x5)] [] I J := by
  unfold w_X12_isClear_120_s at hw
  refine g_iload h 5 rfl dX12_isClear_120 ?_
  refine g_aload_n h rfl 0 rfl dX12_isClear_122 ?_
  refine g_get h is_248 fl_X12_88 rfl dX12_isClear_123 ?_
  refine g_icmp_ge (tgt := 176) h (by decide) dX12_isClear_126 (fun q126 => ?_) (fun q126 => ?_)
  · replace hw := hw.1 q126
    exact g_sub [0, 1, 2, 3, 4] rfl (t_X12_isClear_176 h hr hk73 hk82 hw)
  · replace hw := hw.2 q126
    refine g_aload_n h rfl 0 rfl dX12_isClear_129 ?_
    refine g_get h is_248 fl_X12_283 fr_248_40 dX12_isClear_130 ?_
    refine g_aload_n h rfl 0 rfl dX12_isClear_133 ?_
    refine g_get h is_248 fl_X12_245 fr_248_16 dX12_isClear_134 ?_
    refine g_iload h 5 rfl dX12_isClear_137 ?_
    obtain ⟨hi139, hw⟩ := hw
    refine g_iald h ar_255 hi139 dX12_isClear_139 ?_
    refine g_dup2 h rfl rfl dX12_isClear_140 ?_
    obtain ⟨hi141, hw⟩ := hw
    refine g_iald h ar_271 hi141 dX12_isClear_141 ?_
    refine g_iload_n h rfl 1 rfl dX12_isClear_142 ?_
    refine g_iload h 5 rfl dX12_isClear_143 ?_
    refine g_callS [.int x1, .int x5] h (c_X12_has X hw) sPi_v mw_X12_has lk_X12_242 rfl ⟨by decide, by decide⟩ (Nat.le_of_ble_eq_true rfl) dX12_isClear_145 (sPi_k (fun r_145 I_145 J_145 hw => ?_))
    refine g_if_ne (tgt := 167) h (by decide) dX12_isClear_148 (fun q148 => ?_) (fun q148 => ?_)
    · replace hw := hw.1 q148
      exact g_sub [0, 1, 2, 3, 4, 5] rfl (t_X12_isClear_167 h hr hk73 hk82 hk120 hw)
    · replace hw := hw.2 q148
      refine g_aload_n h rfl 0 rfl dX12_isClear_151 ?_
      refine g_get h is_248 fl_X12_248 fr_248_17 dX12_isClear_152 ?_
      refine g_iload h 5 rfl dX12_isClear_155 ?_
      obtain ⟨hi157, hw⟩ := hw
      refine g_iald h ar_256 hi157 dX12_isClear_157 ?_
      refine g_iload h 4 rfl dX12_isClear_158 ?_
      refine g_icmp_ne (tgt := 167) h (by decide) dX12_isClear_160 (fun q160 => ?_) (fun q160 => ?_)
      · replace hw := hw.1 q160
        exact g_sub [0, 1, 2, 3, 4, 5] rfl (t_X12_isClear_167 h hr hk73 hk82 hk120 hw)
      · replace hw := hw.2 q160
        refine g_iconst (v := 1) h (by decide) dX12_isClear_163 ?_
        refine g_goto (tgt := 168) h (by decide) dX12_isClear_164 ?_
        exact g_sub [0, 1, 2, 3, 4, 5] rfl (t_X12_isClear_168 h hr hk73 hk82 hk120 hw)
theorem t_X12_isClear_120 {X : sX} {post : Int32 → sI → sJ → Prop} (h : sOK X cX12_isClear RX12 6 1 21) (hr : sRt X (some .boolean) (sPi post)) {k73 : Int32 → Int32 → Int32 → sI → sJ → Prop} (hk73 : ∀ (x1 : Int32) (x2 : Int32) (x3 : Int32) (I : sI) (J : sJ), k73 x1 x2 x3 I J → sG X 6 73 [(0, .ref 248), (1, .int x1), (2, .int x2), (3, .int x3)] [] I J) {k82 : Int32 → Int32 → Int32 → Int32 → sI → sJ → Prop} (hk82 : ∀ (x1 : Int32) (x2 : Int32) (x3 : Int32) (x4 : Int32) (I : sI) (J : sJ), k82 x1 x2 x3 x4 I J → sG X 6 82 [(0, .ref 248), (1, .int x1), (2, .int x2), (3, .int x3), (4, .int x4)] [] I J) {x1 : Int32} {x2 : Int32} {x3 : Int32} {x4 : Int32} {x5 : Int32} {I : sI} {J : sJ} (hw : w_X12_isClear_120 post k73 k82 x1 x2 x3 x4 x5 I J) : sG X 6 120 [(0, .ref 248), (1, .int x1), (2, .int x2), (3, .int x3), (4, .int x4), (5, .int x5)] [] I J := by
  obtain ⟨n, hw⟩ := hw
  induction n generalizing x1 x2 x3 x4 x5 I J with
  | zero => exact hw.elim
  | succ n ih => exact t_X12_isClear_120_s h hr hk73 hk82 (fun _ _ _ _ _ _ _ q => ih q) hw
def w_X12_isClear_82_s (post : Int32 → sI → sJ → Prop) (k73 : Int32 → Int32 → Int32 → sI → sJ → Prop) (k82 : Int32 → Int32 → Int32 → Int32 → sI → sJ → Prop) (x1 : Int32) (x2 : Int32) (x3 : Int32) (x4 : Int32) (I : sI) (J : sJ) : Prop :=
  (((I 248 12) ≤ x4 → k73 x1 x2 x3 I J) ∧ (¬ (I 248 12) ≤ x4 → (vp_in x4 80 ∧ (((I 271 (Int32.toNatClampNeg x4)) = 0 → (vp_in x4 80 ∧ (∀ I_111 : sI, I_111 = sUI I 271 (Int32.toNatClampNeg x4) (-1) → (∀ v2_112 : Int32, v2_112 = x2 + (-1) → w_X12_isClear_120 post k73 k82 x1 v2_112 1 x4 0 I_111 J)))) ∧ (¬ (I 271 (Int32.toNatClampNeg x4)) = 0 → w_X12_isClear_176 post k73 k82 x1 x2 x3 x4 I J)))))
def w_X12_isClear_82_n (post : Int32 → sI → sJ → Prop) (k73 : Int32 → Int32 → Int32 → sI → sJ → Prop) : Nat → Int32 → Int32 → Int32 → Int32 → sI → sJ → Prop
  | 0 => fun _ _ _ _ _ _ => False
  | n + 1 => fun x1 x2 x3 x4 I J => w_X12_isClear_82_s post k73 (w_X12_isClear_82_n post k73 n) x1 x2 x3 x4 I J
def w_X12_isClear_82 (post : Int32 → sI → sJ → Prop) (k73 : Int32 → Int32 → Int32 → sI → sJ → Prop) (x1 : Int32) (x2 : Int32) (x3 : Int32) (x4 : Int32) (I : sI) (J : sJ) : Prop := ∃ n, w_X12_isClear_82_n post k73 n x1 x2 x3 x4 I J
set_option maxHeartbeats 4000000 in
set_option maxRecDepth 100000 in
theorem t_X12_isClear_82_s {X : sX} {post : Int32 → sI → sJ → Prop} (h : sOK X cX12_isClear RX12 6 1 21) (hr : sRt X (some .boolean) (sPi post)) {k73 : Int32 → Int32 → Int32 → sI → sJ → Prop} (hk73 : ∀ (x1 : Int32) (x2 : Int32) (x3 : Int32) (I : sI) (J : sJ), k73 x1 x2 x3 I J → sG X 6 73 [(0, .ref 248), (1, .int x1), (2, .int x2), (3, .int x3)] [] I J) {k82 : Int32 → Int32 → Int32 → Int32 → sI → sJ → Prop} (hk82 : ∀ (x1 : Int32) (x2 : Int32) (x3 : Int32) (x4 : Int32) (I : sI) (J : sJ), k82 x1 x2 x3 x4 I J → sG X 6 82 [(0, .ref 248), (1, .int x1), (2, .int x2), (3, .int x3), (4, .int x4)] [] I J) {x1 : Int32} {x2 : Int32} {x3 : Int32} {x4 : Int32} {I : sI} {J : sJ} (hw : w_X12_isClear_82_s post k73 k82 x1 x2 x3 x4 I J) : sG X 6 82 [(0, .ref 248), (1, .int x1), (2, .int x2), (3, .int x3), (4, .int x4)] [] I J := by
  unfold w_X12_isClear_82_s at hw
  refine g_iload h 4 rfl dX12_isClear_82 ?_
  refine g_aload_n h rfl 0 rfl dX12_isClear_84 ?_
  refine g_get h is_248 fl_X12_79 rfl dX12_isClear_85 ?_
  refine g_icmp_ge (tgt := 182) h (by decide) dX12_isClear_88 (fun q88 => ?_) (fun q88 => ?_)
  · replace hw := hw.1 q88
    refine g_goto (tgt := 73) h (by decide) dX12_isClear_182 ?_
    exact g_sub [0, 1, 2, 3] rfl (hk73 _ _ _ _ _ hw)
  · replace hw := hw.2 q88
    refine g_aload_n h rfl 0 rfl dX12_isClear_91 ?_
    refine g_get h is_248 fl_X12_283 fr_248_40 dX12_isClear_92 ?_
    refine g_iload h 4 rfl dX12_isClear_95 ?_
    obtain ⟨hi97, hw⟩ := hw
    refine g_iald h ar_271 hi97 dX12_isClear_97 ?_
    refine g_if_eq (tgt := 104) h (by decide) dX12_isClear_98 (fun q98 => ?_) (fun q98 => ?_)
    · replace hw := hw.1 q98
      refine g_aload_n h rfl 0 rfl dX12_isClear_104 ?_
      refine g_get h is_248 fl_X12_283 fr_248_40 dX12_isClear_105 ?_
      refine g_iload h 4 rfl dX12_isClear_108 ?_
      refine g_iconst (v := (-1)) h (by decide) dX12_isClear_110 ?_
      obtain ⟨hi111, hw⟩ := hw
      refine g_iast h ar_271 hi111 dX12_isClear_111 ?_
      refine g_nI (fun I_111 eI_111 => ?_)
      replace hw := hw I_111 eI_111
      obtain ⟨v2_112, ev2_112⟩ : ∃ z : Int32, z = x2 + (-1) := ⟨_, rfl⟩
      replace hw := hw v2_112 ev2_112
      refine g_iinc (v := v2_112) (lo2 := [(2, .int v2_112), (0, .ref 248), (1, .int x1), (3, .int x3), (4, .int x4)]) h 2 rfl (by rw [ev2_112]; rfl) (by decide) rfl dX12_isClear_112 ?_
      refine g_iconst (v := 1) h (by decide) dX12_isClear_115 ?_
      refine g_istore_n (lo2 := [(3, .int 1), (2, .int v2_112), (0, .ref 248), (1, .int x1), (4, .int x4)]) h rfl (by decide) rfl dX12_isClear_116 ?_
      refine g_iconst (v := 0) h (by decide) dX12_isClear_117 ?_
      refine g_istore (lo2 := [(5, .int 0), (3, .int 1), (2, .int v2_112), (0, .ref 248), (1, .int x1), (4, .int x4)]) h (by decide) rfl dX12_isClear_118 ?_
      exact g_sub [3, 4, 2, 1, 5, 0] rfl (t_X12_isClear_120 h hr hk73 hk82 hw)
    · replace hw := hw.2 q98
      refine g_goto (tgt := 176) h (by decide) dX12_isClear_101 ?_
      exact g_sub [0, 1, 2, 3, 4] rfl (t_X12_isClear_176 h hr hk73 hk82 hw)
theorem t_X12_isClear_82 {X : sX} {post : Int32 → sI → sJ → Prop} (h : sOK X cX12_isClear RX12 6 1 21) (hr : sRt X (some .boolean) (sPi post)) {k73 : Int32 → Int32 → Int32 → sI → sJ → Prop} (hk73 : ∀ (x1 : Int32) (x2 : Int32) (x3 : Int32) (I : sI) (J : sJ), k73 x1 x2 x3 I J → sG X 6 73 [(0, .ref 248), (1, .int x1), (2, .int x2), (3, .int x3)] [] I J) {x1 : Int32} {x2 : Int32} {x3 : Int32} {x4 : Int32} {I : sI} {J : sJ} (hw : w_X12_isClear_82 post k73 x1 x2 x3 x4 I J) : sG X 6 82 [(0, .ref 248), (1, .int x1), (2, .int x2), (3, .int x3), (4, .int x4)] [] I J := by
  obtain ⟨n, hw⟩ := hw
  induction n generalizing x1 x2 x3 x4 I J with
  | zero => exact hw.elim
  | succ n ih => exact t_X12_isClear_82_s h hr hk73 (fun _ _ _ _ _ _ q => ih q) hw
def w_X12_isClear_73_s (post : Int32 → sI → sJ → Prop) (k73 : Int32 → Int32 → Int32 → sI → sJ → Prop) (x1 : Int32) (x2 : Int32) (x3 : Int32) (I : sI) (J : sJ) : Prop :=
  ((x3 = 0 → ((¬ x2 = 0 → post 0 I J) ∧ (x2 = 0 → post 1 I J))) ∧ (¬ x3 = 0 → w_X12_isClear_82 post k73 x1 x2 0 0 I J))
def w_X12_isClear_73_n (post : Int32 → sI → sJ → Prop) : Nat → Int32 → Int32 → Int32 → sI → sJ → Prop
  | 0 => fun _ _ _ _ _ => False
  | n + 1 => fun x1 x2 x3 I J => w_X12_isClear_73_s post (w_X12_isClear_73_n post n) x1 x2 x3 I J
def w_X12_isClear_73 (post : Int32 → sI → sJ → Prop) (x1 : Int32) (x2 : Int32) (x3 : Int32) (I : sI) (J : sJ) : Prop := ∃ n, w_X12_isClear_73_n post n x1 x2 x3 I J
set_option maxHeartbeats 4000000 in
set_option maxRecDepth 100000 in
theorem t_X12_isClear_73_s {X : sX} {post : Int32 → sI → sJ → Prop} (h : sOK X cX12_isClear RX12 6 1 21) (hr : sRt X (some .boolean) (sPi post)) {k73 : Int32 → Int32 → Int32 → sI → sJ → Prop} (hk73 : ∀ (x1 : Int32) (x2 : Int32) (x3 : Int32) (I : sI) (J : sJ), k73 x1 x2 x3 I J → sG X 6 73 [(0, .ref 248), (1, .int x1), (2, .int x2), (3, .int x3)] [] I J) {x1 : Int32} {x2 : Int32} {x3 : Int32} {I : sI} {J : sJ} (hw : w_X12_isClear_73_s post k73 x1 x2 x3 I J) : sG X 6 73 [(0, .ref 248), (1, .int x1), (2, .int x2), (3, .int x3)] [] I J := by
  unfold w_X12_isClear_73_s at hw
  refine g_iload_n h rfl 3 rfl dX12_isClear_73 ?_
  refine g_if_eq (tgt := 185) h (by decide) dX12_isClear_74 (fun q74 => ?_) (fun q74 => ?_)
  · replace hw := hw.1 q74
    refine g_iload_n h rfl 2 rfl dX12_isClear_185 ?_
    refine g_if_ne (tgt := 193) h (by decide) dX12_isClear_186 (fun q186 => ?_) (fun q186 => ?_)
    · replace hw := hw.1 q186
      refine g_iconst (v := 0) h (by decide) dX12_isClear_193 ?_
      exact g_zret h hr (Or.inl rfl) dX12_isClear_194 hw
    · replace hw := hw.2 q186
      refine g_iconst (v := 1) h (by decide) dX12_isClear_189 ?_
      refine g_goto (tgt := 194) h (by decide) dX12_isClear_190 ?_
      exact g_zret h hr (Or.inr rfl) dX12_isClear_194 hw
  · replace hw := hw.2 q74
    refine g_iconst (v := 0) h (by decide) dX12_isClear_77 ?_
    refine g_istore_n (lo2 := [(3, .int 0), (0, .ref 248), (1, .int x1), (2, .int x2)]) h rfl (by decide) rfl dX12_isClear_78 ?_
    refine g_iconst (v := 0) h (by decide) dX12_isClear_79 ?_
    refine g_istore (lo2 := [(4, .int 0), (3, .int 0), (0, .ref 248), (1, .int x1), (2, .int x2)]) h (by decide) rfl dX12_isClear_80 ?_
    exact g_sub [2, 3, 4, 1, 0] rfl (t_X12_isClear_82 h hr hk73 hw)
theorem t_X12_isClear_73 {X : sX} {post : Int32 → sI → sJ → Prop} (h : sOK X cX12_isClear RX12 6 1 21) (hr : sRt X (some .boolean) (sPi post)) {x1 : Int32} {x2 : Int32} {x3 : Int32} {I : sI} {J : sJ} (hw : w_X12_isClear_73 post x1 x2 x3 I J) : sG X 6 73 [(0, .ref 248), (1, .int x1), (2, .int x2), (3, .int x3)] [] I J := by
  obtain ⟨n, hw⟩ := hw
  induction n generalizing x1 x2 x3 I J with
  | zero => exact hw.elim
  | succ n ih => exact t_X12_isClear_73_s h hr (fun _ _ _ _ _ q => ih q) hw
def w_X12_isClear_63 (post : Int32 → sI → sJ → Prop) (k30 : Int32 → Int32 → Int32 → sI → sJ → Prop) (x1 : Int32) (x2 : Int32) (x3 : Int32) (s0 : Int32) (s1 : Int32) (s2 : Int32) (I : sI) (J : sJ) : Prop :=
  (vp_in s2 80 ∧ (∀ I_64 : sI, I_64 = sUI I 271 (Int32.toNatClampNeg s2) (s1 + s0) → (∀ v3_65 : Int32, v3_65 = x3 + 1 → k30 x1 x2 v3_65 I_64 J)))
set_option maxHeartbeats 4000000 in
set_option maxRecDepth 100000 in
theorem t_X12_isClear_63 {X : sX} {post : Int32 → sI → sJ → Prop} (h : sOK X cX12_isClear RX12 6 1 21) (hr : sRt X (some .boolean) (sPi post)) {k30 : Int32 → Int32 → Int32 → sI → sJ → Prop} (hk30 : ∀ (x1 : Int32) (x2 : Int32) (x3 : Int32) (I : sI) (J : sJ), k30 x1 x2 x3 I J → sG X 6 30 [(0, .ref 248), (1, .int x1), (2, .int x2), (3, .int x3)] [] I J) {x1 : Int32} {x2 : Int32} {x3 : Int32} {s0 : Int32} {s1 : Int32} {s2 : Int32} {I : sI} {J : sJ} (hw : w_X12_isClear_63 post k30 x1 x2 x3 s0 s1 s2 I J) : sG X 6 63 [(0, .ref 248), (1, .int x1), (2, .int x2), (3, .int x3)] [.int s0, .int s1, .int s2, .ref 271] I J := by
  unfold w_X12_isClear_63 at hw
  refine g_iadd h dX12_isClear_63 ?_
  obtain ⟨hi64, hw⟩ := hw
  refine g_iast h ar_271 hi64 dX12_isClear_64 ?_
  refine g_nI (fun I_64 eI_64 => ?_)
  replace hw := hw I_64 eI_64
  obtain ⟨v3_65, ev3_65⟩ : ∃ z : Int32, z = x3 + 1 := ⟨_, rfl⟩
  replace hw := hw v3_65 ev3_65
  refine g_iinc (v := v3_65) (lo2 := [(3, .int v3_65), (0, .ref 248), (1, .int x1), (2, .int x2)]) h 3 rfl (by rw [ev3_65]; rfl) (by decide) rfl dX12_isClear_65 ?_
  refine g_goto (tgt := 30) h (by decide) dX12_isClear_68 ?_
  exact g_sub [1, 2, 3, 0] rfl (hk30 _ _ _ _ _ hw)
def w_X12_isClear_30_s (post : Int32 → sI → sJ → Prop) (k30 : Int32 → Int32 → Int32 → sI → sJ → Prop) (x1 : Int32) (x2 : Int32) (x3 : Int32) (I : sI) (J : sJ) : Prop :=
  (((I 248 15) ≤ x3 → w_X12_isClear_73 post x1 x2 1 I J) ∧ (¬ (I 248 15) ≤ x3 → (vp_in x3 12 ∧ (vp_in (I 255 (Int32.toNatClampNeg x3)) 80 ∧ w_X12_has x1 x3 I J (fun (r_52 : Int32) (I_52 : sI) (J_52 : sJ) => (((r_52 = 0 → w_X12_isClear_63 post k30 x1 x2 x3 1 (I 271 (Int32.toNatClampNeg (I 255 (Int32.toNatClampNeg x3)))) (I 255 (Int32.toNatClampNeg x3)) I_52 J_52) ∧ (¬ r_52 = 0 → w_X12_isClear_63 post k30 x1 x2 x3 0 (I 271 (Int32.toNatClampNeg (I 255 (Int32.toNatClampNeg x3)))) (I 255 (Int32.toNatClampNeg x3)) I_52 J_52))))))))
def w_X12_isClear_30_n (post : Int32 → sI → sJ → Prop) : Nat → Int32 → Int32 → Int32 → sI → sJ → Prop
  | 0 => fun _ _ _ _ _ => False
  | n + 1 => fun x1 x2 x3 I J => w_X12_isClear_30_s post (w_X12_isClear_30_n post n) x1 x2 x3 I J
def w_X12_isClear_30 (post : Int32 → sI → sJ → Prop) (x1 : Int32) (x2 : Int32) (x3 : Int32) (I : sI) (J : sJ) : Prop := ∃ n, w_X12_isClear_30_n post n x1 x2 x3 I J
set_option maxHeartbeats 4000000 in
set_option maxRecDepth 100000 in
theorem t_X12_isClear_30_s {X : sX} {post : Int32 → sI → sJ → Prop} (h : sOK X cX12_isClear RX12 6 1 21) (hr : sRt X (some .boolean) (sPi post)) {k30 : Int32 → Int32 → Int32 → sI → sJ → Prop} (hk30 : ∀ (x1 : Int32) (x2 : Int32) (x3 : Int32) (I : sI) (J : sJ), k30 x1 x2 x3 I J → sG X 6 30 [(0, .ref 248), (1, .int x1), (2, .int x2), (3, .int x3)] [] I J) {x1 : Int32} {x2 : Int32} {x3 : Int32} {I : sI} {J : sJ} (hw : w_X12_isClear_30_s post k30 x1 x2 x3 I J) : sG X 6 30 [(0, .ref 248), (1, .int x1), (2, .int x2), (3, .int x3)] [] I J := by
  unfold w_X12_isClear_30_s at hw
  refine g_iload_n h rfl 3 rfl dX12_isClear_30 ?_
  refine g_aload_n h rfl 0 rfl dX12_isClear_31 ?_
  refine g_get h is_248 fl_X12_88 rfl dX12_isClear_32 ?_
  refine g_icmp_ge (tgt := 71) h (by decide) dX12_isClear_35 (fun q35 => ?_) (fun q35 => ?_)
  · replace hw := hw.1 q35
    refine g_iconst (v := 1) h (by decide) dX12_isClear_71 ?_
    refine g_istore_n (lo2 := [(3, .int 1), (0, .ref 248), (1, .int x1), (2, .int x2)]) h rfl (by decide) rfl dX12_isClear_72 ?_
    exact g_sub [1, 2, 3, 0] rfl (t_X12_isClear_73 h hr hw)
  · replace hw := hw.2 q35
    refine g_aload_n h rfl 0 rfl dX12_isClear_38 ?_
    refine g_get h is_248 fl_X12_283 fr_248_40 dX12_isClear_39 ?_
    refine g_aload_n h rfl 0 rfl dX12_isClear_42 ?_
    refine g_get h is_248 fl_X12_245 fr_248_16 dX12_isClear_43 ?_
    refine g_iload_n h rfl 3 rfl dX12_isClear_46 ?_
    obtain ⟨hi47, hw⟩ := hw
    refine g_iald h ar_255 hi47 dX12_isClear_47 ?_
    refine g_dup2 h rfl rfl dX12_isClear_48 ?_
    obtain ⟨hi49, hw⟩ := hw
    refine g_iald h ar_271 hi49 dX12_isClear_49 ?_
    refine g_iload_n h rfl 1 rfl dX12_isClear_50 ?_
    refine g_iload_n h rfl 3 rfl dX12_isClear_51 ?_
    refine g_callS [.int x1, .int x3] h (c_X12_has X hw) sPi_v mw_X12_has lk_X12_242 rfl ⟨by decide, by decide⟩ (Nat.le_of_ble_eq_true rfl) dX12_isClear_52 (sPi_k (fun r_52 I_52 J_52 hw => ?_))
    refine g_if_eq (tgt := 62) h (by decide) dX12_isClear_55 (fun q55 => ?_) (fun q55 => ?_)
    · replace hw := hw.1 q55
      refine g_iconst (v := 1) h (by decide) dX12_isClear_62 ?_
      exact g_sub [0, 1, 2, 3] rfl (t_X12_isClear_63 h hr hk30 hw)
    · replace hw := hw.2 q55
      refine g_iconst (v := 0) h (by decide) dX12_isClear_58 ?_
      refine g_goto (tgt := 63) h (by decide) dX12_isClear_59 ?_
      exact g_sub [0, 1, 2, 3] rfl (t_X12_isClear_63 h hr hk30 hw)
theorem t_X12_isClear_30 {X : sX} {post : Int32 → sI → sJ → Prop} (h : sOK X cX12_isClear RX12 6 1 21) (hr : sRt X (some .boolean) (sPi post)) {x1 : Int32} {x2 : Int32} {x3 : Int32} {I : sI} {J : sJ} (hw : w_X12_isClear_30 post x1 x2 x3 I J) : sG X 6 30 [(0, .ref 248), (1, .int x1), (2, .int x2), (3, .int x3)] [] I J := by
  obtain ⟨n, hw⟩ := hw
  induction n generalizing x1 x2 x3 I J with
  | zero => exact hw.elim
  | succ n ih => exact t_X12_isClear_30_s h hr (fun _ _ _ _ _ q => ih q) hw
def w_X12_isClear_7_s (post : Int32 → sI → sJ → Prop) (k7 : Int32 → Int32 → Int32 → sI → sJ → Prop) (x1 : Int32) (x2 : Int32) (x3 : Int32) (I : sI) (J : sJ) : Prop :=
  (((I 248 12) ≤ x3 → w_X12_isClear_30 post x1 x2 0 I J) ∧ (¬ (I 248 12) ≤ x3 → (vp_in x3 80 ∧ (∀ I_21 : sI, I_21 = sUI I 271 (Int32.toNatClampNeg x3) 0 → (∀ v3_22 : Int32, v3_22 = x3 + 1 → k7 x1 x2 v3_22 I_21 J)))))
def w_X12_isClear_7_n (post : Int32 → sI → sJ → Prop) : Nat → Int32 → Int32 → Int32 → sI → sJ → Prop
  | 0 => fun _ _ _ _ _ => False
  | n + 1 => fun x1 x2 x3 I J => w_X12_isClear_7_s post (w_X12_isClear_7_n post n) x1 x2 x3 I J
def w_X12_isClear_7 (post : Int32 → sI → sJ → Prop) (x1 : Int32) (x2 : Int32) (x3 : Int32) (I : sI) (J : sJ) : Prop := ∃ n, w_X12_isClear_7_n post n x1 x2 x3 I J
set_option maxHeartbeats 4000000 in
set_option maxRecDepth 100000 in
theorem t_X12_isClear_7_s {X : sX} {post : Int32 → sI → sJ → Prop} (h : sOK X cX12_isClear RX12 6 1 21) (hr : sRt X (some .boolean) (sPi post)) {k7 : Int32 → Int32 → Int32 → sI → sJ → Prop} (hk7 : ∀ (x1 : Int32) (x2 : Int32) (x3 : Int32) (I : sI) (J : sJ), k7 x1 x2 x3 I J → sG X 6 7 [(0, .ref 248), (1, .int x1), (2, .int x2), (3, .int x3)] [] I J) {x1 : Int32} {x2 : Int32} {x3 : Int32} {I : sI} {J : sJ} (hw : w_X12_isClear_7_s post k7 x1 x2 x3 I J) : sG X 6 7 [(0, .ref 248), (1, .int x1), (2, .int x2), (3, .int x3)] [] I J := by
  unfold w_X12_isClear_7_s at hw
  refine g_iload_n h rfl 3 rfl dX12_isClear_7 ?_
  refine g_aload_n h rfl 0 rfl dX12_isClear_8 ?_
  refine g_get h is_248 fl_X12_79 rfl dX12_isClear_9 ?_
  refine g_icmp_ge (tgt := 28) h (by decide) dX12_isClear_12 (fun q12 => ?_) (fun q12 => ?_)
  · replace hw := hw.1 q12
    refine g_iconst (v := 0) h (by decide) dX12_isClear_28 ?_
    refine g_istore_n (lo2 := [(3, .int 0), (0, .ref 248), (1, .int x1), (2, .int x2)]) h rfl (by decide) rfl dX12_isClear_29 ?_
    exact g_sub [1, 2, 3, 0] rfl (t_X12_isClear_30 h hr hw)
  · replace hw := hw.2 q12
    refine g_aload_n h rfl 0 rfl dX12_isClear_15 ?_
    refine g_get h is_248 fl_X12_283 fr_248_40 dX12_isClear_16 ?_
    refine g_iload_n h rfl 3 rfl dX12_isClear_19 ?_
    refine g_iconst (v := 0) h (by decide) dX12_isClear_20 ?_
    obtain ⟨hi21, hw⟩ := hw
    refine g_iast h ar_271 hi21 dX12_isClear_21 ?_
    refine g_nI (fun I_21 eI_21 => ?_)
    replace hw := hw I_21 eI_21
    obtain ⟨v3_22, ev3_22⟩ : ∃ z : Int32, z = x3 + 1 := ⟨_, rfl⟩
    replace hw := hw v3_22 ev3_22
    refine g_iinc (v := v3_22) (lo2 := [(3, .int v3_22), (0, .ref 248), (1, .int x1), (2, .int x2)]) h 3 rfl (by rw [ev3_22]; rfl) (by decide) rfl dX12_isClear_22 ?_
    refine g_goto (tgt := 7) h (by decide) dX12_isClear_25 ?_
    exact g_sub [1, 2, 3, 0] rfl (hk7 _ _ _ _ _ hw)
theorem t_X12_isClear_7 {X : sX} {post : Int32 → sI → sJ → Prop} (h : sOK X cX12_isClear RX12 6 1 21) (hr : sRt X (some .boolean) (sPi post)) {x1 : Int32} {x2 : Int32} {x3 : Int32} {I : sI} {J : sJ} (hw : w_X12_isClear_7 post x1 x2 x3 I J) : sG X 6 7 [(0, .ref 248), (1, .int x1), (2, .int x2), (3, .int x3)] [] I J := by
  obtain ⟨n, hw⟩ := hw
  induction n generalizing x1 x2 x3 I J with
  | zero => exact hw.elim
  | succ n ih => exact t_X12_isClear_7_s h hr (fun _ _ _ _ _ q => ih q) hw
def w_X12_isClear (a1 : Int32) (I : sI) (J : sJ) (post : Int32 → sI → sJ → Prop) : Prop :=
  (∀ v2_4 : Int32, v2_4 = I 248 12 → w_X12_isClear_7 post a1 v2_4 0 I J)
set_option maxHeartbeats 4000000 in
set_option maxRecDepth 100000 in
theorem t_X12_isClear {X : sX} {a1 : Int32} {I : sI} {J : sJ} {post : Int32 → sI → sJ → Prop} (h : sOK X cX12_isClear RX12 6 1 21) (hr : sRt X (some .boolean) (sPi post)) (hw : w_X12_isClear a1 I J post) : sG X 6 0 [(0, .ref 248), (1, .int a1)] [] I J := by
  unfold w_X12_isClear at hw
  refine g_aload_n h rfl 0 rfl dX12_isClear_0 ?_
  refine g_get h is_248 fl_X12_79 rfl dX12_isClear_1 ?_
  refine g_ni (fun v2_4 ev2_4 => ?_)
  replace hw := hw v2_4 ev2_4
  refine g_istore_n (lo2 := [(2, .int v2_4), (0, .ref 248), (1, .int a1)]) h rfl (by decide) rfl dX12_isClear_4 ?_
  refine g_iconst (v := 0) h (by decide) dX12_isClear_5 ?_
  refine g_istore_n (lo2 := [(3, .int 0), (2, .int v2_4), (0, .ref 248), (1, .int a1)]) h rfl (by decide) rfl dX12_isClear_6 ?_
  exact g_sub [2, 3, 1, 0] rfl (t_X12_isClear_7 h hr hw)
theorem c_X12_isClear (X : sX) {a1 : Int32} {I : sI} {J : sJ} {post : Int32 → sI → sJ → Prop} (hw : w_X12_isClear a1 I J post) : sCall X yX12_isClear cX12_isClear 6 (some .boolean) 1 21 [.ref 248, .int a1] I J (sPi post) := sCall_of (by decide +kernel) (Nat.le_of_ble_eq_true rfl) (fun X h hr => t_X12_isClear h hr hw)
theorem dX12_mend_0 : decode cX12_mend 0 = .ok (.aload_n 0, 1) := by decide +kernel
theorem dX12_mend_1 : decode cX12_mend 1 = .ok (.iconst 0, 1) := by decide +kernel
theorem dX12_mend_2 : decode cX12_mend 2 = .ok (.putfield 1, 3) := by decide +kernel
theorem dX12_mend_5 : decode cX12_mend 5 = .ok (.iconst (-1), 1) := by decide +kernel
theorem dX12_mend_6 : decode cX12_mend 6 = .ok (.istore_n 1, 1) := by decide +kernel
theorem dX12_mend_7 : decode cX12_mend 7 = .ok (.iconst 0, 1) := by decide +kernel
theorem dX12_mend_8 : decode cX12_mend 8 = .ok (.istore_n 2, 1) := by decide +kernel
theorem dX12_mend_9 : decode cX12_mend 9 = .ok (.iload_n 2, 1) := by decide +kernel
theorem dX12_mend_10 : decode cX12_mend 10 = .ok (.iconst 1, 1) := by decide +kernel
theorem dX12_mend_11 : decode cX12_mend 11 = .ok (.aload_n 0, 1) := by decide +kernel
theorem dX12_mend_12 : decode cX12_mend 12 = .ok (.getfield 88, 3) := by decide +kernel
theorem dX12_mend_15 : decode cX12_mend 15 = .ok (.ishl, 1) := by decide +kernel
theorem dX12_mend_16 : decode cX12_mend 16 = .ok (.if_icmp .ge 48, 3) := by decide +kernel
theorem dX12_mend_19 : decode cX12_mend 19 = .ok (.iload_n 1, 1) := by decide +kernel
theorem dX12_mend_20 : decode cX12_mend 20 = .ok (.ifCond .lt 14, 3) := by decide +kernel
theorem dX12_mend_23 : decode cX12_mend 23 = .ok (.iload_n 2, 1) := by decide +kernel
theorem dX12_mend_24 : decode cX12_mend 24 = .ok (.invokestatic 278, 3) := by decide +kernel
theorem dX12_mend_27 : decode cX12_mend 27 = .ok (.iload_n 1, 1) := by decide +kernel
theorem dX12_mend_28 : decode cX12_mend 28 = .ok (.invokestatic 278, 3) := by decide +kernel
theorem dX12_mend_31 : decode cX12_mend 31 = .ok (.if_icmp .ge 7, 3) := by decide +kernel
theorem dX12_mend_34 : decode cX12_mend 34 = .ok (.iconst 1, 1) := by decide +kernel
theorem dX12_mend_35 : decode cX12_mend 35 = .ok (.goto 4, 3) := by decide +kernel
theorem dX12_mend_38 : decode cX12_mend 38 = .ok (.iconst 0, 1) := by decide +kernel
theorem dX12_mend_39 : decode cX12_mend 39 = .ok (.istore_n 3, 1) := by decide +kernel
theorem dX12_mend_40 : decode cX12_mend 40 = .ok (.iload_n 3, 1) := by decide +kernel
theorem dX12_mend_41 : decode cX12_mend 41 = .ok (.ifCond .eq 15, 3) := by decide +kernel
theorem dX12_mend_44 : decode cX12_mend 44 = .ok (.aload_n 0, 1) := by decide +kernel
theorem dX12_mend_45 : decode cX12_mend 45 = .ok (.iload_n 2, 1) := by decide +kernel
theorem dX12_mend_46 : decode cX12_mend 46 = .ok (.invokevirtual 286, 3) := by decide +kernel
theorem dX12_mend_49 : decode cX12_mend 49 = .ok (.ifCond .eq 7, 3) := by decide +kernel
theorem dX12_mend_52 : decode cX12_mend 52 = .ok (.iload_n 2, 1) := by decide +kernel
theorem dX12_mend_53 : decode cX12_mend 53 = .ok (.goto 4, 3) := by decide +kernel
theorem dX12_mend_56 : decode cX12_mend 56 = .ok (.iload_n 1, 1) := by decide +kernel
theorem dX12_mend_57 : decode cX12_mend 57 = .ok (.istore_n 1, 1) := by decide +kernel
theorem dX12_mend_58 : decode cX12_mend 58 = .ok (.iinc 2 1, 3) := by decide +kernel
theorem dX12_mend_61 : decode cX12_mend 61 = .ok (.goto (-52), 3) := by decide +kernel
theorem dX12_mend_64 : decode cX12_mend 64 = .ok (.aload_n 0, 1) := by decide +kernel
theorem dX12_mend_65 : decode cX12_mend 65 = .ok (.iconst 0, 1) := by decide +kernel
theorem dX12_mend_66 : decode cX12_mend 66 = .ok (.putfield 11, 3) := by decide +kernel
theorem dX12_mend_69 : decode cX12_mend 69 = .ok (.aload_n 0, 1) := by decide +kernel
theorem dX12_mend_70 : decode cX12_mend 70 = .ok (.iload_n 1, 1) := by decide +kernel
theorem dX12_mend_71 : decode cX12_mend 71 = .ok (.i2l, 1) := by decide +kernel
theorem dX12_mend_72 : decode cX12_mend 72 = .ok (.invokevirtual 18, 3) := by decide +kernel
theorem dX12_mend_75 : decode cX12_mend 75 = .ok (.iload_n 1, 1) := by decide +kernel
theorem dX12_mend_76 : decode cX12_mend 76 = .ok (.invokestatic 278, 3) := by decide +kernel
theorem dX12_mend_79 : decode cX12_mend 79 = .ok (.ireturn, 1) := by decide +kernel
def w_X12_mend_57 (post : Int32 → sI → sJ → Prop) (k9 : Int32 → Int32 → sI → sJ → Prop) (x2 : Int32) (s0 : Int32) (I : sI) (J : sJ) : Prop :=
  (∀ v2_58 : Int32, v2_58 = x2 + 1 → k9 s0 v2_58 I J)
set_option maxHeartbeats 4000000 in
set_option maxRecDepth 100000 in
theorem t_X12_mend_57 {X : sX} {post : Int32 → sI → sJ → Prop} (h : sOK X cX12_mend RX12 4 2 46) (hr : sRt X (some .int) (sPi post)) {k9 : Int32 → Int32 → sI → sJ → Prop} (hk9 : ∀ (x1 : Int32) (x2 : Int32) (I : sI) (J : sJ), k9 x1 x2 I J → sG X 4 9 [(0, .ref 248), (1, .int x1), (2, .int x2)] [] I J) {x2 : Int32} {s0 : Int32} {I : sI} {J : sJ} (hw : w_X12_mend_57 post k9 x2 s0 I J) : sG X 4 57 [(0, .ref 248), (2, .int x2)] [.int s0] I J := by
  unfold w_X12_mend_57 at hw
  refine g_istore_n (lo2 := [(1, .int s0), (0, .ref 248), (2, .int x2)]) h rfl (by decide) rfl dX12_mend_57 ?_
  obtain ⟨v2_58, ev2_58⟩ : ∃ z : Int32, z = x2 + 1 := ⟨_, rfl⟩
  replace hw := hw v2_58 ev2_58
  refine g_iinc (v := v2_58) (lo2 := [(2, .int v2_58), (1, .int s0), (0, .ref 248)]) h 2 rfl (by rw [ev2_58]; rfl) (by decide) rfl dX12_mend_58 ?_
  refine g_goto (tgt := 9) h (by decide) dX12_mend_61 ?_
  exact g_sub [2, 1, 0] rfl (hk9 _ _ _ _ hw)
def w_X12_mend_56 (post : Int32 → sI → sJ → Prop) (k9 : Int32 → Int32 → sI → sJ → Prop) (x1 : Int32) (x2 : Int32) (I : sI) (J : sJ) : Prop :=
  w_X12_mend_57 post k9 x2 x1 I J
set_option maxHeartbeats 4000000 in
set_option maxRecDepth 100000 in
theorem t_X12_mend_56 {X : sX} {post : Int32 → sI → sJ → Prop} (h : sOK X cX12_mend RX12 4 2 46) (hr : sRt X (some .int) (sPi post)) {k9 : Int32 → Int32 → sI → sJ → Prop} (hk9 : ∀ (x1 : Int32) (x2 : Int32) (I : sI) (J : sJ), k9 x1 x2 I J → sG X 4 9 [(0, .ref 248), (1, .int x1), (2, .int x2)] [] I J) {x1 : Int32} {x2 : Int32} {I : sI} {J : sJ} (hw : w_X12_mend_56 post k9 x1 x2 I J) : sG X 4 56 [(0, .ref 248), (1, .int x1), (2, .int x2)] [] I J := by
  unfold w_X12_mend_56 at hw
  refine g_iload_n h rfl 1 rfl dX12_mend_56 ?_
  exact g_sub [0, 2] rfl (t_X12_mend_57 h hr hk9 hw)
def w_X12_mend_39 (post : Int32 → sI → sJ → Prop) (k9 : Int32 → Int32 → sI → sJ → Prop) (x1 : Int32) (x2 : Int32) (s0 : Int32) (I : sI) (J : sJ) : Prop :=
  ((s0 = 0 → w_X12_mend_56 post k9 x1 x2 I J) ∧ (¬ s0 = 0 → w_X12_isClear x2 I J (fun (r_46 : Int32) (I_46 : sI) (J_46 : sJ) => (((r_46 = 0 → w_X12_mend_56 post k9 x1 x2 I_46 J_46) ∧ (¬ r_46 = 0 → w_X12_mend_57 post k9 x2 x2 I_46 J_46))))))
set_option maxHeartbeats 4000000 in
set_option maxRecDepth 100000 in
theorem t_X12_mend_39 {X : sX} {post : Int32 → sI → sJ → Prop} (h : sOK X cX12_mend RX12 4 2 46) (hr : sRt X (some .int) (sPi post)) {k9 : Int32 → Int32 → sI → sJ → Prop} (hk9 : ∀ (x1 : Int32) (x2 : Int32) (I : sI) (J : sJ), k9 x1 x2 I J → sG X 4 9 [(0, .ref 248), (1, .int x1), (2, .int x2)] [] I J) {x1 : Int32} {x2 : Int32} {s0 : Int32} {I : sI} {J : sJ} (hw : w_X12_mend_39 post k9 x1 x2 s0 I J) : sG X 4 39 [(0, .ref 248), (1, .int x1), (2, .int x2)] [.int s0] I J := by
  unfold w_X12_mend_39 at hw
  refine g_istore_n (lo2 := [(3, .int s0), (0, .ref 248), (1, .int x1), (2, .int x2)]) h rfl (by decide) rfl dX12_mend_39 ?_
  refine g_iload_n h rfl 0 rfl dX12_mend_40 ?_
  refine g_if_eq (tgt := 56) h (by decide) dX12_mend_41 (fun q41 => ?_) (fun q41 => ?_)
  · replace hw := hw.1 q41
    exact g_sub [1, 2, 3] rfl (t_X12_mend_56 h hr hk9 hw)
  · replace hw := hw.2 q41
    refine g_aload_n h rfl 1 rfl dX12_mend_44 ?_
    refine g_iload_n h rfl 3 rfl dX12_mend_45 ?_
    refine g_callV [.int x2] h (c_X12_isClear X hw) sPi_v mw_X12_isClear lk_X12_286 is_248 rfl rfl ⟨by decide, by decide⟩ (Nat.le_of_ble_eq_true rfl) dX12_mend_46 (sPi_k (fun r_46 I_46 J_46 hw => ?_))
    refine g_if_eq (tgt := 56) h (by decide) dX12_mend_49 (fun q49 => ?_) (fun q49 => ?_)
    · replace hw := hw.1 q49
      exact g_sub [1, 2, 3] rfl (t_X12_mend_56 h hr hk9 hw)
    · replace hw := hw.2 q49
      refine g_iload_n h rfl 3 rfl dX12_mend_52 ?_
      refine g_goto (tgt := 57) h (by decide) dX12_mend_53 ?_
      exact g_sub [1, 3] rfl (t_X12_mend_57 h hr hk9 hw)
def w_X12_mend_34 (post : Int32 → sI → sJ → Prop) (k9 : Int32 → Int32 → sI → sJ → Prop) (x1 : Int32) (x2 : Int32) (I : sI) (J : sJ) : Prop :=
  w_X12_mend_39 post k9 x1 x2 1 I J
set_option maxHeartbeats 4000000 in
set_option maxRecDepth 100000 in
theorem t_X12_mend_34 {X : sX} {post : Int32 → sI → sJ → Prop} (h : sOK X cX12_mend RX12 4 2 46) (hr : sRt X (some .int) (sPi post)) {k9 : Int32 → Int32 → sI → sJ → Prop} (hk9 : ∀ (x1 : Int32) (x2 : Int32) (I : sI) (J : sJ), k9 x1 x2 I J → sG X 4 9 [(0, .ref 248), (1, .int x1), (2, .int x2)] [] I J) {x1 : Int32} {x2 : Int32} {I : sI} {J : sJ} (hw : w_X12_mend_34 post k9 x1 x2 I J) : sG X 4 34 [(0, .ref 248), (1, .int x1), (2, .int x2)] [] I J := by
  unfold w_X12_mend_34 at hw
  refine g_iconst (v := 1) h (by decide) dX12_mend_34 ?_
  refine g_goto (tgt := 39) h (by decide) dX12_mend_35 ?_
  exact g_sub [0, 1, 2] rfl (t_X12_mend_39 h hr hk9 hw)
def w_X12_mend_9_s (post : Int32 → sI → sJ → Prop) (k9 : Int32 → Int32 → sI → sJ → Prop) (x1 : Int32) (x2 : Int32) (I : sI) (J : sJ) : Prop :=
  (((1 <<< ((I 248 15) &&& 31)) ≤ x2 → (∀ I_66 : sI, I_66 = sUI I 248 1 0 → w_X12_enters (Int32.toInt64 x1) I_66 J (fun (I_72 : sI) (J_72 : sJ) => (w_J6_bitCount_0f7a4 x1 I_72 J_72 (fun (r_76 : Int32) (I_76 : sI) (J_76 : sJ) => (post r_76 I_76 J_76)))))) ∧ (¬ (1 <<< ((I 248 15) &&& 31)) ≤ x2 → ((x1 < 0 → w_X12_mend_34 post k9 x1 x2 I J) ∧ (¬ x1 < 0 → w_J6_bitCount_0f7a4 x2 I J (fun (r_24 : Int32) (I_24 : sI) (J_24 : sJ) => (w_J6_bitCount_0f7a4 x1 I_24 J_24 (fun (r_28 : Int32) (I_28 : sI) (J_28 : sJ) => (((r_28 ≤ r_24 → w_X12_mend_39 post k9 x1 x2 0 I_28 J_28) ∧ (¬ r_28 ≤ r_24 → w_X12_mend_34 post k9 x1 x2 I_28 J_28))))))))))
def w_X12_mend_9_n (post : Int32 → sI → sJ → Prop) : Nat → Int32 → Int32 → sI → sJ → Prop
  | 0 => fun _ _ _ _ => False
  | n + 1 => fun x1 x2 I J => w_X12_mend_9_s post (w_X12_mend_9_n post n) x1 x2 I J
def w_X12_mend_9 (post : Int32 → sI → sJ → Prop) (x1 : Int32) (x2 : Int32) (I : sI) (J : sJ) : Prop := ∃ n, w_X12_mend_9_n post n x1 x2 I J
set_option maxHeartbeats 4000000 in
set_option maxRecDepth 100000 in
theorem t_X12_mend_9_s {X : sX} {post : Int32 → sI → sJ → Prop} (h : sOK X cX12_mend RX12 4 2 46) (hr : sRt X (some .int) (sPi post)) {k9 : Int32 → Int32 → sI → sJ → Prop} (hk9 : ∀ (x1 : Int32) (x2 : Int32) (I : sI) (J : sJ), k9 x1 x2 I J → sG X 4 9 [(0, .ref 248), (1, .int x1), (2, .int x2)] [] I J) {x1 : Int32} {x2 : Int32} {I : sI} {J : sJ} (hw : w_X12_mend_9_s post k9 x1 x2 I J) : sG X 4 9 [(0, .ref 248), (1, .int x1), (2, .int x2)] [] I J := by
  unfold w_X12_mend_9_s at hw
  refine g_iload_n h rfl 2 rfl dX12_mend_9 ?_
  refine g_iconst (v := 1) h (by decide) dX12_mend_10 ?_
  refine g_aload_n h rfl 0 rfl dX12_mend_11 ?_
  refine g_get h is_248 fl_X12_88 rfl dX12_mend_12 ?_
  refine g_ishl h dX12_mend_15 ?_
  refine g_icmp_ge (tgt := 64) h (by decide) dX12_mend_16 (fun q16 => ?_) (fun q16 => ?_)
  · replace hw := hw.1 q16
    refine g_aload_n h rfl 0 rfl dX12_mend_64 ?_
    refine g_iconst (v := 0) h (by decide) dX12_mend_65 ?_
    refine g_putI h is_248 fl_X12_11 rfl rfl dX12_mend_66 ?_
    refine g_nI (fun I_66 eI_66 => ?_)
    replace hw := hw I_66 eI_66
    refine g_aload_n h rfl 0 rfl dX12_mend_69 ?_
    refine g_iload_n h rfl 1 rfl dX12_mend_70 ?_
    refine g_i2l h dX12_mend_71 ?_
    refine g_callV [.long (Int32.toInt64 x1)] h (c_X12_enters X hw) sPv_v mw_X12_enters lk_X12_18 is_248 rfl rfl ⟨by decide, by decide⟩ (Nat.le_of_ble_eq_true rfl) dX12_mend_72 (sPv_k (fun I_72 J_72 hw => ?_))
    refine g_iload_n h rfl 1 rfl dX12_mend_75 ?_
    refine g_callS [.int x1] h (c_J6_bitCount_0f7a4 X hw) sPi_v mw_J6_bitCount_0f7a4 lk_X12_278 rfl ⟨by decide, by decide⟩ (Nat.le_of_ble_eq_true rfl) dX12_mend_76 (sPi_k (fun r_76 I_76 J_76 hw => ?_))
    exact g_iret h hr dX12_mend_79 hw
  · replace hw := hw.2 q16
    refine g_iload_n h rfl 1 rfl dX12_mend_19 ?_
    refine g_if_lt (tgt := 34) h (by decide) dX12_mend_20 (fun q20 => ?_) (fun q20 => ?_)
    · replace hw := hw.1 q20
      exact g_sub [0, 1, 2] rfl (t_X12_mend_34 h hr hk9 hw)
    · replace hw := hw.2 q20
      refine g_iload_n h rfl 2 rfl dX12_mend_23 ?_
      refine g_callS [.int x2] h (c_J6_bitCount_0f7a4 X hw) sPi_v mw_J6_bitCount_0f7a4 lk_X12_278 rfl ⟨by decide, by decide⟩ (Nat.le_of_ble_eq_true rfl) dX12_mend_24 (sPi_k (fun r_24 I_24 J_24 hw => ?_))
      refine g_iload_n h rfl 1 rfl dX12_mend_27 ?_
      refine g_callS [.int x1] h (c_J6_bitCount_0f7a4 X hw) sPi_v mw_J6_bitCount_0f7a4 lk_X12_278 rfl ⟨by decide, by decide⟩ (Nat.le_of_ble_eq_true rfl) dX12_mend_28 (sPi_k (fun r_28 I_28 J_28 hw => ?_))
      refine g_icmp_ge (tgt := 38) h (by decide) dX12_mend_31 (fun q31 => ?_) (fun q31 => ?_)
      · replace hw := hw.1 q31
        refine g_iconst (v := 0) h (by decide) dX12_mend_38 ?_
        exact g_sub [0, 1, 2] rfl (t_X12_mend_39 h hr hk9 hw)
      · replace hw := hw.2 q31
        exact g_sub [0, 1, 2] rfl (t_X12_mend_34 h hr hk9 hw)
theorem t_X12_mend_9 {X : sX} {post : Int32 → sI → sJ → Prop} (h : sOK X cX12_mend RX12 4 2 46) (hr : sRt X (some .int) (sPi post)) {x1 : Int32} {x2 : Int32} {I : sI} {J : sJ} (hw : w_X12_mend_9 post x1 x2 I J) : sG X 4 9 [(0, .ref 248), (1, .int x1), (2, .int x2)] [] I J := by
  obtain ⟨n, hw⟩ := hw
  induction n generalizing x1 x2 I J with
  | zero => exact hw.elim
  | succ n ih => exact t_X12_mend_9_s h hr (fun _ _ _ _ q => ih q) hw
def w_X12_mend (I : sI) (J : sJ) (post : Int32 → sI → sJ → Prop) : Prop :=
  (∀ I_2 : sI, I_2 = sUI I 248 0 0 → w_X12_mend_9 post (-1) 0 I_2 J)
set_option maxHeartbeats 4000000 in
set_option maxRecDepth 100000 in
theorem t_X12_mend {X : sX} {I : sI} {J : sJ} {post : Int32 → sI → sJ → Prop} (h : sOK X cX12_mend RX12 4 2 46) (hr : sRt X (some .int) (sPi post)) (hw : w_X12_mend I J post) : sG X 4 0 [(0, .ref 248)] [] I J := by
  unfold w_X12_mend at hw
  refine g_aload_n h rfl 0 rfl dX12_mend_0 ?_
  refine g_iconst (v := 0) h (by decide) dX12_mend_1 ?_
  refine g_putI h is_248 fl_X12_1 rfl rfl dX12_mend_2 ?_
  refine g_nI (fun I_2 eI_2 => ?_)
  replace hw := hw I_2 eI_2
  refine g_iconst (v := (-1)) h (by decide) dX12_mend_5 ?_
  refine g_istore_n (lo2 := [(1, .int (-1)), (0, .ref 248)]) h rfl (by decide) rfl dX12_mend_6 ?_
  refine g_iconst (v := 0) h (by decide) dX12_mend_7 ?_
  refine g_istore_n (lo2 := [(2, .int 0), (1, .int (-1)), (0, .ref 248)]) h rfl (by decide) rfl dX12_mend_8 ?_
  exact g_sub [2, 1, 0] rfl (t_X12_mend_9 h hr hw)
theorem c_X12_mend (X : sX) {I : sI} {J : sJ} {post : Int32 → sI → sJ → Prop} (hw : w_X12_mend I J post) : sCall X yX12_mend cX12_mend 4 (some .int) 2 46 [.ref 248] I J (sPi post) := sCall_of (by decide +kernel) (Nat.le_of_ble_eq_true rfl) (fun X h hr => t_X12_mend h hr hw)
theorem dX12_counts_0 : decode cX12_counts 0 = .ok (.aload_n 0, 1) := by decide +kernel
theorem dX12_counts_1 : decode cX12_counts 1 = .ok (.iconst 0, 1) := by decide +kernel
theorem dX12_counts_2 : decode cX12_counts 2 = .ok (.putfield 289, 3) := by decide +kernel
theorem dX12_counts_5 : decode cX12_counts 5 = .ok (.aload_n 0, 1) := by decide +kernel
theorem dX12_counts_6 : decode cX12_counts 6 = .ok (.iconst 0, 1) := by decide +kernel
theorem dX12_counts_7 : decode cX12_counts 7 = .ok (.putfield 292, 3) := by decide +kernel
theorem dX12_counts_10 : decode cX12_counts 10 = .ok (.iconst 0, 1) := by decide +kernel
theorem dX12_counts_11 : decode cX12_counts 11 = .ok (.istore_n 1, 1) := by decide +kernel
theorem dX12_counts_12 : decode cX12_counts 12 = .ok (.iload_n 1, 1) := by decide +kernel
theorem dX12_counts_13 : decode cX12_counts 13 = .ok (.bipush 12, 2) := by decide +kernel
theorem dX12_counts_15 : decode cX12_counts 15 = .ok (.if_icmp .gt 16, 3) := by decide +kernel
theorem dX12_counts_18 : decode cX12_counts 18 = .ok (.aload_n 0, 1) := by decide +kernel
theorem dX12_counts_19 : decode cX12_counts 19 = .ok (.getfield 295, 3) := by decide +kernel
theorem dX12_counts_22 : decode cX12_counts 22 = .ok (.iload_n 1, 1) := by decide +kernel
theorem dX12_counts_23 : decode cX12_counts 23 = .ok (.iconst 0, 1) := by decide +kernel
theorem dX12_counts_24 : decode cX12_counts 24 = .ok (.iastore, 1) := by decide +kernel
theorem dX12_counts_25 : decode cX12_counts 25 = .ok (.iinc 1 1, 3) := by decide +kernel
theorem dX12_counts_28 : decode cX12_counts 28 = .ok (.goto (-16), 3) := by decide +kernel
theorem dX12_counts_31 : decode cX12_counts 31 = .ok (.iconst 0, 1) := by decide +kernel
theorem dX12_counts_32 : decode cX12_counts 32 = .ok (.istore_n 1, 1) := by decide +kernel
theorem dX12_counts_33 : decode cX12_counts 33 = .ok (.iload_n 1, 1) := by decide +kernel
theorem dX12_counts_34 : decode cX12_counts 34 = .ok (.aload_n 0, 1) := by decide +kernel
theorem dX12_counts_35 : decode cX12_counts 35 = .ok (.getfield 79, 3) := by decide +kernel
theorem dX12_counts_38 : decode cX12_counts 38 = .ok (.if_icmp .ge 24, 3) := by decide +kernel
theorem dX12_counts_41 : decode cX12_counts 41 = .ok (.aload_n 0, 1) := by decide +kernel
theorem dX12_counts_42 : decode cX12_counts 42 = .ok (.getfield 295, 3) := by decide +kernel
theorem dX12_counts_45 : decode cX12_counts 45 = .ok (.aload_n 0, 1) := by decide +kernel
theorem dX12_counts_46 : decode cX12_counts 46 = .ok (.getfield 85, 3) := by decide +kernel
theorem dX12_counts_49 : decode cX12_counts 49 = .ok (.iload_n 1, 1) := by decide +kernel
theorem dX12_counts_50 : decode cX12_counts 50 = .ok (.iaload, 1) := by decide +kernel
theorem dX12_counts_51 : decode cX12_counts 51 = .ok (.dup2, 1) := by decide +kernel
theorem dX12_counts_52 : decode cX12_counts 52 = .ok (.iaload, 1) := by decide +kernel
theorem dX12_counts_53 : decode cX12_counts 53 = .ok (.iconst 1, 1) := by decide +kernel
theorem dX12_counts_54 : decode cX12_counts 54 = .ok (.iadd, 1) := by decide +kernel
theorem dX12_counts_55 : decode cX12_counts 55 = .ok (.iastore, 1) := by decide +kernel
theorem dX12_counts_56 : decode cX12_counts 56 = .ok (.iinc 1 1, 3) := by decide +kernel
theorem dX12_counts_59 : decode cX12_counts 59 = .ok (.goto (-26), 3) := by decide +kernel
theorem dX12_counts_62 : decode cX12_counts 62 = .ok (.iconst 0, 1) := by decide +kernel
theorem dX12_counts_63 : decode cX12_counts 63 = .ok (.istore_n 1, 1) := by decide +kernel
theorem dX12_counts_64 : decode cX12_counts 64 = .ok (.iload_n 1, 1) := by decide +kernel
theorem dX12_counts_65 : decode cX12_counts 65 = .ok (.bipush 12, 2) := by decide +kernel
theorem dX12_counts_67 : decode cX12_counts 67 = .ok (.if_icmp .ge 50, 3) := by decide +kernel
theorem dX12_counts_70 : decode cX12_counts 70 = .ok (.aload_n 0, 1) := by decide +kernel
theorem dX12_counts_71 : decode cX12_counts 71 = .ok (.dup, 1) := by decide +kernel
theorem dX12_counts_72 : decode cX12_counts 72 = .ok (.getfield 289, 3) := by decide +kernel
theorem dX12_counts_75 : decode cX12_counts 75 = .ok (.aload_n 0, 1) := by decide +kernel
theorem dX12_counts_76 : decode cX12_counts 76 = .ok (.getfield 295, 3) := by decide +kernel
theorem dX12_counts_79 : decode cX12_counts 79 = .ok (.iload_n 1, 1) := by decide +kernel
theorem dX12_counts_80 : decode cX12_counts 80 = .ok (.iaload, 1) := by decide +kernel
theorem dX12_counts_81 : decode cX12_counts 81 = .ok (.iadd, 1) := by decide +kernel
theorem dX12_counts_82 : decode cX12_counts 82 = .ok (.putfield 289, 3) := by decide +kernel
theorem dX12_counts_85 : decode cX12_counts 85 = .ok (.aload_n 0, 1) := by decide +kernel
theorem dX12_counts_86 : decode cX12_counts 86 = .ok (.dup, 1) := by decide +kernel
theorem dX12_counts_87 : decode cX12_counts 87 = .ok (.getfield 292, 3) := by decide +kernel
theorem dX12_counts_90 : decode cX12_counts 90 = .ok (.aload_n 0, 1) := by decide +kernel
theorem dX12_counts_91 : decode cX12_counts 91 = .ok (.getfield 295, 3) := by decide +kernel
theorem dX12_counts_94 : decode cX12_counts 94 = .ok (.iload_n 1, 1) := by decide +kernel
theorem dX12_counts_95 : decode cX12_counts 95 = .ok (.iaload, 1) := by decide +kernel
theorem dX12_counts_96 : decode cX12_counts 96 = .ok (.ifCond .le 7, 3) := by decide +kernel
theorem dX12_counts_99 : decode cX12_counts 99 = .ok (.iconst 1, 1) := by decide +kernel
theorem dX12_counts_100 : decode cX12_counts 100 = .ok (.goto 4, 3) := by decide +kernel
theorem dX12_counts_103 : decode cX12_counts 103 = .ok (.iconst 0, 1) := by decide +kernel
theorem dX12_counts_104 : decode cX12_counts 104 = .ok (.invokestatic 65, 3) := by decide +kernel
theorem dX12_counts_107 : decode cX12_counts 107 = .ok (.iadd, 1) := by decide +kernel
theorem dX12_counts_108 : decode cX12_counts 108 = .ok (.putfield 292, 3) := by decide +kernel
theorem dX12_counts_111 : decode cX12_counts 111 = .ok (.iinc 1 1, 3) := by decide +kernel
theorem dX12_counts_114 : decode cX12_counts 114 = .ok (.goto (-50), 3) := by decide +kernel
theorem dX12_counts_117 : decode cX12_counts 117 = .ok (.return_, 1) := by decide +kernel
def w_X12_counts_104 (post : sI → sJ → Prop) (k64 : Int32 → sI → sJ → Prop) (x1 : Int32) (s0 : Int32) (s1 : Int32) (I : sI) (J : sJ) : Prop :=
  w_X12_flag s0 I J (fun (r_104 : Int32) (I_104 : sI) (J_104 : sJ) => ((∀ I_108 : sI, I_108 = sUI I_104 248 43 (s1 + r_104) → (∀ v1_111 : Int32, v1_111 = x1 + 1 → k64 v1_111 I_108 J_104))))
set_option maxHeartbeats 4000000 in
set_option maxRecDepth 100000 in
theorem t_X12_counts_104 {X : sX} {post : sI → sJ → Prop} (h : sOK X cX12_counts RX12 2 1 20) (hr : sRt X none (sPv post)) {k64 : Int32 → sI → sJ → Prop} (hk64 : ∀ (x1 : Int32) (I : sI) (J : sJ), k64 x1 I J → sG X 2 64 [(0, .ref 248), (1, .int x1)] [] I J) {x1 : Int32} {s0 : Int32} {s1 : Int32} {I : sI} {J : sJ} (hw : w_X12_counts_104 post k64 x1 s0 s1 I J) : sG X 2 104 [(0, .ref 248), (1, .int x1)] [.int s0, .int s1, .ref 248] I J := by
  unfold w_X12_counts_104 at hw
  refine g_callS [.int s0] h (c_X12_flag X hw) sPi_v mw_X12_flag lk_X12_65 rfl ⟨by decide, by decide⟩ (Nat.le_of_ble_eq_true rfl) dX12_counts_104 (sPi_k (fun r_104 I_104 J_104 hw => ?_))
  refine g_iadd h dX12_counts_107 ?_
  refine g_putI h is_248 fl_X12_292 rfl rfl dX12_counts_108 ?_
  refine g_nI (fun I_108 eI_108 => ?_)
  replace hw := hw I_108 eI_108
  obtain ⟨v1_111, ev1_111⟩ : ∃ z : Int32, z = x1 + 1 := ⟨_, rfl⟩
  replace hw := hw v1_111 ev1_111
  refine g_iinc (v := v1_111) (lo2 := [(1, .int v1_111), (0, .ref 248)]) h 1 rfl (by rw [ev1_111]; rfl) (by decide) rfl dX12_counts_111 ?_
  refine g_goto (tgt := 64) h (by decide) dX12_counts_114 ?_
  exact g_sub [1, 0] rfl (hk64 _ _ _ hw)
def w_X12_counts_64_s (post : sI → sJ → Prop) (k64 : Int32 → sI → sJ → Prop) (x1 : Int32) (I : sI) (J : sJ) : Prop :=
  ((12 ≤ x1 → post I J) ∧ (¬ 12 ≤ x1 → (vp_in x1 13 ∧ (∀ I_82 : sI, I_82 = sUI I 248 42 ((I 248 42) + (I 272 (Int32.toNatClampNeg x1))) → (vp_in x1 13 ∧ (((I_82 272 (Int32.toNatClampNeg x1)) ≤ 0 → w_X12_counts_104 post k64 x1 0 (I_82 248 43) I_82 J) ∧ (¬ (I_82 272 (Int32.toNatClampNeg x1)) ≤ 0 → w_X12_counts_104 post k64 x1 1 (I_82 248 43) I_82 J)))))))
def w_X12_counts_64_n (post : sI → sJ → Prop) : Nat → Int32 → sI → sJ → Prop
  | 0 => fun _ _ _ => False
  | n + 1 => fun x1 I J => w_X12_counts_64_s post (w_X12_counts_64_n post n) x1 I J
def w_X12_counts_64 (post : sI → sJ → Prop) (x1 : Int32) (I : sI) (J : sJ) : Prop := ∃ n, w_X12_counts_64_n post n x1 I J
set_option maxHeartbeats 4000000 in
set_option maxRecDepth 100000 in
theorem t_X12_counts_64_s {X : sX} {post : sI → sJ → Prop} (h : sOK X cX12_counts RX12 2 1 20) (hr : sRt X none (sPv post)) {k64 : Int32 → sI → sJ → Prop} (hk64 : ∀ (x1 : Int32) (I : sI) (J : sJ), k64 x1 I J → sG X 2 64 [(0, .ref 248), (1, .int x1)] [] I J) {x1 : Int32} {I : sI} {J : sJ} (hw : w_X12_counts_64_s post k64 x1 I J) : sG X 2 64 [(0, .ref 248), (1, .int x1)] [] I J := by
  unfold w_X12_counts_64_s at hw
  refine g_iload_n h rfl 1 rfl dX12_counts_64 ?_
  refine g_bipush (v := 12) h (by decide) dX12_counts_65 ?_
  refine g_icmp_ge (tgt := 117) h (by decide) dX12_counts_67 (fun q67 => ?_) (fun q67 => ?_)
  · replace hw := hw.1 q67
    exact g_vret h hr dX12_counts_117 hw
  · replace hw := hw.2 q67
    refine g_aload_n h rfl 0 rfl dX12_counts_70 ?_
    refine g_dup h rfl dX12_counts_71 ?_
    refine g_get h is_248 fl_X12_289 rfl dX12_counts_72 ?_
    refine g_aload_n h rfl 0 rfl dX12_counts_75 ?_
    refine g_get h is_248 fl_X12_295 fr_248_41 dX12_counts_76 ?_
    refine g_iload_n h rfl 1 rfl dX12_counts_79 ?_
    obtain ⟨hi80, hw⟩ := hw
    refine g_iald h ar_272 hi80 dX12_counts_80 ?_
    refine g_iadd h dX12_counts_81 ?_
    refine g_putI h is_248 fl_X12_289 rfl rfl dX12_counts_82 ?_
    refine g_nI (fun I_82 eI_82 => ?_)
    replace hw := hw I_82 eI_82
    refine g_aload_n h rfl 0 rfl dX12_counts_85 ?_
    refine g_dup h rfl dX12_counts_86 ?_
    refine g_get h is_248 fl_X12_292 rfl dX12_counts_87 ?_
    refine g_aload_n h rfl 0 rfl dX12_counts_90 ?_
    refine g_get h is_248 fl_X12_295 fr_248_41 dX12_counts_91 ?_
    refine g_iload_n h rfl 1 rfl dX12_counts_94 ?_
    obtain ⟨hi95, hw⟩ := hw
    refine g_iald h ar_272 hi95 dX12_counts_95 ?_
    refine g_if_le (tgt := 103) h (by decide) dX12_counts_96 (fun q96 => ?_) (fun q96 => ?_)
    · replace hw := hw.1 q96
      refine g_iconst (v := 0) h (by decide) dX12_counts_103 ?_
      exact g_sub [0, 1] rfl (t_X12_counts_104 h hr hk64 hw)
    · replace hw := hw.2 q96
      refine g_iconst (v := 1) h (by decide) dX12_counts_99 ?_
      refine g_goto (tgt := 104) h (by decide) dX12_counts_100 ?_
      exact g_sub [0, 1] rfl (t_X12_counts_104 h hr hk64 hw)
theorem t_X12_counts_64 {X : sX} {post : sI → sJ → Prop} (h : sOK X cX12_counts RX12 2 1 20) (hr : sRt X none (sPv post)) {x1 : Int32} {I : sI} {J : sJ} (hw : w_X12_counts_64 post x1 I J) : sG X 2 64 [(0, .ref 248), (1, .int x1)] [] I J := by
  obtain ⟨n, hw⟩ := hw
  induction n generalizing x1 I J with
  | zero => exact hw.elim
  | succ n ih => exact t_X12_counts_64_s h hr (fun _ _ _ q => ih q) hw
def w_X12_counts_33_s (post : sI → sJ → Prop) (k33 : Int32 → sI → sJ → Prop) (x1 : Int32) (I : sI) (J : sJ) : Prop :=
  (((I 248 12) ≤ x1 → w_X12_counts_64 post 0 I J) ∧ (¬ (I 248 12) ≤ x1 → (vp_in x1 80 ∧ (vp_in (I 254 (Int32.toNatClampNeg x1)) 13 ∧ (vp_in (I 254 (Int32.toNatClampNeg x1)) 13 ∧ (∀ I_55 : sI, I_55 = sUI I 272 (Int32.toNatClampNeg (I 254 (Int32.toNatClampNeg x1))) ((I 272 (Int32.toNatClampNeg (I 254 (Int32.toNatClampNeg x1)))) + 1) → (∀ v1_56 : Int32, v1_56 = x1 + 1 → k33 v1_56 I_55 J)))))))
def w_X12_counts_33_n (post : sI → sJ → Prop) : Nat → Int32 → sI → sJ → Prop
  | 0 => fun _ _ _ => False
  | n + 1 => fun x1 I J => w_X12_counts_33_s post (w_X12_counts_33_n post n) x1 I J
def w_X12_counts_33 (post : sI → sJ → Prop) (x1 : Int32) (I : sI) (J : sJ) : Prop := ∃ n, w_X12_counts_33_n post n x1 I J
set_option maxHeartbeats 4000000 in
set_option maxRecDepth 100000 in
theorem t_X12_counts_33_s {X : sX} {post : sI → sJ → Prop} (h : sOK X cX12_counts RX12 2 1 20) (hr : sRt X none (sPv post)) {k33 : Int32 → sI → sJ → Prop} (hk33 : ∀ (x1 : Int32) (I : sI) (J : sJ), k33 x1 I J → sG X 2 33 [(0, .ref 248), (1, .int x1)] [] I J) {x1 : Int32} {I : sI} {J : sJ} (hw : w_X12_counts_33_s post k33 x1 I J) : sG X 2 33 [(0, .ref 248), (1, .int x1)] [] I J := by
  unfold w_X12_counts_33_s at hw
  refine g_iload_n h rfl 1 rfl dX12_counts_33 ?_
  refine g_aload_n h rfl 0 rfl dX12_counts_34 ?_
  refine g_get h is_248 fl_X12_79 rfl dX12_counts_35 ?_
  refine g_icmp_ge (tgt := 62) h (by decide) dX12_counts_38 (fun q38 => ?_) (fun q38 => ?_)
  · replace hw := hw.1 q38
    refine g_iconst (v := 0) h (by decide) dX12_counts_62 ?_
    refine g_istore_n (lo2 := [(1, .int 0), (0, .ref 248)]) h rfl (by decide) rfl dX12_counts_63 ?_
    exact g_sub [1, 0] rfl (t_X12_counts_64 h hr hw)
  · replace hw := hw.2 q38
    refine g_aload_n h rfl 0 rfl dX12_counts_41 ?_
    refine g_get h is_248 fl_X12_295 fr_248_41 dX12_counts_42 ?_
    refine g_aload_n h rfl 0 rfl dX12_counts_45 ?_
    refine g_get h is_248 fl_X12_85 fr_248_14 dX12_counts_46 ?_
    refine g_iload_n h rfl 1 rfl dX12_counts_49 ?_
    obtain ⟨hi50, hw⟩ := hw
    refine g_iald h ar_254 hi50 dX12_counts_50 ?_
    refine g_dup2 h rfl rfl dX12_counts_51 ?_
    obtain ⟨hi52, hw⟩ := hw
    refine g_iald h ar_272 hi52 dX12_counts_52 ?_
    refine g_iconst (v := 1) h (by decide) dX12_counts_53 ?_
    refine g_iadd h dX12_counts_54 ?_
    obtain ⟨hi55, hw⟩ := hw
    refine g_iast h ar_272 hi55 dX12_counts_55 ?_
    refine g_nI (fun I_55 eI_55 => ?_)
    replace hw := hw I_55 eI_55
    obtain ⟨v1_56, ev1_56⟩ : ∃ z : Int32, z = x1 + 1 := ⟨_, rfl⟩
    replace hw := hw v1_56 ev1_56
    refine g_iinc (v := v1_56) (lo2 := [(1, .int v1_56), (0, .ref 248)]) h 1 rfl (by rw [ev1_56]; rfl) (by decide) rfl dX12_counts_56 ?_
    refine g_goto (tgt := 33) h (by decide) dX12_counts_59 ?_
    exact g_sub [1, 0] rfl (hk33 _ _ _ hw)
theorem t_X12_counts_33 {X : sX} {post : sI → sJ → Prop} (h : sOK X cX12_counts RX12 2 1 20) (hr : sRt X none (sPv post)) {x1 : Int32} {I : sI} {J : sJ} (hw : w_X12_counts_33 post x1 I J) : sG X 2 33 [(0, .ref 248), (1, .int x1)] [] I J := by
  obtain ⟨n, hw⟩ := hw
  induction n generalizing x1 I J with
  | zero => exact hw.elim
  | succ n ih => exact t_X12_counts_33_s h hr (fun _ _ _ q => ih q) hw
def w_X12_counts_12_s (post : sI → sJ → Prop) (k12 : Int32 → sI → sJ → Prop) (x1 : Int32) (I : sI) (J : sJ) : Prop :=
  ((12 < x1 → w_X12_counts_33 post 0 I J) ∧ (¬ 12 < x1 → (vp_in x1 13 ∧ (∀ I_24 : sI, I_24 = sUI I 272 (Int32.toNatClampNeg x1) 0 → (∀ v1_25 : Int32, v1_25 = x1 + 1 → k12 v1_25 I_24 J)))))
def w_X12_counts_12_n (post : sI → sJ → Prop) : Nat → Int32 → sI → sJ → Prop
  | 0 => fun _ _ _ => False
  | n + 1 => fun x1 I J => w_X12_counts_12_s post (w_X12_counts_12_n post n) x1 I J
def w_X12_counts_12 (post : sI → sJ → Prop) (x1 : Int32) (I : sI) (J : sJ) : Prop := ∃ n, w_X12_counts_12_n post n x1 I J
set_option maxHeartbeats 4000000 in
set_option maxRecDepth 100000 in
theorem t_X12_counts_12_s {X : sX} {post : sI → sJ → Prop} (h : sOK X cX12_counts RX12 2 1 20) (hr : sRt X none (sPv post)) {k12 : Int32 → sI → sJ → Prop} (hk12 : ∀ (x1 : Int32) (I : sI) (J : sJ), k12 x1 I J → sG X 2 12 [(0, .ref 248), (1, .int x1)] [] I J) {x1 : Int32} {I : sI} {J : sJ} (hw : w_X12_counts_12_s post k12 x1 I J) : sG X 2 12 [(0, .ref 248), (1, .int x1)] [] I J := by
  unfold w_X12_counts_12_s at hw
  refine g_iload_n h rfl 1 rfl dX12_counts_12 ?_
  refine g_bipush (v := 12) h (by decide) dX12_counts_13 ?_
  refine g_icmp_gt (tgt := 31) h (by decide) dX12_counts_15 (fun q15 => ?_) (fun q15 => ?_)
  · replace hw := hw.1 q15
    refine g_iconst (v := 0) h (by decide) dX12_counts_31 ?_
    refine g_istore_n (lo2 := [(1, .int 0), (0, .ref 248)]) h rfl (by decide) rfl dX12_counts_32 ?_
    exact g_sub [1, 0] rfl (t_X12_counts_33 h hr hw)
  · replace hw := hw.2 q15
    refine g_aload_n h rfl 0 rfl dX12_counts_18 ?_
    refine g_get h is_248 fl_X12_295 fr_248_41 dX12_counts_19 ?_
    refine g_iload_n h rfl 1 rfl dX12_counts_22 ?_
    refine g_iconst (v := 0) h (by decide) dX12_counts_23 ?_
    obtain ⟨hi24, hw⟩ := hw
    refine g_iast h ar_272 hi24 dX12_counts_24 ?_
    refine g_nI (fun I_24 eI_24 => ?_)
    replace hw := hw I_24 eI_24
    obtain ⟨v1_25, ev1_25⟩ : ∃ z : Int32, z = x1 + 1 := ⟨_, rfl⟩
    replace hw := hw v1_25 ev1_25
    refine g_iinc (v := v1_25) (lo2 := [(1, .int v1_25), (0, .ref 248)]) h 1 rfl (by rw [ev1_25]; rfl) (by decide) rfl dX12_counts_25 ?_
    refine g_goto (tgt := 12) h (by decide) dX12_counts_28 ?_
    exact g_sub [1, 0] rfl (hk12 _ _ _ hw)
theorem t_X12_counts_12 {X : sX} {post : sI → sJ → Prop} (h : sOK X cX12_counts RX12 2 1 20) (hr : sRt X none (sPv post)) {x1 : Int32} {I : sI} {J : sJ} (hw : w_X12_counts_12 post x1 I J) : sG X 2 12 [(0, .ref 248), (1, .int x1)] [] I J := by
  obtain ⟨n, hw⟩ := hw
  induction n generalizing x1 I J with
  | zero => exact hw.elim
  | succ n ih => exact t_X12_counts_12_s h hr (fun _ _ _ q => ih q) hw
def w_X12_counts (I : sI) (J : sJ) (post : sI → sJ → Prop) : Prop :=
  (∀ I_2 : sI, I_2 = sUI I 248 42 0 → (∀ I_7 : sI, I_7 = sUI I_2 248 43 0 → w_X12_counts_12 post 0 I_7 J))
set_option maxHeartbeats 4000000 in
set_option maxRecDepth 100000 in
theorem t_X12_counts {X : sX} {I : sI} {J : sJ} {post : sI → sJ → Prop} (h : sOK X cX12_counts RX12 2 1 20) (hr : sRt X none (sPv post)) (hw : w_X12_counts I J post) : sG X 2 0 [(0, .ref 248)] [] I J := by
  unfold w_X12_counts at hw
  refine g_aload_n h rfl 0 rfl dX12_counts_0 ?_
  refine g_iconst (v := 0) h (by decide) dX12_counts_1 ?_
  refine g_putI h is_248 fl_X12_289 rfl rfl dX12_counts_2 ?_
  refine g_nI (fun I_2 eI_2 => ?_)
  replace hw := hw I_2 eI_2
  refine g_aload_n h rfl 0 rfl dX12_counts_5 ?_
  refine g_iconst (v := 0) h (by decide) dX12_counts_6 ?_
  refine g_putI h is_248 fl_X12_292 rfl rfl dX12_counts_7 ?_
  refine g_nI (fun I_7 eI_7 => ?_)
  replace hw := hw I_7 eI_7
  refine g_iconst (v := 0) h (by decide) dX12_counts_10 ?_
  refine g_istore_n (lo2 := [(1, .int 0), (0, .ref 248)]) h rfl (by decide) rfl dX12_counts_11 ?_
  exact g_sub [1, 0] rfl (t_X12_counts_12 h hr hw)
theorem c_X12_counts (X : sX) {I : sI} {J : sJ} {post : sI → sJ → Prop} (hw : w_X12_counts I J post) : sCall X yX12_counts cX12_counts 2 none 1 20 [.ref 248] I J (sPv post) := sCall_of (by decide +kernel) (Nat.le_of_ble_eq_true rfl) (fun X h hr => t_X12_counts h hr hw)
theorem dX12_kinds_0 : decode cX12_kinds 0 = .ok (.aload_n 0, 1) := by decide +kernel
theorem dX12_kinds_1 : decode cX12_kinds 1 = .ok (.iconst 0, 1) := by decide +kernel
theorem dX12_kinds_2 : decode cX12_kinds 2 = .ok (.putfield 1, 3) := by decide +kernel
theorem dX12_kinds_5 : decode cX12_kinds 5 = .ok (.aload_n 0, 1) := by decide +kernel
theorem dX12_kinds_6 : decode cX12_kinds 6 = .ok (.invokevirtual 298, 3) := by decide +kernel
theorem dX12_kinds_9 : decode cX12_kinds 9 = .ok (.aload_n 0, 1) := by decide +kernel
theorem dX12_kinds_10 : decode cX12_kinds 10 = .ok (.iconst 0, 1) := by decide +kernel
theorem dX12_kinds_11 : decode cX12_kinds 11 = .ok (.putfield 11, 3) := by decide +kernel
theorem dX12_kinds_14 : decode cX12_kinds 14 = .ok (.iconst 0, 1) := by decide +kernel
theorem dX12_kinds_15 : decode cX12_kinds 15 = .ok (.istore_n 1, 1) := by decide +kernel
theorem dX12_kinds_16 : decode cX12_kinds 16 = .ok (.iload_n 1, 1) := by decide +kernel
theorem dX12_kinds_17 : decode cX12_kinds 17 = .ok (.bipush 12, 2) := by decide +kernel
theorem dX12_kinds_19 : decode cX12_kinds 19 = .ok (.if_icmp .gt 20, 3) := by decide +kernel
theorem dX12_kinds_22 : decode cX12_kinds 22 = .ok (.aload_n 0, 1) := by decide +kernel
theorem dX12_kinds_23 : decode cX12_kinds 23 = .ok (.aload_n 0, 1) := by decide +kernel
theorem dX12_kinds_24 : decode cX12_kinds 24 = .ok (.getfield 295, 3) := by decide +kernel
theorem dX12_kinds_27 : decode cX12_kinds 27 = .ok (.iload_n 1, 1) := by decide +kernel
theorem dX12_kinds_28 : decode cX12_kinds 28 = .ok (.iaload, 1) := by decide +kernel
theorem dX12_kinds_29 : decode cX12_kinds 29 = .ok (.i2l, 1) := by decide +kernel
theorem dX12_kinds_30 : decode cX12_kinds 30 = .ok (.invokevirtual 18, 3) := by decide +kernel
theorem dX12_kinds_33 : decode cX12_kinds 33 = .ok (.iinc 1 1, 3) := by decide +kernel
theorem dX12_kinds_36 : decode cX12_kinds 36 = .ok (.goto (-20), 3) := by decide +kernel
theorem dX12_kinds_39 : decode cX12_kinds 39 = .ok (.aload_n 0, 1) := by decide +kernel
theorem dX12_kinds_40 : decode cX12_kinds 40 = .ok (.getfield 292, 3) := by decide +kernel
theorem dX12_kinds_43 : decode cX12_kinds 43 = .ok (.ireturn, 1) := by decide +kernel
def w_X12_kinds_16_s (post : Int32 → sI → sJ → Prop) (k16 : Int32 → sI → sJ → Prop) (x1 : Int32) (I : sI) (J : sJ) : Prop :=
  ((12 < x1 → post (I 248 43) I J) ∧ (¬ 12 < x1 → (vp_in x1 13 ∧ w_X12_enters (Int32.toInt64 (I 272 (Int32.toNatClampNeg x1))) I J (fun (I_30 : sI) (J_30 : sJ) => ((∀ v1_33 : Int32, v1_33 = x1 + 1 → k16 v1_33 I_30 J_30))))))
def w_X12_kinds_16_n (post : Int32 → sI → sJ → Prop) : Nat → Int32 → sI → sJ → Prop
  | 0 => fun _ _ _ => False
  | n + 1 => fun x1 I J => w_X12_kinds_16_s post (w_X12_kinds_16_n post n) x1 I J
def w_X12_kinds_16 (post : Int32 → sI → sJ → Prop) (x1 : Int32) (I : sI) (J : sJ) : Prop := ∃ n, w_X12_kinds_16_n post n x1 I J
set_option maxHeartbeats 4000000 in
set_option maxRecDepth 100000 in
theorem t_X12_kinds_16_s {X : sX} {post : Int32 → sI → sJ → Prop} (h : sOK X cX12_kinds RX12 2 2 41) (hr : sRt X (some .int) (sPi post)) {k16 : Int32 → sI → sJ → Prop} (hk16 : ∀ (x1 : Int32) (I : sI) (J : sJ), k16 x1 I J → sG X 2 16 [(0, .ref 248), (1, .int x1)] [] I J) {x1 : Int32} {I : sI} {J : sJ} (hw : w_X12_kinds_16_s post k16 x1 I J) : sG X 2 16 [(0, .ref 248), (1, .int x1)] [] I J := by
  unfold w_X12_kinds_16_s at hw
  refine g_iload_n h rfl 1 rfl dX12_kinds_16 ?_
  refine g_bipush (v := 12) h (by decide) dX12_kinds_17 ?_
  refine g_icmp_gt (tgt := 39) h (by decide) dX12_kinds_19 (fun q19 => ?_) (fun q19 => ?_)
  · replace hw := hw.1 q19
    refine g_aload_n h rfl 0 rfl dX12_kinds_39 ?_
    refine g_get h is_248 fl_X12_292 rfl dX12_kinds_40 ?_
    exact g_iret h hr dX12_kinds_43 hw
  · replace hw := hw.2 q19
    refine g_aload_n h rfl 0 rfl dX12_kinds_22 ?_
    refine g_aload_n h rfl 0 rfl dX12_kinds_23 ?_
    refine g_get h is_248 fl_X12_295 fr_248_41 dX12_kinds_24 ?_
    refine g_iload_n h rfl 1 rfl dX12_kinds_27 ?_
    obtain ⟨hi28, hw⟩ := hw
    refine g_iald h ar_272 hi28 dX12_kinds_28 ?_
    refine g_i2l h dX12_kinds_29 ?_
    refine g_callV [.long (Int32.toInt64 (I 272 (Int32.toNatClampNeg x1)))] h (c_X12_enters X hw) sPv_v mw_X12_enters lk_X12_18 is_248 rfl rfl ⟨by decide, by decide⟩ (Nat.le_of_ble_eq_true rfl) dX12_kinds_30 (sPv_k (fun I_30 J_30 hw => ?_))
    obtain ⟨v1_33, ev1_33⟩ : ∃ z : Int32, z = x1 + 1 := ⟨_, rfl⟩
    replace hw := hw v1_33 ev1_33
    refine g_iinc (v := v1_33) (lo2 := [(1, .int v1_33), (0, .ref 248)]) h 1 rfl (by rw [ev1_33]; rfl) (by decide) rfl dX12_kinds_33 ?_
    refine g_goto (tgt := 16) h (by decide) dX12_kinds_36 ?_
    exact g_sub [1, 0] rfl (hk16 _ _ _ hw)
theorem t_X12_kinds_16 {X : sX} {post : Int32 → sI → sJ → Prop} (h : sOK X cX12_kinds RX12 2 2 41) (hr : sRt X (some .int) (sPi post)) {x1 : Int32} {I : sI} {J : sJ} (hw : w_X12_kinds_16 post x1 I J) : sG X 2 16 [(0, .ref 248), (1, .int x1)] [] I J := by
  obtain ⟨n, hw⟩ := hw
  induction n generalizing x1 I J with
  | zero => exact hw.elim
  | succ n ih => exact t_X12_kinds_16_s h hr (fun _ _ _ q => ih q) hw
def w_X12_kinds (I : sI) (J : sJ) (post : Int32 → sI → sJ → Prop) : Prop :=
  (∀ I_2 : sI, I_2 = sUI I 248 0 0 → w_X12_counts I_2 J (fun (I_6 : sI) (J_6 : sJ) => ((∀ I_11 : sI, I_11 = sUI I_6 248 1 0 → w_X12_kinds_16 post 0 I_11 J_6))))
set_option maxHeartbeats 4000000 in
set_option maxRecDepth 100000 in
theorem t_X12_kinds {X : sX} {I : sI} {J : sJ} {post : Int32 → sI → sJ → Prop} (h : sOK X cX12_kinds RX12 2 2 41) (hr : sRt X (some .int) (sPi post)) (hw : w_X12_kinds I J post) : sG X 2 0 [(0, .ref 248)] [] I J := by
  unfold w_X12_kinds at hw
  refine g_aload_n h rfl 0 rfl dX12_kinds_0 ?_
  refine g_iconst (v := 0) h (by decide) dX12_kinds_1 ?_
  refine g_putI h is_248 fl_X12_1 rfl rfl dX12_kinds_2 ?_
  refine g_nI (fun I_2 eI_2 => ?_)
  replace hw := hw I_2 eI_2
  refine g_aload_n h rfl 0 rfl dX12_kinds_5 ?_
  refine g_callV [] h (c_X12_counts X hw) sPv_v mw_X12_counts lk_X12_298 is_248 rfl rfl ⟨by decide, by decide⟩ (Nat.le_of_ble_eq_true rfl) dX12_kinds_6 (sPv_k (fun I_6 J_6 hw => ?_))
  refine g_aload_n h rfl 0 rfl dX12_kinds_9 ?_
  refine g_iconst (v := 0) h (by decide) dX12_kinds_10 ?_
  refine g_putI h is_248 fl_X12_11 rfl rfl dX12_kinds_11 ?_
  refine g_nI (fun I_11 eI_11 => ?_)
  replace hw := hw I_11 eI_11
  refine g_iconst (v := 0) h (by decide) dX12_kinds_14 ?_
  refine g_istore_n (lo2 := [(1, .int 0), (0, .ref 248)]) h rfl (by decide) rfl dX12_kinds_15 ?_
  exact g_sub [1, 0] rfl (t_X12_kinds_16 h hr hw)
theorem c_X12_kinds (X : sX) {I : sI} {J : sJ} {post : Int32 → sI → sJ → Prop} (hw : w_X12_kinds I J post) : sCall X yX12_kinds cX12_kinds 2 (some .int) 2 41 [.ref 248] I J (sPi post) := sCall_of (by decide +kernel) (Nat.le_of_ble_eq_true rfl) (fun X h hr => t_X12_kinds h hr hw)
theorem dX12_one_0 : decode cX12_one 0 = .ok (.aload_n 0, 1) := by decide +kernel
theorem dX12_one_1 : decode cX12_one 1 = .ok (.iconst 0, 1) := by decide +kernel
theorem dX12_one_2 : decode cX12_one 2 = .ok (.iconst 1, 1) := by decide +kernel
theorem dX12_one_3 : decode cX12_one 3 = .ok (.iastore, 1) := by decide +kernel
theorem dX12_one_4 : decode cX12_one 4 = .ok (.aload_n 0, 1) := by decide +kernel
theorem dX12_one_5 : decode cX12_one 5 = .ok (.iconst 1, 1) := by decide +kernel
theorem dX12_one_6 : decode cX12_one 6 = .ok (.iconst 1, 1) := by decide +kernel
theorem dX12_one_7 : decode cX12_one 7 = .ok (.iastore, 1) := by decide +kernel
theorem dX12_one_8 : decode cX12_one 8 = .ok (.return_, 1) := by decide +kernel
def w_X12_one (h0 : Nat) (I : sI) (J : sJ) (post : sI → sJ → Prop) : Prop :=
  (vp_in 0 65 ∧ (∀ I_3 : sI, I_3 = sUI I h0 (Int32.toNatClampNeg 0) 1 → (vp_in 1 65 ∧ (∀ I_7 : sI, I_7 = sUI I_3 h0 (Int32.toNatClampNeg 1) 1 → post I_7 J))))
set_option maxHeartbeats 4000000 in
set_option maxRecDepth 100000 in
theorem t_X12_one {X : sX} {h0 : Nat} (ph0 : sAr h0 1 65) {I : sI} {J : sJ} {post : sI → sJ → Prop} (h : sOK X cX12_one RX12 1 0 0) (hr : sRt X none (sPv post)) (hw : w_X12_one h0 I J post) : sG X 1 0 [(0, .ref h0)] [] I J := by
  unfold w_X12_one at hw
  refine g_aload_n h rfl 0 rfl dX12_one_0 ?_
  refine g_iconst (v := 0) h (by decide) dX12_one_1 ?_
  refine g_iconst (v := 1) h (by decide) dX12_one_2 ?_
  obtain ⟨hi3, hw⟩ := hw
  refine g_iast h ph0 hi3 dX12_one_3 ?_
  refine g_nI (fun I_3 eI_3 => ?_)
  replace hw := hw I_3 eI_3
  refine g_aload_n h rfl 0 rfl dX12_one_4 ?_
  refine g_iconst (v := 1) h (by decide) dX12_one_5 ?_
  refine g_iconst (v := 1) h (by decide) dX12_one_6 ?_
  obtain ⟨hi7, hw⟩ := hw
  refine g_iast h ph0 hi7 dX12_one_7 ?_
  refine g_nI (fun I_7 eI_7 => ?_)
  replace hw := hw I_7 eI_7
  exact g_vret h hr dX12_one_8 hw
theorem c_X12_one (X : sX) {h0 : Nat} (ph0 : sAr h0 1 65) {I : sI} {J : sJ} {post : sI → sJ → Prop} (hw : w_X12_one h0 I J post) : sCall X yX12_one cX12_one 1 none 0 0 [.ref h0] I J (sPv post) := sCall_of (by decide +kernel) (Nat.le_of_ble_eq_true rfl) (fun X h hr => t_X12_one ph0 h hr hw)
