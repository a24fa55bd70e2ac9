theorem dX12_tongues_0 : decode cX12_tongues 0 = .ok (.aload_n 0, 1) := by decide +kernel
theorem dX12_tongues_1 : decode cX12_tongues 1 = .ok (.iconst 0, 1) := by decide +kernel
theorem dX12_tongues_2 : decode cX12_tongues 2 = .ok (.putfield 1, 3) := by decide +kernel
theorem dX12_tongues_5 : decode cX12_tongues 5 = .ok (.aload_n 0, 1) := by decide +kernel
theorem dX12_tongues_6 : decode cX12_tongues 6 = .ok (.getfield 76, 3) := by decide +kernel
theorem dX12_tongues_9 : decode cX12_tongues 9 = .ok (.ifCond .ne 5, 3) := by decide +kernel
theorem dX12_tongues_12 : decode cX12_tongues 12 = .ok (.iconst (-1), 1) := by decide +kernel
theorem dX12_tongues_13 : decode cX12_tongues 13 = .ok (.ireturn, 1) := by decide +kernel
theorem dX12_tongues_14 : decode cX12_tongues 14 = .ok (.bipush (-2), 2) := by decide +kernel
theorem dX12_tongues_16 : decode cX12_tongues 16 = .ok (.istore_n 1, 1) := by decide +kernel
theorem dX12_tongues_17 : decode cX12_tongues 17 = .ok (.iconst 0, 1) := by decide +kernel
theorem dX12_tongues_18 : decode cX12_tongues 18 = .ok (.istore_n 2, 1) := by decide +kernel
theorem dX12_tongues_19 : decode cX12_tongues 19 = .ok (.iload_n 2, 1) := by decide +kernel
theorem dX12_tongues_20 : decode cX12_tongues 20 = .ok (.iconst 4, 1) := by decide +kernel
theorem dX12_tongues_21 : decode cX12_tongues 21 = .ok (.if_icmp .ge 76, 3) := by decide +kernel
theorem dX12_tongues_24 : decode cX12_tongues 24 = .ok (.aload_n 0, 1) := by decide +kernel
theorem dX12_tongues_25 : decode cX12_tongues 25 = .ok (.getfield 215, 3) := by decide +kernel
theorem dX12_tongues_28 : decode cX12_tongues 28 = .ok (.iload_n 2, 1) := by decide +kernel
theorem dX12_tongues_29 : decode cX12_tongues 29 = .ok (.iconst (-1), 1) := by decide +kernel
theorem dX12_tongues_30 : decode cX12_tongues 30 = .ok (.iastore, 1) := by decide +kernel
theorem dX12_tongues_31 : decode cX12_tongues 31 = .ok (.aload_n 0, 1) := by decide +kernel
theorem dX12_tongues_32 : decode cX12_tongues 32 = .ok (.getfield 100, 3) := by decide +kernel
theorem dX12_tongues_35 : decode cX12_tongues 35 = .ok (.iload_n 2, 1) := by decide +kernel
theorem dX12_tongues_36 : decode cX12_tongues 36 = .ok (.iaload, 1) := by decide +kernel
theorem dX12_tongues_37 : decode cX12_tongues 37 = .ok (.ifCond .ne 6, 3) := by decide +kernel
theorem dX12_tongues_40 : decode cX12_tongues 40 = .ok (.goto 51, 3) := by decide +kernel
theorem dX12_tongues_43 : decode cX12_tongues 43 = .ok (.aload_n 0, 1) := by decide +kernel
theorem dX12_tongues_44 : decode cX12_tongues 44 = .ok (.iload_n 2, 1) := by decide +kernel
theorem dX12_tongues_45 : decode cX12_tongues 45 = .ok (.invokevirtual 199, 3) := by decide +kernel
theorem dX12_tongues_48 : decode cX12_tongues 48 = .ok (.ifCond .ne 6, 3) := by decide +kernel
theorem dX12_tongues_51 : decode cX12_tongues 51 = .ok (.bipush (-3), 2) := by decide +kernel
theorem dX12_tongues_53 : decode cX12_tongues 53 = .ok (.ireturn, 1) := by decide +kernel
theorem dX12_tongues_54 : decode cX12_tongues 54 = .ok (.aload_n 0, 1) := by decide +kernel
theorem dX12_tongues_55 : decode cX12_tongues 55 = .ok (.getfield 215, 3) := by decide +kernel
theorem dX12_tongues_58 : decode cX12_tongues 58 = .ok (.iload_n 2, 1) := by decide +kernel
theorem dX12_tongues_59 : decode cX12_tongues 59 = .ok (.aload_n 0, 1) := by decide +kernel
theorem dX12_tongues_60 : decode cX12_tongues 60 = .ok (.getfield 175, 3) := by decide +kernel
theorem dX12_tongues_63 : decode cX12_tongues 63 = .ok (.iastore, 1) := by decide +kernel
theorem dX12_tongues_64 : decode cX12_tongues 64 = .ok (.aload_n 0, 1) := by decide +kernel
theorem dX12_tongues_65 : decode cX12_tongues 65 = .ok (.getfield 175, 3) := by decide +kernel
theorem dX12_tongues_68 : decode cX12_tongues 68 = .ok (.iload_n 1, 1) := by decide +kernel
theorem dX12_tongues_69 : decode cX12_tongues 69 = .ok (.ifCond .ge 7, 3) := by decide +kernel
theorem dX12_tongues_72 : decode cX12_tongues 72 = .ok (.iconst 0, 1) := by decide +kernel
theorem dX12_tongues_73 : decode cX12_tongues 73 = .ok (.goto 9, 3) := by decide +kernel
theorem dX12_tongues_76 : decode cX12_tongues 76 = .ok (.aload_n 0, 1) := by decide +kernel
theorem dX12_tongues_77 : decode cX12_tongues 77 = .ok (.getfield 215, 3) := by decide +kernel
theorem dX12_tongues_80 : decode cX12_tongues 80 = .ok (.iload_n 1, 1) := by decide +kernel
theorem dX12_tongues_81 : decode cX12_tongues 81 = .ok (.iaload, 1) := by decide +kernel
theorem dX12_tongues_82 : decode cX12_tongues 82 = .ok (.if_icmp .le 7, 3) := by decide +kernel
theorem dX12_tongues_85 : decode cX12_tongues 85 = .ok (.iload_n 2, 1) := by decide +kernel
theorem dX12_tongues_86 : decode cX12_tongues 86 = .ok (.goto 4, 3) := by decide +kernel
theorem dX12_tongues_89 : decode cX12_tongues 89 = .ok (.iload_n 1, 1) := by decide +kernel
theorem dX12_tongues_90 : decode cX12_tongues 90 = .ok (.istore_n 1, 1) := by decide +kernel
theorem dX12_tongues_91 : decode cX12_tongues 91 = .ok (.iinc 2 1, 3) := by decide +kernel
theorem dX12_tongues_94 : decode cX12_tongues 94 = .ok (.goto (-75), 3) := by decide +kernel
theorem dX12_tongues_97 : decode cX12_tongues 97 = .ok (.aload_n 0, 1) := by decide +kernel
theorem dX12_tongues_98 : decode cX12_tongues 98 = .ok (.iconst 0, 1) := by decide +kernel
theorem dX12_tongues_99 : decode cX12_tongues 99 = .ok (.putfield 11, 3) := by decide +kernel
theorem dX12_tongues_102 : decode cX12_tongues 102 = .ok (.iconst 0, 1) := by decide +kernel
theorem dX12_tongues_103 : decode cX12_tongues 103 = .ok (.istore_n 2, 1) := by decide +kernel
theorem dX12_tongues_104 : decode cX12_tongues 104 = .ok (.iload_n 2, 1) := by decide +kernel
theorem dX12_tongues_105 : decode cX12_tongues 105 = .ok (.iconst 4, 1) := by decide +kernel
theorem dX12_tongues_106 : decode cX12_tongues 106 = .ok (.if_icmp .ge 20, 3) := by decide +kernel
theorem dX12_tongues_109 : decode cX12_tongues 109 = .ok (.aload_n 0, 1) := by decide +kernel
theorem dX12_tongues_110 : decode cX12_tongues 110 = .ok (.aload_n 0, 1) := by decide +kernel
theorem dX12_tongues_111 : decode cX12_tongues 111 = .ok (.getfield 215, 3) := by decide +kernel
theorem dX12_tongues_114 : decode cX12_tongues 114 = .ok (.iload_n 2, 1) := by decide +kernel
theorem dX12_tongues_115 : decode cX12_tongues 115 = .ok (.iaload, 1) := by decide +kernel
theorem dX12_tongues_116 : decode cX12_tongues 116 = .ok (.i2l, 1) := by decide +kernel
theorem dX12_tongues_117 : decode cX12_tongues 117 = .ok (.invokevirtual 18, 3) := by decide +kernel
theorem dX12_tongues_120 : decode cX12_tongues 120 = .ok (.iinc 2 1, 3) := by decide +kernel
theorem dX12_tongues_123 : decode cX12_tongues 123 = .ok (.goto (-19), 3) := by decide +kernel
theorem dX12_tongues_126 : decode cX12_tongues 126 = .ok (.iload_n 1, 1) := by decide +kernel
theorem dX12_tongues_127 : decode cX12_tongues 127 = .ok (.ireturn, 1) := by decide +kernel
def w_X12_tongues_104_s (post : Int32 → sI → sJ → Prop) (k104 : Int32 → Int32 → sI → sJ → Prop) (x1 : Int32) (x2 : Int32) (I : sI) (J : sJ) : Prop :=
  ((4 ≤ x2 → post x1 I J) ∧ (¬ 4 ≤ x2 → (vp_in x2 4 ∧ w_X12_enters (Int32.toInt64 (I 266 (Int32.toNatClampNeg x2))) I J (fun (I_117 : sI) (J_117 : sJ) => ((∀ v2_120 : Int32, v2_120 = x2 + 1 → k104 x1 v2_120 I_117 J_117))))))
def w_X12_tongues_104_n (post : Int32 → sI → sJ → Prop) : Nat → Int32 → Int32 → sI → sJ → Prop
  | 0 => fun _ _ _ _ => False
  | n + 1 => fun x1 x2 I J => w_X12_tongues_104_s post (w_X12_tongues_104_n post n) x1 x2 I J
def w_X12_tongues_104 (post : Int32 → sI → sJ → Prop) (x1 : Int32) (x2 : Int32) (I : sI) (J : sJ) : Prop := ∃ n, w_X12_tongues_104_n post n x1 x2 I J
set_option maxHeartbeats 4000000 in
set_option maxRecDepth 100000 in
theorem t_X12_tongues_104_s {X : sX} {post : Int32 → sI → sJ → Prop} (h : sOK X cX12_tongues RX12 3 5 136) (hr : sRt X (some .int) (sPi post)) {k104 : Int32 → Int32 → sI → sJ → Prop} (hk104 : ∀ (x1 : Int32) (x2 : Int32) (I : sI) (J : sJ), k104 x1 x2 I J → sG X 3 104 [(0, .ref 248), (1, .int x1), (2, .int x2)] [] I J) {x1 : Int32} {x2 : Int32} {I : sI} {J : sJ} (hw : w_X12_tongues_104_s post k104 x1 x2 I J) : sG X 3 104 [(0, .ref 248), (1, .int x1), (2, .int x2)] [] I J := by
  unfold w_X12_tongues_104_s at hw
  refine g_iload_n h rfl 2 rfl dX12_tongues_104 ?_
  refine g_iconst (v := 4) h (by decide) dX12_tongues_105 ?_
  refine g_icmp_ge (tgt := 126) h (by decide) dX12_tongues_106 (fun q106 => ?_) (fun q106 => ?_)
  · replace hw := hw.1 q106
    refine g_iload_n h rfl 1 rfl dX12_tongues_126 ?_
    exact g_iret h hr dX12_tongues_127 hw
  · replace hw := hw.2 q106
    refine g_aload_n h rfl 0 rfl dX12_tongues_109 ?_
    refine g_aload_n h rfl 0 rfl dX12_tongues_110 ?_
    refine g_get h is_248 fl_X12_215 fr_248_34 dX12_tongues_111 ?_
    refine g_iload_n h rfl 2 rfl dX12_tongues_114 ?_
    obtain ⟨hi115, hw⟩ := hw
    refine g_iald h ar_266 hi115 dX12_tongues_115 ?_
    refine g_i2l h dX12_tongues_116 ?_
    refine g_callV [.long (Int32.toInt64 (I 266 (Int32.toNatClampNeg x2)))] h (c_X12_enters X hw) sPv_v mw_X12_enters lk_X12_18 is_248 rfl rfl ⟨by decide, by decide⟩ (Nat.le_of_ble_eq_true rfl) dX12_tongues_117 (sPv_k (fun I_117 J_117 hw => ?_))
    obtain ⟨v2_120, ev2_120⟩ : ∃ z : Int32, z = x2 + 1 := ⟨_, rfl⟩
    replace hw := hw v2_120 ev2_120
    refine g_iinc (v := v2_120) (lo2 := [(2, .int v2_120), (0, .ref 248), (1, .int x1)]) h 2 rfl (by rw [ev2_120]; rfl) (by decide) rfl dX12_tongues_120 ?_
    refine g_goto (tgt := 104) h (by decide) dX12_tongues_123 ?_
    exact g_sub [1, 2, 0] rfl (hk104 _ _ _ _ hw)
theorem t_X12_tongues_104 {X : sX} {post : Int32 → sI → sJ → Prop} (h : sOK X cX12_tongues RX12 3 5 136) (hr : sRt X (some .int) (sPi post)) {x1 : Int32} {x2 : Int32} {I : sI} {J : sJ} (hw : w_X12_tongues_104 post x1 x2 I J) : sG X 3 104 [(0, .ref 248), (1, .int x1), (2, .int x2)] [] I J := by
  obtain ⟨n, hw⟩ := hw
  induction n generalizing x1 x2 I J with
  | zero => exact hw.elim
  | succ n ih => exact t_X12_tongues_104_s h hr (fun _ _ _ _ q => ih q) hw
def w_X12_tongues_91 (post : Int32 → sI → sJ → Prop) (k19 : Int32 → Int32 → sI → sJ → Prop) (x1 : Int32) (x2 : Int32) (I : sI) (J : sJ) : Prop :=
  (∀ v2_91 : Int32, v2_91 = x2 + 1 → k19 x1 v2_91 I J)
set_option maxHeartbeats 4000000 in
set_option maxRecDepth 100000 in
theorem t_X12_tongues_91 {X : sX} {post : Int32 → sI → sJ → Prop} (h : sOK X cX12_tongues RX12 3 5 136) (hr : sRt X (some .int) (sPi post)) {k19 : Int32 → Int32 → sI → sJ → Prop} (hk19 : ∀ (x1 : Int32) (x2 : Int32) (I : sI) (J : sJ), k19 x1 x2 I J → sG X 3 19 [(0, .ref 248), (1, .int x1), (2, .int x2)] [] I J) {x1 : Int32} {x2 : Int32} {I : sI} {J : sJ} (hw : w_X12_tongues_91 post k19 x1 x2 I J) : sG X 3 91 [(0, .ref 248), (1, .int x1), (2, .int x2)] [] I J := by
  unfold w_X12_tongues_91 at hw
  obtain ⟨v2_91, ev2_91⟩ : ∃ z : Int32, z = x2 + 1 := ⟨_, rfl⟩
  replace hw := hw v2_91 ev2_91
  refine g_iinc (v := v2_91) (lo2 := [(2, .int v2_91), (0, .ref 248), (1, .int x1)]) h 2 rfl (by rw [ev2_91]; rfl) (by decide) rfl dX12_tongues_91 ?_
  refine g_goto (tgt := 19) h (by decide) dX12_tongues_94 ?_
  exact g_sub [1, 2, 0] rfl (hk19 _ _ _ _ hw)
def w_X12_tongues_90 (post : Int32 → sI → sJ → Prop) (k19 : Int32 → Int32 → sI → sJ → Prop) (x2 : Int32) (s0 : Int32) (I : sI) (J : sJ) : Prop :=
  w_X12_tongues_91 post k19 s0 x2 I J
set_option maxHeartbeats 4000000 in
set_option maxRecDepth 100000 in
theorem t_X12_tongues_90 {X : sX} {post : Int32 → sI → sJ → Prop} (h : sOK X cX12_tongues RX12 3 5 136) (hr : sRt X (some .int) (sPi post)) {k19 : Int32 → Int32 → sI → sJ → Prop} (hk19 : ∀ (x1 : Int32) (x2 : Int32) (I : sI) (J : sJ), k19 x1 x2 I J → sG X 3 19 [(0, .ref 248), (1, .int x1), (2, .int x2)] [] I J) {x2 : Int32} {s0 : Int32} {I : sI} {J : sJ} (hw : w_X12_tongues_90 post k19 x2 s0 I J) : sG X 3 90 [(0, .ref 248), (2, .int x2)] [.int s0] I J := by
  unfold w_X12_tongues_90 at hw
  refine g_istore_n (lo2 := [(1, .int s0), (0, .ref 248), (2, .int x2)]) h rfl (by decide) rfl dX12_tongues_90 ?_
  exact g_sub [1, 0, 2] rfl (t_X12_tongues_91 h hr hk19 hw)
def w_X12_tongues_82 (post : Int32 → sI → sJ → Prop) (k19 : Int32 → Int32 → sI → sJ → Prop) (x1 : Int32) (x2 : Int32) (s0 : Int32) (s1 : Int32) (I : sI) (J : sJ) : Prop :=
  ((s1 ≤ s0 → w_X12_tongues_90 post k19 x2 x1 I J) ∧ (¬ s1 ≤ s0 → w_X12_tongues_90 post k19 x2 x2 I J))
set_option maxHeartbeats 4000000 in
set_option maxRecDepth 100000 in
theorem t_X12_tongues_82 {X : sX} {post : Int32 → sI → sJ → Prop} (h : sOK X cX12_tongues RX12 3 5 136) (hr : sRt X (some .int) (sPi post)) {k19 : Int32 → Int32 → sI → sJ → Prop} (hk19 : ∀ (x1 : Int32) (x2 : Int32) (I : sI) (J : sJ), k19 x1 x2 I J → sG X 3 19 [(0, .ref 248), (1, .int x1), (2, .int x2)] [] I J) {x1 : Int32} {x2 : Int32} {s0 : Int32} {s1 : Int32} {I : sI} {J : sJ} (hw : w_X12_tongues_82 post k19 x1 x2 s0 s1 I J) : sG X 3 82 [(0, .ref 248), (1, .int x1), (2, .int x2)] [.int s0, .int s1] I J := by
  unfold w_X12_tongues_82 at hw
  refine g_icmp_le (tgt := 89) h (by decide) dX12_tongues_82 (fun q82 => ?_) (fun q82 => ?_)
  · replace hw := hw.1 q82
    refine g_iload_n h rfl 1 rfl dX12_tongues_89 ?_
    exact g_sub [0, 2] rfl (t_X12_tongues_90 h hr hk19 hw)
  · replace hw := hw.2 q82
    refine g_iload_n h rfl 2 rfl dX12_tongues_85 ?_
    refine g_goto (tgt := 90) h (by decide) dX12_tongues_86 ?_
    exact g_sub [0, 2] rfl (t_X12_tongues_90 h hr hk19 hw)
def w_X12_tongues_19_s (post : Int32 → sI → sJ → Prop) (k19 : Int32 → Int32 → sI → sJ → Prop) (x1 : Int32) (x2 : Int32) (I : sI) (J : sJ) : Prop :=
  ((4 ≤ x2 → (∀ I_99 : sI, I_99 = sUI I 248 1 0 → w_X12_tongues_104 post x1 0 I_99 J)) ∧ (¬ 4 ≤ x2 → (vp_in x2 4 ∧ (∀ I_30 : sI, I_30 = sUI I 266 (Int32.toNatClampNeg x2) (-1) → (vp_in x2 4 ∧ ((¬ (I_30 257 (Int32.toNatClampNeg x2)) = 0 → w_X12_all x2 I_30 J (fun (r_45 : Int32) (I_45 : sI) (J_45 : sJ) => (((¬ r_45 = 0 → (vp_in x2 4 ∧ (∀ I_63 : sI, I_63 = sUI I_45 266 (Int32.toNatClampNeg x2) (I_45 248 32) → ((0 ≤ x1 → (vp_in x1 4 ∧ w_X12_tongues_82 post k19 x1 x2 (I_63 266 (Int32.toNatClampNeg x1)) (I_63 248 32) I_63 J_45)) ∧ (¬ 0 ≤ x1 → w_X12_tongues_82 post k19 x1 x2 0 (I_63 248 32) I_63 J_45))))) ∧ (r_45 = 0 → post (-3) I_45 J_45))))) ∧ ((I_30 257 (Int32.toNatClampNeg x2)) = 0 → w_X12_tongues_91 post k19 x1 x2 I_30 J)))))))
def w_X12_tongues_19_n (post : Int32 → sI → sJ → Prop) : Nat → Int32 → Int32 → sI → sJ → Prop
  | 0 => fun _ _ _ _ => False
  | n + 1 => fun x1 x2 I J => w_X12_tongues_19_s post (w_X12_tongues_19_n post n) x1 x2 I J
def w_X12_tongues_19 (post : Int32 → sI → sJ → Prop) (x1 : Int32) (x2 : Int32) (I : sI) (J : sJ) : Prop := ∃ n, w_X12_tongues_19_n post n x1 x2 I J
set_option maxHeartbeats 4000000 in
set_option maxRecDepth 100000 in
theorem t_X12_tongues_19_s {X : sX} {post : Int32 → sI → sJ → Prop} (h : sOK X cX12_tongues RX12 3 5 136) (hr : sRt X (some .int) (sPi post)) {k19 : Int32 → Int32 → sI → sJ → Prop} (hk19 : ∀ (x1 : Int32) (x2 : Int32) (I : sI) (J : sJ), k19 x1 x2 I J → sG X 3 19 [(0, .ref 248), (1, .int x1), (2, .int x2)] [] I J) {x1 : Int32} {x2 : Int32} {I : sI} {J : sJ} (hw : w_X12_tongues_19_s post k19 x1 x2 I J) : sG X 3 19 [(0, .ref 248), (1, .int x1), (2, .int x2)] [] I J := by
  unfold w_X12_tongues_19_s at hw
  refine g_iload_n h rfl 2 rfl dX12_tongues_19 ?_
  refine g_iconst (v := 4) h (by decide) dX12_tongues_20 ?_
  refine g_icmp_ge (tgt := 97) h (by decide) dX12_tongues_21 (fun q21 => ?_) (fun q21 => ?_)
  · replace hw := hw.1 q21
    refine g_aload_n h rfl 0 rfl dX12_tongues_97 ?_
    refine g_iconst (v := 0) h (by decide) dX12_tongues_98 ?_
    refine g_putI h is_248 fl_X12_11 rfl rfl dX12_tongues_99 ?_
    refine g_nI (fun I_99 eI_99 => ?_)
    replace hw := hw I_99 eI_99
    refine g_iconst (v := 0) h (by decide) dX12_tongues_102 ?_
    refine g_istore_n (lo2 := [(2, .int 0), (0, .ref 248), (1, .int x1)]) h rfl (by decide) rfl dX12_tongues_103 ?_
    exact g_sub [1, 2, 0] rfl (t_X12_tongues_104 h hr hw)
  · replace hw := hw.2 q21
    refine g_aload_n h rfl 0 rfl dX12_tongues_24 ?_
    refine g_get h is_248 fl_X12_215 fr_248_34 dX12_tongues_25 ?_
    refine g_iload_n h rfl 2 rfl dX12_tongues_28 ?_
    refine g_iconst (v := (-1)) h (by decide) dX12_tongues_29 ?_
    obtain ⟨hi30, hw⟩ := hw
    refine g_iast h ar_266 hi30 dX12_tongues_30 ?_
    refine g_nI (fun I_30 eI_30 => ?_)
    replace hw := hw I_30 eI_30
    refine g_aload_n h rfl 0 rfl dX12_tongues_31 ?_
    refine g_get h is_248 fl_X12_100 fr_248_18 dX12_tongues_32 ?_
    refine g_iload_n h rfl 2 rfl dX12_tongues_35 ?_
    obtain ⟨hi36, hw⟩ := hw
    refine g_iald h ar_257 hi36 dX12_tongues_36 ?_
    refine g_if_ne (tgt := 43) h (by decide) dX12_tongues_37 (fun q37 => ?_) (fun q37 => ?_)
    · replace hw := hw.1 q37
      refine g_aload_n h rfl 0 rfl dX12_tongues_43 ?_
      refine g_iload_n h rfl 2 rfl dX12_tongues_44 ?_
      refine g_callV [.int x2] h (c_X12_all X hw) sPi_v mw_X12_all lk_X12_199 is_248 rfl rfl ⟨by decide, by decide⟩ (Nat.le_of_ble_eq_true rfl) dX12_tongues_45 (sPi_k (fun r_45 I_45 J_45 hw => ?_))
      refine g_if_ne (tgt := 54) h (by decide) dX12_tongues_48 (fun q48 => ?_) (fun q48 => ?_)
      · replace hw := hw.1 q48
        refine g_aload_n h rfl 0 rfl dX12_tongues_54 ?_
        refine g_get h is_248 fl_X12_215 fr_248_34 dX12_tongues_55 ?_
        refine g_iload_n h rfl 2 rfl dX12_tongues_58 ?_
        refine g_aload_n h rfl 0 rfl dX12_tongues_59 ?_
        refine g_get h is_248 fl_X12_175 rfl dX12_tongues_60 ?_
        obtain ⟨hi63, hw⟩ := hw
        refine g_iast h ar_266 hi63 dX12_tongues_63 ?_
        refine g_nI (fun I_63 eI_63 => ?_)
        replace hw := hw I_63 eI_63
        refine g_aload_n h rfl 0 rfl dX12_tongues_64 ?_
        refine g_get h is_248 fl_X12_175 rfl dX12_tongues_65 ?_
        refine g_iload_n h rfl 1 rfl dX12_tongues_68 ?_
        refine g_if_ge (tgt := 76) h (by decide) dX12_tongues_69 (fun q69 => ?_) (fun q69 => ?_)
        · replace hw := hw.1 q69
          refine g_aload_n h rfl 0 rfl dX12_tongues_76 ?_
          refine g_get h is_248 fl_X12_215 fr_248_34 dX12_tongues_77 ?_
          refine g_iload_n h rfl 1 rfl dX12_tongues_80 ?_
          obtain ⟨hi81, hw⟩ := hw
          refine g_iald h ar_266 hi81 dX12_tongues_81 ?_
          exact g_sub [0, 1, 2] rfl (t_X12_tongues_82 h hr hk19 hw)
        · replace hw := hw.2 q69
          refine g_iconst (v := 0) h (by decide) dX12_tongues_72 ?_
          refine g_goto (tgt := 82) h (by decide) dX12_tongues_73 ?_
          exact g_sub [0, 1, 2] rfl (t_X12_tongues_82 h hr hk19 hw)
      · replace hw := hw.2 q48
        refine g_bipush (v := (-3)) h (by decide) dX12_tongues_51 ?_
        exact g_iret h hr dX12_tongues_53 hw
    · replace hw := hw.2 q37
      refine g_goto (tgt := 91) h (by decide) dX12_tongues_40 ?_
      exact g_sub [0, 1, 2] rfl (t_X12_tongues_91 h hr hk19 hw)
theorem t_X12_tongues_19 {X : sX} {post : Int32 → sI → sJ → Prop} (h : sOK X cX12_tongues RX12 3 5 136) (hr : sRt X (some .int) (sPi post)) {x1 : Int32} {x2 : Int32} {I : sI} {J : sJ} (hw : w_X12_tongues_19 post x1 x2 I J) : sG X 3 19 [(0, .ref 248), (1, .int x1), (2, .int x2)] [] I J := by
  obtain ⟨n, hw⟩ := hw
  induction n generalizing x1 x2 I J with
  | zero => exact hw.elim
  | succ n ih => exact t_X12_tongues_19_s h hr (fun _ _ _ _ q => ih q) hw
def w_X12_tongues (I : sI) (J : sJ) (post : Int32 → sI → sJ → Prop) : Prop :=
  (∀ I_2 : sI, I_2 = sUI I 248 0 0 → ((¬ (I_2 248 11) = 0 → w_X12_tongues_19 post (-2) 0 I_2 J) ∧ ((I_2 248 11) = 0 → post (-1) I_2 J)))
set_option maxHeartbeats 4000000 in
set_option maxRecDepth 100000 in
theorem t_X12_tongues {X : sX} {I : sI} {J : sJ} {post : Int32 → sI → sJ → Prop} (h : sOK X cX12_tongues RX12 3 5 136) (hr : sRt X (some .int) (sPi post)) (hw : w_X12_tongues I J post) : sG X 3 0 [(0, .ref 248)] [] I J := by
  unfold w_X12_tongues at hw
  refine g_aload_n h rfl 0 rfl dX12_tongues_0 ?_
  refine g_iconst (v := 0) h (by decide) dX12_tongues_1 ?_
  refine g_putI h is_248 fl_X12_1 rfl rfl dX12_tongues_2 ?_
  refine g_nI (fun I_2 eI_2 => ?_)
  replace hw := hw I_2 eI_2
  refine g_aload_n h rfl 0 rfl dX12_tongues_5 ?_
  refine g_get h is_248 fl_X12_76 rfl dX12_tongues_6 ?_
  refine g_if_ne (tgt := 14) h (by decide) dX12_tongues_9 (fun q9 => ?_) (fun q9 => ?_)
  · replace hw := hw.1 q9
    refine g_bipush (v := (-2)) h (by decide) dX12_tongues_14 ?_
    refine g_istore_n (lo2 := [(1, .int (-2)), (0, .ref 248)]) h rfl (by decide) rfl dX12_tongues_16 ?_
    refine g_iconst (v := 0) h (by decide) dX12_tongues_17 ?_
    refine g_istore_n (lo2 := [(2, .int 0), (1, .int (-2)), (0, .ref 248)]) h rfl (by decide) rfl dX12_tongues_18 ?_
    exact g_sub [2, 1, 0] rfl (t_X12_tongues_19 h hr hw)
  · replace hw := hw.2 q9
    refine g_iconst (v := (-1)) h (by decide) dX12_tongues_12 ?_
    exact g_iret h hr dX12_tongues_13 hw
theorem c_X12_tongues (X : sX) {I : sI} {J : sJ} {post : Int32 → sI → sJ → Prop} (hw : w_X12_tongues I J post) : sCall X yX12_tongues cX12_tongues 3 (some .int) 5 136 [.ref 248] I J (sPi post) := sCall_of (by decide +kernel) (Nat.le_of_ble_eq_true rfl) (fun X h hr => t_X12_tongues h hr hw)
theorem dX12_lax_0 : decode cX12_lax 0 = .ok (.aload_n 0, 1) := by decide +kernel
theorem dX12_lax_1 : decode cX12_lax 1 = .ok (.iconst 0, 1) := by decide +kernel
theorem dX12_lax_2 : decode cX12_lax 2 = .ok (.putfield 1, 3) := by decide +kernel
theorem dX12_lax_5 : decode cX12_lax 5 = .ok (.aload_n 0, 1) := by decide +kernel
theorem dX12_lax_6 : decode cX12_lax 6 = .ok (.iload_n 1, 1) := by decide +kernel
theorem dX12_lax_7 : decode cX12_lax 7 = .ok (.invokevirtual 196, 3) := by decide +kernel
theorem dX12_lax_10 : decode cX12_lax 10 = .ok (.ifCond .ne 5, 3) := by decide +kernel
theorem dX12_lax_13 : decode cX12_lax 13 = .ok (.iconst (-1), 1) := by decide +kernel
theorem dX12_lax_14 : decode cX12_lax 14 = .ok (.ireturn, 1) := by decide +kernel
theorem dX12_lax_15 : decode cX12_lax 15 = .ok (.aload_n 0, 1) := by decide +kernel
theorem dX12_lax_16 : decode cX12_lax 16 = .ok (.getfield 117, 3) := by decide +kernel
theorem dX12_lax_19 : decode cX12_lax 19 = .ok (.istore_n 2, 1) := by decide +kernel
theorem dX12_lax_20 : decode cX12_lax 20 = .ok (.aload_n 0, 1) := by decide +kernel
theorem dX12_lax_21 : decode cX12_lax 21 = .ok (.getfield 120, 3) := by decide +kernel
theorem dX12_lax_24 : decode cX12_lax 24 = .ok (.istore_n 3, 1) := by decide +kernel
theorem dX12_lax_25 : decode cX12_lax 25 = .ok (.iconst 0, 1) := by decide +kernel
theorem dX12_lax_26 : decode cX12_lax 26 = .ok (.istore 4, 2) := by decide +kernel
theorem dX12_lax_28 : decode cX12_lax 28 = .ok (.iconst 0, 1) := by decide +kernel
theorem dX12_lax_29 : decode cX12_lax 29 = .ok (.istore 5, 2) := by decide +kernel
theorem dX12_lax_31 : decode cX12_lax 31 = .ok (.iconst 0, 1) := by decide +kernel
theorem dX12_lax_32 : decode cX12_lax 32 = .ok (.istore 6, 2) := by decide +kernel
theorem dX12_lax_34 : decode cX12_lax 34 = .ok (.iconst 1, 1) := by decide +kernel
theorem dX12_lax_35 : decode cX12_lax 35 = .ok (.istore 7, 2) := by decide +kernel
theorem dX12_lax_37 : decode cX12_lax 37 = .ok (.iload 7, 2) := by decide +kernel
theorem dX12_lax_39 : decode cX12_lax 39 = .ok (.iconst 5, 1) := by decide +kernel
theorem dX12_lax_40 : decode cX12_lax 40 = .ok (.if_icmp .gt 99, 3) := by decide +kernel
theorem dX12_lax_43 : decode cX12_lax 43 = .ok (.iload 4, 2) := by decide +kernel
theorem dX12_lax_45 : decode cX12_lax 45 = .ok (.ifCond .ne 94, 3) := by decide +kernel
theorem dX12_lax_48 : decode cX12_lax 48 = .ok (.iconst 0, 1) := by decide +kernel
theorem dX12_lax_49 : decode cX12_lax 49 = .ok (.istore 8, 2) := by decide +kernel
theorem dX12_lax_51 : decode cX12_lax 51 = .ok (.iload 8, 2) := by decide +kernel
theorem dX12_lax_53 : decode cX12_lax 53 = .ok (.iconst 2, 1) := by decide +kernel
theorem dX12_lax_54 : decode cX12_lax 54 = .ok (.if_icmp .gt 79, 3) := by decide +kernel
theorem dX12_lax_57 : decode cX12_lax 57 = .ok (.iload 4, 2) := by decide +kernel
theorem dX12_lax_59 : decode cX12_lax 59 = .ok (.ifCond .ne 74, 3) := by decide +kernel
theorem dX12_lax_62 : decode cX12_lax 62 = .ok (.iload 7, 2) := by decide +kernel
theorem dX12_lax_64 : decode cX12_lax 64 = .ok (.iload 8, 2) := by decide +kernel
theorem dX12_lax_66 : decode cX12_lax 66 = .ok (.isub, 1) := by decide +kernel
theorem dX12_lax_67 : decode cX12_lax 67 = .ok (.i2l, 1) := by decide +kernel
theorem dX12_lax_68 : decode cX12_lax 68 = .ok (.lconst 1, 1) := by decide +kernel
theorem dX12_lax_69 : decode cX12_lax 69 = .ok (.ldc2_w 94, 3) := by decide +kernel
theorem dX12_lax_72 : decode cX12_lax 72 = .ok (.invokestatic 29, 3) := by decide +kernel
theorem dX12_lax_75 : decode cX12_lax 75 = .ok (.ifCond .ne 6, 3) := by decide +kernel
theorem dX12_lax_78 : decode cX12_lax 78 = .ok (.goto 49, 3) := by decide +kernel
theorem dX12_lax_81 : decode cX12_lax 81 = .ok (.aload_n 0, 1) := by decide +kernel
theorem dX12_lax_82 : decode cX12_lax 82 = .ok (.iload 7, 2) := by decide +kernel
theorem dX12_lax_84 : decode cX12_lax 84 = .ok (.iload 8, 2) := by decide +kernel
theorem dX12_lax_86 : decode cX12_lax 86 = .ok (.isub, 1) := by decide +kernel
theorem dX12_lax_87 : decode cX12_lax 87 = .ok (.putfield 117, 3) := by decide +kernel
theorem dX12_lax_90 : decode cX12_lax 90 = .ok (.aload_n 0, 1) := by decide +kernel
theorem dX12_lax_91 : decode cX12_lax 91 = .ok (.iload 8, 2) := by decide +kernel
theorem dX12_lax_93 : decode cX12_lax 93 = .ok (.putfield 120, 3) := by decide +kernel
theorem dX12_lax_96 : decode cX12_lax 96 = .ok (.aload_n 0, 1) := by decide +kernel
theorem dX12_lax_97 : decode cX12_lax 97 = .ok (.iload_n 1, 1) := by decide +kernel
theorem dX12_lax_98 : decode cX12_lax 98 = .ok (.invokevirtual 199, 3) := by decide +kernel
theorem dX12_lax_101 : decode cX12_lax 101 = .ok (.ifCond .eq 10, 3) := by decide +kernel
theorem dX12_lax_104 : decode cX12_lax 104 = .ok (.aload_n 0, 1) := by decide +kernel
theorem dX12_lax_105 : decode cX12_lax 105 = .ok (.getfield 175, 3) := by decide +kernel
theorem dX12_lax_108 : decode cX12_lax 108 = .ok (.goto 5, 3) := by decide +kernel
theorem dX12_lax_111 : decode cX12_lax 111 = .ok (.bipush (-3), 2) := by decide +kernel
theorem dX12_lax_113 : decode cX12_lax 113 = .ok (.istore 4, 2) := by decide +kernel
theorem dX12_lax_115 : decode cX12_lax 115 = .ok (.aload_n 0, 1) := by decide +kernel
theorem dX12_lax_116 : decode cX12_lax 116 = .ok (.getfield 117, 3) := by decide +kernel
theorem dX12_lax_119 : decode cX12_lax 119 = .ok (.istore 5, 2) := by decide +kernel
theorem dX12_lax_121 : decode cX12_lax 121 = .ok (.aload_n 0, 1) := by decide +kernel
theorem dX12_lax_122 : decode cX12_lax 122 = .ok (.getfield 120, 3) := by decide +kernel
theorem dX12_lax_125 : decode cX12_lax 125 = .ok (.istore 6, 2) := by decide +kernel
theorem dX12_lax_127 : decode cX12_lax 127 = .ok (.iinc 8 1, 3) := by decide +kernel
theorem dX12_lax_130 : decode cX12_lax 130 = .ok (.goto (-79), 3) := by decide +kernel
theorem dX12_lax_133 : decode cX12_lax 133 = .ok (.iinc 7 1, 3) := by decide +kernel
theorem dX12_lax_136 : decode cX12_lax 136 = .ok (.goto (-99), 3) := by decide +kernel
theorem dX12_lax_139 : decode cX12_lax 139 = .ok (.aload_n 0, 1) := by decide +kernel
theorem dX12_lax_140 : decode cX12_lax 140 = .ok (.iload_n 2, 1) := by decide +kernel
theorem dX12_lax_141 : decode cX12_lax 141 = .ok (.putfield 117, 3) := by decide +kernel
theorem dX12_lax_144 : decode cX12_lax 144 = .ok (.aload_n 0, 1) := by decide +kernel
theorem dX12_lax_145 : decode cX12_lax 145 = .ok (.iload_n 3, 1) := by decide +kernel
theorem dX12_lax_146 : decode cX12_lax 146 = .ok (.putfield 120, 3) := by decide +kernel
theorem dX12_lax_149 : decode cX12_lax 149 = .ok (.iload 4, 2) := by decide +kernel
theorem dX12_lax_151 : decode cX12_lax 151 = .ok (.ifCond .gt 16, 3) := by decide +kernel
theorem dX12_lax_154 : decode cX12_lax 154 = .ok (.iload 4, 2) := by decide +kernel
theorem dX12_lax_156 : decode cX12_lax 156 = .ok (.ifCond .ne 8, 3) := by decide +kernel
theorem dX12_lax_159 : decode cX12_lax 159 = .ok (.bipush (-2), 2) := by decide +kernel
theorem dX12_lax_161 : decode cX12_lax 161 = .ok (.goto 5, 3) := by decide +kernel
theorem dX12_lax_164 : decode cX12_lax 164 = .ok (.bipush (-3), 2) := by decide +kernel
theorem dX12_lax_166 : decode cX12_lax 166 = .ok (.ireturn, 1) := by decide +kernel
theorem dX12_lax_167 : decode cX12_lax 167 = .ok (.aload_n 0, 1) := by decide +kernel
theorem dX12_lax_168 : decode cX12_lax 168 = .ok (.iconst 0, 1) := by decide +kernel
theorem dX12_lax_169 : decode cX12_lax 169 = .ok (.putfield 11, 3) := by decide +kernel
theorem dX12_lax_172 : decode cX12_lax 172 = .ok (.aload_n 0, 1) := by decide +kernel
theorem dX12_lax_173 : decode cX12_lax 173 = .ok (.iload 5, 2) := by decide +kernel
theorem dX12_lax_175 : decode cX12_lax 175 = .ok (.i2l, 1) := by decide +kernel
theorem dX12_lax_176 : decode cX12_lax 176 = .ok (.invokevirtual 18, 3) := by decide +kernel
theorem dX12_lax_179 : decode cX12_lax 179 = .ok (.aload_n 0, 1) := by decide +kernel
theorem dX12_lax_180 : decode cX12_lax 180 = .ok (.iload 6, 2) := by decide +kernel
theorem dX12_lax_182 : decode cX12_lax 182 = .ok (.i2l, 1) := by decide +kernel
theorem dX12_lax_183 : decode cX12_lax 183 = .ok (.invokevirtual 18, 3) := by decide +kernel
theorem dX12_lax_186 : decode cX12_lax 186 = .ok (.iload 4, 2) := by decide +kernel
theorem dX12_lax_188 : decode cX12_lax 188 = .ok (.ireturn, 1) := by decide +kernel
def w_X12_lax_139 (post : Int32 → sI → sJ → Prop) (x2 : Int32) (x3 : Int32) (x4 : Int32) (x5 : Int32) (x6 : Int32) (I : sI) (J : sJ) : Prop :=
  (∀ I_141 : sI, I_141 = sUI I 248 21 x2 → (∀ I_146 : sI, I_146 = sUI I_141 248 22 x3 → ((0 < x4 → (∀ I_169 : sI, I_169 = sUI I_146 248 1 0 → w_X12_enters (Int32.toInt64 x5) I_169 J (fun (I_176 : sI) (J_176 : sJ) => (w_X12_enters (Int32.toInt64 x6) I_176 J_176 (fun (I_183 : sI) (J_183 : sJ) => (post x4 I_183 J_183)))))) ∧ (¬ 0 < x4 → ((¬ x4 = 0 → post (-3) I_146 J) ∧ (x4 = 0 → post (-2) I_146 J))))))
set_option maxHeartbeats 4000000 in
set_option maxRecDepth 100000 in
theorem t_X12_lax_139 {X : sX} {post : Int32 → sI → sJ → Prop} (h : sOK X cX12_lax RX12 9 5 136) (hr : sRt X (some .int) (sPi post)) {x2 : Int32} {x3 : Int32} {x4 : Int32} {x5 : Int32} {x6 : Int32} {I : sI} {J : sJ} (hw : w_X12_lax_139 post x2 x3 x4 x5 x6 I J) : sG X 9 139 [(0, .ref 248), (2, .int x2), (3, .int x3), (4, .int x4), (5, .int x5), (6, .int x6)] [] I J := by
  unfold w_X12_lax_139 at hw
  refine g_aload_n h rfl 0 rfl dX12_lax_139 ?_
  refine g_iload_n h rfl 1 rfl dX12_lax_140 ?_
  refine g_putI h is_248 fl_X12_117 rfl rfl dX12_lax_141 ?_
  refine g_nI (fun I_141 eI_141 => ?_)
  replace hw := hw I_141 eI_141
  refine g_aload_n h rfl 0 rfl dX12_lax_144 ?_
  refine g_iload_n h rfl 2 rfl dX12_lax_145 ?_
  refine g_putI h is_248 fl_X12_120 rfl rfl dX12_lax_146 ?_
  refine g_nI (fun I_146 eI_146 => ?_)
  replace hw := hw I_146 eI_146
  refine g_iload h 3 rfl dX12_lax_149 ?_
  refine g_if_gt (tgt := 167) h (by decide) dX12_lax_151 (fun q151 => ?_) (fun q151 => ?_)
  · replace hw := hw.1 q151
    refine g_aload_n h rfl 0 rfl dX12_lax_167 ?_
    refine g_iconst (v := 0) h (by decide) dX12_lax_168 ?_
    refine g_putI h is_248 fl_X12_11 rfl rfl dX12_lax_169 ?_
    refine g_nI (fun I_169 eI_169 => ?_)
    replace hw := hw I_169 eI_169
    refine g_aload_n h rfl 0 rfl dX12_lax_172 ?_
    refine g_iload h 4 rfl dX12_lax_173 ?_
    refine g_i2l h dX12_lax_175 ?_
    refine g_callV [.long (Int32.toInt64 x5)] h (c_X12_enters X hw) sPv_v mw_X12_enters lk_X12_18 is_248 rfl rfl ⟨by decide, by decide⟩ (Nat.le_of_ble_eq_true rfl) dX12_lax_176 (sPv_k (fun I_176 J_176 hw => ?_))
    refine g_aload_n h rfl 0 rfl dX12_lax_179 ?_
    refine g_iload h 5 rfl dX12_lax_180 ?_
    refine g_i2l h dX12_lax_182 ?_
    refine g_callV [.long (Int32.toInt64 x6)] h (c_X12_enters X hw) sPv_v mw_X12_enters lk_X12_18 is_248 rfl rfl ⟨by decide, by decide⟩ (Nat.le_of_ble_eq_true rfl) dX12_lax_183 (sPv_k (fun I_183 J_183 hw => ?_))
    refine g_iload h 3 rfl dX12_lax_186 ?_
    exact g_iret h hr dX12_lax_188 hw
  · replace hw := hw.2 q151
    refine g_iload h 3 rfl dX12_lax_154 ?_
    refine g_if_ne (tgt := 164) h (by decide) dX12_lax_156 (fun q156 => ?_) (fun q156 => ?_)
    · replace hw := hw.1 q156
      refine g_bipush (v := (-3)) h (by decide) dX12_lax_164 ?_
      exact g_iret h hr dX12_lax_166 hw
    · replace hw := hw.2 q156
      refine g_bipush (v := (-2)) h (by decide) dX12_lax_159 ?_
      refine g_goto (tgt := 166) h (by decide) dX12_lax_161 ?_
      exact g_iret h hr dX12_lax_166 hw
def w_X12_lax_133 (post : Int32 → sI → sJ → Prop) (k37 : Int32 → Int32 → Int32 → Int32 → Int32 → Int32 → Int32 → sI → sJ → Prop) (x1 : Int32) (x2 : Int32) (x3 : Int32) (x4 : Int32) (x5 : Int32) (x6 : Int32) (x7 : Int32) (I : sI) (J : sJ) : Prop :=
  (∀ v7_133 : Int32, v7_133 = x7 + 1 → k37 x1 x2 x3 x4 x5 x6 v7_133 I J)
set_option maxHeartbeats 4000000 in
set_option maxRecDepth 100000 in
theorem t_X12_lax_133 {X : sX} {post : Int32 → sI → sJ → Prop} (h : sOK X cX12_lax RX12 9 5 136) (hr : sRt X (some .int) (sPi post)) {k37 : Int32 → Int32 → Int32 → Int32 → Int32 → Int32 → Int32 → sI → sJ → Prop} (hk37 : ∀ (x1 : Int32) (x2 : Int32) (x3 : Int32) (x4 : Int32) (x5 : Int32) (x6 : Int32) (x7 : Int32) (I : sI) (J : sJ), k37 x1 x2 x3 x4 x5 x6 x7 I J → sG X 9 37 [(0, .ref 248), (1, .int x1), (2, .int x2), (3, .int x3), (4, .int x4), (5, .int x5), (6, .int x6), (7, .int x7)] [] I J) {x1 : Int32} {x2 : Int32} {x3 : Int32} {x4 : Int32} {x5 : Int32} {x6 : Int32} {x7 : Int32} {I : sI} {J : sJ} (hw : w_X12_lax_133 post k37 x1 x2 x3 x4 x5 x6 x7 I J) : sG X 9 133 [(0, .ref 248), (1, .int x1), (2, .int x2), (3, .int x3), (4, .int x4), (5, .int x5), (6, .int x6), (7, .int x7)] [] I J := by
  unfold w_X12_lax_133 at hw
  obtain ⟨v7_133, ev7_133⟩ : ∃ z : Int32, z = x7 + 1 := ⟨_, rfl⟩
  replace hw := hw v7_133 ev7_133
  refine g_iinc (v := v7_133) (lo2 := [(7, .int v7_133), (0, .ref 248), (1, .int x1), (2, .int x2), (3, .int x3), (4, .int x4), (5, .int x5), (6, .int x6)]) h 7 rfl (by rw [ev7_133]; rfl) (by decide) rfl dX12_lax_133 ?_
  refine g_goto (tgt := 37) h (by decide) dX12_lax_136 ?_
  exact g_sub [1, 2, 3, 4, 5, 6, 7, 0] rfl (hk37 _ _ _ _ _ _ _ _ _ hw)
def w_X12_lax_127 (post : Int32 → sI → sJ → Prop) (k37 : Int32 → Int32 → Int32 → Int32 → Int32 → Int32 → Int32 → sI → sJ → Prop) (k51 : Int32 → Int32 → Int32 → Int32 → Int32 → Int32 → Int32 → Int32 → sI → sJ → Prop) (x1 : Int32) (x2 : Int32) (x3 : Int32) (x4 : Int32) (x5 : Int32) (x6 : Int32) (x7 : Int32) (x8 : Int32) (I : sI) (J : sJ) : Prop :=
  (∀ v8_127 : Int32, v8_127 = x8 + 1 → k51 x1 x2 x3 x4 x5 x6 x7 v8_127 I J)
set_option maxHeartbeats 4000000 in
set_option maxRecDepth 100000 in
theorem t_X12_lax_127 {X : sX} {post : Int32 → sI → sJ → Prop} (h : sOK X cX12_lax RX12 9 5 136) (hr : sRt X (some .int) (sPi post)) {k37 : Int32 → Int32 → Int32 → Int32 → Int32 → Int32 → Int32 → sI → sJ → Prop} (hk37 : ∀ (x1 : Int32) (x2 : Int32) (x3 : Int32) (x4 : Int32) (x5 : Int32) (x6 : Int32) (x7 : Int32) (I : sI) (J : sJ), k37 x1 x2 x3 x4 x5 x6 x7 I J → sG X 9 37 [(0, .ref 248), (1, .int x1), (2, .int x2), (3, .int x3), (4, .int x4), (5, .int x5), (6, .int x6), (7, .int x7)] [] I J) {k51 : Int32 → Int32 → Int32 → Int32 → Int32 → Int32 → Int32 → Int32 → sI → sJ → Prop} (hk51 : ∀ (x1 : Int32) (x2 : Int32) (x3 : Int32) (x4 : Int32) (x5 : Int32) (x6 : Int32) (x7 : Int32) (x8 : Int32) (I : sI) (J : sJ), k51 x1 x2 x3 x4 x5 x6 x7 x8 I J → sG X 9 51 [(0, .ref 248), (1, .int x1), (2, .int x2), (3, .int x3), (4, .int x4), (5, .int x5), (6, .int x6), (7, .int x7), (8, .int x8)] [] I J) {x1 : Int32} {x2 : Int32} {x3 : Int32} {x4 : Int32} {x5 : Int32} {x6 : Int32} {x7 : Int32} {x8 : Int32} {I : sI} {J : sJ} (hw : w_X12_lax_127 post k37 k51 x1 x2 x3 x4 x5 x6 x7 x8 I J) : sG X 9 127 [(0, .ref 248), (1, .int x1), (2, .int x2), (3, .int x3), (4, .int x4), (5, .int x5), (6, .int x6), (7, .int x7), (8, .int x8)] [] I J := by
  unfold w_X12_lax_127 at hw
  obtain ⟨v8_127, ev8_127⟩ : ∃ z : Int32, z = x8 + 1 := ⟨_, rfl⟩
  replace hw := hw v8_127 ev8_127
  refine g_iinc (v := v8_127) (lo2 := [(8, .int v8_127), (0, .ref 248), (1, .int x1), (2, .int x2), (3, .int x3), (4, .int x4), (5, .int x5), (6, .int x6), (7, .int x7)]) h 8 rfl (by rw [ev8_127]; rfl) (by decide) rfl dX12_lax_127 ?_
  refine g_goto (tgt := 51) h (by decide) dX12_lax_130 ?_
  exact g_sub [1, 2, 3, 4, 5, 6, 7, 8, 0] rfl (hk51 _ _ _ _ _ _ _ _ _ _ hw)
def w_X12_lax_113 (post : Int32 → sI → sJ → Prop) (k37 : Int32 → Int32 → Int32 → Int32 → Int32 → Int32 → Int32 → sI → sJ → Prop) (k51 : Int32 → Int32 → Int32 → Int32 → Int32 → Int32 → Int32 → Int32 → sI → sJ → Prop) (x1 : Int32) (x2 : Int32) (x3 : Int32) (x7 : Int32) (x8 : Int32) (s0 : Int32) (I : sI) (J : sJ) : Prop :=
  (∀ v5_119 : Int32, v5_119 = I 248 21 → (∀ v6_125 : Int32, v6_125 = I 248 22 → w_X12_lax_127 post k37 k51 x1 x2 x3 s0 v5_119 v6_125 x7 x8 I J))
set_option maxHeartbeats 4000000 in
set_option maxRecDepth 100000 in
theorem t_X12_lax_113 {X : sX} {post : Int32 → sI → sJ → Prop} (h : sOK X cX12_lax RX12 9 5 136) (hr : sRt X (some .int) (sPi post)) {k37 : Int32 → Int32 → Int32 → Int32 → Int32 → Int32 → Int32 → sI → sJ → Prop} (hk37 : ∀ (x1 : Int32) (x2 : Int32) (x3 : Int32) (x4 : Int32) (x5 : Int32) (x6 : Int32) (x7 : Int32) (I : sI) (J : sJ), k37 x1 x2 x3 x4 x5 x6 x7 I J → sG X 9 37 [(0, .ref 248), (1, .int x1), (2, .int x2), (3, .int x3), (4, .int x4), (5, .int x5), (6, .int x6), (7, .int x7)] [] I J) {k51 : Int32 → Int32 → Int32 → Int32 → Int32 → Int32 → Int32 → Int32 → sI → sJ → Prop} (hk51 : ∀ (x1 : Int32) (x2 : Int32) (x3 : Int32) (x4 : Int32) (x5 : Int32) (x6 : Int32) (x7 : Int32) (x8 : Int32) (I : sI) (J : sJ), k51 x1 x2 x3 x4 x5 x6 x7 x8 I J → sG X 9 51 [(0, .ref 248), (1, .int x1), (2, .int x2), (3, .int x3), (4, .int x4), (5, .int x5), (6, .int x6), (7, .int x7), (8, .int x8)] [] I J) {x1 : Int32} {x2 : Int32} {x3 : Int32} {x7 : Int32} {x8 : Int32} {s0 : Int32} {I : sI} {J : sJ} (hw : w_X12_lax_113 post k37 k51 x1 x2 x3 x7 x8 s0 I J) : sG X 9 113 [(0, .ref 248), (1, .int x1), (2, .int x2), (3, .int x3), (7, .int x7), (8, .int x8)] [.int s0] I J := by
  unfold w_X12_lax_113 at hw
  refine g_istore (lo2 := [(4, .int s0), (0, .ref 248), (1, .int x1), (2, .int x2), (3, .int x3), (7, .int x7), (8, .int x8)]) h (by decide) rfl dX12_lax_113 ?_
  refine g_aload_n h rfl 1 rfl dX12_lax_115 ?_
  refine g_get h is_248 fl_X12_117 rfl dX12_lax_116 ?_
  refine g_ni (fun v5_119 ev5_119 => ?_)
  replace hw := hw v5_119 ev5_119
  refine g_istore (lo2 := [(5, .int v5_119), (4, .int s0), (0, .ref 248), (1, .int x1), (2, .int x2), (3, .int x3), (7, .int x7), (8, .int x8)]) h (by decide) rfl dX12_lax_119 ?_
  refine g_aload_n h rfl 2 rfl dX12_lax_121 ?_
  refine g_get h is_248 fl_X12_120 rfl dX12_lax_122 ?_
  refine g_ni (fun v6_125 ev6_125 => ?_)
  replace hw := hw v6_125 ev6_125
  refine g_istore (lo2 := [(6, .int v6_125), (5, .int v5_119), (4, .int s0), (0, .ref 248), (1, .int x1), (2, .int x2), (3, .int x3), (7, .int x7), (8, .int x8)]) h (by decide) rfl dX12_lax_125 ?_
  exact g_sub [3, 4, 5, 6, 2, 1, 0, 7, 8] rfl (t_X12_lax_127 h hr hk37 hk51 hw)
def w_X12_lax_51_s (post : Int32 → sI → sJ → Prop) (k37 : Int32 → Int32 → Int32 → Int32 → Int32 → Int32 → Int32 → sI → sJ → Prop) (k51 : Int32 → Int32 → Int32 → Int32 → Int32 → Int32 → Int32 → Int32 → sI → sJ → Prop) (x1 : Int32) (x2 : Int32) (x3 : Int32) (x4 : Int32) (x5 : Int32) (x6 : Int32) (x7 : Int32) (x8 : Int32) (I : sI) (J : sJ) : Prop :=
  ((2 < x8 → w_X12_lax_133 post k37 x1 x2 x3 x4 x5 x6 x7 I J) ∧ (¬ 2 < x8 → ((¬ x4 = 0 → w_X12_lax_133 post k37 x1 x2 x3 x4 x5 x6 x7 I J) ∧ (x4 = 0 → w_X12_in (Int32.toInt64 (x7 - x8)) 1 3 I J (fun (r_72 : Int32) (I_72 : sI) (J_72 : sJ) => (((¬ r_72 = 0 → (∀ I_87 : sI, I_87 = sUI I_72 248 21 (x7 - x8) → (∀ I_93 : sI, I_93 = sUI I_87 248 22 x8 → w_X12_all x1 I_93 J_72 (fun (r_98 : Int32) (I_98 : sI) (J_98 : sJ) => (((r_98 = 0 → w_X12_lax_113 post k37 k51 x1 x2 x3 x7 x8 (-3) I_98 J_98) ∧ (¬ r_98 = 0 → w_X12_lax_113 post k37 k51 x1 x2 x3 x7 x8 (I_98 248 32) I_98 J_98))))))) ∧ (r_72 = 0 → w_X12_lax_127 post k37 k51 x1 x2 x3 x4 x5 x6 x7 x8 I_72 J_72))))))))
def w_X12_lax_51_n (post : Int32 → sI → sJ → Prop) (k37 : Int32 → Int32 → Int32 → Int32 → Int32 → Int32 → Int32 → sI → sJ → Prop) : Nat → Int32 → Int32 → Int32 → Int32 → Int32 → Int32 → Int32 → Int32 → sI → sJ → Prop
  | 0 => fun _ _ _ _ _ _ _ _ _ _ => False
  | n + 1 => fun x1 x2 x3 x4 x5 x6 x7 x8 I J => w_X12_lax_51_s post k37 (w_X12_lax_51_n post k37 n) x1 x2 x3 x4 x5 x6 x7 x8 I J
def w_X12_lax_51 (post : Int32 → sI → sJ → Prop) (k37 : Int32 → Int32 → Int32 → Int32 → Int32 → Int32 → Int32 → sI → sJ → Prop) (x1 : Int32) (x2 : Int32) (x3 : Int32) (x4 : Int32) (x5 : Int32) (x6 : Int32) (x7 : Int32) (x8 : Int32) (I : sI) (J : sJ) : Prop := ∃ n, w_X12_lax_51_n post k37 n x1 x2 x3 x4 x5 x6 x7 x8 I J
set_option maxHeartbeats 4000000 in
set_option maxRecDepth 100000 in
theorem t_X12_lax_51_s {X : sX} {post : Int32 → sI → sJ → Prop} (h : sOK X cX12_lax RX12 9 5 136) (hr : sRt X (some .int) (sPi post)) {k37 : Int32 → Int32 → Int32 → Int32 → Int32 → Int32 → Int32 → sI → sJ → Prop} (hk37 : ∀ (x1 : Int32) (x2 : Int32) (x3 : Int32) (x4 : Int32) (x5 : Int32) (x6 : Int32) (x7 : Int32) (I : sI) (J : sJ), k37 x1 x2 x3 x4 x5 x6 x7 I J → sG X 9 37 [(0, .ref 248), (1, .int x1), (2, .int x2), (3, .int x3), (4, .int x4), (5, .int x5), (6, .int x6), (7, .int x7)] [] I J) {k51 : Int32 → Int32 → Int32 → Int32 → Int32 → Int32 → Int32 → Int32 → sI → sJ → Prop} (hk51 : ∀ (x1 : Int32) (x2 : Int32) (x3 : Int32) (x4 : Int32) (x5 : Int32) (x6 : Int32) (x7 : Int32) (x8 : Int32) (I : sI) (J : sJ), k51 x1 x2 x3 x4 x5 x6 x7 x8 I J → sG X 9 51 [(0, .ref 248), (1, .int x1), (2, .int x2), (3, .int x3), (4, .int x4), (5, .int x5), (6, .int x6), (7, .int x7), (8, .int x8)] [] I J) {x1 : Int32} {x2 : Int32} {x3 : Int32} {x4 : Int32} {x5 : Int32} {x6 : Int32} {x7 : Int32} {x8 : Int32} {I : sI} {J : sJ} (hw : w_X12_lax_51_s post k37 k51 x1 x2 x3 x4 x5 x6 x7 x8 I J) : sG X 9 51 [(0, .ref 248), (1, .int x1), (2, .int x2), (3, .int x3), (4, .int x4), (5, .int x5), (6, .int x6), (7, .int x7), (8, .int x8)] [] I J := by
  unfold w_X12_lax_51_s at hw
  refine g_iload h 8 rfl dX12_lax_51 ?_
  refine g_iconst (v := 2) h (by decide) dX12_lax_53 ?_
  refine g_icmp_gt (tgt := 133) h (by decide) dX12_lax_54 (fun q54 => ?_) (fun q54 => ?_)
  · replace hw := hw.1 q54
    exact g_sub [0, 1, 2, 3, 4, 5, 6, 7] rfl (t_X12_lax_133 h hr hk37 hw)
  · replace hw := hw.2 q54
    refine g_iload h 4 rfl dX12_lax_57 ?_
    refine g_if_ne (tgt := 133) h (by decide) dX12_lax_59 (fun q59 => ?_) (fun q59 => ?_)
    · replace hw := hw.1 q59
      exact g_sub [0, 1, 2, 3, 4, 5, 6, 7] rfl (t_X12_lax_133 h hr hk37 hw)
    · replace hw := hw.2 q59
      refine g_iload h 7 rfl dX12_lax_62 ?_
      refine g_iload h 8 rfl dX12_lax_64 ?_
      refine g_isub h dX12_lax_66 ?_
      refine g_i2l h dX12_lax_67 ?_
      refine g_lconst (v := 1) h (by decide) dX12_lax_68 ?_
      refine g_ldc2 h lc_X12_94 dX12_lax_69 ?_
      refine g_callS [.long (Int32.toInt64 (x7 - x8)), .long 1, .long 3] h (c_X12_in X hw) sPi_v mw_X12_in lk_X12_29 rfl ⟨by decide, by decide⟩ (Nat.le_of_ble_eq_true rfl) dX12_lax_72 (sPi_k (fun r_72 I_72 J_72 hw => ?_))
      refine g_if_ne (tgt := 81) h (by decide) dX12_lax_75 (fun q75 => ?_) (fun q75 => ?_)
      · replace hw := hw.1 q75
        refine g_aload_n h rfl 0 rfl dX12_lax_81 ?_
        refine g_iload h 7 rfl dX12_lax_82 ?_
        refine g_iload h 8 rfl dX12_lax_84 ?_
        refine g_isub h dX12_lax_86 ?_
        refine g_putI h is_248 fl_X12_117 rfl rfl dX12_lax_87 ?_
        refine g_nI (fun I_87 eI_87 => ?_)
        replace hw := hw I_87 eI_87
        refine g_aload_n h rfl 0 rfl dX12_lax_90 ?_
        refine g_iload h 8 rfl dX12_lax_91 ?_
        refine g_putI h is_248 fl_X12_120 rfl rfl dX12_lax_93 ?_
        refine g_nI (fun I_93 eI_93 => ?_)
        replace hw := hw I_93 eI_93
        refine g_aload_n h rfl 0 rfl dX12_lax_96 ?_
        refine g_iload_n h rfl 1 rfl dX12_lax_97 ?_
        refine g_callV [.int x1] h (c_X12_all X hw) sPi_v mw_X12_all lk_X12_199 is_248 rfl rfl ⟨by decide, by decide⟩ (Nat.le_of_ble_eq_true rfl) dX12_lax_98 (sPi_k (fun r_98 I_98 J_98 hw => ?_))
        refine g_if_eq (tgt := 111) h (by decide) dX12_lax_101 (fun q101 => ?_) (fun q101 => ?_)
        · replace hw := hw.1 q101
          refine g_bipush (v := (-3)) h (by decide) dX12_lax_111 ?_
          exact g_sub [0, 1, 2, 3, 7, 8] rfl (t_X12_lax_113 h hr hk37 hk51 hw)
        · replace hw := hw.2 q101
          refine g_aload_n h rfl 0 rfl dX12_lax_104 ?_
          refine g_get h is_248 fl_X12_175 rfl dX12_lax_105 ?_
          refine g_goto (tgt := 113) h (by decide) dX12_lax_108 ?_
          exact g_sub [0, 1, 2, 3, 7, 8] rfl (t_X12_lax_113 h hr hk37 hk51 hw)
      · replace hw := hw.2 q75
        refine g_goto (tgt := 127) h (by decide) dX12_lax_78 ?_
        exact g_sub [0, 1, 2, 3, 4, 5, 6, 7, 8] rfl (t_X12_lax_127 h hr hk37 hk51 hw)
theorem t_X12_lax_51 {X : sX} {post : Int32 → sI → sJ → Prop} (h : sOK X cX12_lax RX12 9 5 136) (hr : sRt X (some .int) (sPi post)) {k37 : Int32 → Int32 → Int32 → Int32 → Int32 → Int32 → Int32 → sI → sJ → Prop} (hk37 : ∀ (x1 : Int32) (x2 : Int32) (x3 : Int32) (x4 : Int32) (x5 : Int32) (x6 : Int32) (x7 : Int32) (I : sI) (J : sJ), k37 x1 x2 x3 x4 x5 x6 x7 I J → sG X 9 37 [(0, .ref 248), (1, .int x1), (2, .int x2), (3, .int x3), (4, .int x4), (5, .int x5), (6, .int x6), (7, .int x7)] [] I J) {x1 : Int32} {x2 : Int32} {x3 : Int32} {x4 : Int32} {x5 : Int32} {x6 : Int32} {x7 : Int32} {x8 : Int32} {I : sI} {J : sJ} (hw : w_X12_lax_51 post k37 x1 x2 x3 x4 x5 x6 x7 x8 I J) : sG X 9 51 [(0, .ref 248), (1, .int x1), (2, .int x2), (3, .int x3), (4, .int x4), (5, .int x5), (6, .int x6), (7, .int x7), (8, .int x8)] [] I J := by
  obtain ⟨n, hw⟩ := hw
  induction n generalizing x1 x2 x3 x4 x5 x6 x7 x8 I J with
  | zero => exact hw.elim
  | succ n ih => exact t_X12_lax_51_s h hr hk37 (fun _ _ _ _ _ _ _ _ _ _ q => ih q) hw
def w_X12_lax_37_s (post : Int32 → sI → sJ → Prop) (k37 : Int32 → Int32 → Int32 → Int32 → Int32 → Int32 → Int32 → sI → sJ → Prop) (x1 : Int32) (x2 : Int32) (x3 : Int32) (x4 : Int32) (x5 : Int32) (x6 : Int32) (x7 : Int32) (I : sI) (J : sJ) : Prop :=
  ((5 < x7 → w_X12_lax_139 post x2 x3 x4 x5 x6 I J) ∧ (¬ 5 < x7 → ((¬ x4 = 0 → w_X12_lax_139 post x2 x3 x4 x5 x6 I J) ∧ (x4 = 0 → w_X12_lax_51 post k37 x1 x2 x3 x4 x5 x6 x7 0 I J))))
def w_X12_lax_37_n (post : Int32 → sI → sJ → Prop) : Nat → Int32 → Int32 → Int32 → Int32 → Int32 → Int32 → Int32 → sI → sJ → Prop
  | 0 => fun _ _ _ _ _ _ _ _ _ => False
  | n + 1 => fun x1 x2 x3 x4 x5 x6 x7 I J => w_X12_lax_37_s post (w_X12_lax_37_n post n) x1 x2 x3 x4 x5 x6 x7 I J
def w_X12_lax_37 (post : Int32 → sI → sJ → Prop) (x1 : Int32) (x2 : Int32) (x3 : Int32) (x4 : Int32) (x5 : Int32) (x6 : Int32) (x7 : Int32) (I : sI) (J : sJ) : Prop := ∃ n, w_X12_lax_37_n post n x1 x2 x3 x4 x5 x6 x7 I J
set_option maxHeartbeats 4000000 in
set_option maxRecDepth 100000 in
theorem t_X12_lax_37_s {X : sX} {post : Int32 → sI → sJ → Prop} (h : sOK X cX12_lax RX12 9 5 136) (hr : sRt X (some .int) (sPi post)) {k37 : Int32 → Int32 → Int32 → Int32 → Int32 → Int32 → Int32 → sI → sJ → Prop} (hk37 : ∀ (x1 : Int32) (x2 : Int32) (x3 : Int32) (x4 : Int32) (x5 : Int32) (x6 : Int32) (x7 : Int32) (I : sI) (J : sJ), k37 x1 x2 x3 x4 x5 x6 x7 I J → sG X 9 37 [(0, .ref 248), (1, .int x1), (2, .int x2), (3, .int x3), (4, .int x4), (5, .int x5), (6, .int x6), (7, .int x7)] [] I J) {x1 : Int32} {x2 : Int32} {x3 : Int32} {x4 : Int32} {x5 : Int32} {x6 : Int32} {x7 : Int32} {I : sI} {J : sJ} (hw : w_X12_lax_37_s post k37 x1 x2 x3 x4 x5 x6 x7 I J) : sG X 9 37 [(0, .ref 248), (1, .int x1), (2, .int x2), (3, .int x3), (4, .int x4), (5, .int x5), (6, .int x6), (7, .int x7)] [] I J := by
  unfold w_X12_lax_37_s at hw
  refine g_iload h 7 rfl dX12_lax_37 ?_
  refine g_iconst (v := 5) h (by decide) dX12_lax_39 ?_
  refine g_icmp_gt (tgt := 139) h (by decide) dX12_lax_40 (fun q40 => ?_) (fun q40 => ?_)
  · replace hw := hw.1 q40
    exact g_sub [0, 2, 3, 4, 5, 6] rfl (t_X12_lax_139 h hr hw)
  · replace hw := hw.2 q40
    refine g_iload h 4 rfl dX12_lax_43 ?_
    refine g_if_ne (tgt := 139) h (by decide) dX12_lax_45 (fun q45 => ?_) (fun q45 => ?_)
    · replace hw := hw.1 q45
      exact g_sub [0, 2, 3, 4, 5, 6] rfl (t_X12_lax_139 h hr hw)
    · replace hw := hw.2 q45
      refine g_iconst (v := 0) h (by decide) dX12_lax_48 ?_
      refine g_istore (lo2 := [(8, .int 0), (0, .ref 248), (1, .int x1), (2, .int x2), (3, .int x3), (4, .int x4), (5, .int x5), (6, .int x6), (7, .int x7)]) h (by decide) rfl dX12_lax_49 ?_
      exact g_sub [1, 2, 3, 4, 5, 6, 7, 8, 0] rfl (t_X12_lax_51 h hr hk37 hw)
theorem t_X12_lax_37 {X : sX} {post : Int32 → sI → sJ → Prop} (h : sOK X cX12_lax RX12 9 5 136) (hr : sRt X (some .int) (sPi post)) {x1 : Int32} {x2 : Int32} {x3 : Int32} {x4 : Int32} {x5 : Int32} {x6 : Int32} {x7 : Int32} {I : sI} {J : sJ} (hw : w_X12_lax_37 post x1 x2 x3 x4 x5 x6 x7 I J) : sG X 9 37 [(0, .ref 248), (1, .int x1), (2, .int x2), (3, .int x3), (4, .int x4), (5, .int x5), (6, .int x6), (7, .int x7)] [] I J := by
  obtain ⟨n, hw⟩ := hw
  induction n generalizing x1 x2 x3 x4 x5 x6 x7 I J with
  | zero => exact hw.elim
  | succ n ih => exact t_X12_lax_37_s h hr (fun _ _ _ _ _ _ _ _ _ q => ih q) hw
def w_X12_lax (a1 : Int32) (I : sI) (J : sJ) (post : Int32 → sI → sJ → Prop) : Prop :=
  (∀ I_2 : sI, I_2 = sUI I 248 0 0 → w_X12_isAsked a1 I_2 J (fun (r_7 : Int32) (I_7 : sI) (J_7 : sJ) => (((¬ r_7 = 0 → (∀ v2_19 : Int32, v2_19 = I_7 248 21 → (∀ v3_24 : Int32, v3_24 = I_7 248 22 → w_X12_lax_37 post a1 v2_19 v3_24 0 0 0 1 I_7 J_7))) ∧ (r_7 = 0 → post (-1) I_7 J_7)))))
set_option maxHeartbeats 4000000 in
set_option maxRecDepth 100000 in
theorem t_X12_lax {X : sX} {a1 : Int32} {I : sI} {J : sJ} {post : Int32 → sI → sJ → Prop} (h : sOK X cX12_lax RX12 9 5 136) (hr : sRt X (some .int) (sPi post)) (hw : w_X12_lax a1 I J post) : sG X 9 0 [(0, .ref 248), (1, .int a1)] [] I J := by
  unfold w_X12_lax at hw
  refine g_aload_n h rfl 0 rfl dX12_lax_0 ?_
  refine g_iconst (v := 0) h (by decide) dX12_lax_1 ?_
  refine g_putI h is_248 fl_X12_1 rfl rfl dX12_lax_2 ?_
  refine g_nI (fun I_2 eI_2 => ?_)
  replace hw := hw I_2 eI_2
  refine g_aload_n h rfl 0 rfl dX12_lax_5 ?_
  refine g_iload_n h rfl 1 rfl dX12_lax_6 ?_
  refine g_callV [.int a1] h (c_X12_isAsked X hw) sPi_v mw_X12_isAsked lk_X12_196 is_248 rfl rfl ⟨by decide, by decide⟩ (Nat.le_of_ble_eq_true rfl) dX12_lax_7 (sPi_k (fun r_7 I_7 J_7 hw => ?_))
  refine g_if_ne (tgt := 15) h (by decide) dX12_lax_10 (fun q10 => ?_) (fun q10 => ?_)
  · replace hw := hw.1 q10
    refine g_aload_n h rfl 0 rfl dX12_lax_15 ?_
    refine g_get h is_248 fl_X12_117 rfl dX12_lax_16 ?_
    refine g_ni (fun v2_19 ev2_19 => ?_)
    replace hw := hw v2_19 ev2_19
    refine g_istore_n (lo2 := [(2, .int v2_19), (0, .ref 248), (1, .int a1)]) h rfl (by decide) rfl dX12_lax_19 ?_
    refine g_aload_n h rfl 1 rfl dX12_lax_20 ?_
    refine g_get h is_248 fl_X12_120 rfl dX12_lax_21 ?_
    refine g_ni (fun v3_24 ev3_24 => ?_)
    replace hw := hw v3_24 ev3_24
    refine g_istore_n (lo2 := [(3, .int v3_24), (2, .int v2_19), (0, .ref 248), (1, .int a1)]) h rfl (by decide) rfl dX12_lax_24 ?_
    refine g_iconst (v := 0) h (by decide) dX12_lax_25 ?_
    refine g_istore (lo2 := [(4, .int 0), (3, .int v3_24), (2, .int v2_19), (0, .ref 248), (1, .int a1)]) h (by decide) rfl dX12_lax_26 ?_
    refine g_iconst (v := 0) h (by decide) dX12_lax_28 ?_
    refine g_istore (lo2 := [(5, .int 0), (4, .int 0), (3, .int v3_24), (2, .int v2_19), (0, .ref 248), (1, .int a1)]) h (by decide) rfl dX12_lax_29 ?_
    refine g_iconst (v := 0) h (by decide) dX12_lax_31 ?_
    refine g_istore (lo2 := [(6, .int 0), (5, .int 0), (4, .int 0), (3, .int v3_24), (2, .int v2_19), (0, .ref 248), (1, .int a1)]) h (by decide) rfl dX12_lax_32 ?_
    refine g_iconst (v := 1) h (by decide) dX12_lax_34 ?_
    refine g_istore (lo2 := [(7, .int 1), (6, .int 0), (5, .int 0), (4, .int 0), (3, .int v3_24), (2, .int v2_19), (0, .ref 248), (1, .int a1)]) h (by decide) rfl dX12_lax_35 ?_
    exact g_sub [6, 7, 5, 4, 3, 2, 1, 0] rfl (t_X12_lax_37 h hr hw)
  · replace hw := hw.2 q10
    refine g_iconst (v := (-1)) h (by decide) dX12_lax_13 ?_
    exact g_iret h hr dX12_lax_14 hw
theorem c_X12_lax (X : sX) {a1 : Int32} {I : sI} {J : sJ} {post : Int32 → sI → sJ → Prop} (hw : w_X12_lax a1 I J post) : sCall X yX12_lax cX12_lax 9 (some .int) 5 136 [.ref 248, .int a1] I J (sPi post) := sCall_of (by decide +kernel) (Nat.le_of_ble_eq_true rfl) (fun X h hr => t_X12_lax h hr hw)
theorem dX12_need_0 : decode cX12_need 0 = .ok (.aload_n 0, 1) := by decide +kernel
theorem dX12_need_1 : decode cX12_need 1 = .ok (.iconst 0, 1) := by decide +kernel
theorem dX12_need_2 : decode cX12_need 2 = .ok (.putfield 1, 3) := by decide +kernel
theorem dX12_need_5 : decode cX12_need 5 = .ok (.aload_n 0, 1) := by decide +kernel
theorem dX12_need_6 : decode cX12_need 6 = .ok (.iload_n 1, 1) := by decide +kernel
theorem dX12_need_7 : decode cX12_need 7 = .ok (.invokevirtual 196, 3) := by decide +kernel
theorem dX12_need_10 : decode cX12_need 10 = .ok (.ifCond .ne 5, 3) := by decide +kernel
theorem dX12_need_13 : decode cX12_need 13 = .ok (.iconst (-1), 1) := by decide +kernel
theorem dX12_need_14 : decode cX12_need 14 = .ok (.ireturn, 1) := by decide +kernel
theorem dX12_need_15 : decode cX12_need 15 = .ok (.iconst 1, 1) := by decide +kernel
theorem dX12_need_16 : decode cX12_need 16 = .ok (.istore_n 2, 1) := by decide +kernel
theorem dX12_need_17 : decode cX12_need 17 = .ok (.iload_n 2, 1) := by decide +kernel
theorem dX12_need_18 : decode cX12_need 18 = .ok (.aload_n 0, 1) := by decide +kernel
theorem dX12_need_19 : decode cX12_need 19 = .ok (.getfield 76, 3) := by decide +kernel
theorem dX12_need_22 : decode cX12_need 22 = .ok (.if_icmp .gt 92, 3) := by decide +kernel
theorem dX12_need_25 : decode cX12_need 25 = .ok (.aload_n 0, 1) := by decide +kernel
theorem dX12_need_26 : decode cX12_need 26 = .ok (.iload_n 2, 1) := by decide +kernel
theorem dX12_need_27 : decode cX12_need 27 = .ok (.invokevirtual 185, 3) := by decide +kernel
theorem dX12_need_30 : decode cX12_need 30 = .ok (.aload_n 0, 1) := by decide +kernel
theorem dX12_need_31 : decode cX12_need 31 = .ok (.iload_n 1, 1) := by decide +kernel
theorem dX12_need_32 : decode cX12_need 32 = .ok (.invokevirtual 189, 3) := by decide +kernel
theorem dX12_need_35 : decode cX12_need 35 = .ok (.ifCond .ne 6, 3) := by decide +kernel
theorem dX12_need_38 : decode cX12_need 38 = .ok (.bipush (-3), 2) := by decide +kernel
theorem dX12_need_40 : decode cX12_need 40 = .ok (.ireturn, 1) := by decide +kernel
theorem dX12_need_41 : decode cX12_need 41 = .ok (.aload_n 0, 1) := by decide +kernel
theorem dX12_need_42 : decode cX12_need 42 = .ok (.getfield 218, 3) := by decide +kernel
theorem dX12_need_45 : decode cX12_need 45 = .ok (.iload_n 2, 1) := by decide +kernel
theorem dX12_need_46 : decode cX12_need 46 = .ok (.iconst 1, 1) := by decide +kernel
theorem dX12_need_47 : decode cX12_need 47 = .ok (.isub, 1) := by decide +kernel
theorem dX12_need_48 : decode cX12_need 48 = .ok (.aload_n 0, 1) := by decide +kernel
theorem dX12_need_49 : decode cX12_need 49 = .ok (.getfield 169, 3) := by decide +kernel
theorem dX12_need_52 : decode cX12_need 52 = .ok (.iload_n 2, 1) := by decide +kernel
theorem dX12_need_53 : decode cX12_need 53 = .ok (.iconst 1, 1) := by decide +kernel
theorem dX12_need_54 : decode cX12_need 54 = .ok (.isub, 1) := by decide +kernel
theorem dX12_need_55 : decode cX12_need 55 = .ok (.iaload, 1) := by decide +kernel
theorem dX12_need_56 : decode cX12_need 56 = .ok (.aload_n 0, 1) := by decide +kernel
theorem dX12_need_57 : decode cX12_need 57 = .ok (.iload_n 2, 1) := by decide +kernel
theorem dX12_need_58 : decode cX12_need 58 = .ok (.iconst 1, 1) := by decide +kernel
theorem dX12_need_59 : decode cX12_need 59 = .ok (.isub, 1) := by decide +kernel
theorem dX12_need_60 : decode cX12_need 60 = .ok (.invokevirtual 172, 3) := by decide +kernel
theorem dX12_need_63 : decode cX12_need 63 = .ok (.isub, 1) := by decide +kernel
theorem dX12_need_64 : decode cX12_need 64 = .ok (.iastore, 1) := by decide +kernel
theorem dX12_need_65 : decode cX12_need 65 = .ok (.aload_n 0, 1) := by decide +kernel
theorem dX12_need_66 : decode cX12_need 66 = .ok (.getfield 218, 3) := by decide +kernel
theorem dX12_need_69 : decode cX12_need 69 = .ok (.iload_n 2, 1) := by decide +kernel
theorem dX12_need_70 : decode cX12_need 70 = .ok (.iconst 1, 1) := by decide +kernel
theorem dX12_need_71 : decode cX12_need 71 = .ok (.isub, 1) := by decide +kernel
theorem dX12_need_72 : decode cX12_need 72 = .ok (.iaload, 1) := by decide +kernel
theorem dX12_need_73 : decode cX12_need 73 = .ok (.iconst 2, 1) := by decide +kernel
theorem dX12_need_74 : decode cX12_need 74 = .ok (.if_icmp .ge 34, 3) := by decide +kernel
theorem dX12_need_77 : decode cX12_need 77 = .ok (.aload_n 0, 1) := by decide +kernel
theorem dX12_need_78 : decode cX12_need 78 = .ok (.iconst 0, 1) := by decide +kernel
theorem dX12_need_79 : decode cX12_need 79 = .ok (.putfield 11, 3) := by decide +kernel
theorem dX12_need_82 : decode cX12_need 82 = .ok (.iconst 0, 1) := by decide +kernel
theorem dX12_need_83 : decode cX12_need 83 = .ok (.istore_n 3, 1) := by decide +kernel
theorem dX12_need_84 : decode cX12_need 84 = .ok (.iload_n 3, 1) := by decide +kernel
theorem dX12_need_85 : decode cX12_need 85 = .ok (.iload_n 2, 1) := by decide +kernel
theorem dX12_need_86 : decode cX12_need 86 = .ok (.if_icmp .ge 20, 3) := by decide +kernel
theorem dX12_need_89 : decode cX12_need 89 = .ok (.aload_n 0, 1) := by decide +kernel
theorem dX12_need_90 : decode cX12_need 90 = .ok (.aload_n 0, 1) := by decide +kernel
theorem dX12_need_91 : decode cX12_need 91 = .ok (.getfield 218, 3) := by decide +kernel
theorem dX12_need_94 : decode cX12_need 94 = .ok (.iload_n 3, 1) := by decide +kernel
theorem dX12_need_95 : decode cX12_need 95 = .ok (.iaload, 1) := by decide +kernel
theorem dX12_need_96 : decode cX12_need 96 = .ok (.i2l, 1) := by decide +kernel
theorem dX12_need_97 : decode cX12_need 97 = .ok (.invokevirtual 18, 3) := by decide +kernel
theorem dX12_need_100 : decode cX12_need 100 = .ok (.iinc 3 1, 3) := by decide +kernel
theorem dX12_need_103 : decode cX12_need 103 = .ok (.goto (-19), 3) := by decide +kernel
theorem dX12_need_106 : decode cX12_need 106 = .ok (.iload_n 2, 1) := by decide +kernel
theorem dX12_need_107 : decode cX12_need 107 = .ok (.ireturn, 1) := by decide +kernel
theorem dX12_need_108 : decode cX12_need 108 = .ok (.iinc 2 1, 3) := by decide +kernel
theorem dX12_need_111 : decode cX12_need 111 = .ok (.goto (-94), 3) := by decide +kernel
theorem dX12_need_114 : decode cX12_need 114 = .ok (.bipush (-2), 2) := by decide +kernel
theorem dX12_need_116 : decode cX12_need 116 = .ok (.ireturn, 1) := by decide +kernel
def w_X12_need_84_s (post : Int32 → sI → sJ → Prop) (k84 : Int32 → Int32 → sI → sJ → Prop) (x2 : Int32) (x3 : Int32) (I : sI) (J : sJ) : Prop :=
  ((x2 ≤ x3 → post x2 I J) ∧ (¬ x2 ≤ x3 → (vp_in x3 12 ∧ w_X12_enters (Int32.toInt64 (I 267 (Int32.toNatClampNeg x3))) I J (fun (I_97 : sI) (J_97 : sJ) => ((∀ v3_100 : Int32, v3_100 = x3 + 1 → k84 x2 v3_100 I_97 J_97))))))
def w_X12_need_84_n (post : Int32 → sI → sJ → Prop) : Nat → Int32 → Int32 → sI → sJ → Prop
  | 0 => fun _ _ _ _ => False
  | n + 1 => fun x2 x3 I J => w_X12_need_84_s post (w_X12_need_84_n post n) x2 x3 I J
def w_X12_need_84 (post : Int32 → sI → sJ → Prop) (x2 : Int32) (x3 : Int32) (I : sI) (J : sJ) : Prop := ∃ n, w_X12_need_84_n post n x2 x3 I J
set_option maxHeartbeats 4000000 in
set_option maxRecDepth 100000 in
theorem t_X12_need_84_s {X : sX} {post : Int32 → sI → sJ → Prop} (h : sOK X cX12_need RX12 4 4 114) (hr : sRt X (some .int) (sPi post)) {k84 : Int32 → Int32 → sI → sJ → Prop} (hk84 : ∀ (x2 : Int32) (x3 : Int32) (I : sI) (J : sJ), k84 x2 x3 I J → sG X 4 84 [(0, .ref 248), (2, .int x2), (3, .int x3)] [] I J) {x2 : Int32} {x3 : Int32} {I : sI} {J : sJ} (hw : w_X12_need_84_s post k84 x2 x3 I J) : sG X 4 84 [(0, .ref 248), (2, .int x2), (3, .int x3)] [] I J := by
  unfold w_X12_need_84_s at hw
  refine g_iload_n h rfl 2 rfl dX12_need_84 ?_
  refine g_iload_n h rfl 1 rfl dX12_need_85 ?_
  refine g_icmp_ge (tgt := 106) h (by decide) dX12_need_86 (fun q86 => ?_) (fun q86 => ?_)
  · replace hw := hw.1 q86
    refine g_iload_n h rfl 1 rfl dX12_need_106 ?_
    exact g_iret h hr dX12_need_107 hw
  · replace hw := hw.2 q86
    refine g_aload_n h rfl 0 rfl dX12_need_89 ?_
    refine g_aload_n h rfl 0 rfl dX12_need_90 ?_
    refine g_get h is_248 fl_X12_218 fr_248_35 dX12_need_91 ?_
    refine g_iload_n h rfl 2 rfl dX12_need_94 ?_
    obtain ⟨hi95, hw⟩ := hw
    refine g_iald h ar_267 hi95 dX12_need_95 ?_
    refine g_i2l h dX12_need_96 ?_
    refine g_callV [.long (Int32.toInt64 (I 267 (Int32.toNatClampNeg x3)))] h (c_X12_enters X hw) sPv_v mw_X12_enters lk_X12_18 is_248 rfl rfl ⟨by decide, by decide⟩ (Nat.le_of_ble_eq_true rfl) dX12_need_97 (sPv_k (fun I_97 J_97 hw => ?_))
    obtain ⟨v3_100, ev3_100⟩ : ∃ z : Int32, z = x3 + 1 := ⟨_, rfl⟩
    replace hw := hw v3_100 ev3_100
    refine g_iinc (v := v3_100) (lo2 := [(3, .int v3_100), (0, .ref 248), (2, .int x2)]) h 2 rfl (by rw [ev3_100]; rfl) (by decide) rfl dX12_need_100 ?_
    refine g_goto (tgt := 84) h (by decide) dX12_need_103 ?_
    exact g_sub [1, 2, 0] rfl (hk84 _ _ _ _ hw)
theorem t_X12_need_84 {X : sX} {post : Int32 → sI → sJ → Prop} (h : sOK X cX12_need RX12 4 4 114) (hr : sRt X (some .int) (sPi post)) {x2 : Int32} {x3 : Int32} {I : sI} {J : sJ} (hw : w_X12_need_84 post x2 x3 I J) : sG X 4 84 [(0, .ref 248), (2, .int x2), (3, .int x3)] [] I J := by
  obtain ⟨n, hw⟩ := hw
  induction n generalizing x2 x3 I J with
  | zero => exact hw.elim
  | succ n ih => exact t_X12_need_84_s h hr (fun _ _ _ _ q => ih q) hw
def w_X12_need_17_s (post : Int32 → sI → sJ → Prop) (k17 : Int32 → Int32 → sI → sJ → Prop) (x1 : Int32) (x2 : Int32) (I : sI) (J : sJ) : Prop :=
  (((I 248 11) < x2 → post (-2) I J) ∧ (¬ (I 248 11) < x2 → w_X12_takesDisc x2 I J (fun (I_27 : sI) (J_27 : sJ) => (w_X12_searches x1 I_27 J_27 (fun (r_32 : Int32) (I_32 : sI) (J_32 : sJ) => (((¬ r_32 = 0 → (vp_in (x2 - 1) 25 ∧ w_X12_levelBegin (x2 - 1) I_32 J_32 (fun (r_60 : Int32) (I_60 : sI) (J_60 : sJ) => ((vp_in (x2 - 1) 12 ∧ (∀ I_64 : sI, I_64 = sUI I_60 267 (Int32.toNatClampNeg (x2 - 1)) ((I_32 264 (Int32.toNatClampNeg (x2 - 1))) - r_60) → (vp_in (x2 - 1) 12 ∧ ((2 ≤ (I_64 267 (Int32.toNatClampNeg (x2 - 1))) → (∀ v2_108 : Int32, v2_108 = x2 + 1 → k17 x1 v2_108 I_64 J_60)) ∧ (¬ 2 ≤ (I_64 267 (Int32.toNatClampNeg (x2 - 1))) → (∀ I_79 : sI, I_79 = sUI I_64 248 1 0 → w_X12_need_84 post x2 0 I_79 J_60)))))))))) ∧ (r_32 = 0 → post (-3) I_32 J_32))))))))
def w_X12_need_17_n (post : Int32 → sI → sJ → Prop) : Nat → Int32 → Int32 → sI → sJ → Prop
  | 0 => fun _ _ _ _ => False
  | n + 1 => fun x1 x2 I J => w_X12_need_17_s post (w_X12_need_17_n post n) x1 x2 I J
def w_X12_need_17 (post : Int32 → sI → sJ → Prop) (x1 : Int32) (x2 : Int32) (I : sI) (J : sJ) : Prop := ∃ n, w_X12_need_17_n post n x1 x2 I J
set_option maxHeartbeats 4000000 in
set_option maxRecDepth 100000 in
theorem t_X12_need_17_s {X : sX} {post : Int32 → sI → sJ → Prop} (h : sOK X cX12_need RX12 4 4 114) (hr : sRt X (some .int) (sPi post)) {k17 : Int32 → Int32 → sI → sJ → Prop} (hk17 : ∀ (x1 : Int32) (x2 : Int32) (I : sI) (J : sJ), k17 x1 x2 I J → sG X 4 17 [(0, .ref 248), (1, .int x1), (2, .int x2)] [] I J) {x1 : Int32} {x2 : Int32} {I : sI} {J : sJ} (hw : w_X12_need_17_s post k17 x1 x2 I J) : sG X 4 17 [(0, .ref 248), (1, .int x1), (2, .int x2)] [] I J := by
  unfold w_X12_need_17_s at hw
  refine g_iload_n h rfl 2 rfl dX12_need_17 ?_
  refine g_aload_n h rfl 0 rfl dX12_need_18 ?_
  refine g_get h is_248 fl_X12_76 rfl dX12_need_19 ?_
  refine g_icmp_gt (tgt := 114) h (by decide) dX12_need_22 (fun q22 => ?_) (fun q22 => ?_)
  · replace hw := hw.1 q22
    refine g_bipush (v := (-2)) h (by decide) dX12_need_114 ?_
    exact g_iret h hr dX12_need_116 hw
  · replace hw := hw.2 q22
    refine g_aload_n h rfl 0 rfl dX12_need_25 ?_
    refine g_iload_n h rfl 2 rfl dX12_need_26 ?_
    refine g_callV [.int x2] h (c_X12_takesDisc X hw) sPv_v mw_X12_takesDisc lk_X12_185 is_248 rfl rfl ⟨by decide, by decide⟩ (Nat.le_of_ble_eq_true rfl) dX12_need_27 (sPv_k (fun I_27 J_27 hw => ?_))
    refine g_aload_n h rfl 0 rfl dX12_need_30 ?_
    refine g_iload_n h rfl 1 rfl dX12_need_31 ?_
    refine g_callV [.int x1] h (c_X12_searches X hw) sPi_v mw_X12_searches lk_X12_189 is_248 rfl rfl ⟨by decide, by decide⟩ (Nat.le_of_ble_eq_true rfl) dX12_need_32 (sPi_k (fun r_32 I_32 J_32 hw => ?_))
    refine g_if_ne (tgt := 41) h (by decide) dX12_need_35 (fun q35 => ?_) (fun q35 => ?_)
    · replace hw := hw.1 q35
      refine g_aload_n h rfl 0 rfl dX12_need_41 ?_
      refine g_get h is_248 fl_X12_218 fr_248_35 dX12_need_42 ?_
      refine g_iload_n h rfl 2 rfl dX12_need_45 ?_
      refine g_iconst (v := 1) h (by decide) dX12_need_46 ?_
      refine g_isub h dX12_need_47 ?_
      refine g_aload_n h rfl 0 rfl dX12_need_48 ?_
      refine g_get h is_248 fl_X12_169 fr_248_29 dX12_need_49 ?_
      refine g_iload_n h rfl 2 rfl dX12_need_52 ?_
      refine g_iconst (v := 1) h (by decide) dX12_need_53 ?_
      refine g_isub h dX12_need_54 ?_
      obtain ⟨hi55, hw⟩ := hw
      refine g_iald h ar_264 hi55 dX12_need_55 ?_
      refine g_aload_n h rfl 0 rfl dX12_need_56 ?_
      refine g_iload_n h rfl 2 rfl dX12_need_57 ?_
      refine g_iconst (v := 1) h (by decide) dX12_need_58 ?_
      refine g_isub h dX12_need_59 ?_
      refine g_callV [.int (x2 - 1)] h (c_X12_levelBegin X hw) sPi_v mw_X12_levelBegin lk_X12_172 is_248 rfl rfl ⟨by decide, by decide⟩ (Nat.le_of_ble_eq_true rfl) dX12_need_60 (sPi_k (fun r_60 I_60 J_60 hw => ?_))
      refine g_isub h dX12_need_63 ?_
      obtain ⟨hi64, hw⟩ := hw
      refine g_iast h ar_267 hi64 dX12_need_64 ?_
      refine g_nI (fun I_64 eI_64 => ?_)
      replace hw := hw I_64 eI_64
      refine g_aload_n h rfl 0 rfl dX12_need_65 ?_
      refine g_get h is_248 fl_X12_218 fr_248_35 dX12_need_66 ?_
      refine g_iload_n h rfl 2 rfl dX12_need_69 ?_
      refine g_iconst (v := 1) h (by decide) dX12_need_70 ?_
      refine g_isub h dX12_need_71 ?_
      obtain ⟨hi72, hw⟩ := hw
      refine g_iald h ar_267 hi72 dX12_need_72 ?_
      refine g_iconst (v := 2) h (by decide) dX12_need_73 ?_
      refine g_icmp_ge (tgt := 108) h (by decide) dX12_need_74 (fun q74 => ?_) (fun q74 => ?_)
      · replace hw := hw.1 q74
        obtain ⟨v2_108, ev2_108⟩ : ∃ z : Int32, z = x2 + 1 := ⟨_, rfl⟩
        replace hw := hw v2_108 ev2_108
        refine g_iinc (v := v2_108) (lo2 := [(2, .int v2_108), (0, .ref 248), (1, .int x1)]) h 2 rfl (by rw [ev2_108]; rfl) (by decide) rfl dX12_need_108 ?_
        refine g_goto (tgt := 17) h (by decide) dX12_need_111 ?_
        exact g_sub [1, 2, 0] rfl (hk17 _ _ _ _ hw)
      · replace hw := hw.2 q74
        refine g_aload_n h rfl 0 rfl dX12_need_77 ?_
        refine g_iconst (v := 0) h (by decide) dX12_need_78 ?_
        refine g_putI h is_248 fl_X12_11 rfl rfl dX12_need_79 ?_
        refine g_nI (fun I_79 eI_79 => ?_)
        replace hw := hw I_79 eI_79
        refine g_iconst (v := 0) h (by decide) dX12_need_82 ?_
        refine g_istore_n (lo2 := [(3, .int 0), (0, .ref 248), (1, .int x1), (2, .int x2)]) h rfl (by decide) rfl dX12_need_83 ?_
        exact g_sub [1, 3, 0] rfl (t_X12_need_84 h hr hw)
    · replace hw := hw.2 q35
      refine g_bipush (v := (-3)) h (by decide) dX12_need_38 ?_
      exact g_iret h hr dX12_need_40 hw
theorem t_X12_need_17 {X : sX} {post : Int32 → sI → sJ → Prop} (h : sOK X cX12_need RX12 4 4 114) (hr : sRt X (some .int) (sPi post)) {x1 : Int32} {x2 : Int32} {I : sI} {J : sJ} (hw : w_X12_need_17 post x1 x2 I J) : sG X 4 17 [(0, .ref 248), (1, .int x1), (2, .int x2)] [] I J := by
  obtain ⟨n, hw⟩ := hw
  induction n generalizing x1 x2 I J with
  | zero => exact hw.elim
  | succ n ih => exact t_X12_need_17_s h hr (fun _ _ _ _ q => ih q) hw
def w_X12_need (a1 : Int32) (I : sI) (J : sJ) (post : Int32 → sI → sJ → Prop) : Prop :=
  (∀ I_2 : sI, I_2 = sUI I 248 0 0 → w_X12_isAsked a1 I_2 J (fun (r_7 : Int32) (I_7 : sI) (J_7 : sJ) => (((¬ r_7 = 0 → w_X12_need_17 post a1 1 I_7 J_7) ∧ (r_7 = 0 → post (-1) I_7 J_7)))))
set_option maxHeartbeats 4000000 in
set_option maxRecDepth 100000 in
theorem t_X12_need {X : sX} {a1 : Int32} {I : sI} {J : sJ} {post : Int32 → sI → sJ → Prop} (h : sOK X cX12_need RX12 4 4 114) (hr : sRt X (some .int) (sPi post)) (hw : w_X12_need a1 I J post) : sG X 4 0 [(0, .ref 248), (1, .int a1)] [] I J := by
  unfold w_X12_need at hw
  refine g_aload_n h rfl 0 rfl dX12_need_0 ?_
  refine g_iconst (v := 0) h (by decide) dX12_need_1 ?_
  refine g_putI h is_248 fl_X12_1 rfl rfl dX12_need_2 ?_
  refine g_nI (fun I_2 eI_2 => ?_)
  replace hw := hw I_2 eI_2
  refine g_aload_n h rfl 0 rfl dX12_need_5 ?_
  refine g_iload_n h rfl 1 rfl dX12_need_6 ?_
  refine g_callV [.int a1] h (c_X12_isAsked X hw) sPi_v mw_X12_isAsked lk_X12_196 is_248 rfl rfl ⟨by decide, by decide⟩ (Nat.le_of_ble_eq_true rfl) dX12_need_7 (sPi_k (fun r_7 I_7 J_7 hw => ?_))
  refine g_if_ne (tgt := 15) h (by decide) dX12_need_10 (fun q10 => ?_) (fun q10 => ?_)
  · replace hw := hw.1 q10
    refine g_iconst (v := 1) h (by decide) dX12_need_15 ?_
    refine g_istore_n (lo2 := [(2, .int 1), (0, .ref 248), (1, .int a1)]) h rfl (by decide) rfl dX12_need_16 ?_
    exact g_sub [1, 2, 0] rfl (t_X12_need_17 h hr hw)
  · replace hw := hw.2 q10
    refine g_iconst (v := (-1)) h (by decide) dX12_need_13 ?_
    exact g_iret h hr dX12_need_14 hw
theorem c_X12_need (X : sX) {a1 : Int32} {I : sI} {J : sJ} {post : Int32 → sI → sJ → Prop} (hw : w_X12_need a1 I J post) : sCall X yX12_need cX12_need 4 (some .int) 4 114 [.ref 248, .int a1] I J (sPi post) := sCall_of (by decide +kernel) (Nat.le_of_ble_eq_true rfl) (fun X h hr => t_X12_need h hr hw)
theorem dX12_second_0 : decode cX12_second 0 = .ok (.aload_n 0, 1) := by decide +kernel
theorem dX12_second_1 : decode cX12_second 1 = .ok (.iconst 0, 1) := by decide +kernel
theorem dX12_second_2 : decode cX12_second 2 = .ok (.putfield 1, 3) := by decide +kernel
theorem dX12_second_5 : decode cX12_second 5 = .ok (.aload_n 0, 1) := by decide +kernel
theorem dX12_second_6 : decode cX12_second 6 = .ok (.aload_n 0, 1) := by decide +kernel
theorem dX12_second_7 : decode cX12_second 7 = .ok (.bipush 60, 2) := by decide +kernel
theorem dX12_second_9 : decode cX12_second 9 = .ok (.invokevirtual 69, 3) := by decide +kernel
theorem dX12_second_12 : decode cX12_second 12 = .ok (.invokevirtual 73, 3) := by decide +kernel
theorem dX12_second_15 : decode cX12_second 15 = .ok (.istore_n 2, 1) := by decide +kernel
theorem dX12_second_16 : decode cX12_second 16 = .ok (.aload_n 0, 1) := by decide +kernel
theorem dX12_second_17 : decode cX12_second 17 = .ok (.iload_n 1, 1) := by decide +kernel
theorem dX12_second_18 : decode cX12_second 18 = .ok (.invokevirtual 196, 3) := by decide +kernel
theorem dX12_second_21 : decode cX12_second 21 = .ok (.ifCond .ne 5, 3) := by decide +kernel
theorem dX12_second_24 : decode cX12_second 24 = .ok (.iconst (-1), 1) := by decide +kernel
theorem dX12_second_25 : decode cX12_second 25 = .ok (.ireturn, 1) := by decide +kernel
theorem dX12_second_26 : decode cX12_second 26 = .ok (.iload_n 2, 1) := by decide +kernel
theorem dX12_second_27 : decode cX12_second 27 = .ok (.ifCond .ge 8, 3) := by decide +kernel
theorem dX12_second_30 : decode cX12_second 30 = .ok (.bipush (-99), 2) := by decide +kernel
theorem dX12_second_32 : decode cX12_second 32 = .ok (.iload_n 2, 1) := by decide +kernel
theorem dX12_second_33 : decode cX12_second 33 = .ok (.iadd, 1) := by decide +kernel
theorem dX12_second_34 : decode cX12_second 34 = .ok (.ireturn, 1) := by decide +kernel
theorem dX12_second_35 : decode cX12_second 35 = .ok (.aload_n 0, 1) := by decide +kernel
theorem dX12_second_36 : decode cX12_second 36 = .ok (.aload_n 0, 1) := by decide +kernel
theorem dX12_second_37 : decode cX12_second 37 = .ok (.getfield 76, 3) := by decide +kernel
theorem dX12_second_40 : decode cX12_second 40 = .ok (.invokevirtual 185, 3) := by decide +kernel
theorem dX12_second_43 : decode cX12_second 43 = .ok (.aload_n 0, 1) := by decide +kernel
theorem dX12_second_44 : decode cX12_second 44 = .ok (.getfield 79, 3) := by decide +kernel
theorem dX12_second_47 : decode cX12_second 47 = .ok (.istore_n 3, 1) := by decide +kernel
theorem dX12_second_48 : decode cX12_second 48 = .ok (.iconst 0, 1) := by decide +kernel
theorem dX12_second_49 : decode cX12_second 49 = .ok (.istore 4, 2) := by decide +kernel
theorem dX12_second_51 : decode cX12_second 51 = .ok (.iload 4, 2) := by decide +kernel
theorem dX12_second_53 : decode cX12_second 53 = .ok (.aload_n 0, 1) := by decide +kernel
theorem dX12_second_54 : decode cX12_second 54 = .ok (.getfield 49, 3) := by decide +kernel
theorem dX12_second_57 : decode cX12_second 57 = .ok (.if_icmp .ge 38, 3) := by decide +kernel
theorem dX12_second_60 : decode cX12_second 60 = .ok (.aload_n 0, 1) := by decide +kernel
theorem dX12_second_61 : decode cX12_second 61 = .ok (.getfield 132, 3) := by decide +kernel
theorem dX12_second_64 : decode cX12_second 64 = .ok (.aload_n 0, 1) := by decide +kernel
theorem dX12_second_65 : decode cX12_second 65 = .ok (.getfield 76, 3) := by decide +kernel
theorem dX12_second_68 : decode cX12_second 68 = .ok (.iload 4, 2) := by decide +kernel
theorem dX12_second_70 : decode cX12_second 70 = .ok (.iadd, 1) := by decide +kernel
theorem dX12_second_71 : decode cX12_second 71 = .ok (.aload_n 0, 1) := by decide +kernel
theorem dX12_second_72 : decode cX12_second 72 = .ok (.getfield 62, 3) := by decide +kernel
theorem dX12_second_75 : decode cX12_second 75 = .ok (.iload 4, 2) := by decide +kernel
theorem dX12_second_77 : decode cX12_second 77 = .ok (.iaload, 1) := by decide +kernel
theorem dX12_second_78 : decode cX12_second 78 = .ok (.iastore, 1) := by decide +kernel
theorem dX12_second_79 : decode cX12_second 79 = .ok (.aload_n 0, 1) := by decide +kernel
theorem dX12_second_80 : decode cX12_second 80 = .ok (.dup, 1) := by decide +kernel
theorem dX12_second_81 : decode cX12_second 81 = .ok (.getfield 129, 3) := by decide +kernel
theorem dX12_second_84 : decode cX12_second 84 = .ok (.iconst 1, 1) := by decide +kernel
theorem dX12_second_85 : decode cX12_second 85 = .ok (.iadd, 1) := by decide +kernel
theorem dX12_second_86 : decode cX12_second 86 = .ok (.putfield 129, 3) := by decide +kernel
theorem dX12_second_89 : decode cX12_second 89 = .ok (.iinc 4 1, 3) := by decide +kernel
theorem dX12_second_92 : decode cX12_second 92 = .ok (.goto (-41), 3) := by decide +kernel
theorem dX12_second_95 : decode cX12_second 95 = .ok (.iconst 0, 1) := by decide +kernel
theorem dX12_second_96 : decode cX12_second 96 = .ok (.istore 4, 2) := by decide +kernel
theorem dX12_second_98 : decode cX12_second 98 = .ok (.iload 4, 2) := by decide +kernel
theorem dX12_second_100 : decode cX12_second 100 = .ok (.aload_n 0, 1) := by decide +kernel
theorem dX12_second_101 : decode cX12_second 101 = .ok (.getfield 52, 3) := by decide +kernel
theorem dX12_second_104 : decode cX12_second 104 = .ok (.if_icmp .ge 25, 3) := by decide +kernel
theorem dX12_second_107 : decode cX12_second 107 = .ok (.aload_n 0, 1) := by decide +kernel
theorem dX12_second_108 : decode cX12_second 108 = .ok (.getfield 135, 3) := by decide +kernel
theorem dX12_second_111 : decode cX12_second 111 = .ok (.iload_n 3, 1) := by decide +kernel
theorem dX12_second_112 : decode cX12_second 112 = .ok (.iload 4, 2) := by decide +kernel
theorem dX12_second_114 : decode cX12_second 114 = .ok (.iadd, 1) := by decide +kernel
theorem dX12_second_115 : decode cX12_second 115 = .ok (.aload_n 0, 1) := by decide +kernel
theorem dX12_second_116 : decode cX12_second 116 = .ok (.getfield 59, 3) := by decide +kernel
theorem dX12_second_119 : decode cX12_second 119 = .ok (.iload 4, 2) := by decide +kernel
theorem dX12_second_121 : decode cX12_second 121 = .ok (.iaload, 1) := by decide +kernel
theorem dX12_second_122 : decode cX12_second 122 = .ok (.iastore, 1) := by decide +kernel
theorem dX12_second_123 : decode cX12_second 123 = .ok (.iinc 4 1, 3) := by decide +kernel
theorem dX12_second_126 : decode cX12_second 126 = .ok (.goto (-28), 3) := by decide +kernel
theorem dX12_second_129 : decode cX12_second 129 = .ok (.aload_n 0, 1) := by decide +kernel
theorem dX12_second_130 : decode cX12_second 130 = .ok (.iload_n 1, 1) := by decide +kernel
theorem dX12_second_131 : decode cX12_second 131 = .ok (.invokevirtual 189, 3) := by decide +kernel
theorem dX12_second_134 : decode cX12_second 134 = .ok (.ifCond .ne 6, 3) := by decide +kernel
theorem dX12_second_137 : decode cX12_second 137 = .ok (.bipush (-3), 2) := by decide +kernel
theorem dX12_second_139 : decode cX12_second 139 = .ok (.ireturn, 1) := by decide +kernel
theorem dX12_second_140 : decode cX12_second 140 = .ok (.aload_n 0, 1) := by decide +kernel
theorem dX12_second_141 : decode cX12_second 141 = .ok (.getfield 129, 3) := by decide +kernel
theorem dX12_second_144 : decode cX12_second 144 = .ok (.iconst 1, 1) := by decide +kernel
theorem dX12_second_145 : decode cX12_second 145 = .ok (.isub, 1) := by decide +kernel
theorem dX12_second_146 : decode cX12_second 146 = .ok (.istore 4, 2) := by decide +kernel
theorem dX12_second_148 : decode cX12_second 148 = .ok (.iconst 0, 1) := by decide +kernel
theorem dX12_second_149 : decode cX12_second 149 = .ok (.istore 5, 2) := by decide +kernel
theorem dX12_second_151 : decode cX12_second 151 = .ok (.iload 5, 2) := by decide +kernel
theorem dX12_second_153 : decode cX12_second 153 = .ok (.aload_n 0, 1) := by decide +kernel
theorem dX12_second_154 : decode cX12_second 154 = .ok (.getfield 148, 3) := by decide +kernel
theorem dX12_second_157 : decode cX12_second 157 = .ok (.if_icmp .ge 32, 3) := by decide +kernel
theorem dX12_second_160 : decode cX12_second 160 = .ok (.aload_n 0, 1) := by decide +kernel
theorem dX12_second_161 : decode cX12_second 161 = .ok (.getfield 221, 3) := by decide +kernel
theorem dX12_second_164 : decode cX12_second 164 = .ok (.iload 5, 2) := by decide +kernel
theorem dX12_second_166 : decode cX12_second 166 = .ok (.iload 5, 2) := by decide +kernel
theorem dX12_second_168 : decode cX12_second 168 = .ok (.aload_n 0, 1) := by decide +kernel
theorem dX12_second_169 : decode cX12_second 169 = .ok (.iload 4, 2) := by decide +kernel
theorem dX12_second_171 : decode cX12_second 171 = .ok (.invokevirtual 172, 3) := by decide +kernel
theorem dX12_second_174 : decode cX12_second 174 = .ok (.if_icmp .lt 7, 3) := by decide +kernel
theorem dX12_second_177 : decode cX12_second 177 = .ok (.iconst 1, 1) := by decide +kernel
theorem dX12_second_178 : decode cX12_second 178 = .ok (.goto 4, 3) := by decide +kernel
theorem dX12_second_181 : decode cX12_second 181 = .ok (.iconst 0, 1) := by decide +kernel
theorem dX12_second_182 : decode cX12_second 182 = .ok (.bastore, 1) := by decide +kernel
theorem dX12_second_183 : decode cX12_second 183 = .ok (.iinc 5 1, 3) := by decide +kernel
theorem dX12_second_186 : decode cX12_second 186 = .ok (.goto (-35), 3) := by decide +kernel
theorem dX12_second_189 : decode cX12_second 189 = .ok (.aload_n 0, 1) := by decide +kernel
theorem dX12_second_190 : decode cX12_second 190 = .ok (.getfield 148, 3) := by decide +kernel
theorem dX12_second_193 : decode cX12_second 193 = .ok (.iconst 1, 1) := by decide +kernel
theorem dX12_second_194 : decode cX12_second 194 = .ok (.isub, 1) := by decide +kernel
theorem dX12_second_195 : decode cX12_second 195 = .ok (.istore 5, 2) := by decide +kernel
theorem dX12_second_197 : decode cX12_second 197 = .ok (.iload 5, 2) := by decide +kernel
theorem dX12_second_199 : decode cX12_second 199 = .ok (.aload_n 0, 1) := by decide +kernel
theorem dX12_second_200 : decode cX12_second 200 = .ok (.getfield 169, 3) := by decide +kernel
theorem dX12_second_203 : decode cX12_second 203 = .ok (.iconst 0, 1) := by decide +kernel
theorem dX12_second_204 : decode cX12_second 204 = .ok (.iaload, 1) := by decide +kernel
theorem dX12_second_205 : decode cX12_second 205 = .ok (.if_icmp .lt 32, 3) := by decide +kernel
theorem dX12_second_208 : decode cX12_second 208 = .ok (.aload_n 0, 1) := by decide +kernel
theorem dX12_second_209 : decode cX12_second 209 = .ok (.getfield 221, 3) := by decide +kernel
theorem dX12_second_212 : decode cX12_second 212 = .ok (.iload 5, 2) := by decide +kernel
theorem dX12_second_214 : decode cX12_second 214 = .ok (.baload, 1) := by decide +kernel
theorem dX12_second_215 : decode cX12_second 215 = .ok (.ifCond .eq 16, 3) := by decide +kernel
theorem dX12_second_218 : decode cX12_second 218 = .ok (.aload_n 0, 1) := by decide +kernel
theorem dX12_second_219 : decode cX12_second 219 = .ok (.getfield 221, 3) := by decide +kernel
theorem dX12_second_222 : decode cX12_second 222 = .ok (.aload_n 0, 1) := by decide +kernel
theorem dX12_second_223 : decode cX12_second 223 = .ok (.getfield 162, 3) := by decide +kernel
theorem dX12_second_226 : decode cX12_second 226 = .ok (.iload 5, 2) := by decide +kernel
theorem dX12_second_228 : decode cX12_second 228 = .ok (.iaload, 1) := by decide +kernel
theorem dX12_second_229 : decode cX12_second 229 = .ok (.iconst 1, 1) := by decide +kernel
theorem dX12_second_230 : decode cX12_second 230 = .ok (.bastore, 1) := by decide +kernel
theorem dX12_second_231 : decode cX12_second 231 = .ok (.iinc 5 (-1), 3) := by decide +kernel
theorem dX12_second_234 : decode cX12_second 234 = .ok (.goto (-37), 3) := by decide +kernel
theorem dX12_second_237 : decode cX12_second 237 = .ok (.iconst 0, 1) := by decide +kernel
theorem dX12_second_238 : decode cX12_second 238 = .ok (.istore 5, 2) := by decide +kernel
theorem dX12_second_240 : decode cX12_second 240 = .ok (.aload_n 0, 1) := by decide +kernel
theorem dX12_second_241 : decode cX12_second 241 = .ok (.aload_n 0, 1) := by decide +kernel
theorem dX12_second_242 : decode cX12_second 242 = .ok (.getfield 76, 3) := by decide +kernel
theorem dX12_second_245 : decode cX12_second 245 = .ok (.iconst 1, 1) := by decide +kernel
theorem dX12_second_246 : decode cX12_second 246 = .ok (.isub, 1) := by decide +kernel
theorem dX12_second_247 : decode cX12_second 247 = .ok (.invokevirtual 172, 3) := by decide +kernel
theorem dX12_second_250 : decode cX12_second 250 = .ok (.istore 6, 2) := by decide +kernel
theorem dX12_second_252 : decode cX12_second 252 = .ok (.iload 6, 2) := by decide +kernel
theorem dX12_second_254 : decode cX12_second 254 = .ok (.aload_n 0, 1) := by decide +kernel
theorem dX12_second_255 : decode cX12_second 255 = .ok (.getfield 169, 3) := by decide +kernel
theorem dX12_second_258 : decode cX12_second 258 = .ok (.aload_n 0, 1) := by decide +kernel
theorem dX12_second_259 : decode cX12_second 259 = .ok (.getfield 76, 3) := by decide +kernel
theorem dX12_second_262 : decode cX12_second 262 = .ok (.iconst 1, 1) := by decide +kernel
theorem dX12_second_263 : decode cX12_second 263 = .ok (.isub, 1) := by decide +kernel
theorem dX12_second_264 : decode cX12_second 264 = .ok (.iaload, 1) := by decide +kernel
theorem dX12_second_265 : decode cX12_second 265 = .ok (.if_icmp .ge 24, 3) := by decide +kernel
theorem dX12_second_268 : decode cX12_second 268 = .ok (.iload 5, 2) := by decide +kernel
theorem dX12_second_270 : decode cX12_second 270 = .ok (.aload_n 0, 1) := by decide +kernel
theorem dX12_second_271 : decode cX12_second 271 = .ok (.getfield 221, 3) := by decide +kernel
theorem dX12_second_274 : decode cX12_second 274 = .ok (.iload 6, 2) := by decide +kernel
theorem dX12_second_276 : decode cX12_second 276 = .ok (.baload, 1) := by decide +kernel
theorem dX12_second_277 : decode cX12_second 277 = .ok (.invokestatic 65, 3) := by decide +kernel
theorem dX12_second_280 : decode cX12_second 280 = .ok (.iadd, 1) := by decide +kernel
theorem dX12_second_281 : decode cX12_second 281 = .ok (.istore 5, 2) := by decide +kernel
theorem dX12_second_283 : decode cX12_second 283 = .ok (.iinc 6 1, 3) := by decide +kernel
theorem dX12_second_286 : decode cX12_second 286 = .ok (.goto (-34), 3) := by decide +kernel
theorem dX12_second_289 : decode cX12_second 289 = .ok (.aload_n 0, 1) := by decide +kernel
theorem dX12_second_290 : decode cX12_second 290 = .ok (.iconst 0, 1) := by decide +kernel
theorem dX12_second_291 : decode cX12_second 291 = .ok (.putfield 11, 3) := by decide +kernel
theorem dX12_second_294 : decode cX12_second 294 = .ok (.aload_n 0, 1) := by decide +kernel
theorem dX12_second_295 : decode cX12_second 295 = .ok (.aload_n 0, 1) := by decide +kernel
theorem dX12_second_296 : decode cX12_second 296 = .ok (.getfield 169, 3) := by decide +kernel
theorem dX12_second_299 : decode cX12_second 299 = .ok (.iload 4, 2) := by decide +kernel
theorem dX12_second_301 : decode cX12_second 301 = .ok (.iaload, 1) := by decide +kernel
theorem dX12_second_302 : decode cX12_second 302 = .ok (.aload_n 0, 1) := by decide +kernel
theorem dX12_second_303 : decode cX12_second 303 = .ok (.iload 4, 2) := by decide +kernel
theorem dX12_second_305 : decode cX12_second 305 = .ok (.invokevirtual 172, 3) := by decide +kernel
theorem dX12_second_308 : decode cX12_second 308 = .ok (.isub, 1) := by decide +kernel
theorem dX12_second_309 : decode cX12_second 309 = .ok (.i2l, 1) := by decide +kernel
theorem dX12_second_310 : decode cX12_second 310 = .ok (.invokevirtual 18, 3) := by decide +kernel
theorem dX12_second_313 : decode cX12_second 313 = .ok (.iload 5, 2) := by decide +kernel
theorem dX12_second_315 : decode cX12_second 315 = .ok (.ireturn, 1) := by decide +kernel
def w_X12_second_252_s (post : Int32 → sI → sJ → Prop) (k252 : Int32 → Int32 → Int32 → sI → sJ → Prop) (x4 : Int32) (x5 : Int32) (x6 : Int32) (I : sI) (J : sJ) : Prop :=
  (vp_in ((I 248 11) - 1) 25 ∧ (((I 264 (Int32.toNatClampNeg ((I 248 11) - 1))) ≤ x6 → (∀ I_291 : sI, I_291 = sUI I 248 1 0 → (vp_in x4 25 ∧ w_X12_levelBegin x4 I_291 J (fun (r_305 : Int32) (I_305 : sI) (J_305 : sJ) => (w_X12_enters (Int32.toInt64 ((I_291 264 (Int32.toNatClampNeg x4)) - r_305)) I_305 J_305 (fun (I_310 : sI) (J_310 : sJ) => (post x5 I_310 J_310))))))) ∧ (¬ (I 264 (Int32.toNatClampNeg ((I 248 11) - 1))) ≤ x6 → (vp_in x6 20002 ∧ w_X12_flag (I 268 (Int32.toNatClampNeg x6)) I J (fun (r_277 : Int32) (I_277 : sI) (J_277 : sJ) => ((∀ v5_281 : Int32, v5_281 = x5 + r_277 → (∀ v6_283 : Int32, v6_283 = x6 + 1 → k252 x4 v5_281 v6_283 I_277 J_277))))))))
def w_X12_second_252_n (post : Int32 → sI → sJ → Prop) : Nat → Int32 → Int32 → Int32 → sI → sJ → Prop
  | 0 => fun _ _ _ _ _ => False
  | n + 1 => fun x4 x5 x6 I J => w_X12_second_252_s post (w_X12_second_252_n post n) x4 x5 x6 I J
def w_X12_second_252 (post : Int32 → sI → sJ → Prop) (x4 : Int32) (x5 : Int32) (x6 : Int32) (I : sI) (J : sJ) : Prop := ∃ n, w_X12_second_252_n post n x4 x5 x6 I J
set_option maxHeartbeats 4000000 in
set_option maxRecDepth 100000 in
theorem t_X12_second_252_s {X : sX} {post : Int32 → sI → sJ → Prop} (h : sOK X cX12_second RX12 7 4 114) (hr : sRt X (some .int) (sPi post)) {k252 : Int32 → Int32 → Int32 → sI → sJ → Prop} (hk252 : ∀ (x4 : Int32) (x5 : Int32) (x6 : Int32) (I : sI) (J : sJ), k252 x4 x5 x6 I J → sG X 7 252 [(0, .ref 248), (4, .int x4), (5, .int x5), (6, .int x6)] [] I J) {x4 : Int32} {x5 : Int32} {x6 : Int32} {I : sI} {J : sJ} (hw : w_X12_second_252_s post k252 x4 x5 x6 I J) : sG X 7 252 [(0, .ref 248), (4, .int x4), (5, .int x5), (6, .int x6)] [] I J := by
  unfold w_X12_second_252_s at hw
  refine g_iload h 3 rfl dX12_second_252 ?_
  refine g_aload_n h rfl 0 rfl dX12_second_254 ?_
  refine g_get h is_248 fl_X12_169 fr_248_29 dX12_second_255 ?_
  refine g_aload_n h rfl 0 rfl dX12_second_258 ?_
  refine g_get h is_248 fl_X12_76 rfl dX12_second_259 ?_
  refine g_iconst (v := 1) h (by decide) dX12_second_262 ?_
  refine g_isub h dX12_second_263 ?_
  obtain ⟨hi264, hw⟩ := hw
  refine g_iald h ar_264 hi264 dX12_second_264 ?_
  refine g_icmp_ge (tgt := 289) h (by decide) dX12_second_265 (fun q265 => ?_) (fun q265 => ?_)
  · replace hw := hw.1 q265
    refine g_aload_n h rfl 0 rfl dX12_second_289 ?_
    refine g_iconst (v := 0) h (by decide) dX12_second_290 ?_
    refine g_putI h is_248 fl_X12_11 rfl rfl dX12_second_291 ?_
    refine g_nI (fun I_291 eI_291 => ?_)
    replace hw := hw I_291 eI_291
    refine g_aload_n h rfl 0 rfl dX12_second_294 ?_
    refine g_aload_n h rfl 0 rfl dX12_second_295 ?_
    refine g_get h is_248 fl_X12_169 fr_248_29 dX12_second_296 ?_
    refine g_iload h 1 rfl dX12_second_299 ?_
    obtain ⟨hi301, hw⟩ := hw
    refine g_iald h ar_264 hi301 dX12_second_301 ?_
    refine g_aload_n h rfl 0 rfl dX12_second_302 ?_
    refine g_iload h 1 rfl dX12_second_303 ?_
    refine g_callV [.int x4] h (c_X12_levelBegin X hw) sPi_v mw_X12_levelBegin lk_X12_172 is_248 rfl rfl ⟨by decide, by decide⟩ (Nat.le_of_ble_eq_true rfl) dX12_second_305 (sPi_k (fun r_305 I_305 J_305 hw => ?_))
    refine g_isub h dX12_second_308 ?_
    refine g_i2l h dX12_second_309 ?_
    refine g_callV [.long (Int32.toInt64 ((I_291 264 (Int32.toNatClampNeg x4)) - r_305))] h (c_X12_enters X hw) sPv_v mw_X12_enters lk_X12_18 is_248 rfl rfl ⟨by decide, by decide⟩ (Nat.le_of_ble_eq_true rfl) dX12_second_310 (sPv_k (fun I_310 J_310 hw => ?_))
    refine g_iload h 2 rfl dX12_second_313 ?_
    exact g_iret h hr dX12_second_315 hw
  · replace hw := hw.2 q265
    refine g_iload h 2 rfl dX12_second_268 ?_
    refine g_aload_n h rfl 0 rfl dX12_second_270 ?_
    refine g_get h is_248 fl_X12_221 fr_248_36 dX12_second_271 ?_
    refine g_iload h 3 rfl dX12_second_274 ?_
    obtain ⟨hi276, hw⟩ := hw
    refine g_zald h ar_268 hi276 dX12_second_276 ?_
    refine g_callS [.int (I 268 (Int32.toNatClampNeg x6))] h (c_X12_flag X hw) sPi_v mw_X12_flag lk_X12_65 rfl ⟨by decide, by decide⟩ (Nat.le_of_ble_eq_true rfl) dX12_second_277 (sPi_k (fun r_277 I_277 J_277 hw => ?_))
    refine g_iadd h dX12_second_280 ?_
    refine g_ni (fun v5_281 ev5_281 => ?_)
    replace hw := hw v5_281 ev5_281
    refine g_istore (lo2 := [(5, .int v5_281), (0, .ref 248), (4, .int x4), (6, .int x6)]) h (by decide) rfl dX12_second_281 ?_
    obtain ⟨v6_283, ev6_283⟩ : ∃ z : Int32, z = x6 + 1 := ⟨_, rfl⟩
    replace hw := hw v6_283 ev6_283
    refine g_iinc (v := v6_283) (lo2 := [(6, .int v6_283), (5, .int v5_281), (0, .ref 248), (4, .int x4)]) h 3 rfl (by rw [ev6_283]; rfl) (by decide) rfl dX12_second_283 ?_
    refine g_goto (tgt := 252) h (by decide) dX12_second_286 ?_
    exact g_sub [2, 3, 1, 0] rfl (hk252 _ _ _ _ _ hw)
theorem t_X12_second_252 {X : sX} {post : Int32 → sI → sJ → Prop} (h : sOK X cX12_second RX12 7 4 114) (hr : sRt X (some .int) (sPi post)) {x4 : Int32} {x5 : Int32} {x6 : Int32} {I : sI} {J : sJ} (hw : w_X12_second_252 post x4 x5 x6 I J) : sG X 7 252 [(0, .ref 248), (4, .int x4), (5, .int x5), (6, .int x6)] [] I J := by
  obtain ⟨n, hw⟩ := hw
  induction n generalizing x4 x5 x6 I J with
  | zero => exact hw.elim
  | succ n ih => exact t_X12_second_252_s h hr (fun _ _ _ _ _ q => ih q) hw
def w_X12_second_231 (post : Int32 → sI → sJ → Prop) (k197 : Int32 → Int32 → sI → sJ → Prop) (x4 : Int32) (x5 : Int32) (I : sI) (J : sJ) : Prop :=
  (∀ v5_231 : Int32, v5_231 = x5 + (-1) → k197 x4 v5_231 I J)
set_option maxHeartbeats 4000000 in
set_option maxRecDepth 100000 in
theorem t_X12_second_231 {X : sX} {post : Int32 → sI → sJ → Prop} (h : sOK X cX12_second RX12 7 4 114) (hr : sRt X (some .int) (sPi post)) {k197 : Int32 → Int32 → sI → sJ → Prop} (hk197 : ∀ (x4 : Int32) (x5 : Int32) (I : sI) (J : sJ), k197 x4 x5 I J → sG X 7 197 [(0, .ref 248), (4, .int x4), (5, .int x5)] [] I J) {x4 : Int32} {x5 : Int32} {I : sI} {J : sJ} (hw : w_X12_second_231 post k197 x4 x5 I J) : sG X 7 231 [(0, .ref 248), (4, .int x4), (5, .int x5)] [] I J := by
  unfold w_X12_second_231 at hw
  obtain ⟨v5_231, ev5_231⟩ : ∃ z : Int32, z = x5 + (-1) := ⟨_, rfl⟩
  replace hw := hw v5_231 ev5_231
  refine g_iinc (v := v5_231) (lo2 := [(5, .int v5_231), (0, .ref 248), (4, .int x4)]) h 2 rfl (by rw [ev5_231]; rfl) (by decide) rfl dX12_second_231 ?_
  refine g_goto (tgt := 197) h (by decide) dX12_second_234 ?_
  exact g_sub [1, 2, 0] rfl (hk197 _ _ _ _ hw)
def w_X12_second_197_s (post : Int32 → sI → sJ → Prop) (k197 : Int32 → Int32 → sI → sJ → Prop) (x4 : Int32) (x5 : Int32) (I : sI) (J : sJ) : Prop :=
  (vp_in 0 25 ∧ ((x5 < (I 264 (Int32.toNatClampNeg 0)) → w_X12_levelBegin ((I 248 11) - 1) I J (fun (r_247 : Int32) (I_247 : sI) (J_247 : sJ) => (w_X12_second_252 post x4 0 r_247 I_247 J_247))) ∧ (¬ x5 < (I 264 (Int32.toNatClampNeg 0)) → (vp_in x5 20002 ∧ (((I 268 (Int32.toNatClampNeg x5)) = 0 → w_X12_second_231 post k197 x4 x5 I J) ∧ (¬ (I 268 (Int32.toNatClampNeg x5)) = 0 → (vp_in x5 20002 ∧ (vp_in (I 263 (Int32.toNatClampNeg x5)) 20002 ∧ (∀ I_230 : sI, I_230 = sUI I 268 (Int32.toNatClampNeg (I 263 (Int32.toNatClampNeg x5))) 1 → w_X12_second_231 post k197 x4 x5 I_230 J)))))))))
def w_X12_second_197_n (post : Int32 → sI → sJ → Prop) : Nat → Int32 → Int32 → sI → sJ → Prop
  | 0 => fun _ _ _ _ => False
  | n + 1 => fun x4 x5 I J => w_X12_second_197_s post (w_X12_second_197_n post n) x4 x5 I J
def w_X12_second_197 (post : Int32 → sI → sJ → Prop) (x4 : Int32) (x5 : Int32) (I : sI) (J : sJ) : Prop := ∃ n, w_X12_second_197_n post n x4 x5 I J
set_option maxHeartbeats 4000000 in
set_option maxRecDepth 100000 in
theorem t_X12_second_197_s {X : sX} {post : Int32 → sI → sJ → Prop} (h : sOK X cX12_second RX12 7 4 114) (hr : sRt X (some .int) (sPi post)) {k197 : Int32 → Int32 → sI → sJ → Prop} (hk197 : ∀ (x4 : Int32) (x5 : Int32) (I : sI) (J : sJ), k197 x4 x5 I J → sG X 7 197 [(0, .ref 248), (4, .int x4), (5, .int x5)] [] I J) {x4 : Int32} {x5 : Int32} {I : sI} {J : sJ} (hw : w_X12_second_197_s post k197 x4 x5 I J) : sG X 7 197 [(0, .ref 248), (4, .int x4), (5, .int x5)] [] I J := by
  unfold w_X12_second_197_s at hw
  refine g_iload h 2 rfl dX12_second_197 ?_
  refine g_aload_n h rfl 0 rfl dX12_second_199 ?_
  refine g_get h is_248 fl_X12_169 fr_248_29 dX12_second_200 ?_
  refine g_iconst (v := 0) h (by decide) dX12_second_203 ?_
  obtain ⟨hi204, hw⟩ := hw
  refine g_iald h ar_264 hi204 dX12_second_204 ?_
  refine g_icmp_lt (tgt := 237) h (by decide) dX12_second_205 (fun q205 => ?_) (fun q205 => ?_)
  · replace hw := hw.1 q205
    refine g_iconst (v := 0) h (by decide) dX12_second_237 ?_
    refine g_istore (lo2 := [(5, .int 0), (0, .ref 248), (4, .int x4)]) h (by decide) rfl dX12_second_238 ?_
    refine g_aload_n h rfl 1 rfl dX12_second_240 ?_
    refine g_aload_n h rfl 1 rfl dX12_second_241 ?_
    refine g_get h is_248 fl_X12_76 rfl dX12_second_242 ?_
    refine g_iconst (v := 1) h (by decide) dX12_second_245 ?_
    refine g_isub h dX12_second_246 ?_
    refine g_callV [.int ((I 248 11) - 1)] h (c_X12_levelBegin X hw) sPi_v mw_X12_levelBegin lk_X12_172 is_248 rfl rfl ⟨by decide, by decide⟩ (Nat.le_of_ble_eq_true rfl) dX12_second_247 (sPi_k (fun r_247 I_247 J_247 hw => ?_))
    refine g_istore (lo2 := [(6, .int r_247), (5, .int 0), (0, .ref 248), (4, .int x4)]) h (by decide) rfl dX12_second_250 ?_
    exact g_sub [2, 3, 1, 0] rfl (t_X12_second_252 h hr hw)
  · replace hw := hw.2 q205
    refine g_aload_n h rfl 0 rfl dX12_second_208 ?_
    refine g_get h is_248 fl_X12_221 fr_248_36 dX12_second_209 ?_
    refine g_iload h 2 rfl dX12_second_212 ?_
    obtain ⟨hi214, hw⟩ := hw
    refine g_zald h ar_268 hi214 dX12_second_214 ?_
    refine g_if_eq (tgt := 231) h (by decide) dX12_second_215 (fun q215 => ?_) (fun q215 => ?_)
    · replace hw := hw.1 q215
      exact g_sub [0, 1, 2] rfl (t_X12_second_231 h hr hk197 hw)
    · replace hw := hw.2 q215
      refine g_aload_n h rfl 0 rfl dX12_second_218 ?_
      refine g_get h is_248 fl_X12_221 fr_248_36 dX12_second_219 ?_
      refine g_aload_n h rfl 0 rfl dX12_second_222 ?_
      refine g_get h is_248 fl_X12_162 fr_248_28 dX12_second_223 ?_
      refine g_iload h 2 rfl dX12_second_226 ?_
      obtain ⟨hi228, hw⟩ := hw
      refine g_iald h ar_263 hi228 dX12_second_228 ?_
      refine g_iconst (v := 1) h (by decide) dX12_second_229 ?_
      obtain ⟨hi230, hw⟩ := hw
      refine g_zast h ar_268 hi230 (Or.inr rfl) dX12_second_230 ?_
      refine g_nI (fun I_230 eI_230 => ?_)
      replace hw := hw I_230 eI_230
      exact g_sub [0, 1, 2] rfl (t_X12_second_231 h hr hk197 hw)
theorem t_X12_second_197 {X : sX} {post : Int32 → sI → sJ → Prop} (h : sOK X cX12_second RX12 7 4 114) (hr : sRt X (some .int) (sPi post)) {x4 : Int32} {x5 : Int32} {I : sI} {J : sJ} (hw : w_X12_second_197 post x4 x5 I J) : sG X 7 197 [(0, .ref 248), (4, .int x4), (5, .int x5)] [] I J := by
  obtain ⟨n, hw⟩ := hw
  induction n generalizing x4 x5 I J with
  | zero => exact hw.elim
  | succ n ih => exact t_X12_second_197_s h hr (fun _ _ _ _ q => ih q) hw
def w_X12_second_182 (post : Int32 → sI → sJ → Prop) (k151 : Int32 → Int32 → sI → sJ → Prop) (x4 : Int32) (x5 : Int32) (s0 : Int32) (s1 : Int32) (I : sI) (J : sJ) : Prop :=
  (sZ s0 ∧ (vp_in s1 20002 ∧ (∀ I_182 : sI, I_182 = sUI I 268 (Int32.toNatClampNeg s1) s0 → (∀ v5_183 : Int32, v5_183 = x5 + 1 → k151 x4 v5_183 I_182 J))))
set_option maxHeartbeats 4000000 in
set_option maxRecDepth 100000 in
theorem t_X12_second_182 {X : sX} {post : Int32 → sI → sJ → Prop} (h : sOK X cX12_second RX12 7 4 114) (hr : sRt X (some .int) (sPi post)) {k151 : Int32 → Int32 → sI → sJ → Prop} (hk151 : ∀ (x4 : Int32) (x5 : Int32) (I : sI) (J : sJ), k151 x4 x5 I J → sG X 7 151 [(0, .ref 248), (4, .int x4), (5, .int x5)] [] I J) {x4 : Int32} {x5 : Int32} {s0 : Int32} {s1 : Int32} {I : sI} {J : sJ} (hw : w_X12_second_182 post k151 x4 x5 s0 s1 I J) : sG X 7 182 [(0, .ref 248), (4, .int x4), (5, .int x5)] [.int s0, .int s1, .ref 268] I J := by
  unfold w_X12_second_182 at hw
  obtain ⟨hz182, hw⟩ := hw
  obtain ⟨hi182, hw⟩ := hw
  refine g_zast h ar_268 hi182 hz182 dX12_second_182 ?_
  refine g_nI (fun I_182 eI_182 => ?_)
  replace hw := hw I_182 eI_182
  obtain ⟨v5_183, ev5_183⟩ : ∃ z : Int32, z = x5 + 1 := ⟨_, rfl⟩
  replace hw := hw v5_183 ev5_183
  refine g_iinc (v := v5_183) (lo2 := [(5, .int v5_183), (0, .ref 248), (4, .int x4)]) h 2 rfl (by rw [ev5_183]; rfl) (by decide) rfl dX12_second_183 ?_
  refine g_goto (tgt := 151) h (by decide) dX12_second_186 ?_
  exact g_sub [1, 2, 0] rfl (hk151 _ _ _ _ hw)
def w_X12_second_151_s (post : Int32 → sI → sJ → Prop) (k151 : Int32 → Int32 → sI → sJ → Prop) (x4 : Int32) (x5 : Int32) (I : sI) (J : sJ) : Prop :=
  (((I 248 30) ≤ x5 → (∀ v5_195 : Int32, v5_195 = (I 248 30) - 1 → w_X12_second_197 post x4 v5_195 I J)) ∧ (¬ (I 248 30) ≤ x5 → w_X12_levelBegin x4 I J (fun (r_171 : Int32) (I_171 : sI) (J_171 : sJ) => (((x5 < r_171 → w_X12_second_182 post k151 x4 x5 0 x5 I_171 J_171) ∧ (¬ x5 < r_171 → w_X12_second_182 post k151 x4 x5 1 x5 I_171 J_171))))))
def w_X12_second_151_n (post : Int32 → sI → sJ → Prop) : Nat → Int32 → Int32 → sI → sJ → Prop
  | 0 => fun _ _ _ _ => False
  | n + 1 => fun x4 x5 I J => w_X12_second_151_s post (w_X12_second_151_n post n) x4 x5 I J
def w_X12_second_151 (post : Int32 → sI → sJ → Prop) (x4 : Int32) (x5 : Int32) (I : sI) (J : sJ) : Prop := ∃ n, w_X12_second_151_n post n x4 x5 I J
set_option maxHeartbeats 4000000 in
set_option maxRecDepth 100000 in
theorem t_X12_second_151_s {X : sX} {post : Int32 → sI → sJ → Prop} (h : sOK X cX12_second RX12 7 4 114) (hr : sRt X (some .int) (sPi post)) {k151 : Int32 → Int32 → sI → sJ → Prop} (hk151 : ∀ (x4 : Int32) (x5 : Int32) (I : sI) (J : sJ), k151 x4 x5 I J → sG X 7 151 [(0, .ref 248), (4, .int x4), (5, .int x5)] [] I J) {x4 : Int32} {x5 : Int32} {I : sI} {J : sJ} (hw : w_X12_second_151_s post k151 x4 x5 I J) : sG X 7 151 [(0, .ref 248), (4, .int x4), (5, .int x5)] [] I J := by
  unfold w_X12_second_151_s at hw
  refine g_iload h 2 rfl dX12_second_151 ?_
  refine g_aload_n h rfl 0 rfl dX12_second_153 ?_
  refine g_get h is_248 fl_X12_148 rfl dX12_second_154 ?_
  refine g_icmp_ge (tgt := 189) h (by decide) dX12_second_157 (fun q157 => ?_) (fun q157 => ?_)
  · replace hw := hw.1 q157
    refine g_aload_n h rfl 0 rfl dX12_second_189 ?_
    refine g_get h is_248 fl_X12_148 rfl dX12_second_190 ?_
    refine g_iconst (v := 1) h (by decide) dX12_second_193 ?_
    refine g_isub h dX12_second_194 ?_
    refine g_ni (fun v5_195 ev5_195 => ?_)
    replace hw := hw v5_195 ev5_195
    refine g_istore (lo2 := [(5, .int v5_195), (0, .ref 248), (4, .int x4)]) h (by decide) rfl dX12_second_195 ?_
    exact g_sub [1, 2, 0] rfl (t_X12_second_197 h hr hw)
  · replace hw := hw.2 q157
    refine g_aload_n h rfl 0 rfl dX12_second_160 ?_
    refine g_get h is_248 fl_X12_221 fr_248_36 dX12_second_161 ?_
    refine g_iload h 2 rfl dX12_second_164 ?_
    refine g_iload h 2 rfl dX12_second_166 ?_
    refine g_aload_n h rfl 0 rfl dX12_second_168 ?_
    refine g_iload h 1 rfl dX12_second_169 ?_
    refine g_callV [.int x4] h (c_X12_levelBegin X hw) sPi_v mw_X12_levelBegin lk_X12_172 is_248 rfl rfl ⟨by decide, by decide⟩ (Nat.le_of_ble_eq_true rfl) dX12_second_171 (sPi_k (fun r_171 I_171 J_171 hw => ?_))
    refine g_icmp_lt (tgt := 181) h (by decide) dX12_second_174 (fun q174 => ?_) (fun q174 => ?_)
    · replace hw := hw.1 q174
      refine g_iconst (v := 0) h (by decide) dX12_second_181 ?_
      exact g_sub [0, 1, 2] rfl (t_X12_second_182 h hr hk151 hw)
    · replace hw := hw.2 q174
      refine g_iconst (v := 1) h (by decide) dX12_second_177 ?_
      refine g_goto (tgt := 182) h (by decide) dX12_second_178 ?_
      exact g_sub [0, 1, 2] rfl (t_X12_second_182 h hr hk151 hw)
theorem t_X12_second_151 {X : sX} {post : Int32 → sI → sJ → Prop} (h : sOK X cX12_second RX12 7 4 114) (hr : sRt X (some .int) (sPi post)) {x4 : Int32} {x5 : Int32} {I : sI} {J : sJ} (hw : w_X12_second_151 post x4 x5 I J) : sG X 7 151 [(0, .ref 248), (4, .int x4), (5, .int x5)] [] I J := by
  obtain ⟨n, hw⟩ := hw
  induction n generalizing x4 x5 I J with
  | zero => exact hw.elim
  | succ n ih => exact t_X12_second_151_s h hr (fun _ _ _ _ q => ih q) hw
def w_X12_second_98_s (post : Int32 → sI → sJ → Prop) (k98 : Int32 → Int32 → Int32 → sI → sJ → Prop) (x1 : Int32) (x3 : Int32) (x4 : Int32) (I : sI) (J : sJ) : Prop :=
  (((I 248 8) ≤ x4 → w_X12_searches x1 I J (fun (r_131 : Int32) (I_131 : sI) (J_131 : sJ) => (((¬ r_131 = 0 → (∀ v4_146 : Int32, v4_146 = (I_131 248 24) - 1 → w_X12_second_151 post v4_146 0 I_131 J_131)) ∧ (r_131 = 0 → post (-3) I_131 J_131))))) ∧ (¬ (I 248 8) ≤ x4 → (vp_in x4 80 ∧ (vp_in (x3 + x4) 160 ∧ (∀ I_122 : sI, I_122 = sUI I 261 (Int32.toNatClampNeg (x3 + x4)) (I 252 (Int32.toNatClampNeg x4)) → (∀ v4_123 : Int32, v4_123 = x4 + 1 → k98 x1 x3 v4_123 I_122 J))))))
def w_X12_second_98_n (post : Int32 → sI → sJ → Prop) : Nat → Int32 → Int32 → Int32 → sI → sJ → Prop
  | 0 => fun _ _ _ _ _ => False
  | n + 1 => fun x1 x3 x4 I J => w_X12_second_98_s post (w_X12_second_98_n post n) x1 x3 x4 I J
def w_X12_second_98 (post : Int32 → sI → sJ → Prop) (x1 : Int32) (x3 : Int32) (x4 : Int32) (I : sI) (J : sJ) : Prop := ∃ n, w_X12_second_98_n post n x1 x3 x4 I J
set_option maxHeartbeats 4000000 in
set_option maxRecDepth 100000 in
theorem t_X12_second_98_s {X : sX} {post : Int32 → sI → sJ → Prop} (h : sOK X cX12_second RX12 7 4 114) (hr : sRt X (some .int) (sPi post)) {k98 : Int32 → Int32 → Int32 → sI → sJ → Prop} (hk98 : ∀ (x1 : Int32) (x3 : Int32) (x4 : Int32) (I : sI) (J : sJ), k98 x1 x3 x4 I J → sG X 7 98 [(0, .ref 248), (1, .int x1), (3, .int x3), (4, .int x4)] [] I J) {x1 : Int32} {x3 : Int32} {x4 : Int32} {I : sI} {J : sJ} (hw : w_X12_second_98_s post k98 x1 x3 x4 I J) : sG X 7 98 [(0, .ref 248), (1, .int x1), (3, .int x3), (4, .int x4)] [] I J := by
  unfold w_X12_second_98_s at hw
  refine g_iload h 3 rfl dX12_second_98 ?_
  refine g_aload_n h rfl 0 rfl dX12_second_100 ?_
  refine g_get h is_248 fl_X12_52 rfl dX12_second_101 ?_
  refine g_icmp_ge (tgt := 129) h (by decide) dX12_second_104 (fun q104 => ?_) (fun q104 => ?_)
  · replace hw := hw.1 q104
    refine g_aload_n h rfl 0 rfl dX12_second_129 ?_
    refine g_iload_n h rfl 1 rfl dX12_second_130 ?_
    refine g_callV [.int x1] h (c_X12_searches X hw) sPi_v mw_X12_searches lk_X12_189 is_248 rfl rfl ⟨by decide, by decide⟩ (Nat.le_of_ble_eq_true rfl) dX12_second_131 (sPi_k (fun r_131 I_131 J_131 hw => ?_))
    refine g_if_ne (tgt := 140) h (by decide) dX12_second_134 (fun q134 => ?_) (fun q134 => ?_)
    · replace hw := hw.1 q134
      refine g_aload_n h rfl 0 rfl dX12_second_140 ?_
      refine g_get h is_248 fl_X12_129 rfl dX12_second_141 ?_
      refine g_iconst (v := 1) h (by decide) dX12_second_144 ?_
      refine g_isub h dX12_second_145 ?_
      refine g_ni (fun v4_146 ev4_146 => ?_)
      replace hw := hw v4_146 ev4_146
      refine g_istore (lo2 := [(4, .int v4_146), (0, .ref 248), (1, .int x1), (3, .int x3)]) h (by decide) rfl dX12_second_146 ?_
      refine g_iconst (v := 0) h (by decide) dX12_second_148 ?_
      refine g_istore (lo2 := [(5, .int 0), (4, .int v4_146), (0, .ref 248), (1, .int x1), (3, .int x3)]) h (by decide) rfl dX12_second_149 ?_
      exact g_sub [2, 1, 0] rfl (t_X12_second_151 h hr hw)
    · replace hw := hw.2 q134
      refine g_bipush (v := (-3)) h (by decide) dX12_second_137 ?_
      exact g_iret h hr dX12_second_139 hw
  · replace hw := hw.2 q104
    refine g_aload_n h rfl 0 rfl dX12_second_107 ?_
    refine g_get h is_248 fl_X12_135 fr_248_26 dX12_second_108 ?_
    refine g_iload_n h rfl 2 rfl dX12_second_111 ?_
    refine g_iload h 3 rfl dX12_second_112 ?_
    refine g_iadd h dX12_second_114 ?_
    refine g_aload_n h rfl 0 rfl dX12_second_115 ?_
    refine g_get h is_248 fl_X12_59 fr_248_10 dX12_second_116 ?_
    refine g_iload h 3 rfl dX12_second_119 ?_
    obtain ⟨hi121, hw⟩ := hw
    refine g_iald h ar_252 hi121 dX12_second_121 ?_
    obtain ⟨hi122, hw⟩ := hw
    refine g_iast h ar_261 hi122 dX12_second_122 ?_
    refine g_nI (fun I_122 eI_122 => ?_)
    replace hw := hw I_122 eI_122
    obtain ⟨v4_123, ev4_123⟩ : ∃ z : Int32, z = x4 + 1 := ⟨_, rfl⟩
    replace hw := hw v4_123 ev4_123
    refine g_iinc (v := v4_123) (lo2 := [(4, .int v4_123), (0, .ref 248), (1, .int x1), (3, .int x3)]) h 3 rfl (by rw [ev4_123]; rfl) (by decide) rfl dX12_second_123 ?_
    refine g_goto (tgt := 98) h (by decide) dX12_second_126 ?_
    exact g_sub [1, 2, 3, 0] rfl (hk98 _ _ _ _ _ hw)
theorem t_X12_second_98 {X : sX} {post : Int32 → sI → sJ → Prop} (h : sOK X cX12_second RX12 7 4 114) (hr : sRt X (some .int) (sPi post)) {x1 : Int32} {x3 : Int32} {x4 : Int32} {I : sI} {J : sJ} (hw : w_X12_second_98 post x1 x3 x4 I J) : sG X 7 98 [(0, .ref 248), (1, .int x1), (3, .int x3), (4, .int x4)] [] I J := by
  obtain ⟨n, hw⟩ := hw
  induction n generalizing x1 x3 x4 I J with
  | zero => exact hw.elim
  | succ n ih => exact t_X12_second_98_s h hr (fun _ _ _ _ _ q => ih q) hw
def w_X12_second_51_s (post : Int32 → sI → sJ → Prop) (k51 : Int32 → Int32 → Int32 → sI → sJ → Prop) (x1 : Int32) (x3 : Int32) (x4 : Int32) (I : sI) (J : sJ) : Prop :=
  (((I 248 7) ≤ x4 → w_X12_second_98 post x1 x3 0 I J) ∧ (¬ (I 248 7) ≤ x4 → (vp_in x4 24 ∧ (vp_in ((I 248 11) + x4) 24 ∧ (∀ I_78 : sI, I_78 = sUI I 260 (Int32.toNatClampNeg ((I 248 11) + x4)) (I 251 (Int32.toNatClampNeg x4)) → (∀ I_86 : sI, I_86 = sUI I_78 248 24 ((I_78 248 24) + 1) → (∀ v4_89 : Int32, v4_89 = x4 + 1 → k51 x1 x3 v4_89 I_86 J)))))))
def w_X12_second_51_n (post : Int32 → sI → sJ → Prop) : Nat → Int32 → Int32 → Int32 → sI → sJ → Prop
  | 0 => fun _ _ _ _ _ => False
  | n + 1 => fun x1 x3 x4 I J => w_X12_second_51_s post (w_X12_second_51_n post n) x1 x3 x4 I J
def w_X12_second_51 (post : Int32 → sI → sJ → Prop) (x1 : Int32) (x3 : Int32) (x4 : Int32) (I : sI) (J : sJ) : Prop := ∃ n, w_X12_second_51_n post n x1 x3 x4 I J
set_option maxHeartbeats 4000000 in
set_option maxRecDepth 100000 in
theorem t_X12_second_51_s {X : sX} {post : Int32 → sI → sJ → Prop} (h : sOK X cX12_second RX12 7 4 114) (hr : sRt X (some .int) (sPi post)) {k51 : Int32 → Int32 → Int32 → sI → sJ → Prop} (hk51 : ∀ (x1 : Int32) (x3 : Int32) (x4 : Int32) (I : sI) (J : sJ), k51 x1 x3 x4 I J → sG X 7 51 [(0, .ref 248), (1, .int x1), (3, .int x3), (4, .int x4)] [] I J) {x1 : Int32} {x3 : Int32} {x4 : Int32} {I : sI} {J : sJ} (hw : w_X12_second_51_s post k51 x1 x3 x4 I J) : sG X 7 51 [(0, .ref 248), (1, .int x1), (3, .int x3), (4, .int x4)] [] I J := by
  unfold w_X12_second_51_s at hw
  refine g_iload h 3 rfl dX12_second_51 ?_
  refine g_aload_n h rfl 0 rfl dX12_second_53 ?_
  refine g_get h is_248 fl_X12_49 rfl dX12_second_54 ?_
  refine g_icmp_ge (tgt := 95) h (by decide) dX12_second_57 (fun q57 => ?_) (fun q57 => ?_)
  · replace hw := hw.1 q57
    refine g_iconst (v := 0) h (by decide) dX12_second_95 ?_
    refine g_istore (lo2 := [(4, .int 0), (0, .ref 248), (1, .int x1), (3, .int x3)]) h (by decide) rfl dX12_second_96 ?_
    exact g_sub [1, 2, 3, 0] rfl (t_X12_second_98 h hr hw)
  · replace hw := hw.2 q57
    refine g_aload_n h rfl 0 rfl dX12_second_60 ?_
    refine g_get h is_248 fl_X12_132 fr_248_25 dX12_second_61 ?_
    refine g_aload_n h rfl 0 rfl dX12_second_64 ?_
    refine g_get h is_248 fl_X12_76 rfl dX12_second_65 ?_
    refine g_iload h 3 rfl dX12_second_68 ?_
    refine g_iadd h dX12_second_70 ?_
    refine g_aload_n h rfl 0 rfl dX12_second_71 ?_
    refine g_get h is_248 fl_X12_62 fr_248_9 dX12_second_72 ?_
    refine g_iload h 3 rfl dX12_second_75 ?_
    obtain ⟨hi77, hw⟩ := hw
    refine g_iald h ar_251 hi77 dX12_second_77 ?_
    obtain ⟨hi78, hw⟩ := hw
    refine g_iast h ar_260 hi78 dX12_second_78 ?_
    refine g_nI (fun I_78 eI_78 => ?_)
    replace hw := hw I_78 eI_78
    refine g_aload_n h rfl 0 rfl dX12_second_79 ?_
    refine g_dup h rfl dX12_second_80 ?_
    refine g_get h is_248 fl_X12_129 rfl dX12_second_81 ?_
    refine g_iconst (v := 1) h (by decide) dX12_second_84 ?_
    refine g_iadd h dX12_second_85 ?_
    refine g_putI h is_248 fl_X12_129 rfl rfl dX12_second_86 ?_
    refine g_nI (fun I_86 eI_86 => ?_)
    replace hw := hw I_86 eI_86
    obtain ⟨v4_89, ev4_89⟩ : ∃ z : Int32, z = x4 + 1 := ⟨_, rfl⟩
    replace hw := hw v4_89 ev4_89
    refine g_iinc (v := v4_89) (lo2 := [(4, .int v4_89), (0, .ref 248), (1, .int x1), (3, .int x3)]) h 3 rfl (by rw [ev4_89]; rfl) (by decide) rfl dX12_second_89 ?_
    refine g_goto (tgt := 51) h (by decide) dX12_second_92 ?_
    exact g_sub [1, 2, 3, 0] rfl (hk51 _ _ _ _ _ hw)
theorem t_X12_second_51 {X : sX} {post : Int32 → sI → sJ → Prop} (h : sOK X cX12_second RX12 7 4 114) (hr : sRt X (some .int) (sPi post)) {x1 : Int32} {x3 : Int32} {x4 : Int32} {I : sI} {J : sJ} (hw : w_X12_second_51 post x1 x3 x4 I J) : sG X 7 51 [(0, .ref 248), (1, .int x1), (3, .int x3), (4, .int x4)] [] I J := by
  obtain ⟨n, hw⟩ := hw
  induction n generalizing x1 x3 x4 I J with
  | zero => exact hw.elim
  | succ n ih => exact t_X12_second_51_s h hr (fun _ _ _ _ _ q => ih q) hw
def w_X12_second (a1 : Int32) (I : sI) (J : sJ) (post : Int32 → sI → sJ → Prop) : Prop :=
  (∀ I_2 : sI, I_2 = sUI I 248 0 0 → w_X12_begins 60 I_2 J (fun (r_9 : Int32) (I_9 : sI) (J_9 : sJ) => (w_X12_reads r_9 I_9 J_9 (fun (r_12 : Int32) (I_12 : sI) (J_12 : sJ) => (w_X12_isAsked a1 I_12 J_12 (fun (r_18 : Int32) (I_18 : sI) (J_18 : sJ) => (((¬ r_18 = 0 → ((0 ≤ r_12 → w_X12_takesDisc (I_18 248 11) I_18 J_18 (fun (I_40 : sI) (J_40 : sJ) => ((∀ v3_47 : Int32, v3_47 = I_40 248 12 → w_X12_second_51 post a1 v3_47 0 I_40 J_40)))) ∧ (¬ 0 ≤ r_12 → post ((-99) + r_12) I_18 J_18))) ∧ (r_18 = 0 → post (-1) I_18 J_18)))))))))
set_option maxHeartbeats 4000000 in
set_option maxRecDepth 100000 in
theorem t_X12_second {X : sX} {a1 : Int32} {I : sI} {J : sJ} {post : Int32 → sI → sJ → Prop} (h : sOK X cX12_second RX12 7 4 114) (hr : sRt X (some .int) (sPi post)) (hw : w_X12_second a1 I J post) : sG X 7 0 [(0, .ref 248), (1, .int a1)] [] I J := by
  unfold w_X12_second at hw
  refine g_aload_n h rfl 0 rfl dX12_second_0 ?_
  refine g_iconst (v := 0) h (by decide) dX12_second_1 ?_
  refine g_putI h is_248 fl_X12_1 rfl rfl dX12_second_2 ?_
  refine g_nI (fun I_2 eI_2 => ?_)
  replace hw := hw I_2 eI_2
  refine g_aload_n h rfl 0 rfl dX12_second_5 ?_
  refine g_aload_n h rfl 0 rfl dX12_second_6 ?_
  refine g_bipush (v := 60) h (by decide) dX12_second_7 ?_
  refine g_callV [.int 60] h (c_X12_begins X hw) sPi_v mw_X12_begins lk_X12_69 is_248 rfl rfl ⟨by decide, by decide⟩ (Nat.le_of_ble_eq_true rfl) dX12_second_9 (sPi_k (fun r_9 I_9 J_9 hw => ?_))
  refine g_callV [.int r_9] h (c_X12_reads X hw) sPi_v mw_X12_reads lk_X12_73 is_248 rfl rfl ⟨by decide, by decide⟩ (Nat.le_of_ble_eq_true rfl) dX12_second_12 (sPi_k (fun r_12 I_12 J_12 hw => ?_))
  refine g_istore_n (lo2 := [(2, .int r_12), (0, .ref 248), (1, .int a1)]) h rfl (by decide) rfl dX12_second_15 ?_
  refine g_aload_n h rfl 1 rfl dX12_second_16 ?_
  refine g_iload_n h rfl 2 rfl dX12_second_17 ?_
  refine g_callV [.int a1] h (c_X12_isAsked X hw) sPi_v mw_X12_isAsked lk_X12_196 is_248 rfl rfl ⟨by decide, by decide⟩ (Nat.le_of_ble_eq_true rfl) dX12_second_18 (sPi_k (fun r_18 I_18 J_18 hw => ?_))
  refine g_if_ne (tgt := 26) h (by decide) dX12_second_21 (fun q21 => ?_) (fun q21 => ?_)
  · replace hw := hw.1 q21
    refine g_iload_n h rfl 0 rfl dX12_second_26 ?_
    refine g_if_ge (tgt := 35) h (by decide) dX12_second_27 (fun q27 => ?_) (fun q27 => ?_)
    · replace hw := hw.1 q27
      refine g_aload_n h rfl 1 rfl dX12_second_35 ?_
      refine g_aload_n h rfl 1 rfl dX12_second_36 ?_
      refine g_get h is_248 fl_X12_76 rfl dX12_second_37 ?_
      refine g_callV [.int (I_18 248 11)] h (c_X12_takesDisc X hw) sPv_v mw_X12_takesDisc lk_X12_185 is_248 rfl rfl ⟨by decide, by decide⟩ (Nat.le_of_ble_eq_true rfl) dX12_second_40 (sPv_k (fun I_40 J_40 hw => ?_))
      refine g_aload_n h rfl 1 rfl dX12_second_43 ?_
      refine g_get h is_248 fl_X12_79 rfl dX12_second_44 ?_
      refine g_ni (fun v3_47 ev3_47 => ?_)
      replace hw := hw v3_47 ev3_47
      refine g_istore_n (lo2 := [(3, .int v3_47), (2, .int r_12), (0, .ref 248), (1, .int a1)]) h rfl (by decide) rfl dX12_second_47 ?_
      refine g_iconst (v := 0) h (by decide) dX12_second_48 ?_
      refine g_istore (lo2 := [(4, .int 0), (3, .int v3_47), (2, .int r_12), (0, .ref 248), (1, .int a1)]) h (by decide) rfl dX12_second_49 ?_
      exact g_sub [3, 4, 1, 0] rfl (t_X12_second_51 h hr hw)
    · replace hw := hw.2 q27
      refine g_bipush (v := (-99)) h (by decide) dX12_second_30 ?_
      refine g_iload_n h rfl 0 rfl dX12_second_32 ?_
      refine g_iadd h dX12_second_33 ?_
      exact g_iret h hr dX12_second_34 hw
  · replace hw := hw.2 q21
    refine g_iconst (v := (-1)) h (by decide) dX12_second_24 ?_
    exact g_iret h hr dX12_second_25 hw
theorem c_X12_second (X : sX) {a1 : Int32} {I : sI} {J : sJ} {post : Int32 → sI → sJ → Prop} (hw : w_X12_second a1 I J post) : sCall X yX12_second cX12_second 7 (some .int) 4 114 [.ref 248, .int a1] I J (sPi post) := sCall_of (by decide +kernel) (Nat.le_of_ble_eq_true rfl) (fun X h hr => t_X12_second h hr hw)
theorem dX12_draws_0 : decode cX12_draws 0 = .ok (.aload_n 0, 1) := by decide +kernel
theorem dX12_draws_1 : decode cX12_draws 1 = .ok (.aload_n 0, 1) := by decide +kernel
theorem dX12_draws_2 : decode cX12_draws 2 = .ok (.getfield 225, 3) := by decide +kernel
theorem dX12_draws_5 : decode cX12_draws 5 = .ok (.ldc 228, 2) := by decide +kernel
theorem dX12_draws_7 : decode cX12_draws 7 = .ok (.imul, 1) := by decide +kernel
theorem dX12_draws_8 : decode cX12_draws 8 = .ok (.sipush 12345, 3) := by decide +kernel
theorem dX12_draws_11 : decode cX12_draws 11 = .ok (.iadd, 1) := by decide +kernel
theorem dX12_draws_12 : decode cX12_draws 12 = .ok (.putfield 225, 3) := by decide +kernel
theorem dX12_draws_15 : decode cX12_draws 15 = .ok (.aload_n 0, 1) := by decide +kernel
theorem dX12_draws_16 : decode cX12_draws 16 = .ok (.getfield 225, 3) := by decide +kernel
theorem dX12_draws_19 : decode cX12_draws 19 = .ok (.bipush 16, 2) := by decide +kernel
theorem dX12_draws_21 : decode cX12_draws 21 = .ok (.iushr, 1) := by decide +kernel
theorem dX12_draws_22 : decode cX12_draws 22 = .ok (.iload_n 1, 1) := by decide +kernel
theorem dX12_draws_23 : decode cX12_draws 23 = .ok (.irem, 1) := by decide +kernel
theorem dX12_draws_24 : decode cX12_draws 24 = .ok (.ireturn, 1) := by decide +kernel
def w_X12_draws (a1 : Int32) (I : sI) (J : sJ) (post : Int32 → sI → sJ → Prop) : Prop :=
  (∀ I_12 : sI, I_12 = sUI I 248 37 (((I 248 37) * 1103515245) + 12345) → (¬ a1 = 0 ∧ post ((((I_12 248 37).toUInt32 >>> (Int32.toUInt32 16 &&& Int32.toUInt32 31)).toInt32) - (((I_12 248 37).toUInt32 >>> (Int32.toUInt32 16 &&& Int32.toUInt32 31)).toInt32) / a1 * a1) I_12 J))
set_option maxHeartbeats 4000000 in
set_option maxRecDepth 100000 in
theorem t_X12_draws {X : sX} {a1 : Int32} {I : sI} {J : sJ} {post : Int32 → sI → sJ → Prop} (h : sOK X cX12_draws RX12 2 0 0) (hr : sRt X (some .int) (sPi post)) (hw : w_X12_draws a1 I J post) : sG X 2 0 [(0, .ref 248), (1, .int a1)] [] I J := by
  unfold w_X12_draws at hw
  refine g_aload_n h rfl 0 rfl dX12_draws_0 ?_
  refine g_aload_n h rfl 0 rfl dX12_draws_1 ?_
  refine g_get h is_248 fl_X12_225 rfl dX12_draws_2 ?_
  refine g_ldc h lc_X12_228 dX12_draws_5 ?_
  refine g_imul h dX12_draws_7 ?_
  refine g_sipush (v := 12345) h (by decide) dX12_draws_8 ?_
  refine g_iadd h dX12_draws_11 ?_
  refine g_putI h is_248 fl_X12_225 rfl rfl dX12_draws_12 ?_
  refine g_nI (fun I_12 eI_12 => ?_)
  replace hw := hw I_12 eI_12
  refine g_aload_n h rfl 0 rfl dX12_draws_15 ?_
  refine g_get h is_248 fl_X12_225 rfl dX12_draws_16 ?_
  refine g_bipush (v := 16) h (by decide) dX12_draws_19 ?_
  refine g_iushr h dX12_draws_21 ?_
  refine g_iload_n h rfl 1 rfl dX12_draws_22 ?_
  obtain ⟨hz23, hw⟩ := hw
  refine g_irem h hz23 dX12_draws_23 ?_
  exact g_iret h hr dX12_draws_24 hw
theorem c_X12_draws (X : sX) {a1 : Int32} {I : sI} {J : sJ} {post : Int32 → sI → sJ → Prop} (hw : w_X12_draws a1 I J post) : sCall X yX12_draws cX12_draws 2 (some .int) 0 0 [.ref 248, .int a1] I J (sPi post) := sCall_of (by decide +kernel) (Nat.le_of_ble_eq_true rfl) (fun X h hr => t_X12_draws h hr hw)
theorem dX12_chance_0 : decode cX12_chance 0 = .ok (.aload_n 0, 1) := by decide +kernel
theorem dX12_chance_1 : decode cX12_chance 1 = .ok (.iconst 0, 1) := by decide +kernel
theorem dX12_chance_2 : decode cX12_chance 2 = .ok (.putfield 1, 3) := by decide +kernel
theorem dX12_chance_5 : decode cX12_chance 5 = .ok (.aload_n 0, 1) := by decide +kernel
theorem dX12_chance_6 : decode cX12_chance 6 = .ok (.iload_n 1, 1) := by decide +kernel
theorem dX12_chance_7 : decode cX12_chance 7 = .ok (.invokevirtual 196, 3) := by decide +kernel
theorem dX12_chance_10 : decode cX12_chance 10 = .ok (.ifCond .eq 15, 3) := by decide +kernel
theorem dX12_chance_13 : decode cX12_chance 13 = .ok (.iload_n 2, 1) := by decide +kernel
theorem dX12_chance_14 : decode cX12_chance 14 = .ok (.i2l, 1) := by decide +kernel
theorem dX12_chance_15 : decode cX12_chance 15 = .ok (.lconst 1, 1) := by decide +kernel
theorem dX12_chance_16 : decode cX12_chance 16 = .ok (.ldc2_w 229, 3) := by decide +kernel
theorem dX12_chance_19 : decode cX12_chance 19 = .ok (.invokestatic 29, 3) := by decide +kernel
theorem dX12_chance_22 : decode cX12_chance 22 = .ok (.ifCond .ne 5, 3) := by decide +kernel
theorem dX12_chance_25 : decode cX12_chance 25 = .ok (.iconst (-1), 1) := by decide +kernel
theorem dX12_chance_26 : decode cX12_chance 26 = .ok (.ireturn, 1) := by decide +kernel
theorem dX12_chance_27 : decode cX12_chance 27 = .ok (.aload_n 0, 1) := by decide +kernel
theorem dX12_chance_28 : decode cX12_chance 28 = .ok (.getfield 225, 3) := by decide +kernel
theorem dX12_chance_31 : decode cX12_chance 31 = .ok (.istore_n 3, 1) := by decide +kernel
theorem dX12_chance_32 : decode cX12_chance 32 = .ok (.iconst 0, 1) := by decide +kernel
theorem dX12_chance_33 : decode cX12_chance 33 = .ok (.istore 4, 2) := by decide +kernel
theorem dX12_chance_35 : decode cX12_chance 35 = .ok (.iconst 0, 1) := by decide +kernel
theorem dX12_chance_36 : decode cX12_chance 36 = .ok (.istore 5, 2) := by decide +kernel
theorem dX12_chance_38 : decode cX12_chance 38 = .ok (.iload 5, 2) := by decide +kernel
theorem dX12_chance_40 : decode cX12_chance 40 = .ok (.iload_n 2, 1) := by decide +kernel
theorem dX12_chance_41 : decode cX12_chance 41 = .ok (.if_icmp .ge 146, 3) := by decide +kernel
theorem dX12_chance_44 : decode cX12_chance 44 = .ok (.aload_n 0, 1) := by decide +kernel
theorem dX12_chance_45 : decode cX12_chance 45 = .ok (.aload_n 0, 1) := by decide +kernel
theorem dX12_chance_46 : decode cX12_chance 46 = .ok (.getfield 76, 3) := by decide +kernel
theorem dX12_chance_49 : decode cX12_chance 49 = .ok (.invokevirtual 185, 3) := by decide +kernel
theorem dX12_chance_52 : decode cX12_chance 52 = .ok (.aload_n 0, 1) := by decide +kernel
theorem dX12_chance_53 : decode cX12_chance 53 = .ok (.getfield 79, 3) := by decide +kernel
theorem dX12_chance_56 : decode cX12_chance 56 = .ok (.iconst 1, 1) := by decide +kernel
theorem dX12_chance_57 : decode cX12_chance 57 = .ok (.isub, 1) := by decide +kernel
theorem dX12_chance_58 : decode cX12_chance 58 = .ok (.istore 6, 2) := by decide +kernel
theorem dX12_chance_60 : decode cX12_chance 60 = .ok (.iload 6, 2) := by decide +kernel
theorem dX12_chance_62 : decode cX12_chance 62 = .ok (.ifCond .le 51, 3) := by decide +kernel
theorem dX12_chance_65 : decode cX12_chance 65 = .ok (.aload_n 0, 1) := by decide +kernel
theorem dX12_chance_66 : decode cX12_chance 66 = .ok (.iload 6, 2) := by decide +kernel
theorem dX12_chance_68 : decode cX12_chance 68 = .ok (.iconst 1, 1) := by decide +kernel
theorem dX12_chance_69 : decode cX12_chance 69 = .ok (.iadd, 1) := by decide +kernel
theorem dX12_chance_70 : decode cX12_chance 70 = .ok (.invokevirtual 231, 3) := by decide +kernel
theorem dX12_chance_73 : decode cX12_chance 73 = .ok (.istore 7, 2) := by decide +kernel
theorem dX12_chance_75 : decode cX12_chance 75 = .ok (.aload_n 0, 1) := by decide +kernel
theorem dX12_chance_76 : decode cX12_chance 76 = .ok (.getfield 135, 3) := by decide +kernel
theorem dX12_chance_79 : decode cX12_chance 79 = .ok (.iload 6, 2) := by decide +kernel
theorem dX12_chance_81 : decode cX12_chance 81 = .ok (.iaload, 1) := by decide +kernel
theorem dX12_chance_82 : decode cX12_chance 82 = .ok (.istore 8, 2) := by decide +kernel
theorem dX12_chance_84 : decode cX12_chance 84 = .ok (.aload_n 0, 1) := by decide +kernel
theorem dX12_chance_85 : decode cX12_chance 85 = .ok (.getfield 135, 3) := by decide +kernel
theorem dX12_chance_88 : decode cX12_chance 88 = .ok (.iload 6, 2) := by decide +kernel
theorem dX12_chance_90 : decode cX12_chance 90 = .ok (.aload_n 0, 1) := by decide +kernel
theorem dX12_chance_91 : decode cX12_chance 91 = .ok (.getfield 135, 3) := by decide +kernel
theorem dX12_chance_94 : decode cX12_chance 94 = .ok (.iload 7, 2) := by decide +kernel
theorem dX12_chance_96 : decode cX12_chance 96 = .ok (.iaload, 1) := by decide +kernel
theorem dX12_chance_97 : decode cX12_chance 97 = .ok (.iastore, 1) := by decide +kernel
theorem dX12_chance_98 : decode cX12_chance 98 = .ok (.aload_n 0, 1) := by decide +kernel
theorem dX12_chance_99 : decode cX12_chance 99 = .ok (.getfield 135, 3) := by decide +kernel
theorem dX12_chance_102 : decode cX12_chance 102 = .ok (.iload 7, 2) := by decide +kernel
theorem dX12_chance_104 : decode cX12_chance 104 = .ok (.iload 8, 2) := by decide +kernel
theorem dX12_chance_106 : decode cX12_chance 106 = .ok (.iastore, 1) := by decide +kernel
theorem dX12_chance_107 : decode cX12_chance 107 = .ok (.iinc 6 (-1), 3) := by decide +kernel
theorem dX12_chance_110 : decode cX12_chance 110 = .ok (.goto (-50), 3) := by decide +kernel
theorem dX12_chance_113 : decode cX12_chance 113 = .ok (.aload_n 0, 1) := by decide +kernel
theorem dX12_chance_114 : decode cX12_chance 114 = .ok (.iload_n 1, 1) := by decide +kernel
theorem dX12_chance_115 : decode cX12_chance 115 = .ok (.invokevirtual 189, 3) := by decide +kernel
theorem dX12_chance_118 : decode cX12_chance 118 = .ok (.ifCond .ne 11, 3) := by decide +kernel
theorem dX12_chance_121 : decode cX12_chance 121 = .ok (.aload_n 0, 1) := by decide +kernel
theorem dX12_chance_122 : decode cX12_chance 122 = .ok (.iload_n 3, 1) := by decide +kernel
theorem dX12_chance_123 : decode cX12_chance 123 = .ok (.putfield 225, 3) := by decide +kernel
theorem dX12_chance_126 : decode cX12_chance 126 = .ok (.bipush (-3), 2) := by decide +kernel
theorem dX12_chance_128 : decode cX12_chance 128 = .ok (.ireturn, 1) := by decide +kernel
theorem dX12_chance_129 : decode cX12_chance 129 = .ok (.aload_n 0, 1) := by decide +kernel
theorem dX12_chance_130 : decode cX12_chance 130 = .ok (.getfield 234, 3) := by decide +kernel
theorem dX12_chance_133 : decode cX12_chance 133 = .ok (.iload 5, 2) := by decide +kernel
theorem dX12_chance_135 : decode cX12_chance 135 = .ok (.aload_n 0, 1) := by decide +kernel
theorem dX12_chance_136 : decode cX12_chance 136 = .ok (.getfield 169, 3) := by decide +kernel
theorem dX12_chance_139 : decode cX12_chance 139 = .ok (.aload_n 0, 1) := by decide +kernel
theorem dX12_chance_140 : decode cX12_chance 140 = .ok (.getfield 76, 3) := by decide +kernel
theorem dX12_chance_143 : decode cX12_chance 143 = .ok (.iconst 1, 1) := by decide +kernel
theorem dX12_chance_144 : decode cX12_chance 144 = .ok (.isub, 1) := by decide +kernel
theorem dX12_chance_145 : decode cX12_chance 145 = .ok (.iaload, 1) := by decide +kernel
theorem dX12_chance_146 : decode cX12_chance 146 = .ok (.aload_n 0, 1) := by decide +kernel
theorem dX12_chance_147 : decode cX12_chance 147 = .ok (.aload_n 0, 1) := by decide +kernel
theorem dX12_chance_148 : decode cX12_chance 148 = .ok (.getfield 76, 3) := by decide +kernel
theorem dX12_chance_151 : decode cX12_chance 151 = .ok (.iconst 1, 1) := by decide +kernel
theorem dX12_chance_152 : decode cX12_chance 152 = .ok (.isub, 1) := by decide +kernel
theorem dX12_chance_153 : decode cX12_chance 153 = .ok (.invokevirtual 172, 3) := by decide +kernel
theorem dX12_chance_156 : decode cX12_chance 156 = .ok (.isub, 1) := by decide +kernel
theorem dX12_chance_157 : decode cX12_chance 157 = .ok (.iastore, 1) := by decide +kernel
theorem dX12_chance_158 : decode cX12_chance 158 = .ok (.iload 4, 2) := by decide +kernel
theorem dX12_chance_160 : decode cX12_chance 160 = .ok (.aload_n 0, 1) := by decide +kernel
theorem dX12_chance_161 : decode cX12_chance 161 = .ok (.getfield 234, 3) := by decide +kernel
theorem dX12_chance_164 : decode cX12_chance 164 = .ok (.iload 5, 2) := by decide +kernel
theorem dX12_chance_166 : decode cX12_chance 166 = .ok (.iaload, 1) := by decide +kernel
theorem dX12_chance_167 : decode cX12_chance 167 = .ok (.ifCond .le 7, 3) := by decide +kernel
theorem dX12_chance_170 : decode cX12_chance 170 = .ok (.iconst 1, 1) := by decide +kernel
theorem dX12_chance_171 : decode cX12_chance 171 = .ok (.goto 4, 3) := by decide +kernel
theorem dX12_chance_174 : decode cX12_chance 174 = .ok (.iconst 0, 1) := by decide +kernel
theorem dX12_chance_175 : decode cX12_chance 175 = .ok (.invokestatic 65, 3) := by decide +kernel
theorem dX12_chance_178 : decode cX12_chance 178 = .ok (.iadd, 1) := by decide +kernel
theorem dX12_chance_179 : decode cX12_chance 179 = .ok (.istore 4, 2) := by decide +kernel
theorem dX12_chance_181 : decode cX12_chance 181 = .ok (.iinc 5 1, 3) := by decide +kernel
theorem dX12_chance_184 : decode cX12_chance 184 = .ok (.goto (-146), 3) := by decide +kernel
theorem dX12_chance_187 : decode cX12_chance 187 = .ok (.aload_n 0, 1) := by decide +kernel
theorem dX12_chance_188 : decode cX12_chance 188 = .ok (.iconst 0, 1) := by decide +kernel
theorem dX12_chance_189 : decode cX12_chance 189 = .ok (.putfield 11, 3) := by decide +kernel
theorem dX12_chance_192 : decode cX12_chance 192 = .ok (.iconst 0, 1) := by decide +kernel
theorem dX12_chance_193 : decode cX12_chance 193 = .ok (.istore 5, 2) := by decide +kernel
theorem dX12_chance_195 : decode cX12_chance 195 = .ok (.iload 5, 2) := by decide +kernel
theorem dX12_chance_197 : decode cX12_chance 197 = .ok (.iload_n 2, 1) := by decide +kernel
theorem dX12_chance_198 : decode cX12_chance 198 = .ok (.if_icmp .ge 21, 3) := by decide +kernel
theorem dX12_chance_201 : decode cX12_chance 201 = .ok (.aload_n 0, 1) := by decide +kernel
theorem dX12_chance_202 : decode cX12_chance 202 = .ok (.aload_n 0, 1) := by decide +kernel
theorem dX12_chance_203 : decode cX12_chance 203 = .ok (.getfield 234, 3) := by decide +kernel
theorem dX12_chance_206 : decode cX12_chance 206 = .ok (.iload 5, 2) := by decide +kernel
theorem dX12_chance_208 : decode cX12_chance 208 = .ok (.iaload, 1) := by decide +kernel
theorem dX12_chance_209 : decode cX12_chance 209 = .ok (.i2l, 1) := by decide +kernel
theorem dX12_chance_210 : decode cX12_chance 210 = .ok (.invokevirtual 18, 3) := by decide +kernel
theorem dX12_chance_213 : decode cX12_chance 213 = .ok (.iinc 5 1, 3) := by decide +kernel
theorem dX12_chance_216 : decode cX12_chance 216 = .ok (.goto (-21), 3) := by decide +kernel
theorem dX12_chance_219 : decode cX12_chance 219 = .ok (.iload 4, 2) := by decide +kernel
theorem dX12_chance_221 : decode cX12_chance 221 = .ok (.ireturn, 1) := by decide +kernel
def w_X12_chance_195_s (post : Int32 → sI → sJ → Prop) (k195 : Int32 → Int32 → Int32 → sI → sJ → Prop) (x2 : Int32) (x4 : Int32) (x5 : Int32) (I : sI) (J : sJ) : Prop :=
  ((x2 ≤ x5 → post x4 I J) ∧ (¬ x2 ≤ x5 → (vp_in x5 12 ∧ w_X12_enters (Int32.toInt64 (I 269 (Int32.toNatClampNeg x5))) I J (fun (I_210 : sI) (J_210 : sJ) => ((∀ v5_213 : Int32, v5_213 = x5 + 1 → k195 x2 x4 v5_213 I_210 J_210))))))
def w_X12_chance_195_n (post : Int32 → sI → sJ → Prop) : Nat → Int32 → Int32 → Int32 → sI → sJ → Prop
  | 0 => fun _ _ _ _ _ => False
  | n + 1 => fun x2 x4 x5 I J => w_X12_chance_195_s post (w_X12_chance_195_n post n) x2 x4 x5 I J
def w_X12_chance_195 (post : Int32 → sI → sJ → Prop) (x2 : Int32) (x4 : Int32) (x5 : Int32) (I : sI) (J : sJ) : Prop := ∃ n, w_X12_chance_195_n post n x2 x4 x5 I J
set_option maxHeartbeats 4000000 in
set_option maxRecDepth 100000 in
theorem t_X12_chance_195_s {X : sX} {post : Int32 → sI → sJ → Prop} (h : sOK X cX12_chance RX12 9 4 114) (hr : sRt X (some .int) (sPi post)) {k195 : Int32 → Int32 → Int32 → sI → sJ → Prop} (hk195 : ∀ (x2 : Int32) (x4 : Int32) (x5 : Int32) (I : sI) (J : sJ), k195 x2 x4 x5 I J → sG X 9 195 [(0, .ref 248), (2, .int x2), (4, .int x4), (5, .int x5)] [] I J) {x2 : Int32} {x4 : Int32} {x5 : Int32} {I : sI} {J : sJ} (hw : w_X12_chance_195_s post k195 x2 x4 x5 I J) : sG X 9 195 [(0, .ref 248), (2, .int x2), (4, .int x4), (5, .int x5)] [] I J := by
  unfold w_X12_chance_195_s at hw
  refine g_iload h 3 rfl dX12_chance_195 ?_
  refine g_iload_n h rfl 1 rfl dX12_chance_197 ?_
  refine g_icmp_ge (tgt := 219) h (by decide) dX12_chance_198 (fun q198 => ?_) (fun q198 => ?_)
  · replace hw := hw.1 q198
    refine g_iload h 2 rfl dX12_chance_219 ?_
    exact g_iret h hr dX12_chance_221 hw
  · replace hw := hw.2 q198
    refine g_aload_n h rfl 0 rfl dX12_chance_201 ?_
    refine g_aload_n h rfl 0 rfl dX12_chance_202 ?_
    refine g_get h is_248 fl_X12_234 fr_248_38 dX12_chance_203 ?_
    refine g_iload h 3 rfl dX12_chance_206 ?_
    obtain ⟨hi208, hw⟩ := hw
    refine g_iald h ar_269 hi208 dX12_chance_208 ?_
    refine g_i2l h dX12_chance_209 ?_
    refine g_callV [.long (Int32.toInt64 (I 269 (Int32.toNatClampNeg x5)))] h (c_X12_enters X hw) sPv_v mw_X12_enters lk_X12_18 is_248 rfl rfl ⟨by decide, by decide⟩ (Nat.le_of_ble_eq_true rfl) dX12_chance_210 (sPv_k (fun I_210 J_210 hw => ?_))
    obtain ⟨v5_213, ev5_213⟩ : ∃ z : Int32, z = x5 + 1 := ⟨_, rfl⟩
    replace hw := hw v5_213 ev5_213
    refine g_iinc (v := v5_213) (lo2 := [(5, .int v5_213), (0, .ref 248), (2, .int x2), (4, .int x4)]) h 3 rfl (by rw [ev5_213]; rfl) (by decide) rfl dX12_chance_213 ?_
    refine g_goto (tgt := 195) h (by decide) dX12_chance_216 ?_
    exact g_sub [1, 2, 3, 0] rfl (hk195 _ _ _ _ _ hw)
theorem t_X12_chance_195 {X : sX} {post : Int32 → sI → sJ → Prop} (h : sOK X cX12_chance RX12 9 4 114) (hr : sRt X (some .int) (sPi post)) {x2 : Int32} {x4 : Int32} {x5 : Int32} {I : sI} {J : sJ} (hw : w_X12_chance_195 post x2 x4 x5 I J) : sG X 9 195 [(0, .ref 248), (2, .int x2), (4, .int x4), (5, .int x5)] [] I J := by
  obtain ⟨n, hw⟩ := hw
  induction n generalizing x2 x4 x5 I J with
  | zero => exact hw.elim
  | succ n ih => exact t_X12_chance_195_s h hr (fun _ _ _ _ _ q => ih q) hw
def w_X12_chance_175 (post : Int32 → sI → sJ → Prop) (k38 : Int32 → Int32 → Int32 → Int32 → Int32 → sI → sJ → Prop) (x1 : Int32) (x2 : Int32) (x3 : Int32) (x5 : Int32) (s0 : Int32) (s1 : Int32) (I : sI) (J : sJ) : Prop :=
  w_X12_flag s0 I J (fun (r_175 : Int32) (I_175 : sI) (J_175 : sJ) => ((∀ v4_179 : Int32, v4_179 = s1 + r_175 → (∀ v5_181 : Int32, v5_181 = x5 + 1 → k38 x1 x2 x3 v4_179 v5_181 I_175 J_175))))
set_option maxHeartbeats 4000000 in
set_option maxRecDepth 100000 in
theorem t_X12_chance_175 {X : sX} {post : Int32 → sI → sJ → Prop} (h : sOK X cX12_chance RX12 9 4 114) (hr : sRt X (some .int) (sPi post)) {k38 : Int32 → Int32 → Int32 → Int32 → Int32 → sI → sJ → Prop} (hk38 : ∀ (x1 : Int32) (x2 : Int32) (x3 : Int32) (x4 : Int32) (x5 : Int32) (I : sI) (J : sJ), k38 x1 x2 x3 x4 x5 I J → sG X 9 38 [(0, .ref 248), (1, .int x1), (2, .int x2), (3, .int x3), (4, .int x4), (5, .int x5)] [] I J) {x1 : Int32} {x2 : Int32} {x3 : Int32} {x5 : Int32} {s0 : Int32} {s1 : Int32} {I : sI} {J : sJ} (hw : w_X12_chance_175 post k38 x1 x2 x3 x5 s0 s1 I J) : sG X 9 175 [(0, .ref 248), (1, .int x1), (2, .int x2), (3, .int x3), (5, .int x5)] [.int s0, .int s1] I J := by
  unfold w_X12_chance_175 at hw
  refine g_callS [.int s0] h (c_X12_flag X hw) sPi_v mw_X12_flag lk_X12_65 rfl ⟨by decide, by decide⟩ (Nat.le_of_ble_eq_true rfl) dX12_chance_175 (sPi_k (fun r_175 I_175 J_175 hw => ?_))
  refine g_iadd h dX12_chance_178 ?_
  refine g_ni (fun v4_179 ev4_179 => ?_)
  replace hw := hw v4_179 ev4_179
  refine g_istore (lo2 := [(4, .int v4_179), (0, .ref 248), (1, .int x1), (2, .int x2), (3, .int x3), (5, .int x5)]) h (by decide) rfl dX12_chance_179 ?_
  obtain ⟨v5_181, ev5_181⟩ : ∃ z : Int32, z = x5 + 1 := ⟨_, rfl⟩
  replace hw := hw v5_181 ev5_181
  refine g_iinc (v := v5_181) (lo2 := [(5, .int v5_181), (4, .int v4_179), (0, .ref 248), (1, .int x1), (2, .int x2), (3, .int x3)]) h 5 rfl (by rw [ev5_181]; rfl) (by decide) rfl dX12_chance_181 ?_
  refine g_goto (tgt := 38) h (by decide) dX12_chance_184 ?_
  exact g_sub [2, 3, 4, 5, 1, 0] rfl (hk38 _ _ _ _ _ _ _ hw)
def w_X12_chance_60_s (post : Int32 → sI → sJ → Prop) (k38 : Int32 → Int32 → Int32 → Int32 → Int32 → sI → sJ → Prop) (k60 : Int32 → Int32 → Int32 → Int32 → Int32 → Int32 → sI → sJ → Prop) (x1 : Int32) (x2 : Int32) (x3 : Int32) (x4 : Int32) (x5 : Int32) (x6 : Int32) (I : sI) (J : sJ) : Prop :=
  ((x6 ≤ 0 → w_X12_searches x1 I J (fun (r_115 : Int32) (I_115 : sI) (J_115 : sJ) => (((¬ r_115 = 0 → (vp_in ((I_115 248 11) - 1) 25 ∧ w_X12_levelBegin ((I_115 248 11) - 1) I_115 J_115 (fun (r_153 : Int32) (I_153 : sI) (J_153 : sJ) => ((vp_in x5 12 ∧ (∀ I_157 : sI, I_157 = sUI I_153 269 (Int32.toNatClampNeg x5) ((I_115 264 (Int32.toNatClampNeg ((I_115 248 11) - 1))) - r_153) → (vp_in x5 12 ∧ (((I_157 269 (Int32.toNatClampNeg x5)) ≤ 0 → w_X12_chance_175 post k38 x1 x2 x3 x5 0 x4 I_157 J_153) ∧ (¬ (I_157 269 (Int32.toNatClampNeg x5)) ≤ 0 → w_X12_chance_175 post k38 x1 x2 x3 x5 1 x4 I_157 J_153))))))))) ∧ (r_115 = 0 → (∀ I_123 : sI, I_123 = sUI I_115 248 37 x3 → post (-3) I_123 J_115)))))) ∧ (¬ x6 ≤ 0 → w_X12_draws (x6 + 1) I J (fun (r_70 : Int32) (I_70 : sI) (J_70 : sJ) => ((vp_in x6 160 ∧ (∀ v8_82 : Int32, v8_82 = I_70 261 (Int32.toNatClampNeg x6) → (vp_in r_70 160 ∧ (vp_in x6 160 ∧ (∀ I_97 : sI, I_97 = sUI I_70 261 (Int32.toNatClampNeg x6) (I_70 261 (Int32.toNatClampNeg r_70)) → (vp_in r_70 160 ∧ (∀ I_106 : sI, I_106 = sUI I_97 261 (Int32.toNatClampNeg r_70) v8_82 → (∀ v6_107 : Int32, v6_107 = x6 + (-1) → k60 x1 x2 x3 x4 x5 v6_107 I_106 J_70))))))))))))
def w_X12_chance_60_n (post : Int32 → sI → sJ → Prop) (k38 : Int32 → Int32 → Int32 → Int32 → Int32 → sI → sJ → Prop) : Nat → Int32 → Int32 → Int32 → Int32 → Int32 → Int32 → sI → sJ → Prop
  | 0 => fun _ _ _ _ _ _ _ _ => False
  | n + 1 => fun x1 x2 x3 x4 x5 x6 I J => w_X12_chance_60_s post k38 (w_X12_chance_60_n post k38 n) x1 x2 x3 x4 x5 x6 I J
def w_X12_chance_60 (post : Int32 → sI → sJ → Prop) (k38 : Int32 → Int32 → Int32 → Int32 → Int32 → sI → sJ → Prop) (x1 : Int32) (x2 : Int32) (x3 : Int32) (x4 : Int32) (x5 : Int32) (x6 : Int32) (I : sI) (J : sJ) : Prop := ∃ n, w_X12_chance_60_n post k38 n x1 x2 x3 x4 x5 x6 I J
set_option maxHeartbeats 4000000 in
set_option maxRecDepth 100000 in
theorem t_X12_chance_60_s {X : sX} {post : Int32 → sI → sJ → Prop} (h : sOK X cX12_chance RX12 9 4 114) (hr : sRt X (some .int) (sPi post)) {k38 : Int32 → Int32 → Int32 → Int32 → Int32 → sI → sJ → Prop} (hk38 : ∀ (x1 : Int32) (x2 : Int32) (x3 : Int32) (x4 : Int32) (x5 : Int32) (I : sI) (J : sJ), k38 x1 x2 x3 x4 x5 I J → sG X 9 38 [(0, .ref 248), (1, .int x1), (2, .int x2), (3, .int x3), (4, .int x4), (5, .int x5)] [] I J) {k60 : Int32 → Int32 → Int32 → Int32 → Int32 → Int32 → sI → sJ → Prop} (hk60 : ∀ (x1 : Int32) (x2 : Int32) (x3 : Int32) (x4 : Int32) (x5 : Int32) (x6 : Int32) (I : sI) (J : sJ), k60 x1 x2 x3 x4 x5 x6 I J → sG X 9 60 [(0, .ref 248), (1, .int x1), (2, .int x2), (3, .int x3), (4, .int x4), (5, .int x5), (6, .int x6)] [] I J) {x1 : Int32} {x2 : Int32} {x3 : Int32} {x4 : Int32} {x5 : Int32} {x6 : Int32} {I : sI} {J : sJ} (hw : w_X12_chance_60_s post k38 k60 x1 x2 x3 x4 x5 x6 I J) : sG X 9 60 [(0, .ref 248), (1, .int x1), (2, .int x2), (3, .int x3), (4, .int x4), (5, .int x5), (6, .int x6)] [] I J := by
  unfold w_X12_chance_60_s at hw
  refine g_iload h 6 rfl dX12_chance_60 ?_
  refine g_if_le (tgt := 113) h (by decide) dX12_chance_62 (fun q62 => ?_) (fun q62 => ?_)
  · replace hw := hw.1 q62
    refine g_aload_n h rfl 0 rfl dX12_chance_113 ?_
    refine g_iload_n h rfl 1 rfl dX12_chance_114 ?_
    refine g_callV [.int x1] h (c_X12_searches X hw) sPi_v mw_X12_searches lk_X12_189 is_248 rfl rfl ⟨by decide, by decide⟩ (Nat.le_of_ble_eq_true rfl) dX12_chance_115 (sPi_k (fun r_115 I_115 J_115 hw => ?_))
    refine g_if_ne (tgt := 129) h (by decide) dX12_chance_118 (fun q118 => ?_) (fun q118 => ?_)
    · replace hw := hw.1 q118
      refine g_aload_n h rfl 0 rfl dX12_chance_129 ?_
      refine g_get h is_248 fl_X12_234 fr_248_38 dX12_chance_130 ?_
      refine g_iload h 5 rfl dX12_chance_133 ?_
      refine g_aload_n h rfl 0 rfl dX12_chance_135 ?_
      refine g_get h is_248 fl_X12_169 fr_248_29 dX12_chance_136 ?_
      refine g_aload_n h rfl 0 rfl dX12_chance_139 ?_
      refine g_get h is_248 fl_X12_76 rfl dX12_chance_140 ?_
      refine g_iconst (v := 1) h (by decide) dX12_chance_143 ?_
      refine g_isub h dX12_chance_144 ?_
      obtain ⟨hi145, hw⟩ := hw
      refine g_iald h ar_264 hi145 dX12_chance_145 ?_
      refine g_aload_n h rfl 0 rfl dX12_chance_146 ?_
      refine g_aload_n h rfl 0 rfl dX12_chance_147 ?_
      refine g_get h is_248 fl_X12_76 rfl dX12_chance_148 ?_
      refine g_iconst (v := 1) h (by decide) dX12_chance_151 ?_
      refine g_isub h dX12_chance_152 ?_
      refine g_callV [.int ((I_115 248 11) - 1)] h (c_X12_levelBegin X hw) sPi_v mw_X12_levelBegin lk_X12_172 is_248 rfl rfl ⟨by decide, by decide⟩ (Nat.le_of_ble_eq_true rfl) dX12_chance_153 (sPi_k (fun r_153 I_153 J_153 hw => ?_))
      refine g_isub h dX12_chance_156 ?_
      obtain ⟨hi157, hw⟩ := hw
      refine g_iast h ar_269 hi157 dX12_chance_157 ?_
      refine g_nI (fun I_157 eI_157 => ?_)
      replace hw := hw I_157 eI_157
      refine g_iload h 4 rfl dX12_chance_158 ?_
      refine g_aload_n h rfl 0 rfl dX12_chance_160 ?_
      refine g_get h is_248 fl_X12_234 fr_248_38 dX12_chance_161 ?_
      refine g_iload h 5 rfl dX12_chance_164 ?_
      obtain ⟨hi166, hw⟩ := hw
      refine g_iald h ar_269 hi166 dX12_chance_166 ?_
      refine g_if_le (tgt := 174) h (by decide) dX12_chance_167 (fun q167 => ?_) (fun q167 => ?_)
      · replace hw := hw.1 q167
        refine g_iconst (v := 0) h (by decide) dX12_chance_174 ?_
        exact g_sub [0, 1, 2, 3, 5] rfl (t_X12_chance_175 h hr hk38 hw)
      · replace hw := hw.2 q167
        refine g_iconst (v := 1) h (by decide) dX12_chance_170 ?_
        refine g_goto (tgt := 175) h (by decide) dX12_chance_171 ?_
        exact g_sub [0, 1, 2, 3, 5] rfl (t_X12_chance_175 h hr hk38 hw)
    · replace hw := hw.2 q118
      refine g_aload_n h rfl 0 rfl dX12_chance_121 ?_
      refine g_iload_n h rfl 3 rfl dX12_chance_122 ?_
      refine g_putI h is_248 fl_X12_225 rfl rfl dX12_chance_123 ?_
      refine g_nI (fun I_123 eI_123 => ?_)
      replace hw := hw I_123 eI_123
      refine g_bipush (v := (-3)) h (by decide) dX12_chance_126 ?_
      exact g_iret h hr dX12_chance_128 hw
  · replace hw := hw.2 q62
    refine g_aload_n h rfl 0 rfl dX12_chance_65 ?_
    refine g_iload h 6 rfl dX12_chance_66 ?_
    refine g_iconst (v := 1) h (by decide) dX12_chance_68 ?_
    refine g_iadd h dX12_chance_69 ?_
    refine g_callV [.int (x6 + 1)] h (c_X12_draws X hw) sPi_v mw_X12_draws lk_X12_231 is_248 rfl rfl ⟨by decide, by decide⟩ (Nat.le_of_ble_eq_true rfl) dX12_chance_70 (sPi_k (fun r_70 I_70 J_70 hw => ?_))
    refine g_istore (lo2 := [(7, .int r_70), (0, .ref 248), (1, .int x1), (2, .int x2), (3, .int x3), (4, .int x4), (5, .int x5), (6, .int x6)]) h (by decide) rfl dX12_chance_73 ?_
    refine g_aload_n h rfl 1 rfl dX12_chance_75 ?_
    refine g_get h is_248 fl_X12_135 fr_248_26 dX12_chance_76 ?_
    refine g_iload h 7 rfl dX12_chance_79 ?_
    obtain ⟨hi81, hw⟩ := hw
    refine g_iald h ar_261 hi81 dX12_chance_81 ?_
    refine g_ni (fun v8_82 ev8_82 => ?_)
    replace hw := hw v8_82 ev8_82
    refine g_istore (lo2 := [(8, .int v8_82), (7, .int r_70), (0, .ref 248), (1, .int x1), (2, .int x2), (3, .int x3), (4, .int x4), (5, .int x5), (6, .int x6)]) h (by decide) rfl dX12_chance_82 ?_
    refine g_aload_n h rfl 2 rfl dX12_chance_84 ?_
    refine g_get h is_248 fl_X12_135 fr_248_26 dX12_chance_85 ?_
    refine g_iload h 8 rfl dX12_chance_88 ?_
    refine g_aload_n h rfl 2 rfl dX12_chance_90 ?_
    refine g_get h is_248 fl_X12_135 fr_248_26 dX12_chance_91 ?_
    refine g_iload h 1 rfl dX12_chance_94 ?_
    obtain ⟨hi96, hw⟩ := hw
    refine g_iald h ar_261 hi96 dX12_chance_96 ?_
    obtain ⟨hi97, hw⟩ := hw
    refine g_iast h ar_261 hi97 dX12_chance_97 ?_
    refine g_nI (fun I_97 eI_97 => ?_)
    replace hw := hw I_97 eI_97
    refine g_aload_n h rfl 2 rfl dX12_chance_98 ?_
    refine g_get h is_248 fl_X12_135 fr_248_26 dX12_chance_99 ?_
    refine g_iload h 1 rfl dX12_chance_102 ?_
    refine g_iload h 0 rfl dX12_chance_104 ?_
    obtain ⟨hi106, hw⟩ := hw
    refine g_iast h ar_261 hi106 dX12_chance_106 ?_
    refine g_nI (fun I_106 eI_106 => ?_)
    replace hw := hw I_106 eI_106
    obtain ⟨v6_107, ev6_107⟩ : ∃ z : Int32, z = x6 + (-1) := ⟨_, rfl⟩
    replace hw := hw v6_107 ev6_107
    refine g_iinc (v := v6_107) (lo2 := [(6, .int v6_107), (8, .int v8_82), (7, .int r_70), (0, .ref 248), (1, .int x1), (2, .int x2), (3, .int x3), (4, .int x4), (5, .int x5)]) h 8 rfl (by rw [ev6_107]; rfl) (by decide) rfl dX12_chance_107 ?_
    refine g_goto (tgt := 60) h (by decide) dX12_chance_110 ?_
    exact g_sub [3, 4, 5, 6, 7, 8, 0] rfl (hk60 _ _ _ _ _ _ _ _ hw)
theorem t_X12_chance_60 {X : sX} {post : Int32 → sI → sJ → Prop} (h : sOK X cX12_chance RX12 9 4 114) (hr : sRt X (some .int) (sPi post)) {k38 : Int32 → Int32 → Int32 → Int32 → Int32 → sI → sJ → Prop} (hk38 : ∀ (x1 : Int32) (x2 : Int32) (x3 : Int32) (x4 : Int32) (x5 : Int32) (I : sI) (J : sJ), k38 x1 x2 x3 x4 x5 I J → sG X 9 38 [(0, .ref 248), (1, .int x1), (2, .int x2), (3, .int x3), (4, .int x4), (5, .int x5)] [] I J) {x1 : Int32} {x2 : Int32} {x3 : Int32} {x4 : Int32} {x5 : Int32} {x6 : Int32} {I : sI} {J : sJ} (hw : w_X12_chance_60 post k38 x1 x2 x3 x4 x5 x6 I J) : sG X 9 60 [(0, .ref 248), (1, .int x1), (2, .int x2), (3, .int x3), (4, .int x4), (5, .int x5), (6, .int x6)] [] I J := by
  obtain ⟨n, hw⟩ := hw
  induction n generalizing x1 x2 x3 x4 x5 x6 I J with
  | zero => exact hw.elim
  | succ n ih => exact t_X12_chance_60_s h hr hk38 (fun _ _ _ _ _ _ _ _ q => ih q) hw
def w_X12_chance_38_s (post : Int32 → sI → sJ → Prop) (k38 : Int32 → Int32 → Int32 → Int32 → Int32 → sI → sJ → Prop) (x1 : Int32) (x2 : Int32) (x3 : Int32) (x4 : Int32) (x5 : Int32) (I : sI) (J : sJ) : Prop :=
  ((x2 ≤ x5 → (∀ I_189 : sI, I_189 = sUI I 248 1 0 → w_X12_chance_195 post x2 x4 0 I_189 J)) ∧ (¬ x2 ≤ x5 → w_X12_takesDisc (I 248 11) I J (fun (I_49 : sI) (J_49 : sJ) => ((∀ v6_58 : Int32, v6_58 = (I_49 248 12) - 1 → w_X12_chance_60 post k38 x1 x2 x3 x4 x5 v6_58 I_49 J_49)))))
def w_X12_chance_38_n (post : Int32 → sI → sJ → Prop) : Nat → Int32 → Int32 → Int32 → Int32 → Int32 → sI → sJ → Prop
  | 0 => fun _ _ _ _ _ _ _ => False
  | n + 1 => fun x1 x2 x3 x4 x5 I J => w_X12_chance_38_s post (w_X12_chance_38_n post n) x1 x2 x3 x4 x5 I J
def w_X12_chance_38 (post : Int32 → sI → sJ → Prop) (x1 : Int32) (x2 : Int32) (x3 : Int32) (x4 : Int32) (x5 : Int32) (I : sI) (J : sJ) : Prop := ∃ n, w_X12_chance_38_n post n x1 x2 x3 x4 x5 I J
set_option maxHeartbeats 4000000 in
set_option maxRecDepth 100000 in
theorem t_X12_chance_38_s {X : sX} {post : Int32 → sI → sJ → Prop} (h : sOK X cX12_chance RX12 9 4 114) (hr : sRt X (some .int) (sPi post)) {k38 : Int32 → Int32 → Int32 → Int32 → Int32 → sI → sJ → Prop} (hk38 : ∀ (x1 : Int32) (x2 : Int32) (x3 : Int32) (x4 : Int32) (x5 : Int32) (I : sI) (J : sJ), k38 x1 x2 x3 x4 x5 I J → sG X 9 38 [(0, .ref 248), (1, .int x1), (2, .int x2), (3, .int x3), (4, .int x4), (5, .int x5)] [] I J) {x1 : Int32} {x2 : Int32} {x3 : Int32} {x4 : Int32} {x5 : Int32} {I : sI} {J : sJ} (hw : w_X12_chance_38_s post k38 x1 x2 x3 x4 x5 I J) : sG X 9 38 [(0, .ref 248), (1, .int x1), (2, .int x2), (3, .int x3), (4, .int x4), (5, .int x5)] [] I J := by
  unfold w_X12_chance_38_s at hw
  refine g_iload h 5 rfl dX12_chance_38 ?_
  refine g_iload_n h rfl 2 rfl dX12_chance_40 ?_
  refine g_icmp_ge (tgt := 187) h (by decide) dX12_chance_41 (fun q41 => ?_) (fun q41 => ?_)
  · replace hw := hw.1 q41
    refine g_aload_n h rfl 0 rfl dX12_chance_187 ?_
    refine g_iconst (v := 0) h (by decide) dX12_chance_188 ?_
    refine g_putI h is_248 fl_X12_11 rfl rfl dX12_chance_189 ?_
    refine g_nI (fun I_189 eI_189 => ?_)
    replace hw := hw I_189 eI_189
    refine g_iconst (v := 0) h (by decide) dX12_chance_192 ?_
    refine g_istore (lo2 := [(5, .int 0), (0, .ref 248), (1, .int x1), (2, .int x2), (3, .int x3), (4, .int x4)]) h (by decide) rfl dX12_chance_193 ?_
    exact g_sub [1, 3, 5, 0] rfl (t_X12_chance_195 h hr hw)
  · replace hw := hw.2 q41
    refine g_aload_n h rfl 0 rfl dX12_chance_44 ?_
    refine g_aload_n h rfl 0 rfl dX12_chance_45 ?_
    refine g_get h is_248 fl_X12_76 rfl dX12_chance_46 ?_
    refine g_callV [.int (I 248 11)] h (c_X12_takesDisc X hw) sPv_v mw_X12_takesDisc lk_X12_185 is_248 rfl rfl ⟨by decide, by decide⟩ (Nat.le_of_ble_eq_true rfl) dX12_chance_49 (sPv_k (fun I_49 J_49 hw => ?_))
    refine g_aload_n h rfl 0 rfl dX12_chance_52 ?_
    refine g_get h is_248 fl_X12_79 rfl dX12_chance_53 ?_
    refine g_iconst (v := 1) h (by decide) dX12_chance_56 ?_
    refine g_isub h dX12_chance_57 ?_
    refine g_ni (fun v6_58 ev6_58 => ?_)
    replace hw := hw v6_58 ev6_58
    refine g_istore (lo2 := [(6, .int v6_58), (0, .ref 248), (1, .int x1), (2, .int x2), (3, .int x3), (4, .int x4), (5, .int x5)]) h (by decide) rfl dX12_chance_58 ?_
    exact g_sub [1, 2, 3, 4, 5, 6, 0] rfl (t_X12_chance_60 h hr hk38 hw)
theorem t_X12_chance_38 {X : sX} {post : Int32 → sI → sJ → Prop} (h : sOK X cX12_chance RX12 9 4 114) (hr : sRt X (some .int) (sPi post)) {x1 : Int32} {x2 : Int32} {x3 : Int32} {x4 : Int32} {x5 : Int32} {I : sI} {J : sJ} (hw : w_X12_chance_38 post x1 x2 x3 x4 x5 I J) : sG X 9 38 [(0, .ref 248), (1, .int x1), (2, .int x2), (3, .int x3), (4, .int x4), (5, .int x5)] [] I J := by
  obtain ⟨n, hw⟩ := hw
  induction n generalizing x1 x2 x3 x4 x5 I J with
  | zero => exact hw.elim
  | succ n ih => exact t_X12_chance_38_s h hr (fun _ _ _ _ _ _ _ q => ih q) hw
def w_X12_chance (a1 : Int32) (a2 : Int32) (I : sI) (J : sJ) (post : Int32 → sI → sJ → Prop) : Prop :=
  (∀ I_2 : sI, I_2 = sUI I 248 0 0 → w_X12_isAsked a1 I_2 J (fun (r_7 : Int32) (I_7 : sI) (J_7 : sJ) => (((r_7 = 0 → post (-1) I_7 J_7) ∧ (¬ r_7 = 0 → w_X12_in (Int32.toInt64 a2) 1 12 I_7 J_7 (fun (r_19 : Int32) (I_19 : sI) (J_19 : sJ) => (((¬ r_19 = 0 → (∀ v3_31 : Int32, v3_31 = I_19 248 37 → w_X12_chance_38 post a1 a2 v3_31 0 0 I_19 J_19)) ∧ (r_19 = 0 → post (-1) I_19 J_19)))))))))
set_option maxHeartbeats 4000000 in
set_option maxRecDepth 100000 in
theorem t_X12_chance {X : sX} {a1 : Int32} {a2 : Int32} {I : sI} {J : sJ} {post : Int32 → sI → sJ → Prop} (h : sOK X cX12_chance RX12 9 4 114) (hr : sRt X (some .int) (sPi post)) (hw : w_X12_chance a1 a2 I J post) : sG X 9 0 [(0, .ref 248), (1, .int a1), (2, .int a2)] [] I J := by
  unfold w_X12_chance at hw
  refine g_aload_n h rfl 0 rfl dX12_chance_0 ?_
  refine g_iconst (v := 0) h (by decide) dX12_chance_1 ?_
  refine g_putI h is_248 fl_X12_1 rfl rfl dX12_chance_2 ?_
  refine g_nI (fun I_2 eI_2 => ?_)
  replace hw := hw I_2 eI_2
  refine g_aload_n h rfl 0 rfl dX12_chance_5 ?_
  refine g_iload_n h rfl 1 rfl dX12_chance_6 ?_
  refine g_callV [.int a1] h (c_X12_isAsked X hw) sPi_v mw_X12_isAsked lk_X12_196 is_248 rfl rfl ⟨by decide, by decide⟩ (Nat.le_of_ble_eq_true rfl) dX12_chance_7 (sPi_k (fun r_7 I_7 J_7 hw => ?_))
  refine g_if_eq (tgt := 25) h (by decide) dX12_chance_10 (fun q10 => ?_) (fun q10 => ?_)
  · replace hw := hw.1 q10
    refine g_iconst (v := (-1)) h (by decide) dX12_chance_25 ?_
    exact g_iret h hr dX12_chance_26 hw
  · replace hw := hw.2 q10
    refine g_iload_n h rfl 2 rfl dX12_chance_13 ?_
    refine g_i2l h dX12_chance_14 ?_
    refine g_lconst (v := 1) h (by decide) dX12_chance_15 ?_
    refine g_ldc2 h lc_X12_229 dX12_chance_16 ?_
    refine g_callS [.long (Int32.toInt64 a2), .long 1, .long 12] h (c_X12_in X hw) sPi_v mw_X12_in lk_X12_29 rfl ⟨by decide, by decide⟩ (Nat.le_of_ble_eq_true rfl) dX12_chance_19 (sPi_k (fun r_19 I_19 J_19 hw => ?_))
    refine g_if_ne (tgt := 27) h (by decide) dX12_chance_22 (fun q22 => ?_) (fun q22 => ?_)
    · replace hw := hw.1 q22
      refine g_aload_n h rfl 0 rfl dX12_chance_27 ?_
      refine g_get h is_248 fl_X12_225 rfl dX12_chance_28 ?_
      refine g_ni (fun v3_31 ev3_31 => ?_)
      replace hw := hw v3_31 ev3_31
      refine g_istore_n (lo2 := [(3, .int v3_31), (0, .ref 248), (1, .int a1), (2, .int a2)]) h rfl (by decide) rfl dX12_chance_31 ?_
      refine g_iconst (v := 0) h (by decide) dX12_chance_32 ?_
      refine g_istore (lo2 := [(4, .int 0), (3, .int v3_31), (0, .ref 248), (1, .int a1), (2, .int a2)]) h (by decide) rfl dX12_chance_33 ?_
      refine g_iconst (v := 0) h (by decide) dX12_chance_35 ?_
      refine g_istore (lo2 := [(5, .int 0), (4, .int 0), (3, .int v3_31), (0, .ref 248), (1, .int a1), (2, .int a2)]) h (by decide) rfl dX12_chance_36 ?_
      exact g_sub [3, 4, 5, 2, 1, 0] rfl (t_X12_chance_38 h hr hw)
    · replace hw := hw.2 q22
      refine g_iconst (v := (-1)) h (by decide) dX12_chance_25 ?_
      exact g_iret h hr dX12_chance_26 hw
theorem c_X12_chance (X : sX) {a1 : Int32} {a2 : Int32} {I : sI} {J : sJ} {post : Int32 → sI → sJ → Prop} (hw : w_X12_chance a1 a2 I J post) : sCall X yX12_chance cX12_chance 9 (some .int) 4 114 [.ref 248, .int a1, .int a2] I J (sPi post) := sCall_of (by decide +kernel) (Nat.le_of_ble_eq_true rfl) (fun X h hr => t_X12_chance h hr hw)
theorem dX12_next_0 : decode cX12_next 0 = .ok (.aload_n 0, 1) := by decide +kernel
theorem dX12_next_1 : decode cX12_next 1 = .ok (.iconst 0, 1) := by decide +kernel
theorem dX12_next_2 : decode cX12_next 2 = .ok (.putfield 1, 3) := by decide +kernel
theorem dX12_next_5 : decode cX12_next 5 = .ok (.aload_n 0, 1) := by decide +kernel
theorem dX12_next_6 : decode cX12_next 6 = .ok (.iload_n 1, 1) := by decide +kernel
theorem dX12_next_7 : decode cX12_next 7 = .ok (.invokevirtual 196, 3) := by decide +kernel
theorem dX12_next_10 : decode cX12_next 10 = .ok (.ifCond .ne 5, 3) := by decide +kernel
theorem dX12_next_13 : decode cX12_next 13 = .ok (.iconst (-1), 1) := by decide +kernel
theorem dX12_next_14 : decode cX12_next 14 = .ok (.ireturn, 1) := by decide +kernel
theorem dX12_next_15 : decode cX12_next 15 = .ok (.aload_n 0, 1) := by decide +kernel
theorem dX12_next_16 : decode cX12_next 16 = .ok (.iload_n 1, 1) := by decide +kernel
theorem dX12_next_17 : decode cX12_next 17 = .ok (.invokevirtual 199, 3) := by decide +kernel
theorem dX12_next_20 : decode cX12_next 20 = .ok (.ifCond .ne 6, 3) := by decide +kernel
theorem dX12_next_23 : decode cX12_next 23 = .ok (.bipush (-3), 2) := by decide +kernel
theorem dX12_next_25 : decode cX12_next 25 = .ok (.ireturn, 1) := by decide +kernel
theorem dX12_next_26 : decode cX12_next 26 = .ok (.aload_n 0, 1) := by decide +kernel
theorem dX12_next_27 : decode cX12_next 27 = .ok (.getfield 175, 3) := by decide +kernel
theorem dX12_next_30 : decode cX12_next 30 = .ok (.ifCond .ne 6, 3) := by decide +kernel
theorem dX12_next_33 : decode cX12_next 33 = .ok (.bipush (-2), 2) := by decide +kernel
theorem dX12_next_35 : decode cX12_next 35 = .ok (.ireturn, 1) := by decide +kernel
theorem dX12_next_36 : decode cX12_next 36 = .ok (.iconst (-1), 1) := by decide +kernel
theorem dX12_next_37 : decode cX12_next 37 = .ok (.istore_n 2, 1) := by decide +kernel
theorem dX12_next_38 : decode cX12_next 38 = .ok (.iconst 0, 1) := by decide +kernel
theorem dX12_next_39 : decode cX12_next 39 = .ok (.istore_n 3, 1) := by decide +kernel
theorem dX12_next_40 : decode cX12_next 40 = .ok (.iconst 0, 1) := by decide +kernel
theorem dX12_next_41 : decode cX12_next 41 = .ok (.istore 4, 2) := by decide +kernel
theorem dX12_next_43 : decode cX12_next 43 = .ok (.iload 4, 2) := by decide +kernel
theorem dX12_next_45 : decode cX12_next 45 = .ok (.bipush 12, 2) := by decide +kernel
theorem dX12_next_47 : decode cX12_next 47 = .ok (.if_icmp .ge 116, 3) := by decide +kernel
theorem dX12_next_50 : decode cX12_next 50 = .ok (.aload_n 0, 1) := by decide +kernel
theorem dX12_next_51 : decode cX12_next 51 = .ok (.iload 4, 2) := by decide +kernel
theorem dX12_next_53 : decode cX12_next 53 = .ok (.invokevirtual 212, 3) := by decide +kernel
theorem dX12_next_56 : decode cX12_next 56 = .ok (.ifCond .ne 6, 3) := by decide +kernel
theorem dX12_next_59 : decode cX12_next 59 = .ok (.goto 98, 3) := by decide +kernel
theorem dX12_next_62 : decode cX12_next 62 = .ok (.iconst 0, 1) := by decide +kernel
theorem dX12_next_63 : decode cX12_next 63 = .ok (.istore 5, 2) := by decide +kernel
theorem dX12_next_65 : decode cX12_next 65 = .ok (.iconst 0, 1) := by decide +kernel
theorem dX12_next_66 : decode cX12_next 66 = .ok (.istore 6, 2) := by decide +kernel
theorem dX12_next_68 : decode cX12_next 68 = .ok (.iload 6, 2) := by decide +kernel
theorem dX12_next_70 : decode cX12_next 70 = .ok (.bipush 8, 2) := by decide +kernel
theorem dX12_next_72 : decode cX12_next 72 = .ok (.if_icmp .ge 69, 3) := by decide +kernel
theorem dX12_next_75 : decode cX12_next 75 = .ok (.iconst 0, 1) := by decide +kernel
theorem dX12_next_76 : decode cX12_next 76 = .ok (.istore 7, 2) := by decide +kernel
theorem dX12_next_78 : decode cX12_next 78 = .ok (.iconst 0, 1) := by decide +kernel
theorem dX12_next_79 : decode cX12_next 79 = .ok (.istore 8, 2) := by decide +kernel
theorem dX12_next_81 : decode cX12_next 81 = .ok (.iload 8, 2) := by decide +kernel
theorem dX12_next_83 : decode cX12_next 83 = .ok (.aload_n 0, 1) := by decide +kernel
theorem dX12_next_84 : decode cX12_next 84 = .ok (.getfield 175, 3) := by decide +kernel
theorem dX12_next_87 : decode cX12_next 87 = .ok (.if_icmp .ge 39, 3) := by decide +kernel
theorem dX12_next_90 : decode cX12_next 90 = .ok (.iload 7, 2) := by decide +kernel
theorem dX12_next_92 : decode cX12_next 92 = .ok (.aload_n 0, 1) := by decide +kernel
theorem dX12_next_93 : decode cX12_next 93 = .ok (.getfield 178, 3) := by decide +kernel
theorem dX12_next_96 : decode cX12_next 96 = .ok (.iload 8, 2) := by decide +kernel
theorem dX12_next_98 : decode cX12_next 98 = .ok (.laload, 1) := by decide +kernel
theorem dX12_next_99 : decode cX12_next 99 = .ok (.iload 4, 2) := by decide +kernel
theorem dX12_next_101 : decode cX12_next 101 = .ok (.invokestatic 138, 3) := by decide +kernel
theorem dX12_next_104 : decode cX12_next 104 = .ok (.iload 6, 2) := by decide +kernel
theorem dX12_next_106 : decode cX12_next 106 = .ok (.if_icmp .ne 7, 3) := by decide +kernel
theorem dX12_next_109 : decode cX12_next 109 = .ok (.iconst 1, 1) := by decide +kernel
theorem dX12_next_110 : decode cX12_next 110 = .ok (.goto 4, 3) := by decide +kernel
theorem dX12_next_113 : decode cX12_next 113 = .ok (.iconst 0, 1) := by decide +kernel
theorem dX12_next_114 : decode cX12_next 114 = .ok (.invokestatic 65, 3) := by decide +kernel
theorem dX12_next_117 : decode cX12_next 117 = .ok (.iadd, 1) := by decide +kernel
theorem dX12_next_118 : decode cX12_next 118 = .ok (.istore 7, 2) := by decide +kernel
theorem dX12_next_120 : decode cX12_next 120 = .ok (.iinc 8 1, 3) := by decide +kernel
theorem dX12_next_123 : decode cX12_next 123 = .ok (.goto (-42), 3) := by decide +kernel
theorem dX12_next_126 : decode cX12_next 126 = .ok (.iload 5, 2) := by decide +kernel
theorem dX12_next_128 : decode cX12_next 128 = .ok (.iload 7, 2) := by decide +kernel
theorem dX12_next_130 : decode cX12_next 130 = .ok (.invokestatic 237, 3) := by decide +kernel
theorem dX12_next_133 : decode cX12_next 133 = .ok (.istore 5, 2) := by decide +kernel
theorem dX12_next_135 : decode cX12_next 135 = .ok (.iinc 6 1, 3) := by decide +kernel
theorem dX12_next_138 : decode cX12_next 138 = .ok (.goto (-70), 3) := by decide +kernel
theorem dX12_next_141 : decode cX12_next 141 = .ok (.iload_n 2, 1) := by decide +kernel
theorem dX12_next_142 : decode cX12_next 142 = .ok (.ifCond .lt 9, 3) := by decide +kernel
theorem dX12_next_145 : decode cX12_next 145 = .ok (.iload 5, 2) := by decide +kernel
theorem dX12_next_147 : decode cX12_next 147 = .ok (.iload_n 3, 1) := by decide +kernel
theorem dX12_next_148 : decode cX12_next 148 = .ok (.if_icmp .ge 9, 3) := by decide +kernel
theorem dX12_next_151 : decode cX12_next 151 = .ok (.iload 4, 2) := by decide +kernel
theorem dX12_next_153 : decode cX12_next 153 = .ok (.istore_n 2, 1) := by decide +kernel
theorem dX12_next_154 : decode cX12_next 154 = .ok (.iload 5, 2) := by decide +kernel
theorem dX12_next_156 : decode cX12_next 156 = .ok (.istore_n 3, 1) := by decide +kernel
theorem dX12_next_157 : decode cX12_next 157 = .ok (.iinc 4 1, 3) := by decide +kernel
theorem dX12_next_160 : decode cX12_next 160 = .ok (.goto (-117), 3) := by decide +kernel
theorem dX12_next_163 : decode cX12_next 163 = .ok (.iload_n 2, 1) := by decide +kernel
theorem dX12_next_164 : decode cX12_next 164 = .ok (.ifCond .ge 6, 3) := by decide +kernel
theorem dX12_next_167 : decode cX12_next 167 = .ok (.bipush (-2), 2) := by decide +kernel
theorem dX12_next_169 : decode cX12_next 169 = .ok (.ireturn, 1) := by decide +kernel
theorem dX12_next_170 : decode cX12_next 170 = .ok (.aload_n 0, 1) := by decide +kernel
theorem dX12_next_171 : decode cX12_next 171 = .ok (.iconst 0, 1) := by decide +kernel
theorem dX12_next_172 : decode cX12_next 172 = .ok (.putfield 11, 3) := by decide +kernel
theorem dX12_next_175 : decode cX12_next 175 = .ok (.aload_n 0, 1) := by decide +kernel
theorem dX12_next_176 : decode cX12_next 176 = .ok (.iload_n 3, 1) := by decide +kernel
theorem dX12_next_177 : decode cX12_next 177 = .ok (.i2l, 1) := by decide +kernel
theorem dX12_next_178 : decode cX12_next 178 = .ok (.invokevirtual 18, 3) := by decide +kernel
theorem dX12_next_181 : decode cX12_next 181 = .ok (.iload_n 2, 1) := by decide +kernel
theorem dX12_next_182 : decode cX12_next 182 = .ok (.ireturn, 1) := by decide +kernel
def w_X12_next_157 (post : Int32 → sI → sJ → Prop) (k43 : Int32 → Int32 → Int32 → sI → sJ → Prop) (x2 : Int32) (x3 : Int32) (x4 : Int32) (I : sI) (J : sJ) : Prop :=
  (∀ v4_157 : Int32, v4_157 = x4 + 1 → k43 x2 x3 v4_157 I J)
set_option maxHeartbeats 4000000 in
set_option maxRecDepth 100000 in
theorem t_X12_next_157 {X : sX} {post : Int32 → sI → sJ → Prop} (h : sOK X cX12_next RX12 9 5 136) (hr : sRt X (some .int) (sPi post)) {k43 : Int32 → Int32 → Int32 → sI → sJ → Prop} (hk43 : ∀ (x2 : Int32) (x3 : Int32) (x4 : Int32) (I : sI) (J : sJ), k43 x2 x3 x4 I J → sG X 9 43 [(0, .ref 248), (2, .int x2), (3, .int x3), (4, .int x4)] [] I J) {x2 : Int32} {x3 : Int32} {x4 : Int32} {I : sI} {J : sJ} (hw : w_X12_next_157 post k43 x2 x3 x4 I J) : sG X 9 157 [(0, .ref 248), (2, .int x2), (3, .int x3), (4, .int x4)] [] I J := by
  unfold w_X12_next_157 at hw
  obtain ⟨v4_157, ev4_157⟩ : ∃ z : Int32, z = x4 + 1 := ⟨_, rfl⟩
  replace hw := hw v4_157 ev4_157
  refine g_iinc (v := v4_157) (lo2 := [(4, .int v4_157), (0, .ref 248), (2, .int x2), (3, .int x3)]) h 3 rfl (by rw [ev4_157]; rfl) (by decide) rfl dX12_next_157 ?_
  refine g_goto (tgt := 43) h (by decide) dX12_next_160 ?_
  exact g_sub [1, 2, 3, 0] rfl (hk43 _ _ _ _ _ hw)
def w_X12_next_151 (post : Int32 → sI → sJ → Prop) (k43 : Int32 → Int32 → Int32 → sI → sJ → Prop) (x4 : Int32) (x5 : Int32) (I : sI) (J : sJ) : Prop :=
  w_X12_next_157 post k43 x4 x5 x4 I J
set_option maxHeartbeats 4000000 in
set_option maxRecDepth 100000 in
theorem t_X12_next_151 {X : sX} {post : Int32 → sI → sJ → Prop} (h : sOK X cX12_next RX12 9 5 136) (hr : sRt X (some .int) (sPi post)) {k43 : Int32 → Int32 → Int32 → sI → sJ → Prop} (hk43 : ∀ (x2 : Int32) (x3 : Int32) (x4 : Int32) (I : sI) (J : sJ), k43 x2 x3 x4 I J → sG X 9 43 [(0, .ref 248), (2, .int x2), (3, .int x3), (4, .int x4)] [] I J) {x4 : Int32} {x5 : Int32} {I : sI} {J : sJ} (hw : w_X12_next_151 post k43 x4 x5 I J) : sG X 9 151 [(0, .ref 248), (4, .int x4), (5, .int x5)] [] I J := by
  unfold w_X12_next_151 at hw
  refine g_iload h 1 rfl dX12_next_151 ?_
  refine g_istore_n (lo2 := [(2, .int x4), (0, .ref 248), (4, .int x4), (5, .int x5)]) h rfl (by decide) rfl dX12_next_153 ?_
  refine g_iload h 3 rfl dX12_next_154 ?_
  refine g_istore_n (lo2 := [(3, .int x5), (2, .int x4), (0, .ref 248), (4, .int x4), (5, .int x5)]) h rfl (by decide) rfl dX12_next_156 ?_
  exact g_sub [2, 1, 0, 3] rfl (t_X12_next_157 h hr hk43 hw)
def w_X12_next_114 (post : Int32 → sI → sJ → Prop) (k43 : Int32 → Int32 → Int32 → sI → sJ → Prop) (k68 : Int32 → Int32 → Int32 → Int32 → Int32 → sI → sJ → Prop) (k81 : Int32 → Int32 → Int32 → Int32 → Int32 → Int32 → Int32 → sI → sJ → Prop) (x2 : Int32) (x3 : Int32) (x4 : Int32) (x5 : Int32) (x6 : Int32) (x8 : Int32) (s0 : Int32) (s1 : Int32) (I : sI) (J : sJ) : Prop :=
  w_X12_flag s0 I J (fun (r_114 : Int32) (I_114 : sI) (J_114 : sJ) => ((∀ v7_118 : Int32, v7_118 = s1 + r_114 → (∀ v8_120 : Int32, v8_120 = x8 + 1 → k81 x2 x3 x4 x5 x6 v7_118 v8_120 I_114 J_114))))
set_option maxHeartbeats 4000000 in
set_option maxRecDepth 100000 in
theorem t_X12_next_114 {X : sX} {post : Int32 → sI → sJ → Prop} (h : sOK X cX12_next RX12 9 5 136) (hr : sRt X (some .int) (sPi post)) {k43 : Int32 → Int32 → Int32 → sI → sJ → Prop} (hk43 : ∀ (x2 : Int32) (x3 : Int32) (x4 : Int32) (I : sI) (J : sJ), k43 x2 x3 x4 I J → sG X 9 43 [(0, .ref 248), (2, .int x2), (3, .int x3), (4, .int x4)] [] I J) {k68 : Int32 → Int32 → Int32 → Int32 → Int32 → sI → sJ → Prop} (hk68 : ∀ (x2 : Int32) (x3 : Int32) (x4 : Int32) (x5 : Int32) (x6 : Int32) (I : sI) (J : sJ), k68 x2 x3 x4 x5 x6 I J → sG X 9 68 [(0, .ref 248), (2, .int x2), (3, .int x3), (4, .int x4), (5, .int x5), (6, .int x6)] [] I J) {k81 : Int32 → Int32 → Int32 → Int32 → Int32 → Int32 → Int32 → sI → sJ → Prop} (hk81 : ∀ (x2 : Int32) (x3 : Int32) (x4 : Int32) (x5 : Int32) (x6 : Int32) (x7 : Int32) (x8 : Int32) (I : sI) (J : sJ), k81 x2 x3 x4 x5 x6 x7 x8 I J → sG X 9 81 [(0, .ref 248), (2, .int x2), (3, .int x3), (4, .int x4), (5, .int x5), (6, .int x6), (7, .int x7), (8, .int x8)] [] I J) {x2 : Int32} {x3 : Int32} {x4 : Int32} {x5 : Int32} {x6 : Int32} {x8 : Int32} {s0 : Int32} {s1 : Int32} {I : sI} {J : sJ} (hw : w_X12_next_114 post k43 k68 k81 x2 x3 x4 x5 x6 x8 s0 s1 I J) : sG X 9 114 [(0, .ref 248), (2, .int x2), (3, .int x3), (4, .int x4), (5, .int x5), (6, .int x6), (8, .int x8)] [.int s0, .int s1] I J := by
  unfold w_X12_next_114 at hw
  refine g_callS [.int s0] h (c_X12_flag X hw) sPi_v mw_X12_flag lk_X12_65 rfl ⟨by decide, by decide⟩ (Nat.le_of_ble_eq_true rfl) dX12_next_114 (sPi_k (fun r_114 I_114 J_114 hw => ?_))
  refine g_iadd h dX12_next_117 ?_
  refine g_ni (fun v7_118 ev7_118 => ?_)
  replace hw := hw v7_118 ev7_118
  refine g_istore (lo2 := [(7, .int v7_118), (0, .ref 248), (2, .int x2), (3, .int x3), (4, .int x4), (5, .int x5), (6, .int x6), (8, .int x8)]) h (by decide) rfl dX12_next_118 ?_
  obtain ⟨v8_120, ev8_120⟩ : ∃ z : Int32, z = x8 + 1 := ⟨_, rfl⟩
  replace hw := hw v8_120 ev8_120
  refine g_iinc (v := v8_120) (lo2 := [(8, .int v8_120), (7, .int v7_118), (0, .ref 248), (2, .int x2), (3, .int x3), (4, .int x4), (5, .int x5), (6, .int x6)]) h 7 rfl (by rw [ev8_120]; rfl) (by decide) rfl dX12_next_120 ?_
  refine g_goto (tgt := 81) h (by decide) dX12_next_123 ?_
  exact g_sub [2, 3, 4, 5, 6, 7, 1, 0] rfl (hk81 _ _ _ _ _ _ _ _ _ hw)
def w_X12_next_81_s (post : Int32 → sI → sJ → Prop) (k43 : Int32 → Int32 → Int32 → sI → sJ → Prop) (k68 : Int32 → Int32 → Int32 → Int32 → Int32 → sI → sJ → Prop) (k81 : Int32 → Int32 → Int32 → Int32 → Int32 → Int32 → Int32 → sI → sJ → Prop) (x2 : Int32) (x3 : Int32) (x4 : Int32) (x5 : Int32) (x6 : Int32) (x7 : Int32) (x8 : Int32) (I : sI) (J : sJ) : Prop :=
  (((I 248 32) ≤ x8 → w_J9_max_7cf53 x5 x7 I J (fun (r_130 : Int32) (I_130 : sI) (J_130 : sJ) => ((∀ v6_135 : Int32, v6_135 = x6 + 1 → k68 x2 x3 x4 r_130 v6_135 I_130 J_130)))) ∧ (¬ (I 248 32) ≤ x8 → (vp_in x8 20000 ∧ w_X12_letterOf (J 265 (Int32.toNatClampNeg x8)) x4 I J (fun (r_101 : Int32) (I_101 : sI) (J_101 : sJ) => (((¬ r_101 = x6 → w_X12_next_114 post k43 k68 k81 x2 x3 x4 x5 x6 x8 0 x7 I_101 J_101) ∧ (r_101 = x6 → w_X12_next_114 post k43 k68 k81 x2 x3 x4 x5 x6 x8 1 x7 I_101 J_101)))))))
def w_X12_next_81_n (post : Int32 → sI → sJ → Prop) (k43 : Int32 → Int32 → Int32 → sI → sJ → Prop) (k68 : Int32 → Int32 → Int32 → Int32 → Int32 → sI → sJ → Prop) : Nat → Int32 → Int32 → Int32 → Int32 → Int32 → Int32 → Int32 → sI → sJ → Prop
  | 0 => fun _ _ _ _ _ _ _ _ _ => False
  | n + 1 => fun x2 x3 x4 x5 x6 x7 x8 I J => w_X12_next_81_s post k43 k68 (w_X12_next_81_n post k43 k68 n) x2 x3 x4 x5 x6 x7 x8 I J
def w_X12_next_81 (post : Int32 → sI → sJ → Prop) (k43 : Int32 → Int32 → Int32 → sI → sJ → Prop) (k68 : Int32 → Int32 → Int32 → Int32 → Int32 → sI → sJ → Prop) (x2 : Int32) (x3 : Int32) (x4 : Int32) (x5 : Int32) (x6 : Int32) (x7 : Int32) (x8 : Int32) (I : sI) (J : sJ) : Prop := ∃ n, w_X12_next_81_n post k43 k68 n x2 x3 x4 x5 x6 x7 x8 I J
set_option maxHeartbeats 4000000 in
set_option maxRecDepth 100000 in
theorem t_X12_next_81_s {X : sX} {post : Int32 → sI → sJ → Prop} (h : sOK X cX12_next RX12 9 5 136) (hr : sRt X (some .int) (sPi post)) {k43 : Int32 → Int32 → Int32 → sI → sJ → Prop} (hk43 : ∀ (x2 : Int32) (x3 : Int32) (x4 : Int32) (I : sI) (J : sJ), k43 x2 x3 x4 I J → sG X 9 43 [(0, .ref 248), (2, .int x2), (3, .int x3), (4, .int x4)] [] I J) {k68 : Int32 → Int32 → Int32 → Int32 → Int32 → sI → sJ → Prop} (hk68 : ∀ (x2 : Int32) (x3 : Int32) (x4 : Int32) (x5 : Int32) (x6 : Int32) (I : sI) (J : sJ), k68 x2 x3 x4 x5 x6 I J → sG X 9 68 [(0, .ref 248), (2, .int x2), (3, .int x3), (4, .int x4), (5, .int x5), (6, .int x6)] [] I J) {k81 : Int32 → Int32 → Int32 → Int32 → Int32 → Int32 → Int32 → sI → sJ → Prop} (hk81 : ∀ (x2 : Int32) (x3 : Int32) (x4 : Int32) (x5 : Int32) (x6 : Int32) (x7 : Int32) (x8 : Int32) (I : sI) (J : sJ), k81 x2 x3 x4 x5 x6 x7 x8 I J → sG X 9 81 [(0, .ref 248), (2, .int x2), (3, .int x3), (4, .int x4), (5, .int x5), (6, .int x6), (7, .int x7), (8, .int x8)] [] I J) {x2 : Int32} {x3 : Int32} {x4 : Int32} {x5 : Int32} {x6 : Int32} {x7 : Int32} {x8 : Int32} {I : sI} {J : sJ} (hw : w_X12_next_81_s post k43 k68 k81 x2 x3 x4 x5 x6 x7 x8 I J) : sG X 9 81 [(0, .ref 248), (2, .int x2), (3, .int x3), (4, .int x4), (5, .int x5), (6, .int x6), (7, .int x7), (8, .int x8)] [] I J := by
  unfold w_X12_next_81_s at hw
  refine g_iload h 7 rfl dX12_next_81 ?_
  refine g_aload_n h rfl 0 rfl dX12_next_83 ?_
  refine g_get h is_248 fl_X12_175 rfl dX12_next_84 ?_
  refine g_icmp_ge (tgt := 126) h (by decide) dX12_next_87 (fun q87 => ?_) (fun q87 => ?_)
  · replace hw := hw.1 q87
    refine g_iload h 4 rfl dX12_next_126 ?_
    refine g_iload h 6 rfl dX12_next_128 ?_
    refine g_callS [.int x5, .int x7] h (c_J9_max_7cf53 X hw) sPi_v mw_J9_max_7cf53 lk_X12_237 rfl ⟨by decide, by decide⟩ (Nat.le_of_ble_eq_true rfl) dX12_next_130 (sPi_k (fun r_130 I_130 J_130 hw => ?_))
    refine g_istore (lo2 := [(5, .int r_130), (0, .ref 248), (2, .int x2), (3, .int x3), (4, .int x4), (6, .int x6), (7, .int x7), (8, .int x8)]) h (by decide) rfl dX12_next_133 ?_
    obtain ⟨v6_135, ev6_135⟩ : ∃ z : Int32, z = x6 + 1 := ⟨_, rfl⟩
    replace hw := hw v6_135 ev6_135
    refine g_iinc (v := v6_135) (lo2 := [(6, .int v6_135), (5, .int r_130), (0, .ref 248), (2, .int x2), (3, .int x3), (4, .int x4), (7, .int x7), (8, .int x8)]) h 5 rfl (by rw [ev6_135]; rfl) (by decide) rfl dX12_next_135 ?_
    refine g_goto (tgt := 68) h (by decide) dX12_next_138 ?_
    exact g_sub [2, 3, 4, 5, 1, 0] rfl (hk68 _ _ _ _ _ _ _ hw)
  · replace hw := hw.2 q87
    refine g_iload h 6 rfl dX12_next_90 ?_
    refine g_aload_n h rfl 0 rfl dX12_next_92 ?_
    refine g_get h is_248 fl_X12_178 fr_248_31 dX12_next_93 ?_
    refine g_iload h 7 rfl dX12_next_96 ?_
    obtain ⟨hi98, hw⟩ := hw
    refine g_lald h ar_265 hi98 dX12_next_98 ?_
    refine g_iload h 3 rfl dX12_next_99 ?_
    refine g_callS [.long (J 265 (Int32.toNatClampNeg x8)), .int x4] h (c_X12_letterOf X hw) sPi_v mw_X12_letterOf lk_X12_138 rfl ⟨by decide, by decide⟩ (Nat.le_of_ble_eq_true rfl) dX12_next_101 (sPi_k (fun r_101 I_101 J_101 hw => ?_))
    refine g_iload h 5 rfl dX12_next_104 ?_
    refine g_icmp_ne (tgt := 113) h (by decide) dX12_next_106 (fun q106 => ?_) (fun q106 => ?_)
    · replace hw := hw.1 q106
      refine g_iconst (v := 0) h (by decide) dX12_next_113 ?_
      exact g_sub [0, 1, 2, 3, 4, 5, 7] rfl (t_X12_next_114 h hr hk43 hk68 hk81 hw)
    · replace hw := hw.2 q106
      refine g_iconst (v := 1) h (by decide) dX12_next_109 ?_
      refine g_goto (tgt := 114) h (by decide) dX12_next_110 ?_
      exact g_sub [0, 1, 2, 3, 4, 5, 7] rfl (t_X12_next_114 h hr hk43 hk68 hk81 hw)
theorem t_X12_next_81 {X : sX} {post : Int32 → sI → sJ → Prop} (h : sOK X cX12_next RX12 9 5 136) (hr : sRt X (some .int) (sPi post)) {k43 : Int32 → Int32 → Int32 → sI → sJ → Prop} (hk43 : ∀ (x2 : Int32) (x3 : Int32) (x4 : Int32) (I : sI) (J : sJ), k43 x2 x3 x4 I J → sG X 9 43 [(0, .ref 248), (2, .int x2), (3, .int x3), (4, .int x4)] [] I J) {k68 : Int32 → Int32 → Int32 → Int32 → Int32 → sI → sJ → Prop} (hk68 : ∀ (x2 : Int32) (x3 : Int32) (x4 : Int32) (x5 : Int32) (x6 : Int32) (I : sI) (J : sJ), k68 x2 x3 x4 x5 x6 I J → sG X 9 68 [(0, .ref 248), (2, .int x2), (3, .int x3), (4, .int x4), (5, .int x5), (6, .int x6)] [] I J) {x2 : Int32} {x3 : Int32} {x4 : Int32} {x5 : Int32} {x6 : Int32} {x7 : Int32} {x8 : Int32} {I : sI} {J : sJ} (hw : w_X12_next_81 post k43 k68 x2 x3 x4 x5 x6 x7 x8 I J) : sG X 9 81 [(0, .ref 248), (2, .int x2), (3, .int x3), (4, .int x4), (5, .int x5), (6, .int x6), (7, .int x7), (8, .int x8)] [] I J := by
  obtain ⟨n, hw⟩ := hw
  induction n generalizing x2 x3 x4 x5 x6 x7 x8 I J with
  | zero => exact hw.elim
  | succ n ih => exact t_X12_next_81_s h hr hk43 hk68 (fun _ _ _ _ _ _ _ _ _ q => ih q) hw
def w_X12_next_68_s (post : Int32 → sI → sJ → Prop) (k43 : Int32 → Int32 → Int32 → sI → sJ → Prop) (k68 : Int32 → Int32 → Int32 → Int32 → Int32 → sI → sJ → Prop) (x2 : Int32) (x3 : Int32) (x4 : Int32) (x5 : Int32) (x6 : Int32) (I : sI) (J : sJ) : Prop :=
  ((8 ≤ x6 → ((x2 < 0 → w_X12_next_151 post k43 x4 x5 I J) ∧ (¬ x2 < 0 → ((x3 ≤ x5 → w_X12_next_157 post k43 x2 x3 x4 I J) ∧ (¬ x3 ≤ x5 → w_X12_next_151 post k43 x4 x5 I J))))) ∧ (¬ 8 ≤ x6 → w_X12_next_81 post k43 k68 x2 x3 x4 x5 x6 0 0 I J))
def w_X12_next_68_n (post : Int32 → sI → sJ → Prop) (k43 : Int32 → Int32 → Int32 → sI → sJ → Prop) : Nat → Int32 → Int32 → Int32 → Int32 → Int32 → sI → sJ → Prop
  | 0 => fun _ _ _ _ _ _ _ => False
  | n + 1 => fun x2 x3 x4 x5 x6 I J => w_X12_next_68_s post k43 (w_X12_next_68_n post k43 n) x2 x3 x4 x5 x6 I J
def w_X12_next_68 (post : Int32 → sI → sJ → Prop) (k43 : Int32 → Int32 → Int32 → sI → sJ → Prop) (x2 : Int32) (x3 : Int32) (x4 : Int32) (x5 : Int32) (x6 : Int32) (I : sI) (J : sJ) : Prop := ∃ n, w_X12_next_68_n post k43 n x2 x3 x4 x5 x6 I J
set_option maxHeartbeats 4000000 in
set_option maxRecDepth 100000 in
theorem t_X12_next_68_s {X : sX} {post : Int32 → sI → sJ → Prop} (h : sOK X cX12_next RX12 9 5 136) (hr : sRt X (some .int) (sPi post)) {k43 : Int32 → Int32 → Int32 → sI → sJ → Prop} (hk43 : ∀ (x2 : Int32) (x3 : Int32) (x4 : Int32) (I : sI) (J : sJ), k43 x2 x3 x4 I J → sG X 9 43 [(0, .ref 248), (2, .int x2), (3, .int x3), (4, .int x4)] [] I J) {k68 : Int32 → Int32 → Int32 → Int32 → Int32 → sI → sJ → Prop} (hk68 : ∀ (x2 : Int32) (x3 : Int32) (x4 : Int32) (x5 : Int32) (x6 : Int32) (I : sI) (J : sJ), k68 x2 x3 x4 x5 x6 I J → sG X 9 68 [(0, .ref 248), (2, .int x2), (3, .int x3), (4, .int x4), (5, .int x5), (6, .int x6)] [] I J) {x2 : Int32} {x3 : Int32} {x4 : Int32} {x5 : Int32} {x6 : Int32} {I : sI} {J : sJ} (hw : w_X12_next_68_s post k43 k68 x2 x3 x4 x5 x6 I J) : sG X 9 68 [(0, .ref 248), (2, .int x2), (3, .int x3), (4, .int x4), (5, .int x5), (6, .int x6)] [] I J := by
  unfold w_X12_next_68_s at hw
  refine g_iload h 5 rfl dX12_next_68 ?_
  refine g_bipush (v := 8) h (by decide) dX12_next_70 ?_
  refine g_icmp_ge (tgt := 141) h (by decide) dX12_next_72 (fun q72 => ?_) (fun q72 => ?_)
  · replace hw := hw.1 q72
    refine g_iload_n h rfl 1 rfl dX12_next_141 ?_
    refine g_if_lt (tgt := 151) h (by decide) dX12_next_142 (fun q142 => ?_) (fun q142 => ?_)
    · replace hw := hw.1 q142
      exact g_sub [0, 3, 4] rfl (t_X12_next_151 h hr hk43 hw)
    · replace hw := hw.2 q142
      refine g_iload h 4 rfl dX12_next_145 ?_
      refine g_iload_n h rfl 2 rfl dX12_next_147 ?_
      refine g_icmp_ge (tgt := 157) h (by decide) dX12_next_148 (fun q148 => ?_) (fun q148 => ?_)
      · replace hw := hw.1 q148
        exact g_sub [0, 1, 2, 3] rfl (t_X12_next_157 h hr hk43 hw)
      · replace hw := hw.2 q148
        exact g_sub [0, 3, 4] rfl (t_X12_next_151 h hr hk43 hw)
  · replace hw := hw.2 q72
    refine g_iconst (v := 0) h (by decide) dX12_next_75 ?_
    refine g_istore (lo2 := [(7, .int 0), (0, .ref 248), (2, .int x2), (3, .int x3), (4, .int x4), (5, .int x5), (6, .int x6)]) h (by decide) rfl dX12_next_76 ?_
    refine g_iconst (v := 0) h (by decide) dX12_next_78 ?_
    refine g_istore (lo2 := [(8, .int 0), (7, .int 0), (0, .ref 248), (2, .int x2), (3, .int x3), (4, .int x4), (5, .int x5), (6, .int x6)]) h (by decide) rfl dX12_next_79 ?_
    exact g_sub [2, 3, 4, 5, 6, 7, 1, 0] rfl (t_X12_next_81 h hr hk43 hk68 hw)
theorem t_X12_next_68 {X : sX} {post : Int32 → sI → sJ → Prop} (h : sOK X cX12_next RX12 9 5 136) (hr : sRt X (some .int) (sPi post)) {k43 : Int32 → Int32 → Int32 → sI → sJ → Prop} (hk43 : ∀ (x2 : Int32) (x3 : Int32) (x4 : Int32) (I : sI) (J : sJ), k43 x2 x3 x4 I J → sG X 9 43 [(0, .ref 248), (2, .int x2), (3, .int x3), (4, .int x4)] [] I J) {x2 : Int32} {x3 : Int32} {x4 : Int32} {x5 : Int32} {x6 : Int32} {I : sI} {J : sJ} (hw : w_X12_next_68 post k43 x2 x3 x4 x5 x6 I J) : sG X 9 68 [(0, .ref 248), (2, .int x2), (3, .int x3), (4, .int x4), (5, .int x5), (6, .int x6)] [] I J := by
  obtain ⟨n, hw⟩ := hw
  induction n generalizing x2 x3 x4 x5 x6 I J with
  | zero => exact hw.elim
  | succ n ih => exact t_X12_next_68_s h hr hk43 (fun _ _ _ _ _ _ _ q => ih q) hw
def w_X12_next_43_s (post : Int32 → sI → sJ → Prop) (k43 : Int32 → Int32 → Int32 → sI → sJ → Prop) (x2 : Int32) (x3 : Int32) (x4 : Int32) (I : sI) (J : sJ) : Prop :=
  ((12 ≤ x4 → ((0 ≤ x2 → (∀ I_172 : sI, I_172 = sUI I 248 1 0 → w_X12_enters (Int32.toInt64 x3) I_172 J (fun (I_178 : sI) (J_178 : sJ) => (post x2 I_178 J_178)))) ∧ (¬ 0 ≤ x2 → post (-2) I J))) ∧ (¬ 12 ≤ x4 → w_X12_hasKind x4 I J (fun (r_53 : Int32) (I_53 : sI) (J_53 : sJ) => (((¬ r_53 = 0 → w_X12_next_68 post k43 x2 x3 x4 0 0 I_53 J_53) ∧ (r_53 = 0 → w_X12_next_157 post k43 x2 x3 x4 I_53 J_53))))))
def w_X12_next_43_n (post : Int32 → sI → sJ → Prop) : Nat → Int32 → Int32 → Int32 → sI → sJ → Prop
  | 0 => fun _ _ _ _ _ => False
  | n + 1 => fun x2 x3 x4 I J => w_X12_next_43_s post (w_X12_next_43_n post n) x2 x3 x4 I J
def w_X12_next_43 (post : Int32 → sI → sJ → Prop) (x2 : Int32) (x3 : Int32) (x4 : Int32) (I : sI) (J : sJ) : Prop := ∃ n, w_X12_next_43_n post n x2 x3 x4 I J
set_option maxHeartbeats 4000000 in
set_option maxRecDepth 100000 in
theorem t_X12_next_43_s {X : sX} {post : Int32 → sI → sJ → Prop} (h : sOK X cX12_next RX12 9 5 136) (hr : sRt X (some .int) (sPi post)) {k43 : Int32 → Int32 → Int32 → sI → sJ → Prop} (hk43 : ∀ (x2 : Int32) (x3 : Int32) (x4 : Int32) (I : sI) (J : sJ), k43 x2 x3 x4 I J → sG X 9 43 [(0, .ref 248), (2, .int x2), (3, .int x3), (4, .int x4)] [] I J) {x2 : Int32} {x3 : Int32} {x4 : Int32} {I : sI} {J : sJ} (hw : w_X12_next_43_s post k43 x2 x3 x4 I J) : sG X 9 43 [(0, .ref 248), (2, .int x2), (3, .int x3), (4, .int x4)] [] I J := by
  unfold w_X12_next_43_s at hw
  refine g_iload h 3 rfl dX12_next_43 ?_
  refine g_bipush (v := 12) h (by decide) dX12_next_45 ?_
  refine g_icmp_ge (tgt := 163) h (by decide) dX12_next_47 (fun q47 => ?_) (fun q47 => ?_)
  · replace hw := hw.1 q47
    refine g_iload_n h rfl 1 rfl dX12_next_163 ?_
    refine g_if_ge (tgt := 170) h (by decide) dX12_next_164 (fun q164 => ?_) (fun q164 => ?_)
    · replace hw := hw.1 q164
      refine g_aload_n h rfl 0 rfl dX12_next_170 ?_
      refine g_iconst (v := 0) h (by decide) dX12_next_171 ?_
      refine g_putI h is_248 fl_X12_11 rfl rfl dX12_next_172 ?_
      refine g_nI (fun I_172 eI_172 => ?_)
      replace hw := hw I_172 eI_172
      refine g_aload_n h rfl 0 rfl dX12_next_175 ?_
      refine g_iload_n h rfl 2 rfl dX12_next_176 ?_
      refine g_i2l h dX12_next_177 ?_
      refine g_callV [.long (Int32.toInt64 x3)] h (c_X12_enters X hw) sPv_v mw_X12_enters lk_X12_18 is_248 rfl rfl ⟨by decide, by decide⟩ (Nat.le_of_ble_eq_true rfl) dX12_next_178 (sPv_k (fun I_178 J_178 hw => ?_))
      refine g_iload_n h rfl 1 rfl dX12_next_181 ?_
      exact g_iret h hr dX12_next_182 hw
    · replace hw := hw.2 q164
      refine g_bipush (v := (-2)) h (by decide) dX12_next_167 ?_
      exact g_iret h hr dX12_next_169 hw
  · replace hw := hw.2 q47
    refine g_aload_n h rfl 0 rfl dX12_next_50 ?_
    refine g_iload h 3 rfl dX12_next_51 ?_
    refine g_callV [.int x4] h (c_X12_hasKind X hw) sPi_v mw_X12_hasKind lk_X12_212 is_248 rfl rfl ⟨by decide, by decide⟩ (Nat.le_of_ble_eq_true rfl) dX12_next_53 (sPi_k (fun r_53 I_53 J_53 hw => ?_))
    refine g_if_ne (tgt := 62) h (by decide) dX12_next_56 (fun q56 => ?_) (fun q56 => ?_)
    · replace hw := hw.1 q56
      refine g_iconst (v := 0) h (by decide) dX12_next_62 ?_
      refine g_istore (lo2 := [(5, .int 0), (0, .ref 248), (2, .int x2), (3, .int x3), (4, .int x4)]) h (by decide) rfl dX12_next_63 ?_
      refine g_iconst (v := 0) h (by decide) dX12_next_65 ?_
      refine g_istore (lo2 := [(6, .int 0), (5, .int 0), (0, .ref 248), (2, .int x2), (3, .int x3), (4, .int x4)]) h (by decide) rfl dX12_next_66 ?_
      exact g_sub [2, 3, 4, 5, 1, 0] rfl (t_X12_next_68 h hr hk43 hw)
    · replace hw := hw.2 q56
      refine g_goto (tgt := 157) h (by decide) dX12_next_59 ?_
      exact g_sub [0, 1, 2, 3] rfl (t_X12_next_157 h hr hk43 hw)
theorem t_X12_next_43 {X : sX} {post : Int32 → sI → sJ → Prop} (h : sOK X cX12_next RX12 9 5 136) (hr : sRt X (some .int) (sPi post)) {x2 : Int32} {x3 : Int32} {x4 : Int32} {I : sI} {J : sJ} (hw : w_X12_next_43 post x2 x3 x4 I J) : sG X 9 43 [(0, .ref 248), (2, .int x2), (3, .int x3), (4, .int x4)] [] I J := by
  obtain ⟨n, hw⟩ := hw
  induction n generalizing x2 x3 x4 I J with
  | zero => exact hw.elim
  | succ n ih => exact t_X12_next_43_s h hr (fun _ _ _ _ _ q => ih q) hw
def w_X12_next (a1 : Int32) (I : sI) (J : sJ) (post : Int32 → sI → sJ → Prop) : Prop :=
  (∀ I_2 : sI, I_2 = sUI I 248 0 0 → w_X12_isAsked a1 I_2 J (fun (r_7 : Int32) (I_7 : sI) (J_7 : sJ) => (((¬ r_7 = 0 → w_X12_all a1 I_7 J_7 (fun (r_17 : Int32) (I_17 : sI) (J_17 : sJ) => (((¬ r_17 = 0 → ((¬ (I_17 248 32) = 0 → w_X12_next_43 post (-1) 0 0 I_17 J_17) ∧ ((I_17 248 32) = 0 → post (-2) I_17 J_17))) ∧ (r_17 = 0 → post (-3) I_17 J_17))))) ∧ (r_7 = 0 → post (-1) I_7 J_7)))))
set_option maxHeartbeats 4000000 in
set_option maxRecDepth 100000 in
theorem t_X12_next {X : sX} {a1 : Int32} {I : sI} {J : sJ} {post : Int32 → sI → sJ → Prop} (h : sOK X cX12_next RX12 9 5 136) (hr : sRt X (some .int) (sPi post)) (hw : w_X12_next a1 I J post) : sG X 9 0 [(0, .ref 248), (1, .int a1)] [] I J := by
  unfold w_X12_next at hw
  refine g_aload_n h rfl 0 rfl dX12_next_0 ?_
  refine g_iconst (v := 0) h (by decide) dX12_next_1 ?_
  refine g_putI h is_248 fl_X12_1 rfl rfl dX12_next_2 ?_
  refine g_nI (fun I_2 eI_2 => ?_)
  replace hw := hw I_2 eI_2
  refine g_aload_n h rfl 0 rfl dX12_next_5 ?_
  refine g_iload_n h rfl 1 rfl dX12_next_6 ?_
  refine g_callV [.int a1] h (c_X12_isAsked X hw) sPi_v mw_X12_isAsked lk_X12_196 is_248 rfl rfl ⟨by decide, by decide⟩ (Nat.le_of_ble_eq_true rfl) dX12_next_7 (sPi_k (fun r_7 I_7 J_7 hw => ?_))
  refine g_if_ne (tgt := 15) h (by decide) dX12_next_10 (fun q10 => ?_) (fun q10 => ?_)
  · replace hw := hw.1 q10
    refine g_aload_n h rfl 0 rfl dX12_next_15 ?_
    refine g_iload_n h rfl 1 rfl dX12_next_16 ?_
    refine g_callV [.int a1] h (c_X12_all X hw) sPi_v mw_X12_all lk_X12_199 is_248 rfl rfl ⟨by decide, by decide⟩ (Nat.le_of_ble_eq_true rfl) dX12_next_17 (sPi_k (fun r_17 I_17 J_17 hw => ?_))
    refine g_if_ne (tgt := 26) h (by decide) dX12_next_20 (fun q20 => ?_) (fun q20 => ?_)
    · replace hw := hw.1 q20
      refine g_aload_n h rfl 0 rfl dX12_next_26 ?_
      refine g_get h is_248 fl_X12_175 rfl dX12_next_27 ?_
      refine g_if_ne (tgt := 36) h (by decide) dX12_next_30 (fun q30 => ?_) (fun q30 => ?_)
      · replace hw := hw.1 q30
        refine g_iconst (v := (-1)) h (by decide) dX12_next_36 ?_
        refine g_istore_n (lo2 := [(2, .int (-1)), (0, .ref 248), (1, .int a1)]) h rfl (by decide) rfl dX12_next_37 ?_
        refine g_iconst (v := 0) h (by decide) dX12_next_38 ?_
        refine g_istore_n (lo2 := [(3, .int 0), (2, .int (-1)), (0, .ref 248), (1, .int a1)]) h rfl (by decide) rfl dX12_next_39 ?_
        refine g_iconst (v := 0) h (by decide) dX12_next_40 ?_
        refine g_istore (lo2 := [(4, .int 0), (3, .int 0), (2, .int (-1)), (0, .ref 248), (1, .int a1)]) h (by decide) rfl dX12_next_41 ?_
        exact g_sub [3, 2, 1, 0] rfl (t_X12_next_43 h hr hw)
      · replace hw := hw.2 q30
        refine g_bipush (v := (-2)) h (by decide) dX12_next_33 ?_
        exact g_iret h hr dX12_next_35 hw
    · replace hw := hw.2 q20
      refine g_bipush (v := (-3)) h (by decide) dX12_next_23 ?_
      exact g_iret h hr dX12_next_25 hw
  · replace hw := hw.2 q10
    refine g_iconst (v := (-1)) h (by decide) dX12_next_13 ?_
    exact g_iret h hr dX12_next_14 hw
theorem c_X12_next (X : sX) {a1 : Int32} {I : sI} {J : sJ} {post : Int32 → sI → sJ → Prop} (hw : w_X12_next a1 I J post) : sCall X yX12_next cX12_next 9 (some .int) 5 136 [.ref 248, .int a1] I J (sPi post) := sCall_of (by decide +kernel) (Nat.le_of_ble_eq_true rfl) (fun X h hr => t_X12_next h hr hw)
theorem dX12_blind_0 : decode cX12_blind 0 = .ok (.aload_n 0, 1) := by decide +kernel
theorem dX12_blind_1 : decode cX12_blind 1 = .ok (.iconst 0, 1) := by decide +kernel
theorem dX12_blind_2 : decode cX12_blind 2 = .ok (.putfield 1, 3) := by decide +kernel
theorem dX12_blind_5 : decode cX12_blind 5 = .ok (.aload_n 0, 1) := by decide +kernel
theorem dX12_blind_6 : decode cX12_blind 6 = .ok (.iload_n 1, 1) := by decide +kernel
theorem dX12_blind_7 : decode cX12_blind 7 = .ok (.invokevirtual 196, 3) := by decide +kernel
theorem dX12_blind_10 : decode cX12_blind 10 = .ok (.ifCond .eq 15, 3) := by decide +kernel
theorem dX12_blind_13 : decode cX12_blind 13 = .ok (.iload_n 2, 1) := by decide +kernel
theorem dX12_blind_14 : decode cX12_blind 14 = .ok (.i2l, 1) := by decide +kernel
theorem dX12_blind_15 : decode cX12_blind 15 = .ok (.lconst 0, 1) := by decide +kernel
theorem dX12_blind_16 : decode cX12_blind 16 = .ok (.ldc2_w 240, 3) := by decide +kernel
theorem dX12_blind_19 : decode cX12_blind 19 = .ok (.invokestatic 29, 3) := by decide +kernel
theorem dX12_blind_22 : decode cX12_blind 22 = .ok (.ifCond .ne 5, 3) := by decide +kernel
theorem dX12_blind_25 : decode cX12_blind 25 = .ok (.iconst (-1), 1) := by decide +kernel
theorem dX12_blind_26 : decode cX12_blind 26 = .ok (.ireturn, 1) := by decide +kernel
theorem dX12_blind_27 : decode cX12_blind 27 = .ok (.aload_n 0, 1) := by decide +kernel
theorem dX12_blind_28 : decode cX12_blind 28 = .ok (.aload_n 0, 1) := by decide +kernel
theorem dX12_blind_29 : decode cX12_blind 29 = .ok (.getfield 76, 3) := by decide +kernel
theorem dX12_blind_32 : decode cX12_blind 32 = .ok (.invokevirtual 185, 3) := by decide +kernel
theorem dX12_blind_35 : decode cX12_blind 35 = .ok (.iconst 0, 1) := by decide +kernel
theorem dX12_blind_36 : decode cX12_blind 36 = .ok (.istore_n 3, 1) := by decide +kernel
theorem dX12_blind_37 : decode cX12_blind 37 = .ok (.iload_n 3, 1) := by decide +kernel
theorem dX12_blind_38 : decode cX12_blind 38 = .ok (.aload_n 0, 1) := by decide +kernel
theorem dX12_blind_39 : decode cX12_blind 39 = .ok (.getfield 79, 3) := by decide +kernel
theorem dX12_blind_42 : decode cX12_blind 42 = .ok (.if_icmp .ge 50, 3) := by decide +kernel
theorem dX12_blind_45 : decode cX12_blind 45 = .ok (.aload_n 0, 1) := by decide +kernel
theorem dX12_blind_46 : decode cX12_blind 46 = .ok (.getfield 135, 3) := by decide +kernel
theorem dX12_blind_49 : decode cX12_blind 49 = .ok (.iload_n 3, 1) := by decide +kernel
theorem dX12_blind_50 : decode cX12_blind 50 = .ok (.aload_n 0, 1) := by decide +kernel
theorem dX12_blind_51 : decode cX12_blind 51 = .ok (.getfield 135, 3) := by decide +kernel
theorem dX12_blind_54 : decode cX12_blind 54 = .ok (.iload_n 3, 1) := by decide +kernel
theorem dX12_blind_55 : decode cX12_blind 55 = .ok (.iaload, 1) := by decide +kernel
theorem dX12_blind_56 : decode cX12_blind 56 = .ok (.bipush 12, 2) := by decide +kernel
theorem dX12_blind_58 : decode cX12_blind 58 = .ok (.if_icmp .ge 21, 3) := by decide +kernel
theorem dX12_blind_61 : decode cX12_blind 61 = .ok (.iload_n 2, 1) := by decide +kernel
theorem dX12_blind_62 : decode cX12_blind 62 = .ok (.aload_n 0, 1) := by decide +kernel
theorem dX12_blind_63 : decode cX12_blind 63 = .ok (.getfield 135, 3) := by decide +kernel
theorem dX12_blind_66 : decode cX12_blind 66 = .ok (.iload_n 3, 1) := by decide +kernel
theorem dX12_blind_67 : decode cX12_blind 67 = .ok (.iaload, 1) := by decide +kernel
theorem dX12_blind_68 : decode cX12_blind 68 = .ok (.invokestatic 242, 3) := by decide +kernel
theorem dX12_blind_71 : decode cX12_blind 71 = .ok (.ifCond .eq 8, 3) := by decide +kernel
theorem dX12_blind_74 : decode cX12_blind 74 = .ok (.bipush 12, 2) := by decide +kernel
theorem dX12_blind_76 : decode cX12_blind 76 = .ok (.goto 9, 3) := by decide +kernel
theorem dX12_blind_79 : decode cX12_blind 79 = .ok (.aload_n 0, 1) := by decide +kernel
theorem dX12_blind_80 : decode cX12_blind 80 = .ok (.getfield 135, 3) := by decide +kernel
theorem dX12_blind_83 : decode cX12_blind 83 = .ok (.iload_n 3, 1) := by decide +kernel
theorem dX12_blind_84 : decode cX12_blind 84 = .ok (.iaload, 1) := by decide +kernel
theorem dX12_blind_85 : decode cX12_blind 85 = .ok (.iastore, 1) := by decide +kernel
theorem dX12_blind_86 : decode cX12_blind 86 = .ok (.iinc 3 1, 3) := by decide +kernel
theorem dX12_blind_89 : decode cX12_blind 89 = .ok (.goto (-52), 3) := by decide +kernel
theorem dX12_blind_92 : decode cX12_blind 92 = .ok (.aload_n 0, 1) := by decide +kernel
theorem dX12_blind_93 : decode cX12_blind 93 = .ok (.iload_n 1, 1) := by decide +kernel
theorem dX12_blind_94 : decode cX12_blind 94 = .ok (.invokevirtual 189, 3) := by decide +kernel
theorem dX12_blind_97 : decode cX12_blind 97 = .ok (.ifCond .eq 28, 3) := by decide +kernel
theorem dX12_blind_100 : decode cX12_blind 100 = .ok (.aload_n 0, 1) := by decide +kernel
theorem dX12_blind_101 : decode cX12_blind 101 = .ok (.getfield 169, 3) := by decide +kernel
theorem dX12_blind_104 : decode cX12_blind 104 = .ok (.aload_n 0, 1) := by decide +kernel
theorem dX12_blind_105 : decode cX12_blind 105 = .ok (.getfield 76, 3) := by decide +kernel
theorem dX12_blind_108 : decode cX12_blind 108 = .ok (.iconst 1, 1) := by decide +kernel
theorem dX12_blind_109 : decode cX12_blind 109 = .ok (.isub, 1) := by decide +kernel
theorem dX12_blind_110 : decode cX12_blind 110 = .ok (.iaload, 1) := by decide +kernel
theorem dX12_blind_111 : decode cX12_blind 111 = .ok (.aload_n 0, 1) := by decide +kernel
theorem dX12_blind_112 : decode cX12_blind 112 = .ok (.aload_n 0, 1) := by decide +kernel
theorem dX12_blind_113 : decode cX12_blind 113 = .ok (.getfield 76, 3) := by decide +kernel
theorem dX12_blind_116 : decode cX12_blind 116 = .ok (.iconst 1, 1) := by decide +kernel
theorem dX12_blind_117 : decode cX12_blind 117 = .ok (.isub, 1) := by decide +kernel
theorem dX12_blind_118 : decode cX12_blind 118 = .ok (.invokevirtual 172, 3) := by decide +kernel
theorem dX12_blind_121 : decode cX12_blind 121 = .ok (.isub, 1) := by decide +kernel
theorem dX12_blind_122 : decode cX12_blind 122 = .ok (.goto 5, 3) := by decide +kernel
theorem dX12_blind_125 : decode cX12_blind 125 = .ok (.bipush (-3), 2) := by decide +kernel
theorem dX12_blind_127 : decode cX12_blind 127 = .ok (.ireturn, 1) := by decide +kernel
def w_X12_blind_85 (post : Int32 → sI → sJ → Prop) (k37 : Int32 → Int32 → Int32 → sI → sJ → Prop) (x1 : Int32) (x2 : Int32) (x3 : Int32) (s0 : Int32) (s1 : Int32) (I : sI) (J : sJ) : Prop :=
  (vp_in s1 160 ∧ (∀ I_85 : sI, I_85 = sUI I 261 (Int32.toNatClampNeg s1) s0 → (∀ v3_86 : Int32, v3_86 = x3 + 1 → k37 x1 x2 v3_86 I_85 J)))
set_option maxHeartbeats 4000000 in
set_option maxRecDepth 100000 in
theorem t_X12_blind_85 {X : sX} {post : Int32 → sI → sJ → Prop} (h : sOK X cX12_blind RX12 4 4 114) (hr : sRt X (some .int) (sPi post)) {k37 : Int32 → Int32 → Int32 → sI → sJ → Prop} (hk37 : ∀ (x1 : Int32) (x2 : Int32) (x3 : Int32) (I : sI) (J : sJ), k37 x1 x2 x3 I J → sG X 4 37 [(0, .ref 248), (1, .int x1), (2, .int x2), (3, .int x3)] [] I J) {x1 : Int32} {x2 : Int32} {x3 : Int32} {s0 : Int32} {s1 : Int32} {I : sI} {J : sJ} (hw : w_X12_blind_85 post k37 x1 x2 x3 s0 s1 I J) : sG X 4 85 [(0, .ref 248), (1, .int x1), (2, .int x2), (3, .int x3)] [.int s0, .int s1, .ref 261] I J := by
  unfold w_X12_blind_85 at hw
  obtain ⟨hi85, hw⟩ := hw
  refine g_iast h ar_261 hi85 dX12_blind_85 ?_
  refine g_nI (fun I_85 eI_85 => ?_)
  replace hw := hw I_85 eI_85
  obtain ⟨v3_86, ev3_86⟩ : ∃ z : Int32, z = x3 + 1 := ⟨_, rfl⟩
  replace hw := hw v3_86 ev3_86
  refine g_iinc (v := v3_86) (lo2 := [(3, .int v3_86), (0, .ref 248), (1, .int x1), (2, .int x2)]) h 3 rfl (by rw [ev3_86]; rfl) (by decide) rfl dX12_blind_86 ?_
  refine g_goto (tgt := 37) h (by decide) dX12_blind_89 ?_
  exact g_sub [1, 2, 3, 0] rfl (hk37 _ _ _ _ _ hw)
def w_X12_blind_79 (post : Int32 → sI → sJ → Prop) (k37 : Int32 → Int32 → Int32 → sI → sJ → Prop) (x1 : Int32) (x2 : Int32) (x3 : Int32) (s0 : Int32) (I : sI) (J : sJ) : Prop :=
  (vp_in x3 160 ∧ w_X12_blind_85 post k37 x1 x2 x3 (I 261 (Int32.toNatClampNeg x3)) s0 I J)
set_option maxHeartbeats 4000000 in
set_option maxRecDepth 100000 in
theorem t_X12_blind_79 {X : sX} {post : Int32 → sI → sJ → Prop} (h : sOK X cX12_blind RX12 4 4 114) (hr : sRt X (some .int) (sPi post)) {k37 : Int32 → Int32 → Int32 → sI → sJ → Prop} (hk37 : ∀ (x1 : Int32) (x2 : Int32) (x3 : Int32) (I : sI) (J : sJ), k37 x1 x2 x3 I J → sG X 4 37 [(0, .ref 248), (1, .int x1), (2, .int x2), (3, .int x3)] [] I J) {x1 : Int32} {x2 : Int32} {x3 : Int32} {s0 : Int32} {I : sI} {J : sJ} (hw : w_X12_blind_79 post k37 x1 x2 x3 s0 I J) : sG X 4 79 [(0, .ref 248), (1, .int x1), (2, .int x2), (3, .int x3)] [.int s0, .ref 261] I J := by
  unfold w_X12_blind_79 at hw
  refine g_aload_n h rfl 0 rfl dX12_blind_79 ?_
  refine g_get h is_248 fl_X12_135 fr_248_26 dX12_blind_80 ?_
  refine g_iload_n h rfl 3 rfl dX12_blind_83 ?_
  obtain ⟨hi84, hw⟩ := hw
  refine g_iald h ar_261 hi84 dX12_blind_84 ?_
  exact g_sub [0, 1, 2, 3] rfl (t_X12_blind_85 h hr hk37 hw)
def w_X12_blind_37_s (post : Int32 → sI → sJ → Prop) (k37 : Int32 → Int32 → Int32 → sI → sJ → Prop) (x1 : Int32) (x2 : Int32) (x3 : Int32) (I : sI) (J : sJ) : Prop :=
  (((I 248 12) ≤ x3 → w_X12_searches x1 I J (fun (r_94 : Int32) (I_94 : sI) (J_94 : sJ) => (((r_94 = 0 → post (-3) I_94 J_94) ∧ (¬ r_94 = 0 → (vp_in ((I_94 248 11) - 1) 25 ∧ w_X12_levelBegin ((I_94 248 11) - 1) I_94 J_94 (fun (r_118 : Int32) (I_118 : sI) (J_118 : sJ) => (post ((I_94 264 (Int32.toNatClampNeg ((I_94 248 11) - 1))) - r_118) I_118 J_118)))))))) ∧ (¬ (I 248 12) ≤ x3 → (vp_in x3 160 ∧ ((12 ≤ (I 261 (Int32.toNatClampNeg x3)) → w_X12_blind_79 post k37 x1 x2 x3 x3 I J) ∧ (¬ 12 ≤ (I 261 (Int32.toNatClampNeg x3)) → (vp_in x3 160 ∧ w_X12_has x2 (I 261 (Int32.toNatClampNeg x3)) I J (fun (r_68 : Int32) (I_68 : sI) (J_68 : sJ) => (((r_68 = 0 → w_X12_blind_79 post k37 x1 x2 x3 x3 I_68 J_68) ∧ (¬ r_68 = 0 → w_X12_blind_85 post k37 x1 x2 x3 12 x3 I_68 J_68))))))))))
def w_X12_blind_37_n (post : Int32 → sI → sJ → Prop) : Nat → Int32 → Int32 → Int32 → sI → sJ → Prop
  | 0 => fun _ _ _ _ _ => False
  | n + 1 => fun x1 x2 x3 I J => w_X12_blind_37_s post (w_X12_blind_37_n post n) x1 x2 x3 I J
def w_X12_blind_37 (post : Int32 → sI → sJ → Prop) (x1 : Int32) (x2 : Int32) (x3 : Int32) (I : sI) (J : sJ) : Prop := ∃ n, w_X12_blind_37_n post n x1 x2 x3 I J
set_option maxHeartbeats 4000000 in
set_option maxRecDepth 100000 in
theorem t_X12_blind_37_s {X : sX} {post : Int32 → sI → sJ → Prop} (h : sOK X cX12_blind RX12 4 4 114) (hr : sRt X (some .int) (sPi post)) {k37 : Int32 → Int32 → Int32 → sI → sJ → Prop} (hk37 : ∀ (x1 : Int32) (x2 : Int32) (x3 : Int32) (I : sI) (J : sJ), k37 x1 x2 x3 I J → sG X 4 37 [(0, .ref 248), (1, .int x1), (2, .int x2), (3, .int x3)] [] I J) {x1 : Int32} {x2 : Int32} {x3 : Int32} {I : sI} {J : sJ} (hw : w_X12_blind_37_s post k37 x1 x2 x3 I J) : sG X 4 37 [(0, .ref 248), (1, .int x1), (2, .int x2), (3, .int x3)] [] I J := by
  unfold w_X12_blind_37_s at hw
  refine g_iload_n h rfl 3 rfl dX12_blind_37 ?_
  refine g_aload_n h rfl 0 rfl dX12_blind_38 ?_
  refine g_get h is_248 fl_X12_79 rfl dX12_blind_39 ?_
  refine g_icmp_ge (tgt := 92) h (by decide) dX12_blind_42 (fun q42 => ?_) (fun q42 => ?_)
  · replace hw := hw.1 q42
    refine g_aload_n h rfl 0 rfl dX12_blind_92 ?_
    refine g_iload_n h rfl 1 rfl dX12_blind_93 ?_
    refine g_callV [.int x1] h (c_X12_searches X hw) sPi_v mw_X12_searches lk_X12_189 is_248 rfl rfl ⟨by decide, by decide⟩ (Nat.le_of_ble_eq_true rfl) dX12_blind_94 (sPi_k (fun r_94 I_94 J_94 hw => ?_))
    refine g_if_eq (tgt := 125) h (by decide) dX12_blind_97 (fun q97 => ?_) (fun q97 => ?_)
    · replace hw := hw.1 q97
      refine g_bipush (v := (-3)) h (by decide) dX12_blind_125 ?_
      exact g_iret h hr dX12_blind_127 hw
    · replace hw := hw.2 q97
      refine g_aload_n h rfl 0 rfl dX12_blind_100 ?_
      refine g_get h is_248 fl_X12_169 fr_248_29 dX12_blind_101 ?_
      refine g_aload_n h rfl 0 rfl dX12_blind_104 ?_
      refine g_get h is_248 fl_X12_76 rfl dX12_blind_105 ?_
      refine g_iconst (v := 1) h (by decide) dX12_blind_108 ?_
      refine g_isub h dX12_blind_109 ?_
      obtain ⟨hi110, hw⟩ := hw
      refine g_iald h ar_264 hi110 dX12_blind_110 ?_
      refine g_aload_n h rfl 0 rfl dX12_blind_111 ?_
      refine g_aload_n h rfl 0 rfl dX12_blind_112 ?_
      refine g_get h is_248 fl_X12_76 rfl dX12_blind_113 ?_
      refine g_iconst (v := 1) h (by decide) dX12_blind_116 ?_
      refine g_isub h dX12_blind_117 ?_
      refine g_callV [.int ((I_94 248 11) - 1)] h (c_X12_levelBegin X hw) sPi_v mw_X12_levelBegin lk_X12_172 is_248 rfl rfl ⟨by decide, by decide⟩ (Nat.le_of_ble_eq_true rfl) dX12_blind_118 (sPi_k (fun r_118 I_118 J_118 hw => ?_))
      refine g_isub h dX12_blind_121 ?_
      refine g_goto (tgt := 127) h (by decide) dX12_blind_122 ?_
      exact g_iret h hr dX12_blind_127 hw
  · replace hw := hw.2 q42
    refine g_aload_n h rfl 0 rfl dX12_blind_45 ?_
    refine g_get h is_248 fl_X12_135 fr_248_26 dX12_blind_46 ?_
    refine g_iload_n h rfl 3 rfl dX12_blind_49 ?_
    refine g_aload_n h rfl 0 rfl dX12_blind_50 ?_
    refine g_get h is_248 fl_X12_135 fr_248_26 dX12_blind_51 ?_
    refine g_iload_n h rfl 3 rfl dX12_blind_54 ?_
    obtain ⟨hi55, hw⟩ := hw
    refine g_iald h ar_261 hi55 dX12_blind_55 ?_
    refine g_bipush (v := 12) h (by decide) dX12_blind_56 ?_
    refine g_icmp_ge (tgt := 79) h (by decide) dX12_blind_58 (fun q58 => ?_) (fun q58 => ?_)
    · replace hw := hw.1 q58
      exact g_sub [0, 1, 2, 3] rfl (t_X12_blind_79 h hr hk37 hw)
    · replace hw := hw.2 q58
      refine g_iload_n h rfl 2 rfl dX12_blind_61 ?_
      refine g_aload_n h rfl 0 rfl dX12_blind_62 ?_
      refine g_get h is_248 fl_X12_135 fr_248_26 dX12_blind_63 ?_
      refine g_iload_n h rfl 3 rfl dX12_blind_66 ?_
      obtain ⟨hi67, hw⟩ := hw
      refine g_iald h ar_261 hi67 dX12_blind_67 ?_
      refine g_callS [.int x2, .int (I 261 (Int32.toNatClampNeg x3))] h (c_X12_has X hw) sPi_v mw_X12_has lk_X12_242 rfl ⟨by decide, by decide⟩ (Nat.le_of_ble_eq_true rfl) dX12_blind_68 (sPi_k (fun r_68 I_68 J_68 hw => ?_))
      refine g_if_eq (tgt := 79) h (by decide) dX12_blind_71 (fun q71 => ?_) (fun q71 => ?_)
      · replace hw := hw.1 q71
        exact g_sub [0, 1, 2, 3] rfl (t_X12_blind_79 h hr hk37 hw)
      · replace hw := hw.2 q71
        refine g_bipush (v := 12) h (by decide) dX12_blind_74 ?_
        refine g_goto (tgt := 85) h (by decide) dX12_blind_76 ?_
        exact g_sub [0, 1, 2, 3] rfl (t_X12_blind_85 h hr hk37 hw)
theorem t_X12_blind_37 {X : sX} {post : Int32 → sI → sJ → Prop} (h : sOK X cX12_blind RX12 4 4 114) (hr : sRt X (some .int) (sPi post)) {x1 : Int32} {x2 : Int32} {x3 : Int32} {I : sI} {J : sJ} (hw : w_X12_blind_37 post x1 x2 x3 I J) : sG X 4 37 [(0, .ref 248), (1, .int x1), (2, .int x2), (3, .int x3)] [] I J := by
  obtain ⟨n, hw⟩ := hw
  induction n generalizing x1 x2 x3 I J with
  | zero => exact hw.elim
  | succ n ih => exact t_X12_blind_37_s h hr (fun _ _ _ _ _ q => ih q) hw
def w_X12_blind (a1 : Int32) (a2 : Int32) (I : sI) (J : sJ) (post : Int32 → sI → sJ → Prop) : Prop :=
  (∀ I_2 : sI, I_2 = sUI I 248 0 0 → w_X12_isAsked a1 I_2 J (fun (r_7 : Int32) (I_7 : sI) (J_7 : sJ) => (((r_7 = 0 → post (-1) I_7 J_7) ∧ (¬ r_7 = 0 → w_X12_in (Int32.toInt64 a2) 0 4095 I_7 J_7 (fun (r_19 : Int32) (I_19 : sI) (J_19 : sJ) => (((¬ r_19 = 0 → w_X12_takesDisc (I_19 248 11) I_19 J_19 (fun (I_32 : sI) (J_32 : sJ) => (w_X12_blind_37 post a1 a2 0 I_32 J_32))) ∧ (r_19 = 0 → post (-1) I_19 J_19)))))))))
set_option maxHeartbeats 4000000 in
set_option maxRecDepth 100000 in
theorem t_X12_blind {X : sX} {a1 : Int32} {a2 : Int32} {I : sI} {J : sJ} {post : Int32 → sI → sJ → Prop} (h : sOK X cX12_blind RX12 4 4 114) (hr : sRt X (some .int) (sPi post)) (hw : w_X12_blind a1 a2 I J post) : sG X 4 0 [(0, .ref 248), (1, .int a1), (2, .int a2)] [] I J := by
  unfold w_X12_blind at hw
  refine g_aload_n h rfl 0 rfl dX12_blind_0 ?_
  refine g_iconst (v := 0) h (by decide) dX12_blind_1 ?_
  refine g_putI h is_248 fl_X12_1 rfl rfl dX12_blind_2 ?_
  refine g_nI (fun I_2 eI_2 => ?_)
  replace hw := hw I_2 eI_2
  refine g_aload_n h rfl 0 rfl dX12_blind_5 ?_
  refine g_iload_n h rfl 1 rfl dX12_blind_6 ?_
  refine g_callV [.int a1] h (c_X12_isAsked X hw) sPi_v mw_X12_isAsked lk_X12_196 is_248 rfl rfl ⟨by decide, by decide⟩ (Nat.le_of_ble_eq_true rfl) dX12_blind_7 (sPi_k (fun r_7 I_7 J_7 hw => ?_))
  refine g_if_eq (tgt := 25) h (by decide) dX12_blind_10 (fun q10 => ?_) (fun q10 => ?_)
  · replace hw := hw.1 q10
    refine g_iconst (v := (-1)) h (by decide) dX12_blind_25 ?_
    exact g_iret h hr dX12_blind_26 hw
  · replace hw := hw.2 q10
    refine g_iload_n h rfl 2 rfl dX12_blind_13 ?_
    refine g_i2l h dX12_blind_14 ?_
    refine g_lconst (v := 0) h (by decide) dX12_blind_15 ?_
    refine g_ldc2 h lc_X12_240 dX12_blind_16 ?_
    refine g_callS [.long (Int32.toInt64 a2), .long 0, .long 4095] h (c_X12_in X hw) sPi_v mw_X12_in lk_X12_29 rfl ⟨by decide, by decide⟩ (Nat.le_of_ble_eq_true rfl) dX12_blind_19 (sPi_k (fun r_19 I_19 J_19 hw => ?_))
    refine g_if_ne (tgt := 27) h (by decide) dX12_blind_22 (fun q22 => ?_) (fun q22 => ?_)
    · replace hw := hw.1 q22
      refine g_aload_n h rfl 0 rfl dX12_blind_27 ?_
      refine g_aload_n h rfl 0 rfl dX12_blind_28 ?_
      refine g_get h is_248 fl_X12_76 rfl dX12_blind_29 ?_
      refine g_callV [.int (I_19 248 11)] h (c_X12_takesDisc X hw) sPv_v mw_X12_takesDisc lk_X12_185 is_248 rfl rfl ⟨by decide, by decide⟩ (Nat.le_of_ble_eq_true rfl) dX12_blind_32 (sPv_k (fun I_32 J_32 hw => ?_))
      refine g_iconst (v := 0) h (by decide) dX12_blind_35 ?_
      refine g_istore_n (lo2 := [(3, .int 0), (0, .ref 248), (1, .int a1), (2, .int a2)]) h rfl (by decide) rfl dX12_blind_36 ?_
      exact g_sub [1, 2, 3, 0] rfl (t_X12_blind_37 h hr hw)
    · replace hw := hw.2 q22
      refine g_iconst (v := (-1)) h (by decide) dX12_blind_25 ?_
      exact g_iret h hr dX12_blind_26 hw
theorem c_X12_blind (X : sX) {a1 : Int32} {a2 : Int32} {I : sI} {J : sJ} {post : Int32 → sI → sJ → Prop} (hw : w_X12_blind a1 a2 I J post) : sCall X yX12_blind cX12_blind 4 (some .int) 4 114 [.ref 248, .int a1, .int a2] I J (sPi post) := sCall_of (by decide +kernel) (Nat.le_of_ble_eq_true rfl) (fun X h hr => t_X12_blind h hr hw)
