theorem dX11_rhyme_0 : decode cX11_rhyme 0 = .ok (.iload_n 1, 1) := by decide +kernel
theorem dX11_rhyme_1 : decode cX11_rhyme 1 = .ok (.ifCond .lt 18, 3) := by decide +kernel
theorem dX11_rhyme_4 : decode cX11_rhyme 4 = .ok (.iload_n 1, 1) := by decide +kernel
theorem dX11_rhyme_5 : decode cX11_rhyme 5 = .ok (.iconst 1, 1) := by decide +kernel
theorem dX11_rhyme_6 : decode cX11_rhyme 6 = .ok (.if_icmp .gt 13, 3) := by decide +kernel
theorem dX11_rhyme_9 : decode cX11_rhyme 9 = .ok (.iload_n 2, 1) := by decide +kernel
theorem dX11_rhyme_10 : decode cX11_rhyme 10 = .ok (.iconst 1, 1) := by decide +kernel
theorem dX11_rhyme_11 : decode cX11_rhyme 11 = .ok (.if_icmp .lt 8, 3) := by decide +kernel
theorem dX11_rhyme_14 : decode cX11_rhyme 14 = .ok (.iload_n 2, 1) := by decide +kernel
theorem dX11_rhyme_15 : decode cX11_rhyme 15 = .ok (.iconst 3, 1) := by decide +kernel
theorem dX11_rhyme_16 : decode cX11_rhyme 16 = .ok (.if_icmp .le 5, 3) := by decide +kernel
theorem dX11_rhyme_19 : decode cX11_rhyme 19 = .ok (.iconst (-1), 1) := by decide +kernel
theorem dX11_rhyme_20 : decode cX11_rhyme 20 = .ok (.ireturn, 1) := by decide +kernel
theorem dX11_rhyme_21 : decode cX11_rhyme 21 = .ok (.aload_n 0, 1) := by decide +kernel
theorem dX11_rhyme_22 : decode cX11_rhyme 22 = .ok (.getfield 19, 3) := by decide +kernel
theorem dX11_rhyme_25 : decode cX11_rhyme 25 = .ok (.getfield 117, 3) := by decide +kernel
theorem dX11_rhyme_28 : decode cX11_rhyme 28 = .ok (.astore_n 3, 1) := by decide +kernel
theorem dX11_rhyme_29 : decode cX11_rhyme 29 = .ok (.iconst 0, 1) := by decide +kernel
theorem dX11_rhyme_30 : decode cX11_rhyme 30 = .ok (.istore 4, 2) := by decide +kernel
theorem dX11_rhyme_32 : decode cX11_rhyme 32 = .ok (.iconst 0, 1) := by decide +kernel
theorem dX11_rhyme_33 : decode cX11_rhyme 33 = .ok (.istore 5, 2) := by decide +kernel
theorem dX11_rhyme_35 : decode cX11_rhyme 35 = .ok (.iconst 0, 1) := by decide +kernel
theorem dX11_rhyme_36 : decode cX11_rhyme 36 = .ok (.istore 6, 2) := by decide +kernel
theorem dX11_rhyme_38 : decode cX11_rhyme 38 = .ok (.iload 6, 2) := by decide +kernel
theorem dX11_rhyme_40 : decode cX11_rhyme 40 = .ok (.aload_n 3, 1) := by decide +kernel
theorem dX11_rhyme_41 : decode cX11_rhyme 41 = .ok (.getfield 131, 3) := by decide +kernel
theorem dX11_rhyme_44 : decode cX11_rhyme 44 = .ok (.if_icmp .ge 80, 3) := by decide +kernel
theorem dX11_rhyme_47 : decode cX11_rhyme 47 = .ok (.iload 6, 2) := by decide +kernel
theorem dX11_rhyme_49 : decode cX11_rhyme 49 = .ok (.iconst 1, 1) := by decide +kernel
theorem dX11_rhyme_50 : decode cX11_rhyme 50 = .ok (.iadd, 1) := by decide +kernel
theorem dX11_rhyme_51 : decode cX11_rhyme 51 = .ok (.istore 7, 2) := by decide +kernel
theorem dX11_rhyme_53 : decode cX11_rhyme 53 = .ok (.iload 7, 2) := by decide +kernel
theorem dX11_rhyme_55 : decode cX11_rhyme 55 = .ok (.aload_n 3, 1) := by decide +kernel
theorem dX11_rhyme_56 : decode cX11_rhyme 56 = .ok (.getfield 131, 3) := by decide +kernel
theorem dX11_rhyme_59 : decode cX11_rhyme 59 = .ok (.if_icmp .ge 59, 3) := by decide +kernel
theorem dX11_rhyme_62 : decode cX11_rhyme 62 = .ok (.aload_n 3, 1) := by decide +kernel
theorem dX11_rhyme_63 : decode cX11_rhyme 63 = .ok (.iload 6, 2) := by decide +kernel
theorem dX11_rhyme_65 : decode cX11_rhyme 65 = .ok (.invokevirtual 364, 3) := by decide +kernel
theorem dX11_rhyme_68 : decode cX11_rhyme 68 = .ok (.iload_n 2, 1) := by decide +kernel
theorem dX11_rhyme_69 : decode cX11_rhyme 69 = .ok (.if_icmp .lt 43, 3) := by decide +kernel
theorem dX11_rhyme_72 : decode cX11_rhyme 72 = .ok (.aload_n 3, 1) := by decide +kernel
theorem dX11_rhyme_73 : decode cX11_rhyme 73 = .ok (.iload 7, 2) := by decide +kernel
theorem dX11_rhyme_75 : decode cX11_rhyme 75 = .ok (.invokevirtual 364, 3) := by decide +kernel
theorem dX11_rhyme_78 : decode cX11_rhyme 78 = .ok (.iload_n 2, 1) := by decide +kernel
theorem dX11_rhyme_79 : decode cX11_rhyme 79 = .ok (.if_icmp .lt 33, 3) := by decide +kernel
theorem dX11_rhyme_82 : decode cX11_rhyme 82 = .ok (.aload_n 0, 1) := by decide +kernel
theorem dX11_rhyme_83 : decode cX11_rhyme 83 = .ok (.iload 6, 2) := by decide +kernel
theorem dX11_rhyme_85 : decode cX11_rhyme 85 = .ok (.iload 7, 2) := by decide +kernel
theorem dX11_rhyme_87 : decode cX11_rhyme 87 = .ok (.iload_n 1, 1) := by decide +kernel
theorem dX11_rhyme_88 : decode cX11_rhyme 88 = .ok (.iload_n 2, 1) := by decide +kernel
theorem dX11_rhyme_89 : decode cX11_rhyme 89 = .ok (.invokevirtual 367, 3) := by decide +kernel
theorem dX11_rhyme_92 : decode cX11_rhyme 92 = .ok (.ifCond .eq 20, 3) := by decide +kernel
theorem dX11_rhyme_95 : decode cX11_rhyme 95 = .ok (.iinc 4 1, 3) := by decide +kernel
theorem dX11_rhyme_98 : decode cX11_rhyme 98 = .ok (.iload 5, 2) := by decide +kernel
theorem dX11_rhyme_100 : decode cX11_rhyme 100 = .ok (.iconst 1, 1) := by decide +kernel
theorem dX11_rhyme_101 : decode cX11_rhyme 101 = .ok (.iload 6, 2) := by decide +kernel
theorem dX11_rhyme_103 : decode cX11_rhyme 103 = .ok (.ishl, 1) := by decide +kernel
theorem dX11_rhyme_104 : decode cX11_rhyme 104 = .ok (.iconst 1, 1) := by decide +kernel
theorem dX11_rhyme_105 : decode cX11_rhyme 105 = .ok (.iload 7, 2) := by decide +kernel
theorem dX11_rhyme_107 : decode cX11_rhyme 107 = .ok (.ishl, 1) := by decide +kernel
theorem dX11_rhyme_108 : decode cX11_rhyme 108 = .ok (.ior, 1) := by decide +kernel
theorem dX11_rhyme_109 : decode cX11_rhyme 109 = .ok (.ior, 1) := by decide +kernel
theorem dX11_rhyme_110 : decode cX11_rhyme 110 = .ok (.istore 5, 2) := by decide +kernel
theorem dX11_rhyme_112 : decode cX11_rhyme 112 = .ok (.iinc 7 1, 3) := by decide +kernel
theorem dX11_rhyme_115 : decode cX11_rhyme 115 = .ok (.goto (-62), 3) := by decide +kernel
theorem dX11_rhyme_118 : decode cX11_rhyme 118 = .ok (.iinc 6 1, 3) := by decide +kernel
theorem dX11_rhyme_121 : decode cX11_rhyme 121 = .ok (.goto (-83), 3) := by decide +kernel
theorem dX11_rhyme_124 : decode cX11_rhyme 124 = .ok (.aload_n 0, 1) := by decide +kernel
theorem dX11_rhyme_125 : decode cX11_rhyme 125 = .ok (.getfield 41, 3) := by decide +kernel
theorem dX11_rhyme_128 : decode cX11_rhyme 128 = .ok (.iload 5, 2) := by decide +kernel
theorem dX11_rhyme_130 : decode cX11_rhyme 130 = .ok (.i2l, 1) := by decide +kernel
theorem dX11_rhyme_131 : decode cX11_rhyme 131 = .ok (.invokevirtual 256, 3) := by decide +kernel
theorem dX11_rhyme_134 : decode cX11_rhyme 134 = .ok (.iload 4, 2) := by decide +kernel
theorem dX11_rhyme_136 : decode cX11_rhyme 136 = .ok (.ireturn, 1) := by decide +kernel
def w_X11_rhyme_112 (post : Int32 → sI → sJ → Prop) (k38 : Int32 → Int32 → Int32 → Int32 → Int32 → sI → sJ → Prop) (k53 : Int32 → Int32 → Int32 → Int32 → Int32 → Int32 → sI → sJ → Prop) (x1 : Int32) (x2 : Int32) (x4 : Int32) (x5 : Int32) (x6 : Int32) (x7 : Int32) (I : sI) (J : sJ) : Prop :=
  (∀ v7_112 : Int32, v7_112 = x7 + 1 → k53 x1 x2 x4 x5 x6 v7_112 I J)
set_option maxHeartbeats 4000000 in
set_option maxRecDepth 100000 in
theorem t_X11_rhyme_112 {X : sX} {post : Int32 → sI → sJ → Prop} (h : sOK X cX11_rhyme RX11 8 2 51) (hr : sRt X (some .int) (sPi post)) {k38 : Int32 → Int32 → Int32 → Int32 → Int32 → sI → sJ → Prop} (hk38 : ∀ (x1 : Int32) (x2 : Int32) (x4 : Int32) (x5 : Int32) (x6 : Int32) (I : sI) (J : sJ), k38 x1 x2 x4 x5 x6 I J → sG X 8 38 [(0, .ref 0), (1, .int x1), (2, .int x2), (3, .ref 4), (4, .int x4), (5, .int x5), (6, .int x6)] [] I J) {k53 : Int32 → Int32 → Int32 → Int32 → Int32 → Int32 → sI → sJ → Prop} (hk53 : ∀ (x1 : Int32) (x2 : Int32) (x4 : Int32) (x5 : Int32) (x6 : Int32) (x7 : Int32) (I : sI) (J : sJ), k53 x1 x2 x4 x5 x6 x7 I J → sG X 8 53 [(0, .ref 0), (1, .int x1), (2, .int x2), (3, .ref 4), (4, .int x4), (5, .int x5), (6, .int x6), (7, .int x7)] [] I J) {x1 : Int32} {x2 : Int32} {x4 : Int32} {x5 : Int32} {x6 : Int32} {x7 : Int32} {I : sI} {J : sJ} (hw : w_X11_rhyme_112 post k38 k53 x1 x2 x4 x5 x6 x7 I J) : sG X 8 112 [(0, .ref 0), (1, .int x1), (2, .int x2), (3, .ref 4), (4, .int x4), (5, .int x5), (6, .int x6), (7, .int x7)] [] I J := by
  unfold w_X11_rhyme_112 at hw
  obtain ⟨v7_112, ev7_112⟩ : ∃ z : Int32, z = x7 + 1 := ⟨_, rfl⟩
  replace hw := hw v7_112 ev7_112
  refine g_iinc (v := v7_112) (lo2 := [(7, .int v7_112), (0, .ref 0), (1, .int x1), (2, .int x2), (3, .ref 4), (4, .int x4), (5, .int x5), (6, .int x6)]) h 7 rfl (by rw [ev7_112]; rfl) (by decide) rfl dX11_rhyme_112 ?_
  refine g_goto (tgt := 53) h (by decide) dX11_rhyme_115 ?_
  exact g_sub [1, 2, 3, 4, 5, 6, 7, 0] rfl (hk53 _ _ _ _ _ _ _ _ hw)
def w_X11_rhyme_53_s (post : Int32 → sI → sJ → Prop) (k38 : Int32 → Int32 → Int32 → Int32 → Int32 → sI → sJ → Prop) (k53 : Int32 → Int32 → Int32 → Int32 → Int32 → Int32 → sI → sJ → Prop) (x1 : Int32) (x2 : Int32) (x4 : Int32) (x5 : Int32) (x6 : Int32) (x7 : Int32) (I : sI) (J : sJ) : Prop :=
  (((I 4 3) ≤ x7 → (∀ v6_118 : Int32, v6_118 = x6 + 1 → k38 x1 x2 x4 x5 v6_118 I J)) ∧ (¬ (I 4 3) ≤ x7 → w_X2_lengthOf 4 x6 I J (fun (r_65 : Int32) (I_65 : sI) (J_65 : sJ) => (((r_65 < x2 → w_X11_rhyme_112 post k38 k53 x1 x2 x4 x5 x6 x7 I_65 J_65) ∧ (¬ r_65 < x2 → w_X2_lengthOf 4 x7 I_65 J_65 (fun (r_75 : Int32) (I_75 : sI) (J_75 : sJ) => (((r_75 < x2 → w_X11_rhyme_112 post k38 k53 x1 x2 x4 x5 x6 x7 I_75 J_75) ∧ (¬ r_75 < x2 → w_X11_rhymes x6 x7 x1 x2 I_75 J_75 (fun (r_89 : Int32) (I_89 : sI) (J_89 : sJ) => (((r_89 = 0 → w_X11_rhyme_112 post k38 k53 x1 x2 x4 x5 x6 x7 I_89 J_89) ∧ (¬ r_89 = 0 → (∀ v4_95 : Int32, v4_95 = x4 + 1 → (∀ v5_110 : Int32, v5_110 = x5 ||| ((1 <<< (x6 &&& 31)) ||| (1 <<< (x7 &&& 31))) → w_X11_rhyme_112 post k38 k53 x1 x2 v4_95 v5_110 x6 x7 I_89 J_89))))))))))))))))
def w_X11_rhyme_53_n (post : Int32 → sI → sJ → Prop) (k38 : Int32 → Int32 → Int32 → Int32 → Int32 → sI → sJ → Prop) : Nat → Int32 → Int32 → Int32 → Int32 → Int32 → Int32 → sI → sJ → Prop
  | 0 => fun _ _ _ _ _ _ _ _ => False
  | n + 1 => fun x1 x2 x4 x5 x6 x7 I J => w_X11_rhyme_53_s post k38 (w_X11_rhyme_53_n post k38 n) x1 x2 x4 x5 x6 x7 I J
def w_X11_rhyme_53 (post : Int32 → sI → sJ → Prop) (k38 : Int32 → Int32 → Int32 → Int32 → Int32 → sI → sJ → Prop) (x1 : Int32) (x2 : Int32) (x4 : Int32) (x5 : Int32) (x6 : Int32) (x7 : Int32) (I : sI) (J : sJ) : Prop := ∃ n, w_X11_rhyme_53_n post k38 n x1 x2 x4 x5 x6 x7 I J
set_option maxHeartbeats 4000000 in
set_option maxRecDepth 100000 in
theorem t_X11_rhyme_53_s {X : sX} {post : Int32 → sI → sJ → Prop} (h : sOK X cX11_rhyme RX11 8 2 51) (hr : sRt X (some .int) (sPi post)) {k38 : Int32 → Int32 → Int32 → Int32 → Int32 → sI → sJ → Prop} (hk38 : ∀ (x1 : Int32) (x2 : Int32) (x4 : Int32) (x5 : Int32) (x6 : Int32) (I : sI) (J : sJ), k38 x1 x2 x4 x5 x6 I J → sG X 8 38 [(0, .ref 0), (1, .int x1), (2, .int x2), (3, .ref 4), (4, .int x4), (5, .int x5), (6, .int x6)] [] I J) {k53 : Int32 → Int32 → Int32 → Int32 → Int32 → Int32 → sI → sJ → Prop} (hk53 : ∀ (x1 : Int32) (x2 : Int32) (x4 : Int32) (x5 : Int32) (x6 : Int32) (x7 : Int32) (I : sI) (J : sJ), k53 x1 x2 x4 x5 x6 x7 I J → sG X 8 53 [(0, .ref 0), (1, .int x1), (2, .int x2), (3, .ref 4), (4, .int x4), (5, .int x5), (6, .int x6), (7, .int x7)] [] I J) {x1 : Int32} {x2 : Int32} {x4 : Int32} {x5 : Int32} {x6 : Int32} {x7 : Int32} {I : sI} {J : sJ} (hw : w_X11_rhyme_53_s post k38 k53 x1 x2 x4 x5 x6 x7 I J) : sG X 8 53 [(0, .ref 0), (1, .int x1), (2, .int x2), (3, .ref 4), (4, .int x4), (5, .int x5), (6, .int x6), (7, .int x7)] [] I J := by
  unfold w_X11_rhyme_53_s at hw
  refine g_iload h 7 rfl dX11_rhyme_53 ?_
  refine g_aload_n h rfl 3 rfl dX11_rhyme_55 ?_
  refine g_get h is_4 fl_X11_131 rfl dX11_rhyme_56 ?_
  refine g_icmp_ge (tgt := 118) h (by decide) dX11_rhyme_59 (fun q59 => ?_) (fun q59 => ?_)
  · replace hw := hw.1 q59
    obtain ⟨v6_118, ev6_118⟩ : ∃ z : Int32, z = x6 + 1 := ⟨_, rfl⟩
    replace hw := hw v6_118 ev6_118
    refine g_iinc (v := v6_118) (lo2 := [(6, .int v6_118), (0, .ref 0), (1, .int x1), (2, .int x2), (3, .ref 4), (4, .int x4), (5, .int x5), (7, .int x7)]) h 6 rfl (by rw [ev6_118]; rfl) (by decide) rfl dX11_rhyme_118 ?_
    refine g_goto (tgt := 38) h (by decide) dX11_rhyme_121 ?_
    exact g_sub [1, 2, 3, 4, 5, 6, 0] rfl (hk38 _ _ _ _ _ _ _ hw)
  · replace hw := hw.2 q59
    refine g_aload_n h rfl 3 rfl dX11_rhyme_62 ?_
    refine g_iload h 6 rfl dX11_rhyme_63 ?_
    refine g_callV [.int x6] h (c_X2_lengthOf X is_4 hw) sPi_v mw_X2_lengthOf lk_X11_364 is_4 rfl rfl ⟨by decide, by decide⟩ (Nat.le_of_ble_eq_true rfl) dX11_rhyme_65 (sPi_k (fun r_65 I_65 J_65 hw => ?_))
    refine g_iload_n h rfl 2 rfl dX11_rhyme_68 ?_
    refine g_icmp_lt (tgt := 112) h (by decide) dX11_rhyme_69 (fun q69 => ?_) (fun q69 => ?_)
    · replace hw := hw.1 q69
      exact g_sub [0, 1, 2, 3, 4, 5, 6, 7] rfl (t_X11_rhyme_112 h hr hk38 hk53 hw)
    · replace hw := hw.2 q69
      refine g_aload_n h rfl 3 rfl dX11_rhyme_72 ?_
      refine g_iload h 7 rfl dX11_rhyme_73 ?_
      refine g_callV [.int x7] h (c_X2_lengthOf X is_4 hw) sPi_v mw_X2_lengthOf lk_X11_364 is_4 rfl rfl ⟨by decide, by decide⟩ (Nat.le_of_ble_eq_true rfl) dX11_rhyme_75 (sPi_k (fun r_75 I_75 J_75 hw => ?_))
      refine g_iload_n h rfl 2 rfl dX11_rhyme_78 ?_
      refine g_icmp_lt (tgt := 112) h (by decide) dX11_rhyme_79 (fun q79 => ?_) (fun q79 => ?_)
      · replace hw := hw.1 q79
        exact g_sub [0, 1, 2, 3, 4, 5, 6, 7] rfl (t_X11_rhyme_112 h hr hk38 hk53 hw)
      · replace hw := hw.2 q79
        refine g_aload_n h rfl 0 rfl dX11_rhyme_82 ?_
        refine g_iload h 6 rfl dX11_rhyme_83 ?_
        refine g_iload h 7 rfl dX11_rhyme_85 ?_
        refine g_iload_n h rfl 1 rfl dX11_rhyme_87 ?_
        refine g_iload_n h rfl 2 rfl dX11_rhyme_88 ?_
        refine g_callV [.int x6, .int x7, .int x1, .int x2] h (c_X11_rhymes X hw) sPi_v mw_X11_rhymes lk_X11_367 is_0 rfl rfl ⟨by decide, by decide⟩ (Nat.le_of_ble_eq_true rfl) dX11_rhyme_89 (sPi_k (fun r_89 I_89 J_89 hw => ?_))
        refine g_if_eq (tgt := 112) h (by decide) dX11_rhyme_92 (fun q92 => ?_) (fun q92 => ?_)
        · replace hw := hw.1 q92
          exact g_sub [0, 1, 2, 3, 4, 5, 6, 7] rfl (t_X11_rhyme_112 h hr hk38 hk53 hw)
        · replace hw := hw.2 q92
          obtain ⟨v4_95, ev4_95⟩ : ∃ z : Int32, z = x4 + 1 := ⟨_, rfl⟩
          replace hw := hw v4_95 ev4_95
          refine g_iinc (v := v4_95) (lo2 := [(4, .int v4_95), (0, .ref 0), (1, .int x1), (2, .int x2), (3, .ref 4), (5, .int x5), (6, .int x6), (7, .int x7)]) h 4 rfl (by rw [ev4_95]; rfl) (by decide) rfl dX11_rhyme_95 ?_
          refine g_iload h 5 rfl dX11_rhyme_98 ?_
          refine g_iconst (v := 1) h (by decide) dX11_rhyme_100 ?_
          refine g_iload h 6 rfl dX11_rhyme_101 ?_
          refine g_ishl h dX11_rhyme_103 ?_
          refine g_iconst (v := 1) h (by decide) dX11_rhyme_104 ?_
          refine g_iload h 7 rfl dX11_rhyme_105 ?_
          refine g_ishl h dX11_rhyme_107 ?_
          refine g_ior h dX11_rhyme_108 ?_
          refine g_ior h dX11_rhyme_109 ?_
          refine g_ni (fun v5_110 ev5_110 => ?_)
          replace hw := hw v5_110 ev5_110
          refine g_istore (lo2 := [(5, .int v5_110), (4, .int v4_95), (0, .ref 0), (1, .int x1), (2, .int x2), (3, .ref 4), (6, .int x6), (7, .int x7)]) h (by decide) rfl dX11_rhyme_110 ?_
          exact g_sub [2, 3, 4, 5, 1, 0, 6, 7] rfl (t_X11_rhyme_112 h hr hk38 hk53 hw)
theorem t_X11_rhyme_53 {X : sX} {post : Int32 → sI → sJ → Prop} (h : sOK X cX11_rhyme RX11 8 2 51) (hr : sRt X (some .int) (sPi post)) {k38 : Int32 → Int32 → Int32 → Int32 → Int32 → sI → sJ → Prop} (hk38 : ∀ (x1 : Int32) (x2 : Int32) (x4 : Int32) (x5 : Int32) (x6 : Int32) (I : sI) (J : sJ), k38 x1 x2 x4 x5 x6 I J → sG X 8 38 [(0, .ref 0), (1, .int x1), (2, .int x2), (3, .ref 4), (4, .int x4), (5, .int x5), (6, .int x6)] [] I J) {x1 : Int32} {x2 : Int32} {x4 : Int32} {x5 : Int32} {x6 : Int32} {x7 : Int32} {I : sI} {J : sJ} (hw : w_X11_rhyme_53 post k38 x1 x2 x4 x5 x6 x7 I J) : sG X 8 53 [(0, .ref 0), (1, .int x1), (2, .int x2), (3, .ref 4), (4, .int x4), (5, .int x5), (6, .int x6), (7, .int x7)] [] I J := by
  obtain ⟨n, hw⟩ := hw
  induction n generalizing x1 x2 x4 x5 x6 x7 I J with
  | zero => exact hw.elim
  | succ n ih => exact t_X11_rhyme_53_s h hr hk38 (fun _ _ _ _ _ _ _ _ q => ih q) hw
def w_X11_rhyme_38_s (post : Int32 → sI → sJ → Prop) (k38 : Int32 → Int32 → Int32 → Int32 → Int32 → sI → sJ → Prop) (x1 : Int32) (x2 : Int32) (x4 : Int32) (x5 : Int32) (x6 : Int32) (I : sI) (J : sJ) : Prop :=
  (((I 4 3) ≤ x6 → w_X6_tell 134 (Int32.toInt64 x5) I J (fun (I_131 : sI) (J_131 : sJ) => (post x4 I_131 J_131))) ∧ (¬ (I 4 3) ≤ x6 → (∀ v7_51 : Int32, v7_51 = x6 + 1 → w_X11_rhyme_53 post k38 x1 x2 x4 x5 x6 v7_51 I J)))
def w_X11_rhyme_38_n (post : Int32 → sI → sJ → Prop) : Nat → Int32 → Int32 → Int32 → Int32 → Int32 → sI → sJ → Prop
  | 0 => fun _ _ _ _ _ _ _ => False
  | n + 1 => fun x1 x2 x4 x5 x6 I J => w_X11_rhyme_38_s post (w_X11_rhyme_38_n post n) x1 x2 x4 x5 x6 I J
def w_X11_rhyme_38 (post : Int32 → sI → sJ → Prop) (x1 : Int32) (x2 : Int32) (x4 : Int32) (x5 : Int32) (x6 : Int32) (I : sI) (J : sJ) : Prop := ∃ n, w_X11_rhyme_38_n post n x1 x2 x4 x5 x6 I J
set_option maxHeartbeats 4000000 in
set_option maxRecDepth 100000 in
theorem t_X11_rhyme_38_s {X : sX} {post : Int32 → sI → sJ → Prop} (h : sOK X cX11_rhyme RX11 8 2 51) (hr : sRt X (some .int) (sPi post)) {k38 : Int32 → Int32 → Int32 → Int32 → Int32 → sI → sJ → Prop} (hk38 : ∀ (x1 : Int32) (x2 : Int32) (x4 : Int32) (x5 : Int32) (x6 : Int32) (I : sI) (J : sJ), k38 x1 x2 x4 x5 x6 I J → sG X 8 38 [(0, .ref 0), (1, .int x1), (2, .int x2), (3, .ref 4), (4, .int x4), (5, .int x5), (6, .int x6)] [] I J) {x1 : Int32} {x2 : Int32} {x4 : Int32} {x5 : Int32} {x6 : Int32} {I : sI} {J : sJ} (hw : w_X11_rhyme_38_s post k38 x1 x2 x4 x5 x6 I J) : sG X 8 38 [(0, .ref 0), (1, .int x1), (2, .int x2), (3, .ref 4), (4, .int x4), (5, .int x5), (6, .int x6)] [] I J := by
  unfold w_X11_rhyme_38_s at hw
  refine g_iload h 6 rfl dX11_rhyme_38 ?_
  refine g_aload_n h rfl 3 rfl dX11_rhyme_40 ?_
  refine g_get h is_4 fl_X11_131 rfl dX11_rhyme_41 ?_
  refine g_icmp_ge (tgt := 124) h (by decide) dX11_rhyme_44 (fun q44 => ?_) (fun q44 => ?_)
  · replace hw := hw.1 q44
    refine g_aload_n h rfl 0 rfl dX11_rhyme_124 ?_
    refine g_get h is_0 fl_X11_41 fr_0_5 dX11_rhyme_125 ?_
    refine g_iload h 5 rfl dX11_rhyme_128 ?_
    refine g_i2l h dX11_rhyme_130 ?_
    refine g_callV [.long (Int32.toInt64 x5)] h (c_X6_tell X is_134 hw) sPv_v mw_X6_tell lk_X11_256 is_134 rfl rfl ⟨by decide, by decide⟩ (Nat.le_of_ble_eq_true rfl) dX11_rhyme_131 (sPv_k (fun I_131 J_131 hw => ?_))
    refine g_iload h 4 rfl dX11_rhyme_134 ?_
    exact g_iret h hr dX11_rhyme_136 hw
  · replace hw := hw.2 q44
    refine g_iload h 6 rfl dX11_rhyme_47 ?_
    refine g_iconst (v := 1) h (by decide) dX11_rhyme_49 ?_
    refine g_iadd h dX11_rhyme_50 ?_
    refine g_ni (fun v7_51 ev7_51 => ?_)
    replace hw := hw v7_51 ev7_51
    refine g_istore (lo2 := [(7, .int v7_51), (0, .ref 0), (1, .int x1), (2, .int x2), (3, .ref 4), (4, .int x4), (5, .int x5), (6, .int x6)]) h (by decide) rfl dX11_rhyme_51 ?_
    exact g_sub [1, 2, 3, 4, 5, 6, 7, 0] rfl (t_X11_rhyme_53 h hr hk38 hw)
theorem t_X11_rhyme_38 {X : sX} {post : Int32 → sI → sJ → Prop} (h : sOK X cX11_rhyme RX11 8 2 51) (hr : sRt X (some .int) (sPi post)) {x1 : Int32} {x2 : Int32} {x4 : Int32} {x5 : Int32} {x6 : Int32} {I : sI} {J : sJ} (hw : w_X11_rhyme_38 post x1 x2 x4 x5 x6 I J) : sG X 8 38 [(0, .ref 0), (1, .int x1), (2, .int x2), (3, .ref 4), (4, .int x4), (5, .int x5), (6, .int x6)] [] I J := by
  obtain ⟨n, hw⟩ := hw
  induction n generalizing x1 x2 x4 x5 x6 I J with
  | zero => exact hw.elim
  | succ n ih => exact t_X11_rhyme_38_s h hr (fun _ _ _ _ _ _ _ q => ih q) hw
def w_X11_rhyme (a1 : Int32) (a2 : Int32) (I : sI) (J : sJ) (post : Int32 → sI → sJ → Prop) : Prop :=
  ((a1 < 0 → post (-1) I J) ∧ (¬ a1 < 0 → ((1 < a1 → post (-1) I J) ∧ (¬ 1 < a1 → ((a2 < 1 → post (-1) I J) ∧ (¬ a2 < 1 → ((a2 ≤ 3 → w_X11_rhyme_38 post a1 a2 0 0 0 I J) ∧ (¬ a2 ≤ 3 → post (-1) I J))))))))
set_option maxHeartbeats 4000000 in
set_option maxRecDepth 100000 in
theorem t_X11_rhyme {X : sX} {a1 : Int32} {a2 : Int32} {I : sI} {J : sJ} {post : Int32 → sI → sJ → Prop} (h : sOK X cX11_rhyme RX11 8 2 51) (hr : sRt X (some .int) (sPi post)) (hw : w_X11_rhyme a1 a2 I J post) : sG X 8 0 [(0, .ref 0), (1, .int a1), (2, .int a2)] [] I J := by
  unfold w_X11_rhyme at hw
  refine g_iload_n h rfl 1 rfl dX11_rhyme_0 ?_
  refine g_if_lt (tgt := 19) h (by decide) dX11_rhyme_1 (fun q1 => ?_) (fun q1 => ?_)
  · replace hw := hw.1 q1
    refine g_iconst (v := (-1)) h (by decide) dX11_rhyme_19 ?_
    exact g_iret h hr dX11_rhyme_20 hw
  · replace hw := hw.2 q1
    refine g_iload_n h rfl 1 rfl dX11_rhyme_4 ?_
    refine g_iconst (v := 1) h (by decide) dX11_rhyme_5 ?_
    refine g_icmp_gt (tgt := 19) h (by decide) dX11_rhyme_6 (fun q6 => ?_) (fun q6 => ?_)
    · replace hw := hw.1 q6
      refine g_iconst (v := (-1)) h (by decide) dX11_rhyme_19 ?_
      exact g_iret h hr dX11_rhyme_20 hw
    · replace hw := hw.2 q6
      refine g_iload_n h rfl 2 rfl dX11_rhyme_9 ?_
      refine g_iconst (v := 1) h (by decide) dX11_rhyme_10 ?_
      refine g_icmp_lt (tgt := 19) h (by decide) dX11_rhyme_11 (fun q11 => ?_) (fun q11 => ?_)
      · replace hw := hw.1 q11
        refine g_iconst (v := (-1)) h (by decide) dX11_rhyme_19 ?_
        exact g_iret h hr dX11_rhyme_20 hw
      · replace hw := hw.2 q11
        refine g_iload_n h rfl 2 rfl dX11_rhyme_14 ?_
        refine g_iconst (v := 3) h (by decide) dX11_rhyme_15 ?_
        refine g_icmp_le (tgt := 21) h (by decide) dX11_rhyme_16 (fun q16 => ?_) (fun q16 => ?_)
        · replace hw := hw.1 q16
          refine g_aload_n h rfl 0 rfl dX11_rhyme_21 ?_
          refine g_get h is_0 fl_X11_19 fr_0_1 dX11_rhyme_22 ?_
          refine g_get h is_3 fl_X11_117 fr_3_0 dX11_rhyme_25 ?_
          refine g_astore_n (lo2 := [(3, .ref 4), (0, .ref 0), (1, .int a1), (2, .int a2)]) h rfl (by decide) rfl dX11_rhyme_28 ?_
          refine g_iconst (v := 0) h (by decide) dX11_rhyme_29 ?_
          refine g_istore (lo2 := [(4, .int 0), (3, .ref 4), (0, .ref 0), (1, .int a1), (2, .int a2)]) h (by decide) rfl dX11_rhyme_30 ?_
          refine g_iconst (v := 0) h (by decide) dX11_rhyme_32 ?_
          refine g_istore (lo2 := [(5, .int 0), (4, .int 0), (3, .ref 4), (0, .ref 0), (1, .int a1), (2, .int a2)]) h (by decide) rfl dX11_rhyme_33 ?_
          refine g_iconst (v := 0) h (by decide) dX11_rhyme_35 ?_
          refine g_istore (lo2 := [(6, .int 0), (5, .int 0), (4, .int 0), (3, .ref 4), (0, .ref 0), (1, .int a1), (2, .int a2)]) h (by decide) rfl dX11_rhyme_36 ?_
          exact g_sub [4, 5, 6, 3, 2, 1, 0] rfl (t_X11_rhyme_38 h hr hw)
        · replace hw := hw.2 q16
          refine g_iconst (v := (-1)) h (by decide) dX11_rhyme_19 ?_
          exact g_iret h hr dX11_rhyme_20 hw
theorem c_X11_rhyme (X : sX) {a1 : Int32} {a2 : Int32} {I : sI} {J : sJ} {post : Int32 → sI → sJ → Prop} (hw : w_X11_rhyme a1 a2 I J post) : sCall X yX11_rhyme cX11_rhyme 8 (some .int) 2 51 [.ref 0, .int a1, .int a2] I J (sPi post) := sCall_of (by decide +kernel) (Nat.le_of_ble_eq_true rfl) (fun X h hr => t_X11_rhyme h hr hw)
theorem dX11_axe_0 : decode cX11_axe 0 = .ok (.iload_n 1, 1) := by decide +kernel
theorem dX11_axe_1 : decode cX11_axe 1 = .ok (.iconst 1, 1) := by decide +kernel
theorem dX11_axe_2 : decode cX11_axe 2 = .ok (.if_icmp .lt 38, 3) := by decide +kernel
theorem dX11_axe_5 : decode cX11_axe 5 = .ok (.iload_n 1, 1) := by decide +kernel
theorem dX11_axe_6 : decode cX11_axe 6 = .ok (.bipush 45, 2) := by decide +kernel
theorem dX11_axe_8 : decode cX11_axe 8 = .ok (.if_icmp .gt 32, 3) := by decide +kernel
theorem dX11_axe_11 : decode cX11_axe 11 = .ok (.iload_n 2, 1) := by decide +kernel
theorem dX11_axe_12 : decode cX11_axe 12 = .ok (.ifCond .lt 28, 3) := by decide +kernel
theorem dX11_axe_15 : decode cX11_axe 15 = .ok (.iload_n 2, 1) := by decide +kernel
theorem dX11_axe_16 : decode cX11_axe 16 = .ok (.iload_n 1, 1) := by decide +kernel
theorem dX11_axe_17 : decode cX11_axe 17 = .ok (.if_icmp .gt 23, 3) := by decide +kernel
theorem dX11_axe_20 : decode cX11_axe 20 = .ok (.iload_n 3, 1) := by decide +kernel
theorem dX11_axe_21 : decode cX11_axe 21 = .ok (.ifCond .lt 19, 3) := by decide +kernel
theorem dX11_axe_24 : decode cX11_axe 24 = .ok (.iload_n 3, 1) := by decide +kernel
theorem dX11_axe_25 : decode cX11_axe 25 = .ok (.iload_n 1, 1) := by decide +kernel
theorem dX11_axe_26 : decode cX11_axe 26 = .ok (.if_icmp .gt 14, 3) := by decide +kernel
theorem dX11_axe_29 : decode cX11_axe 29 = .ok (.iload 4, 2) := by decide +kernel
theorem dX11_axe_31 : decode cX11_axe 31 = .ok (.ifCond .lt 9, 3) := by decide +kernel
theorem dX11_axe_34 : decode cX11_axe 34 = .ok (.iload 4, 2) := by decide +kernel
theorem dX11_axe_36 : decode cX11_axe 36 = .ok (.iload_n 3, 1) := by decide +kernel
theorem dX11_axe_37 : decode cX11_axe 37 = .ok (.if_icmp .le 5, 3) := by decide +kernel
theorem dX11_axe_40 : decode cX11_axe 40 = .ok (.iconst (-1), 1) := by decide +kernel
theorem dX11_axe_41 : decode cX11_axe 41 = .ok (.ireturn, 1) := by decide +kernel
theorem dX11_axe_42 : decode cX11_axe 42 = .ok (.lconst 0, 1) := by decide +kernel
theorem dX11_axe_43 : decode cX11_axe 43 = .ok (.lstore 5, 2) := by decide +kernel
theorem dX11_axe_45 : decode cX11_axe 45 = .ok (.iload 4, 2) := by decide +kernel
theorem dX11_axe_47 : decode cX11_axe 47 = .ok (.istore 7, 2) := by decide +kernel
theorem dX11_axe_49 : decode cX11_axe 49 = .ok (.iload 7, 2) := by decide +kernel
theorem dX11_axe_51 : decode cX11_axe 51 = .ok (.iload_n 3, 1) := by decide +kernel
theorem dX11_axe_52 : decode cX11_axe 52 = .ok (.if_icmp .gt 31, 3) := by decide +kernel
theorem dX11_axe_55 : decode cX11_axe 55 = .ok (.lload 5, 2) := by decide +kernel
theorem dX11_axe_57 : decode cX11_axe 57 = .ok (.iload_n 2, 1) := by decide +kernel
theorem dX11_axe_58 : decode cX11_axe 58 = .ok (.iload 7, 2) := by decide +kernel
theorem dX11_axe_60 : decode cX11_axe 60 = .ok (.invokestatic 326, 3) := by decide +kernel
theorem dX11_axe_63 : decode cX11_axe 63 = .ok (.iload_n 1, 1) := by decide +kernel
theorem dX11_axe_64 : decode cX11_axe 64 = .ok (.iload_n 2, 1) := by decide +kernel
theorem dX11_axe_65 : decode cX11_axe 65 = .ok (.isub, 1) := by decide +kernel
theorem dX11_axe_66 : decode cX11_axe 66 = .ok (.iload_n 3, 1) := by decide +kernel
theorem dX11_axe_67 : decode cX11_axe 67 = .ok (.iload 7, 2) := by decide +kernel
theorem dX11_axe_69 : decode cX11_axe 69 = .ok (.isub, 1) := by decide +kernel
theorem dX11_axe_70 : decode cX11_axe 70 = .ok (.invokestatic 326, 3) := by decide +kernel
theorem dX11_axe_73 : decode cX11_axe 73 = .ok (.lmul, 1) := by decide +kernel
theorem dX11_axe_74 : decode cX11_axe 74 = .ok (.ladd, 1) := by decide +kernel
theorem dX11_axe_75 : decode cX11_axe 75 = .ok (.lstore 5, 2) := by decide +kernel
theorem dX11_axe_77 : decode cX11_axe 77 = .ok (.iinc 7 1, 3) := by decide +kernel
theorem dX11_axe_80 : decode cX11_axe 80 = .ok (.goto (-31), 3) := by decide +kernel
theorem dX11_axe_83 : decode cX11_axe 83 = .ok (.aload_n 0, 1) := by decide +kernel
theorem dX11_axe_84 : decode cX11_axe 84 = .ok (.getfield 41, 3) := by decide +kernel
theorem dX11_axe_87 : decode cX11_axe 87 = .ok (.lload 5, 2) := by decide +kernel
theorem dX11_axe_89 : decode cX11_axe 89 = .ok (.iload_n 1, 1) := by decide +kernel
theorem dX11_axe_90 : decode cX11_axe 90 = .ok (.iload_n 3, 1) := by decide +kernel
theorem dX11_axe_91 : decode cX11_axe 91 = .ok (.invokestatic 326, 3) := by decide +kernel
theorem dX11_axe_94 : decode cX11_axe 94 = .ok (.invokevirtual 302, 3) := by decide +kernel
theorem dX11_axe_97 : decode cX11_axe 97 = .ok (.iconst 0, 1) := by decide +kernel
theorem dX11_axe_98 : decode cX11_axe 98 = .ok (.ireturn, 1) := by decide +kernel
def w_X11_axe_49_s (post : Int32 → sI → sJ → Prop) (k49 : Int32 → Int32 → Int32 → Int64 → Int32 → sI → sJ → Prop) (x1 : Int32) (x2 : Int32) (x3 : Int32) (x5 : Int64) (x7 : Int32) (I : sI) (J : sJ) : Prop :=
  ((x3 < x7 → w_X11_choose x1 x3 I J (fun (r_91 : Int64) (I_91 : sI) (J_91 : sJ) => (w_X6_tellFraction 134 x5 r_91 I_91 J_91 (fun (I_94 : sI) (J_94 : sJ) => (post 0 I_94 J_94))))) ∧ (¬ x3 < x7 → w_X11_choose x2 x7 I J (fun (r_60 : Int64) (I_60 : sI) (J_60 : sJ) => (w_X11_choose (x1 - x2) (x3 - x7) I_60 J_60 (fun (r_70 : Int64) (I_70 : sI) (J_70 : sJ) => ((∀ v5_75 : Int64, v5_75 = x5 + (r_60 * r_70) → (∀ v7_77 : Int32, v7_77 = x7 + 1 → k49 x1 x2 x3 v5_75 v7_77 I_70 J_70))))))))
def w_X11_axe_49_n (post : Int32 → sI → sJ → Prop) : Nat → Int32 → Int32 → Int32 → Int64 → Int32 → sI → sJ → Prop
  | 0 => fun _ _ _ _ _ _ _ => False
  | n + 1 => fun x1 x2 x3 x5 x7 I J => w_X11_axe_49_s post (w_X11_axe_49_n post n) x1 x2 x3 x5 x7 I J
def w_X11_axe_49 (post : Int32 → sI → sJ → Prop) (x1 : Int32) (x2 : Int32) (x3 : Int32) (x5 : Int64) (x7 : Int32) (I : sI) (J : sJ) : Prop := ∃ n, w_X11_axe_49_n post n x1 x2 x3 x5 x7 I J
set_option maxHeartbeats 4000000 in
set_option maxRecDepth 100000 in
theorem t_X11_axe_49_s {X : sX} {post : Int32 → sI → sJ → Prop} (h : sOK X cX11_axe RX11 8 4 94) (hr : sRt X (some .int) (sPi post)) {k49 : Int32 → Int32 → Int32 → Int64 → Int32 → sI → sJ → Prop} (hk49 : ∀ (x1 : Int32) (x2 : Int32) (x3 : Int32) (x5 : Int64) (x7 : Int32) (I : sI) (J : sJ), k49 x1 x2 x3 x5 x7 I J → sG X 8 49 [(0, .ref 0), (1, .int x1), (2, .int x2), (3, .int x3), (5, .long x5), (7, .int x7)] [] I J) {x1 : Int32} {x2 : Int32} {x3 : Int32} {x5 : Int64} {x7 : Int32} {I : sI} {J : sJ} (hw : w_X11_axe_49_s post k49 x1 x2 x3 x5 x7 I J) : sG X 8 49 [(0, .ref 0), (1, .int x1), (2, .int x2), (3, .int x3), (5, .long x5), (7, .int x7)] [] I J := by
  unfold w_X11_axe_49_s at hw
  refine g_iload h 5 rfl dX11_axe_49 ?_
  refine g_iload_n h rfl 3 rfl dX11_axe_51 ?_
  refine g_icmp_gt (tgt := 83) h (by decide) dX11_axe_52 (fun q52 => ?_) (fun q52 => ?_)
  · replace hw := hw.1 q52
    refine g_aload_n h rfl 0 rfl dX11_axe_83 ?_
    refine g_get h is_0 fl_X11_41 fr_0_5 dX11_axe_84 ?_
    refine g_lload h 4 rfl dX11_axe_87 ?_
    refine g_iload_n h rfl 1 rfl dX11_axe_89 ?_
    refine g_iload_n h rfl 3 rfl dX11_axe_90 ?_
    refine g_callS [.int x1, .int x3] h (c_X11_choose X hw) sPl_v mw_X11_choose lk_X11_326 rfl ⟨by decide, by decide⟩ (Nat.le_of_ble_eq_true rfl) dX11_axe_91 (sPl_k (fun r_91 I_91 J_91 hw => ?_))
    refine g_callV [.long x5, .long r_91] h (c_X6_tellFraction X is_134 hw) sPv_v mw_X6_tellFraction lk_X11_302 is_134 rfl rfl ⟨by decide, by decide⟩ (Nat.le_of_ble_eq_true rfl) dX11_axe_94 (sPv_k (fun I_94 J_94 hw => ?_))
    refine g_iconst (v := 0) h (by decide) dX11_axe_97 ?_
    exact g_iret h hr dX11_axe_98 hw
  · replace hw := hw.2 q52
    refine g_lload h 4 rfl dX11_axe_55 ?_
    refine g_iload_n h rfl 2 rfl dX11_axe_57 ?_
    refine g_iload h 5 rfl dX11_axe_58 ?_
    refine g_callS [.int x2, .int x7] h (c_X11_choose X hw) sPl_v mw_X11_choose lk_X11_326 rfl ⟨by decide, by decide⟩ (Nat.le_of_ble_eq_true rfl) dX11_axe_60 (sPl_k (fun r_60 I_60 J_60 hw => ?_))
    refine g_iload_n h rfl 1 rfl dX11_axe_63 ?_
    refine g_iload_n h rfl 2 rfl dX11_axe_64 ?_
    refine g_isub h dX11_axe_65 ?_
    refine g_iload_n h rfl 3 rfl dX11_axe_66 ?_
    refine g_iload h 5 rfl dX11_axe_67 ?_
    refine g_isub h dX11_axe_69 ?_
    refine g_callS [.int (x1 - x2), .int (x3 - x7)] h (c_X11_choose X hw) sPl_v mw_X11_choose lk_X11_326 rfl ⟨by decide, by decide⟩ (Nat.le_of_ble_eq_true rfl) dX11_axe_70 (sPl_k (fun r_70 I_70 J_70 hw => ?_))
    refine g_lmul h dX11_axe_73 ?_
    refine g_ladd h dX11_axe_74 ?_
    refine g_nl (fun v5_75 ev5_75 => ?_)
    replace hw := hw v5_75 ev5_75
    refine g_lstore (lo2 := [(5, .long v5_75), (0, .ref 0), (1, .int x1), (2, .int x2), (3, .int x3), (7, .int x7)]) h (by decide) rfl dX11_axe_75 ?_
    obtain ⟨v7_77, ev7_77⟩ : ∃ z : Int32, z = x7 + 1 := ⟨_, rfl⟩
    replace hw := hw v7_77 ev7_77
    refine g_iinc (v := v7_77) (lo2 := [(7, .int v7_77), (5, .long v5_75), (0, .ref 0), (1, .int x1), (2, .int x2), (3, .int x3)]) h 5 rfl (by rw [ev7_77]; rfl) (by decide) rfl dX11_axe_77 ?_
    refine g_goto (tgt := 49) h (by decide) dX11_axe_80 ?_
    exact g_sub [2, 3, 4, 5, 1, 0] rfl (hk49 _ _ _ _ _ _ _ hw)
theorem t_X11_axe_49 {X : sX} {post : Int32 → sI → sJ → Prop} (h : sOK X cX11_axe RX11 8 4 94) (hr : sRt X (some .int) (sPi post)) {x1 : Int32} {x2 : Int32} {x3 : Int32} {x5 : Int64} {x7 : Int32} {I : sI} {J : sJ} (hw : w_X11_axe_49 post x1 x2 x3 x5 x7 I J) : sG X 8 49 [(0, .ref 0), (1, .int x1), (2, .int x2), (3, .int x3), (5, .long x5), (7, .int x7)] [] I J := by
  obtain ⟨n, hw⟩ := hw
  induction n generalizing x1 x2 x3 x5 x7 I J with
  | zero => exact hw.elim
  | succ n ih => exact t_X11_axe_49_s h hr (fun _ _ _ _ _ _ _ q => ih q) hw
def w_X11_axe (a1 : Int32) (a2 : Int32) (a3 : Int32) (a4 : Int32) (I : sI) (J : sJ) (post : Int32 → sI → sJ → Prop) : Prop :=
  ((a1 < 1 → post (-1) I J) ∧ (¬ a1 < 1 → ((45 < a1 → post (-1) I J) ∧ (¬ 45 < a1 → ((a2 < 0 → post (-1) I J) ∧ (¬ a2 < 0 → ((a1 < a2 → post (-1) I J) ∧ (¬ a1 < a2 → ((a3 < 0 → post (-1) I J) ∧ (¬ a3 < 0 → ((a1 < a3 → post (-1) I J) ∧ (¬ a1 < a3 → ((a4 < 0 → post (-1) I J) ∧ (¬ a4 < 0 → ((a4 ≤ a3 → w_X11_axe_49 post a1 a2 a3 0 a4 I J) ∧ (¬ a4 ≤ a3 → post (-1) I J))))))))))))))))
set_option maxHeartbeats 4000000 in
set_option maxRecDepth 100000 in
theorem t_X11_axe {X : sX} {a1 : Int32} {a2 : Int32} {a3 : Int32} {a4 : Int32} {I : sI} {J : sJ} {post : Int32 → sI → sJ → Prop} (h : sOK X cX11_axe RX11 8 4 94) (hr : sRt X (some .int) (sPi post)) (hw : w_X11_axe a1 a2 a3 a4 I J post) : sG X 8 0 [(0, .ref 0), (1, .int a1), (2, .int a2), (3, .int a3), (4, .int a4)] [] I J := by
  unfold w_X11_axe at hw
  refine g_iload_n h rfl 1 rfl dX11_axe_0 ?_
  refine g_iconst (v := 1) h (by decide) dX11_axe_1 ?_
  refine g_icmp_lt (tgt := 40) h (by decide) dX11_axe_2 (fun q2 => ?_) (fun q2 => ?_)
  · replace hw := hw.1 q2
    refine g_iconst (v := (-1)) h (by decide) dX11_axe_40 ?_
    exact g_iret h hr dX11_axe_41 hw
  · replace hw := hw.2 q2
    refine g_iload_n h rfl 1 rfl dX11_axe_5 ?_
    refine g_bipush (v := 45) h (by decide) dX11_axe_6 ?_
    refine g_icmp_gt (tgt := 40) h (by decide) dX11_axe_8 (fun q8 => ?_) (fun q8 => ?_)
    · replace hw := hw.1 q8
      refine g_iconst (v := (-1)) h (by decide) dX11_axe_40 ?_
      exact g_iret h hr dX11_axe_41 hw
    · replace hw := hw.2 q8
      refine g_iload_n h rfl 2 rfl dX11_axe_11 ?_
      refine g_if_lt (tgt := 40) h (by decide) dX11_axe_12 (fun q12 => ?_) (fun q12 => ?_)
      · replace hw := hw.1 q12
        refine g_iconst (v := (-1)) h (by decide) dX11_axe_40 ?_
        exact g_iret h hr dX11_axe_41 hw
      · replace hw := hw.2 q12
        refine g_iload_n h rfl 2 rfl dX11_axe_15 ?_
        refine g_iload_n h rfl 1 rfl dX11_axe_16 ?_
        refine g_icmp_gt (tgt := 40) h (by decide) dX11_axe_17 (fun q17 => ?_) (fun q17 => ?_)
        · replace hw := hw.1 q17
          refine g_iconst (v := (-1)) h (by decide) dX11_axe_40 ?_
          exact g_iret h hr dX11_axe_41 hw
        · replace hw := hw.2 q17
          refine g_iload_n h rfl 3 rfl dX11_axe_20 ?_
          refine g_if_lt (tgt := 40) h (by decide) dX11_axe_21 (fun q21 => ?_) (fun q21 => ?_)
          · replace hw := hw.1 q21
            refine g_iconst (v := (-1)) h (by decide) dX11_axe_40 ?_
            exact g_iret h hr dX11_axe_41 hw
          · replace hw := hw.2 q21
            refine g_iload_n h rfl 3 rfl dX11_axe_24 ?_
            refine g_iload_n h rfl 1 rfl dX11_axe_25 ?_
            refine g_icmp_gt (tgt := 40) h (by decide) dX11_axe_26 (fun q26 => ?_) (fun q26 => ?_)
            · replace hw := hw.1 q26
              refine g_iconst (v := (-1)) h (by decide) dX11_axe_40 ?_
              exact g_iret h hr dX11_axe_41 hw
            · replace hw := hw.2 q26
              refine g_iload h 4 rfl dX11_axe_29 ?_
              refine g_if_lt (tgt := 40) h (by decide) dX11_axe_31 (fun q31 => ?_) (fun q31 => ?_)
              · replace hw := hw.1 q31
                refine g_iconst (v := (-1)) h (by decide) dX11_axe_40 ?_
                exact g_iret h hr dX11_axe_41 hw
              · replace hw := hw.2 q31
                refine g_iload h 4 rfl dX11_axe_34 ?_
                refine g_iload_n h rfl 3 rfl dX11_axe_36 ?_
                refine g_icmp_le (tgt := 42) h (by decide) dX11_axe_37 (fun q37 => ?_) (fun q37 => ?_)
                · replace hw := hw.1 q37
                  refine g_lconst (v := 0) h (by decide) dX11_axe_42 ?_
                  refine g_lstore (lo2 := [(5, .long 0), (0, .ref 0), (1, .int a1), (2, .int a2), (3, .int a3), (4, .int a4)]) h (by decide) rfl dX11_axe_43 ?_
                  refine g_iload h 5 rfl dX11_axe_45 ?_
                  refine g_istore (lo2 := [(7, .int a4), (5, .long 0), (0, .ref 0), (1, .int a1), (2, .int a2), (3, .int a3), (4, .int a4)]) h (by decide) rfl dX11_axe_47 ?_
                  exact g_sub [2, 3, 4, 5, 1, 0] rfl (t_X11_axe_49 h hr hw)
                · replace hw := hw.2 q37
                  refine g_iconst (v := (-1)) h (by decide) dX11_axe_40 ?_
                  exact g_iret h hr dX11_axe_41 hw
theorem c_X11_axe (X : sX) {a1 : Int32} {a2 : Int32} {a3 : Int32} {a4 : Int32} {I : sI} {J : sJ} {post : Int32 → sI → sJ → Prop} (hw : w_X11_axe a1 a2 a3 a4 I J post) : sCall X yX11_axe cX11_axe 8 (some .int) 4 94 [.ref 0, .int a1, .int a2, .int a3, .int a4] I J (sPi post) := sCall_of (by decide +kernel) (Nat.le_of_ble_eq_true rfl) (fun X h hr => t_X11_axe h hr hw)
theorem dX11_claim_0 : decode cX11_claim 0 = .ok (.aload_n 0, 1) := by decide +kernel
theorem dX11_claim_1 : decode cX11_claim 1 = .ok (.getfield 81, 3) := by decide +kernel
theorem dX11_claim_4 : decode cX11_claim 4 = .ok (.getfield 385, 3) := by decide +kernel
theorem dX11_claim_7 : decode cX11_claim 7 = .ok (.bipush 10, 2) := by decide +kernel
theorem dX11_claim_9 : decode cX11_claim 9 = .ok (.if_icmp .lt 5, 3) := by decide +kernel
theorem dX11_claim_12 : decode cX11_claim 12 = .ok (.iconst (-1), 1) := by decide +kernel
theorem dX11_claim_13 : decode cX11_claim 13 = .ok (.ireturn, 1) := by decide +kernel
theorem dX11_claim_14 : decode cX11_claim 14 = .ok (.aload_n 0, 1) := by decide +kernel
theorem dX11_claim_15 : decode cX11_claim 15 = .ok (.getfield 81, 3) := by decide +kernel
theorem dX11_claim_18 : decode cX11_claim 18 = .ok (.invokevirtual 386, 3) := by decide +kernel
theorem dX11_claim_21 : decode cX11_claim 21 = .ok (.ireturn, 1) := by decide +kernel
def w_X11_claim (I : sI) (J : sJ) (post : Int32 → sI → sJ → Prop) : Prop :=
  (((I 227 1) < 10 → w_X1_add I J (fun (r_18 : Int32) (I_18 : sI) (J_18 : sJ) => (post r_18 I_18 J_18))) ∧ (¬ (I 227 1) < 10 → post (-1) I J))
set_option maxHeartbeats 4000000 in
set_option maxRecDepth 100000 in
theorem t_X11_claim {X : sX} {I : sI} {J : sJ} {post : Int32 → sI → sJ → Prop} (h : sOK X cX11_claim RX11 1 1 20) (hr : sRt X (some .int) (sPi post)) (hw : w_X11_claim I J post) : sG X 1 0 [(0, .ref 0)] [] I J := by
  unfold w_X11_claim at hw
  refine g_aload_n h rfl 0 rfl dX11_claim_0 ?_
  refine g_get h is_0 fl_X11_81 fr_0_11 dX11_claim_1 ?_
  refine g_get h is_227 fl_X11_385 rfl dX11_claim_4 ?_
  refine g_bipush (v := 10) h (by decide) dX11_claim_7 ?_
  refine g_icmp_lt (tgt := 14) h (by decide) dX11_claim_9 (fun q9 => ?_) (fun q9 => ?_)
  · replace hw := hw.1 q9
    refine g_aload_n h rfl 0 rfl dX11_claim_14 ?_
    refine g_get h is_0 fl_X11_81 fr_0_11 dX11_claim_15 ?_
    refine g_callV [] h (c_X1_add X hw) sPi_v mw_X1_add lk_X11_386 is_227 rfl rfl ⟨by decide, by decide⟩ (Nat.le_of_ble_eq_true rfl) dX11_claim_18 (sPi_k (fun r_18 I_18 J_18 hw => ?_))
    exact g_iret h hr dX11_claim_21 hw
  · replace hw := hw.2 q9
    refine g_iconst (v := (-1)) h (by decide) dX11_claim_12 ?_
    exact g_iret h hr dX11_claim_13 hw
theorem c_X11_claim (X : sX) {I : sI} {J : sJ} {post : Int32 → sI → sJ → Prop} (hw : w_X11_claim I J post) : sCall X yX11_claim cX11_claim 1 (some .int) 1 20 [.ref 0] I J (sPi post) := sCall_of (by decide +kernel) (Nat.le_of_ble_eq_true rfl) (fun X h hr => t_X11_claim h hr hw)
theorem dX11_isFind_0 : decode cX11_isFind 0 = .ok (.iload_n 0, 1) := by decide +kernel
theorem dX11_isFind_1 : decode cX11_isFind 1 = .ok (.ifCond .lt 13, 3) := by decide +kernel
theorem dX11_isFind_4 : decode cX11_isFind 4 = .ok (.iload_n 0, 1) := by decide +kernel
theorem dX11_isFind_5 : decode cX11_isFind 5 = .ok (.bipush 12, 2) := by decide +kernel
theorem dX11_isFind_7 : decode cX11_isFind 7 = .ok (.if_icmp .ge 7, 3) := by decide +kernel
theorem dX11_isFind_10 : decode cX11_isFind 10 = .ok (.iconst 1, 1) := by decide +kernel
theorem dX11_isFind_11 : decode cX11_isFind 11 = .ok (.goto 4, 3) := by decide +kernel
theorem dX11_isFind_14 : decode cX11_isFind 14 = .ok (.iconst 0, 1) := by decide +kernel
theorem dX11_isFind_15 : decode cX11_isFind 15 = .ok (.ireturn, 1) := by decide +kernel
def w_X11_isFind (a0 : Int32) (I : sI) (J : sJ) (post : Int32 → sI → sJ → Prop) : Prop :=
  ((a0 < 0 → post 0 I J) ∧ (¬ a0 < 0 → ((12 ≤ a0 → post 0 I J) ∧ (¬ 12 ≤ a0 → post 1 I J))))
set_option maxHeartbeats 4000000 in
set_option maxRecDepth 100000 in
theorem t_X11_isFind {X : sX} {a0 : Int32} {I : sI} {J : sJ} {post : Int32 → sI → sJ → Prop} (h : sOK X cX11_isFind RX11 1 0 0) (hr : sRt X (some .boolean) (sPi post)) (hw : w_X11_isFind a0 I J post) : sG X 1 0 [(0, .int a0)] [] I J := by
  unfold w_X11_isFind at hw
  refine g_iload_n h rfl 0 rfl dX11_isFind_0 ?_
  refine g_if_lt (tgt := 14) h (by decide) dX11_isFind_1 (fun q1 => ?_) (fun q1 => ?_)
  · replace hw := hw.1 q1
    refine g_iconst (v := 0) h (by decide) dX11_isFind_14 ?_
    exact g_zret h hr (Or.inl rfl) dX11_isFind_15 hw
  · replace hw := hw.2 q1
    refine g_iload_n h rfl 0 rfl dX11_isFind_4 ?_
    refine g_bipush (v := 12) h (by decide) dX11_isFind_5 ?_
    refine g_icmp_ge (tgt := 14) h (by decide) dX11_isFind_7 (fun q7 => ?_) (fun q7 => ?_)
    · replace hw := hw.1 q7
      refine g_iconst (v := 0) h (by decide) dX11_isFind_14 ?_
      exact g_zret h hr (Or.inl rfl) dX11_isFind_15 hw
    · replace hw := hw.2 q7
      refine g_iconst (v := 1) h (by decide) dX11_isFind_10 ?_
      refine g_goto (tgt := 15) h (by decide) dX11_isFind_11 ?_
      exact g_zret h hr (Or.inr rfl) dX11_isFind_15 hw
theorem c_X11_isFind (X : sX) {a0 : Int32} {I : sI} {J : sJ} {post : Int32 → sI → sJ → Prop} (hw : w_X11_isFind a0 I J post) : sCall X yX11_isFind cX11_isFind 1 (some .boolean) 0 0 [.int a0] I J (sPi post) := sCall_of (by decide +kernel) (Nat.le_of_ble_eq_true rfl) (fun X h hr => t_X11_isFind h hr hw)
theorem dX11_says_0 : decode cX11_says 0 = .ok (.aload_n 0, 1) := by decide +kernel
theorem dX11_says_1 : decode cX11_says 1 = .ok (.getfield 81, 3) := by decide +kernel
theorem dX11_says_4 : decode cX11_says 4 = .ok (.iload_n 1, 1) := by decide +kernel
theorem dX11_says_5 : decode cX11_says 5 = .ok (.invokevirtual 388, 3) := by decide +kernel
theorem dX11_says_8 : decode cX11_says 8 = .ok (.ifCond .eq 19, 3) := by decide +kernel
theorem dX11_says_11 : decode cX11_says 11 = .ok (.iload_n 2, 1) := by decide +kernel
theorem dX11_says_12 : decode cX11_says 12 = .ok (.invokestatic 390, 3) := by decide +kernel
theorem dX11_says_15 : decode cX11_says 15 = .ok (.ifCond .eq 12, 3) := by decide +kernel
theorem dX11_says_18 : decode cX11_says 18 = .ok (.iload_n 3, 1) := by decide +kernel
theorem dX11_says_19 : decode cX11_says 19 = .ok (.ifCond .lt 8, 3) := by decide +kernel
theorem dX11_says_22 : decode cX11_says 22 = .ok (.iload_n 3, 1) := by decide +kernel
theorem dX11_says_23 : decode cX11_says 23 = .ok (.iconst 2, 1) := by decide +kernel
theorem dX11_says_24 : decode cX11_says 24 = .ok (.if_icmp .le 5, 3) := by decide +kernel
theorem dX11_says_27 : decode cX11_says 27 = .ok (.iconst (-1), 1) := by decide +kernel
theorem dX11_says_28 : decode cX11_says 28 = .ok (.ireturn, 1) := by decide +kernel
theorem dX11_says_29 : decode cX11_says 29 = .ok (.aload_n 0, 1) := by decide +kernel
theorem dX11_says_30 : decode cX11_says 30 = .ok (.getfield 81, 3) := by decide +kernel
theorem dX11_says_33 : decode cX11_says 33 = .ok (.getfield 393, 3) := by decide +kernel
theorem dX11_says_36 : decode cX11_says 36 = .ok (.iload_n 1, 1) := by decide +kernel
theorem dX11_says_37 : decode cX11_says 37 = .ok (.aaload, 1) := by decide +kernel
theorem dX11_says_38 : decode cX11_says 38 = .ok (.iload_n 2, 1) := by decide +kernel
theorem dX11_says_39 : decode cX11_says 39 = .ok (.iaload, 1) := by decide +kernel
theorem dX11_says_40 : decode cX11_says 40 = .ok (.istore 4, 2) := by decide +kernel
theorem dX11_says_42 : decode cX11_says 42 = .ok (.aload_n 0, 1) := by decide +kernel
theorem dX11_says_43 : decode cX11_says 43 = .ok (.getfield 81, 3) := by decide +kernel
theorem dX11_says_46 : decode cX11_says 46 = .ok (.getfield 393, 3) := by decide +kernel
theorem dX11_says_49 : decode cX11_says 49 = .ok (.iload_n 1, 1) := by decide +kernel
theorem dX11_says_50 : decode cX11_says 50 = .ok (.aaload, 1) := by decide +kernel
theorem dX11_says_51 : decode cX11_says 51 = .ok (.iload_n 2, 1) := by decide +kernel
theorem dX11_says_52 : decode cX11_says 52 = .ok (.iload_n 3, 1) := by decide +kernel
theorem dX11_says_53 : decode cX11_says 53 = .ok (.iastore, 1) := by decide +kernel
theorem dX11_says_54 : decode cX11_says 54 = .ok (.iload 4, 2) := by decide +kernel
theorem dX11_says_56 : decode cX11_says 56 = .ok (.ireturn, 1) := by decide +kernel
def w_X11_says (a1 : Int32) (a2 : Int32) (a3 : Int32) (I : sI) (J : sJ) (post : Int32 → sI → sJ → Prop) : Prop :=
  w_X1_has a1 I J (fun (r_5 : Int32) (I_5 : sI) (J_5 : sJ) => (((r_5 = 0 → post (-1) I_5 J_5) ∧ (¬ r_5 = 0 → w_X11_isFind a2 I_5 J_5 (fun (r_12 : Int32) (I_12 : sI) (J_12 : sJ) => (((r_12 = 0 → post (-1) I_12 J_12) ∧ (¬ r_12 = 0 → ((a3 < 0 → post (-1) I_12 J_12) ∧ (¬ a3 < 0 → ((a3 ≤ 2 → (vp_in a1 10 ∧ (vp_in a2 12 ∧ (∀ v4_40 : Int32, v4_40 = I_12 (sR 228 (Int32.toNatClampNeg a1)) (Int32.toNatClampNeg a2) → (vp_in a1 10 ∧ (vp_in a2 12 ∧ (∀ I_53 : sI, I_53 = sUI I_12 (sR 228 (Int32.toNatClampNeg a1)) (Int32.toNatClampNeg a2) a3 → post v4_40 I_53 J_12))))))) ∧ (¬ a3 ≤ 2 → post (-1) I_12 J_12))))))))))))
set_option maxHeartbeats 4000000 in
set_option maxRecDepth 100000 in
theorem t_X11_says {X : sX} {a1 : Int32} {a2 : Int32} {a3 : Int32} {I : sI} {J : sJ} {post : Int32 → sI → sJ → Prop} (h : sOK X cX11_says RX11 5 1 21) (hr : sRt X (some .int) (sPi post)) (hw : w_X11_says a1 a2 a3 I J post) : sG X 5 0 [(0, .ref 0), (1, .int a1), (2, .int a2), (3, .int a3)] [] I J := by
  unfold w_X11_says at hw
  refine g_aload_n h rfl 0 rfl dX11_says_0 ?_
  refine g_get h is_0 fl_X11_81 fr_0_11 dX11_says_1 ?_
  refine g_iload_n h rfl 1 rfl dX11_says_4 ?_
  refine g_callV [.int a1] h (c_X1_has X hw) sPi_v mw_X1_has lk_X11_388 is_227 rfl rfl ⟨by decide, by decide⟩ (Nat.le_of_ble_eq_true rfl) dX11_says_5 (sPi_k (fun r_5 I_5 J_5 hw => ?_))
  refine g_if_eq (tgt := 27) h (by decide) dX11_says_8 (fun q8 => ?_) (fun q8 => ?_)
  · replace hw := hw.1 q8
    refine g_iconst (v := (-1)) h (by decide) dX11_says_27 ?_
    exact g_iret h hr dX11_says_28 hw
  · replace hw := hw.2 q8
    refine g_iload_n h rfl 2 rfl dX11_says_11 ?_
    refine g_callS [.int a2] h (c_X11_isFind X hw) sPi_v mw_X11_isFind lk_X11_390 rfl ⟨by decide, by decide⟩ (Nat.le_of_ble_eq_true rfl) dX11_says_12 (sPi_k (fun r_12 I_12 J_12 hw => ?_))
    refine g_if_eq (tgt := 27) h (by decide) dX11_says_15 (fun q15 => ?_) (fun q15 => ?_)
    · replace hw := hw.1 q15
      refine g_iconst (v := (-1)) h (by decide) dX11_says_27 ?_
      exact g_iret h hr dX11_says_28 hw
    · replace hw := hw.2 q15
      refine g_iload_n h rfl 3 rfl dX11_says_18 ?_
      refine g_if_lt (tgt := 27) h (by decide) dX11_says_19 (fun q19 => ?_) (fun q19 => ?_)
      · replace hw := hw.1 q19
        refine g_iconst (v := (-1)) h (by decide) dX11_says_27 ?_
        exact g_iret h hr dX11_says_28 hw
      · replace hw := hw.2 q19
        refine g_iload_n h rfl 3 rfl dX11_says_22 ?_
        refine g_iconst (v := 2) h (by decide) dX11_says_23 ?_
        refine g_icmp_le (tgt := 29) h (by decide) dX11_says_24 (fun q24 => ?_) (fun q24 => ?_)
        · replace hw := hw.1 q24
          refine g_aload_n h rfl 0 rfl dX11_says_29 ?_
          refine g_get h is_0 fl_X11_81 fr_0_11 dX11_says_30 ?_
          refine g_get h is_227 fl_X11_393 fr_227_0 dX11_says_33 ?_
          refine g_iload_n h rfl 1 rfl dX11_says_36 ?_
          obtain ⟨hi37, hw⟩ := hw
          refine g_aald (t := 2) h ar_228 (by decide) hi37 dX11_says_37 ?_
          refine g_iload_n h rfl 2 rfl dX11_says_38 ?_
          obtain ⟨hi39, hw⟩ := hw
          refine g_iald h (el_6_10 ar_228 hi37) hi39 dX11_says_39 ?_
          refine g_ni (fun v4_40 ev4_40 => ?_)
          replace hw := hw v4_40 ev4_40
          refine g_istore (lo2 := [(4, .int v4_40), (0, .ref 0), (1, .int a1), (2, .int a2), (3, .int a3)]) h (by decide) rfl dX11_says_40 ?_
          refine g_aload_n h rfl 1 rfl dX11_says_42 ?_
          refine g_get h is_0 fl_X11_81 fr_0_11 dX11_says_43 ?_
          refine g_get h is_227 fl_X11_393 fr_227_0 dX11_says_46 ?_
          refine g_iload_n h rfl 2 rfl dX11_says_49 ?_
          obtain ⟨hi50, hw⟩ := hw
          refine g_aald (t := 2) h ar_228 (by decide) hi50 dX11_says_50 ?_
          refine g_iload_n h rfl 3 rfl dX11_says_51 ?_
          refine g_iload_n h rfl 4 rfl dX11_says_52 ?_
          obtain ⟨hi53, hw⟩ := hw
          refine g_iast h (el_6_10 ar_228 hi50) hi53 dX11_says_53 ?_
          refine g_nI (fun I_53 eI_53 => ?_)
          replace hw := hw I_53 eI_53
          refine g_iload h 0 rfl dX11_says_54 ?_
          exact g_iret h hr dX11_says_56 hw
        · replace hw := hw.2 q24
          refine g_iconst (v := (-1)) h (by decide) dX11_says_27 ?_
          exact g_iret h hr dX11_says_28 hw
theorem c_X11_says (X : sX) {a1 : Int32} {a2 : Int32} {a3 : Int32} {I : sI} {J : sJ} {post : Int32 → sI → sJ → Prop} (hw : w_X11_says a1 a2 a3 I J post) : sCall X yX11_says cX11_says 5 (some .int) 1 21 [.ref 0, .int a1, .int a2, .int a3] I J (sPi post) := sCall_of (by decide +kernel) (Nat.le_of_ble_eq_true rfl) (fun X h hr => t_X11_says h hr hw)
theorem dX11_narrowed_0 : decode cX11_narrowed 0 = .ok (.iload_n 0, 1) := by decide +kernel
theorem dX11_narrowed_1 : decode cX11_narrowed 1 = .ok (.ifCond .ne 6, 3) := by decide +kernel
theorem dX11_narrowed_4 : decode cX11_narrowed 4 = .ok (.iload_n 1, 1) := by decide +kernel
theorem dX11_narrowed_5 : decode cX11_narrowed 5 = .ok (.i2b, 1) := by decide +kernel
theorem dX11_narrowed_6 : decode cX11_narrowed 6 = .ok (.ireturn, 1) := by decide +kernel
theorem dX11_narrowed_7 : decode cX11_narrowed 7 = .ok (.iload_n 0, 1) := by decide +kernel
theorem dX11_narrowed_8 : decode cX11_narrowed 8 = .ok (.iconst 1, 1) := by decide +kernel
theorem dX11_narrowed_9 : decode cX11_narrowed 9 = .ok (.if_icmp .ne 8, 3) := by decide +kernel
theorem dX11_narrowed_12 : decode cX11_narrowed 12 = .ok (.iload_n 1, 1) := by decide +kernel
theorem dX11_narrowed_13 : decode cX11_narrowed 13 = .ok (.i2s, 1) := by decide +kernel
theorem dX11_narrowed_14 : decode cX11_narrowed 14 = .ok (.goto 4, 3) := by decide +kernel
theorem dX11_narrowed_17 : decode cX11_narrowed 17 = .ok (.iload_n 1, 1) := by decide +kernel
theorem dX11_narrowed_18 : decode cX11_narrowed 18 = .ok (.ireturn, 1) := by decide +kernel
def w_X11_narrowed (a0 : Int32) (a1 : Int32) (I : sI) (J : sJ) (post : Int32 → sI → sJ → Prop) : Prop :=
  ((¬ a0 = 0 → ((¬ a0 = 1 → post a1 I J) ∧ (a0 = 1 → post ((Int32.toInt16 a1).toInt32) I J))) ∧ (a0 = 0 → post ((Int32.toInt8 a1).toInt32) I J))
set_option maxHeartbeats 4000000 in
set_option maxRecDepth 100000 in
theorem t_X11_narrowed {X : sX} {a0 : Int32} {a1 : Int32} {I : sI} {J : sJ} {post : Int32 → sI → sJ → Prop} (h : sOK X cX11_narrowed RX11 2 0 0) (hr : sRt X (some .int) (sPi post)) (hw : w_X11_narrowed a0 a1 I J post) : sG X 2 0 [(0, .int a0), (1, .int a1)] [] I J := by
  unfold w_X11_narrowed at hw
  refine g_iload_n h rfl 0 rfl dX11_narrowed_0 ?_
  refine g_if_ne (tgt := 7) h (by decide) dX11_narrowed_1 (fun q1 => ?_) (fun q1 => ?_)
  · replace hw := hw.1 q1
    refine g_iload_n h rfl 0 rfl dX11_narrowed_7 ?_
    refine g_iconst (v := 1) h (by decide) dX11_narrowed_8 ?_
    refine g_icmp_ne (tgt := 17) h (by decide) dX11_narrowed_9 (fun q9 => ?_) (fun q9 => ?_)
    · replace hw := hw.1 q9
      refine g_iload_n h rfl 1 rfl dX11_narrowed_17 ?_
      exact g_iret h hr dX11_narrowed_18 hw
    · replace hw := hw.2 q9
      refine g_iload_n h rfl 1 rfl dX11_narrowed_12 ?_
      refine g_i2s h dX11_narrowed_13 ?_
      refine g_goto (tgt := 18) h (by decide) dX11_narrowed_14 ?_
      exact g_iret h hr dX11_narrowed_18 hw
  · replace hw := hw.2 q1
    refine g_iload_n h rfl 1 rfl dX11_narrowed_4 ?_
    refine g_i2b h dX11_narrowed_5 ?_
    exact g_iret h hr dX11_narrowed_6 hw
theorem c_X11_narrowed (X : sX) {a0 : Int32} {a1 : Int32} {I : sI} {J : sJ} {post : Int32 → sI → sJ → Prop} (hw : w_X11_narrowed a0 a1 I J post) : sCall X yX11_narrowed cX11_narrowed 2 (some .int) 0 0 [.int a0, .int a1] I J (sPi post) := sCall_of (by decide +kernel) (Nat.le_of_ble_eq_true rfl) (fun X h hr => t_X11_narrowed h hr hw)
theorem dJ9_floorMod_7cf53_0 : decode cJ9_floorMod_7cf53 0 = .ok (.iload_n 0, 1) := by decide +kernel
theorem dJ9_floorMod_7cf53_1 : decode cJ9_floorMod_7cf53 1 = .ok (.iload_n 1, 1) := by decide +kernel
theorem dJ9_floorMod_7cf53_2 : decode cJ9_floorMod_7cf53 2 = .ok (.irem, 1) := by decide +kernel
theorem dJ9_floorMod_7cf53_3 : decode cJ9_floorMod_7cf53 3 = .ok (.istore_n 2, 1) := by decide +kernel
theorem dJ9_floorMod_7cf53_4 : decode cJ9_floorMod_7cf53 4 = .ok (.iload_n 0, 1) := by decide +kernel
theorem dJ9_floorMod_7cf53_5 : decode cJ9_floorMod_7cf53 5 = .ok (.iload_n 1, 1) := by decide +kernel
theorem dJ9_floorMod_7cf53_6 : decode cJ9_floorMod_7cf53 6 = .ok (.ixor, 1) := by decide +kernel
theorem dJ9_floorMod_7cf53_7 : decode cJ9_floorMod_7cf53 7 = .ok (.ifCond .ge 11, 3) := by decide +kernel
theorem dJ9_floorMod_7cf53_10 : decode cJ9_floorMod_7cf53 10 = .ok (.iload_n 2, 1) := by decide +kernel
theorem dJ9_floorMod_7cf53_11 : decode cJ9_floorMod_7cf53 11 = .ok (.ifCond .eq 7, 3) := by decide +kernel
theorem dJ9_floorMod_7cf53_14 : decode cJ9_floorMod_7cf53 14 = .ok (.iload_n 2, 1) := by decide +kernel
theorem dJ9_floorMod_7cf53_15 : decode cJ9_floorMod_7cf53 15 = .ok (.iload_n 1, 1) := by decide +kernel
theorem dJ9_floorMod_7cf53_16 : decode cJ9_floorMod_7cf53 16 = .ok (.iadd, 1) := by decide +kernel
theorem dJ9_floorMod_7cf53_17 : decode cJ9_floorMod_7cf53 17 = .ok (.ireturn, 1) := by decide +kernel
theorem dJ9_floorMod_7cf53_18 : decode cJ9_floorMod_7cf53 18 = .ok (.iload_n 2, 1) := by decide +kernel
theorem dJ9_floorMod_7cf53_19 : decode cJ9_floorMod_7cf53 19 = .ok (.ireturn, 1) := by decide +kernel
def w_J9_floorMod_7cf53 (a0 : Int32) (a1 : Int32) (I : sI) (J : sJ) (post : Int32 → sI → sJ → Prop) : Prop :=
  (¬ a1 = 0 ∧ (∀ v2_3 : Int32, v2_3 = a0 - a0 / a1 * a1 → ((0 ≤ (a0 ^^^ a1) → post v2_3 I J) ∧ (¬ 0 ≤ (a0 ^^^ a1) → ((v2_3 = 0 → post v2_3 I J) ∧ (¬ v2_3 = 0 → post (v2_3 + a1) I J))))))
set_option maxHeartbeats 4000000 in
set_option maxRecDepth 100000 in
theorem t_J9_floorMod_7cf53 {X : sX} {a0 : Int32} {a1 : Int32} {I : sI} {J : sJ} {post : Int32 → sI → sJ → Prop} (h : sOK X cJ9_floorMod_7cf53 RJ9 3 0 0) (hr : sRt X (some .int) (sPi post)) (hw : w_J9_floorMod_7cf53 a0 a1 I J post) : sG X 3 0 [(0, .int a0), (1, .int a1)] [] I J := by
  unfold w_J9_floorMod_7cf53 at hw
  refine g_iload_n h rfl 0 rfl dJ9_floorMod_7cf53_0 ?_
  refine g_iload_n h rfl 1 rfl dJ9_floorMod_7cf53_1 ?_
  obtain ⟨hz2, hw⟩ := hw
  refine g_irem h hz2 dJ9_floorMod_7cf53_2 ?_
  refine g_ni (fun v2_3 ev2_3 => ?_)
  replace hw := hw v2_3 ev2_3
  refine g_istore_n (lo2 := [(2, .int v2_3), (0, .int a0), (1, .int a1)]) h rfl (by decide) rfl dJ9_floorMod_7cf53_3 ?_
  refine g_iload_n h rfl 1 rfl dJ9_floorMod_7cf53_4 ?_
  refine g_iload_n h rfl 2 rfl dJ9_floorMod_7cf53_5 ?_
  refine g_ixor h dJ9_floorMod_7cf53_6 ?_
  refine g_if_ge (tgt := 18) h (by decide) dJ9_floorMod_7cf53_7 (fun q7 => ?_) (fun q7 => ?_)
  · replace hw := hw.1 q7
    refine g_iload_n h rfl 0 rfl dJ9_floorMod_7cf53_18 ?_
    exact g_iret h hr dJ9_floorMod_7cf53_19 hw
  · replace hw := hw.2 q7
    refine g_iload_n h rfl 0 rfl dJ9_floorMod_7cf53_10 ?_
    refine g_if_eq (tgt := 18) h (by decide) dJ9_floorMod_7cf53_11 (fun q11 => ?_) (fun q11 => ?_)
    · replace hw := hw.1 q11
      refine g_iload_n h rfl 0 rfl dJ9_floorMod_7cf53_18 ?_
      exact g_iret h hr dJ9_floorMod_7cf53_19 hw
    · replace hw := hw.2 q11
      refine g_iload_n h rfl 0 rfl dJ9_floorMod_7cf53_14 ?_
      refine g_iload_n h rfl 2 rfl dJ9_floorMod_7cf53_15 ?_
      refine g_iadd h dJ9_floorMod_7cf53_16 ?_
      exact g_iret h hr dJ9_floorMod_7cf53_17 hw
theorem c_J9_floorMod_7cf53 (X : sX) {a0 : Int32} {a1 : Int32} {I : sI} {J : sJ} {post : Int32 → sI → sJ → Prop} (hw : w_J9_floorMod_7cf53 a0 a1 I J post) : sCall X yJ9_floorMod_7cf53 cJ9_floorMod_7cf53 3 (some .int) 0 0 [.int a0, .int a1] I J (sPi post) := sCall_of (by decide +kernel) (Nat.le_of_ble_eq_true rfl) (fun X h hr => t_J9_floorMod_7cf53 h hr hw)
theorem dX11_sheet_0 : decode cX11_sheet 0 = .ok (.aload_n 0, 1) := by decide +kernel
theorem dX11_sheet_1 : decode cX11_sheet 1 = .ok (.getfield 81, 3) := by decide +kernel
theorem dX11_sheet_4 : decode cX11_sheet 4 = .ok (.iload_n 1, 1) := by decide +kernel
theorem dX11_sheet_5 : decode cX11_sheet 5 = .ok (.invokevirtual 388, 3) := by decide +kernel
theorem dX11_sheet_8 : decode cX11_sheet 8 = .ok (.ifCond .eq 18, 3) := by decide +kernel
theorem dX11_sheet_11 : decode cX11_sheet 11 = .ok (.iload_n 2, 1) := by decide +kernel
theorem dX11_sheet_12 : decode cX11_sheet 12 = .ok (.ifCond .lt 14, 3) := by decide +kernel
theorem dX11_sheet_15 : decode cX11_sheet 15 = .ok (.iload_n 2, 1) := by decide +kernel
theorem dX11_sheet_16 : decode cX11_sheet 16 = .ok (.iconst 3, 1) := by decide +kernel
theorem dX11_sheet_17 : decode cX11_sheet 17 = .ok (.if_icmp .gt 9, 3) := by decide +kernel
theorem dX11_sheet_20 : decode cX11_sheet 20 = .ok (.iload_n 3, 1) := by decide +kernel
theorem dX11_sheet_21 : decode cX11_sheet 21 = .ok (.bipush 12, 2) := by decide +kernel
theorem dX11_sheet_23 : decode cX11_sheet 23 = .ok (.if_icmp .le 5, 3) := by decide +kernel
theorem dX11_sheet_26 : decode cX11_sheet 26 = .ok (.iconst (-1), 1) := by decide +kernel
theorem dX11_sheet_27 : decode cX11_sheet 27 = .ok (.ireturn, 1) := by decide +kernel
theorem dX11_sheet_28 : decode cX11_sheet 28 = .ok (.iload_n 2, 1) := by decide +kernel
theorem dX11_sheet_29 : decode cX11_sheet 29 = .ok (.iconst 3, 1) := by decide +kernel
theorem dX11_sheet_30 : decode cX11_sheet 30 = .ok (.if_icmp .eq 10, 3) := by decide +kernel
theorem dX11_sheet_33 : decode cX11_sheet 33 = .ok (.iload_n 3, 1) := by decide +kernel
theorem dX11_sheet_34 : decode cX11_sheet 34 = .ok (.ifCond .ge 6, 3) := by decide +kernel
theorem dX11_sheet_37 : decode cX11_sheet 37 = .ok (.bipush (-2), 2) := by decide +kernel
theorem dX11_sheet_39 : decode cX11_sheet 39 = .ok (.ireturn, 1) := by decide +kernel
theorem dX11_sheet_40 : decode cX11_sheet 40 = .ok (.iload_n 2, 1) := by decide +kernel
theorem dX11_sheet_41 : decode cX11_sheet 41 = .ok (.iconst 3, 1) := by decide +kernel
theorem dX11_sheet_42 : decode cX11_sheet 42 = .ok (.if_icmp .ne 7, 3) := by decide +kernel
theorem dX11_sheet_45 : decode cX11_sheet 45 = .ok (.iconst 0, 1) := by decide +kernel
theorem dX11_sheet_46 : decode cX11_sheet 46 = .ok (.goto 4, 3) := by decide +kernel
theorem dX11_sheet_49 : decode cX11_sheet 49 = .ok (.iload_n 3, 1) := by decide +kernel
theorem dX11_sheet_50 : decode cX11_sheet 50 = .ok (.istore 6, 2) := by decide +kernel
theorem dX11_sheet_52 : decode cX11_sheet 52 = .ok (.iconst 0, 1) := by decide +kernel
theorem dX11_sheet_53 : decode cX11_sheet 53 = .ok (.istore 7, 2) := by decide +kernel
theorem dX11_sheet_55 : decode cX11_sheet 55 = .ok (.iload 4, 2) := by decide +kernel
theorem dX11_sheet_57 : decode cX11_sheet 57 = .ok (.istore 8, 2) := by decide +kernel
theorem dX11_sheet_59 : decode cX11_sheet 59 = .ok (.iconst 0, 1) := by decide +kernel
theorem dX11_sheet_60 : decode cX11_sheet 60 = .ok (.istore 9, 2) := by decide +kernel
theorem dX11_sheet_62 : decode cX11_sheet 62 = .ok (.iload 9, 2) := by decide +kernel
theorem dX11_sheet_64 : decode cX11_sheet 64 = .ok (.bipush 12, 2) := by decide +kernel
theorem dX11_sheet_66 : decode cX11_sheet 66 = .ok (.if_icmp .ge 68, 3) := by decide +kernel
theorem dX11_sheet_69 : decode cX11_sheet 69 = .ok (.iload 9, 2) := by decide +kernel
theorem dX11_sheet_71 : decode cX11_sheet 71 = .ok (.iload 6, 2) := by decide +kernel
theorem dX11_sheet_73 : decode cX11_sheet 73 = .ok (.if_icmp .ge 16, 3) := by decide +kernel
theorem dX11_sheet_76 : decode cX11_sheet 76 = .ok (.iload_n 2, 1) := by decide +kernel
theorem dX11_sheet_77 : decode cX11_sheet 77 = .ok (.iload 8, 2) := by decide +kernel
theorem dX11_sheet_79 : decode cX11_sheet 79 = .ok (.invokestatic 397, 3) := by decide +kernel
theorem dX11_sheet_82 : decode cX11_sheet 82 = .ok (.iconst 3, 1) := by decide +kernel
theorem dX11_sheet_83 : decode cX11_sheet 83 = .ok (.invokestatic 400, 3) := by decide +kernel
theorem dX11_sheet_86 : decode cX11_sheet 86 = .ok (.goto 4, 3) := by decide +kernel
theorem dX11_sheet_89 : decode cX11_sheet 89 = .ok (.iconst 0, 1) := by decide +kernel
theorem dX11_sheet_90 : decode cX11_sheet 90 = .ok (.istore 10, 2) := by decide +kernel
theorem dX11_sheet_92 : decode cX11_sheet 92 = .ok (.aload_n 0, 1) := by decide +kernel
theorem dX11_sheet_93 : decode cX11_sheet 93 = .ok (.getfield 81, 3) := by decide +kernel
theorem dX11_sheet_96 : decode cX11_sheet 96 = .ok (.getfield 393, 3) := by decide +kernel
theorem dX11_sheet_99 : decode cX11_sheet 99 = .ok (.iload_n 1, 1) := by decide +kernel
theorem dX11_sheet_100 : decode cX11_sheet 100 = .ok (.aaload, 1) := by decide +kernel
theorem dX11_sheet_101 : decode cX11_sheet 101 = .ok (.iload 9, 2) := by decide +kernel
theorem dX11_sheet_103 : decode cX11_sheet 103 = .ok (.iload 10, 2) := by decide +kernel
theorem dX11_sheet_105 : decode cX11_sheet 105 = .ok (.iastore, 1) := by decide +kernel
theorem dX11_sheet_106 : decode cX11_sheet 106 = .ok (.iload 7, 2) := by decide +kernel
theorem dX11_sheet_108 : decode cX11_sheet 108 = .ok (.iload 10, 2) := by decide +kernel
theorem dX11_sheet_110 : decode cX11_sheet 110 = .ok (.ifCond .eq 7, 3) := by decide +kernel
theorem dX11_sheet_113 : decode cX11_sheet 113 = .ok (.iconst 1, 1) := by decide +kernel
theorem dX11_sheet_114 : decode cX11_sheet 114 = .ok (.goto 4, 3) := by decide +kernel
theorem dX11_sheet_117 : decode cX11_sheet 117 = .ok (.iconst 0, 1) := by decide +kernel
theorem dX11_sheet_118 : decode cX11_sheet 118 = .ok (.iadd, 1) := by decide +kernel
theorem dX11_sheet_119 : decode cX11_sheet 119 = .ok (.istore 7, 2) := by decide +kernel
theorem dX11_sheet_121 : decode cX11_sheet 121 = .ok (.iload 8, 2) := by decide +kernel
theorem dX11_sheet_123 : decode cX11_sheet 123 = .ok (.iload 5, 2) := by decide +kernel
theorem dX11_sheet_125 : decode cX11_sheet 125 = .ok (.iadd, 1) := by decide +kernel
theorem dX11_sheet_126 : decode cX11_sheet 126 = .ok (.istore 8, 2) := by decide +kernel
theorem dX11_sheet_128 : decode cX11_sheet 128 = .ok (.iinc 9 1, 3) := by decide +kernel
theorem dX11_sheet_131 : decode cX11_sheet 131 = .ok (.goto (-69), 3) := by decide +kernel
theorem dX11_sheet_134 : decode cX11_sheet 134 = .ok (.iload_n 2, 1) := by decide +kernel
theorem dX11_sheet_135 : decode cX11_sheet 135 = .ok (.iconst 3, 1) := by decide +kernel
theorem dX11_sheet_136 : decode cX11_sheet 136 = .ok (.if_icmp .ne 8, 3) := by decide +kernel
theorem dX11_sheet_139 : decode cX11_sheet 139 = .ok (.bipush (-3), 2) := by decide +kernel
theorem dX11_sheet_141 : decode cX11_sheet 141 = .ok (.goto 5, 3) := by decide +kernel
theorem dX11_sheet_144 : decode cX11_sheet 144 = .ok (.iload 7, 2) := by decide +kernel
theorem dX11_sheet_146 : decode cX11_sheet 146 = .ok (.ireturn, 1) := by decide +kernel
def w_X11_sheet_118 (post : Int32 → sI → sJ → Prop) (k62 : Int32 → Int32 → Int32 → Int32 → Int32 → Int32 → Int32 → sI → sJ → Prop) (x1 : Int32) (x2 : Int32) (x5 : Int32) (x6 : Int32) (x8 : Int32) (x9 : Int32) (s0 : Int32) (s1 : Int32) (I : sI) (J : sJ) : Prop :=
  (∀ v7_119 : Int32, v7_119 = s1 + s0 → (∀ v8_126 : Int32, v8_126 = x8 + x5 → (∀ v9_128 : Int32, v9_128 = x9 + 1 → k62 x1 x2 x5 x6 v7_119 v8_126 v9_128 I J)))
set_option maxHeartbeats 4000000 in
set_option maxRecDepth 100000 in
theorem t_X11_sheet_118 {X : sX} {post : Int32 → sI → sJ → Prop} (h : sOK X cX11_sheet RX11 11 1 22) (hr : sRt X (some .int) (sPi post)) {k62 : Int32 → Int32 → Int32 → Int32 → Int32 → Int32 → Int32 → sI → sJ → Prop} (hk62 : ∀ (x1 : Int32) (x2 : Int32) (x5 : Int32) (x6 : Int32) (x7 : Int32) (x8 : Int32) (x9 : Int32) (I : sI) (J : sJ), k62 x1 x2 x5 x6 x7 x8 x9 I J → sG X 11 62 [(0, .ref 0), (1, .int x1), (2, .int x2), (5, .int x5), (6, .int x6), (7, .int x7), (8, .int x8), (9, .int x9)] [] I J) {x1 : Int32} {x2 : Int32} {x5 : Int32} {x6 : Int32} {x8 : Int32} {x9 : Int32} {s0 : Int32} {s1 : Int32} {I : sI} {J : sJ} (hw : w_X11_sheet_118 post k62 x1 x2 x5 x6 x8 x9 s0 s1 I J) : sG X 11 118 [(0, .ref 0), (1, .int x1), (2, .int x2), (5, .int x5), (6, .int x6), (8, .int x8), (9, .int x9)] [.int s0, .int s1] I J := by
  unfold w_X11_sheet_118 at hw
  refine g_iadd h dX11_sheet_118 ?_
  refine g_ni (fun v7_119 ev7_119 => ?_)
  replace hw := hw v7_119 ev7_119
  refine g_istore (lo2 := [(7, .int v7_119), (0, .ref 0), (1, .int x1), (2, .int x2), (5, .int x5), (6, .int x6), (8, .int x8), (9, .int x9)]) h (by decide) rfl dX11_sheet_119 ?_
  refine g_iload h 6 rfl dX11_sheet_121 ?_
  refine g_iload h 4 rfl dX11_sheet_123 ?_
  refine g_iadd h dX11_sheet_125 ?_
  refine g_ni (fun v8_126 ev8_126 => ?_)
  replace hw := hw v8_126 ev8_126
  refine g_istore (lo2 := [(8, .int v8_126), (7, .int v7_119), (0, .ref 0), (1, .int x1), (2, .int x2), (5, .int x5), (6, .int x6), (9, .int x9)]) h (by decide) rfl dX11_sheet_126 ?_
  obtain ⟨v9_128, ev9_128⟩ : ∃ z : Int32, z = x9 + 1 := ⟨_, rfl⟩
  replace hw := hw v9_128 ev9_128
  refine g_iinc (v := v9_128) (lo2 := [(9, .int v9_128), (8, .int v8_126), (7, .int v7_119), (0, .ref 0), (1, .int x1), (2, .int x2), (5, .int x5), (6, .int x6)]) h 7 rfl (by rw [ev9_128]; rfl) (by decide) rfl dX11_sheet_128 ?_
  refine g_goto (tgt := 62) h (by decide) dX11_sheet_131 ?_
  exact g_sub [3, 4, 5, 6, 7, 2, 1, 0] rfl (hk62 _ _ _ _ _ _ _ _ _ hw)
def w_X11_sheet_90 (post : Int32 → sI → sJ → Prop) (k62 : Int32 → Int32 → Int32 → Int32 → Int32 → Int32 → Int32 → sI → sJ → Prop) (x1 : Int32) (x2 : Int32) (x5 : Int32) (x6 : Int32) (x7 : Int32) (x8 : Int32) (x9 : Int32) (s0 : Int32) (I : sI) (J : sJ) : Prop :=
  (vp_in x1 10 ∧ (vp_in x9 12 ∧ (∀ I_105 : sI, I_105 = sUI I (sR 228 (Int32.toNatClampNeg x1)) (Int32.toNatClampNeg x9) s0 → ((s0 = 0 → w_X11_sheet_118 post k62 x1 x2 x5 x6 x8 x9 0 x7 I_105 J) ∧ (¬ s0 = 0 → w_X11_sheet_118 post k62 x1 x2 x5 x6 x8 x9 1 x7 I_105 J)))))
set_option maxHeartbeats 4000000 in
set_option maxRecDepth 100000 in
theorem t_X11_sheet_90 {X : sX} {post : Int32 → sI → sJ → Prop} (h : sOK X cX11_sheet RX11 11 1 22) (hr : sRt X (some .int) (sPi post)) {k62 : Int32 → Int32 → Int32 → Int32 → Int32 → Int32 → Int32 → sI → sJ → Prop} (hk62 : ∀ (x1 : Int32) (x2 : Int32) (x5 : Int32) (x6 : Int32) (x7 : Int32) (x8 : Int32) (x9 : Int32) (I : sI) (J : sJ), k62 x1 x2 x5 x6 x7 x8 x9 I J → sG X 11 62 [(0, .ref 0), (1, .int x1), (2, .int x2), (5, .int x5), (6, .int x6), (7, .int x7), (8, .int x8), (9, .int x9)] [] I J) {x1 : Int32} {x2 : Int32} {x5 : Int32} {x6 : Int32} {x7 : Int32} {x8 : Int32} {x9 : Int32} {s0 : Int32} {I : sI} {J : sJ} (hw : w_X11_sheet_90 post k62 x1 x2 x5 x6 x7 x8 x9 s0 I J) : sG X 11 90 [(0, .ref 0), (1, .int x1), (2, .int x2), (5, .int x5), (6, .int x6), (7, .int x7), (8, .int x8), (9, .int x9)] [.int s0] I J := by
  unfold w_X11_sheet_90 at hw
  refine g_istore (lo2 := [(10, .int s0), (0, .ref 0), (1, .int x1), (2, .int x2), (5, .int x5), (6, .int x6), (7, .int x7), (8, .int x8), (9, .int x9)]) h (by decide) rfl dX11_sheet_90 ?_
  refine g_aload_n h rfl 1 rfl dX11_sheet_92 ?_
  refine g_get h is_0 fl_X11_81 fr_0_11 dX11_sheet_93 ?_
  refine g_get h is_227 fl_X11_393 fr_227_0 dX11_sheet_96 ?_
  refine g_iload_n h rfl 2 rfl dX11_sheet_99 ?_
  obtain ⟨hi100, hw⟩ := hw
  refine g_aald (t := 2) h ar_228 (by decide) hi100 dX11_sheet_100 ?_
  refine g_iload h 8 rfl dX11_sheet_101 ?_
  refine g_iload h 0 rfl dX11_sheet_103 ?_
  obtain ⟨hi105, hw⟩ := hw
  refine g_iast h (el_6_10 ar_228 hi100) hi105 dX11_sheet_105 ?_
  refine g_nI (fun I_105 eI_105 => ?_)
  replace hw := hw I_105 eI_105
  refine g_iload h 6 rfl dX11_sheet_106 ?_
  refine g_iload h 0 rfl dX11_sheet_108 ?_
  refine g_if_eq (tgt := 117) h (by decide) dX11_sheet_110 (fun q110 => ?_) (fun q110 => ?_)
  · replace hw := hw.1 q110
    refine g_iconst (v := 0) h (by decide) dX11_sheet_117 ?_
    exact g_sub [1, 2, 3, 4, 5, 7, 8] rfl (t_X11_sheet_118 h hr hk62 hw)
  · replace hw := hw.2 q110
    refine g_iconst (v := 1) h (by decide) dX11_sheet_113 ?_
    refine g_goto (tgt := 118) h (by decide) dX11_sheet_114 ?_
    exact g_sub [1, 2, 3, 4, 5, 7, 8] rfl (t_X11_sheet_118 h hr hk62 hw)
def w_X11_sheet_62_s (post : Int32 → sI → sJ → Prop) (k62 : Int32 → Int32 → Int32 → Int32 → Int32 → Int32 → Int32 → sI → sJ → Prop) (x1 : Int32) (x2 : Int32) (x5 : Int32) (x6 : Int32) (x7 : Int32) (x8 : Int32) (x9 : Int32) (I : sI) (J : sJ) : Prop :=
  ((12 ≤ x9 → ((¬ x2 = 3 → post x7 I J) ∧ (x2 = 3 → post (-3) I J))) ∧ (¬ 12 ≤ x9 → ((x6 ≤ x9 → w_X11_sheet_90 post k62 x1 x2 x5 x6 x7 x8 x9 0 I J) ∧ (¬ x6 ≤ x9 → w_X11_narrowed x2 x8 I J (fun (r_79 : Int32) (I_79 : sI) (J_79 : sJ) => (w_J9_floorMod_7cf53 r_79 3 I_79 J_79 (fun (r_83 : Int32) (I_83 : sI) (J_83 : sJ) => (w_X11_sheet_90 post k62 x1 x2 x5 x6 x7 x8 x9 r_83 I_83 J_83))))))))
def w_X11_sheet_62_n (post : Int32 → sI → sJ → Prop) : Nat → Int32 → Int32 → Int32 → Int32 → Int32 → Int32 → Int32 → sI → sJ → Prop
  | 0 => fun _ _ _ _ _ _ _ _ _ => False
  | n + 1 => fun x1 x2 x5 x6 x7 x8 x9 I J => w_X11_sheet_62_s post (w_X11_sheet_62_n post n) x1 x2 x5 x6 x7 x8 x9 I J
def w_X11_sheet_62 (post : Int32 → sI → sJ → Prop) (x1 : Int32) (x2 : Int32) (x5 : Int32) (x6 : Int32) (x7 : Int32) (x8 : Int32) (x9 : Int32) (I : sI) (J : sJ) : Prop := ∃ n, w_X11_sheet_62_n post n x1 x2 x5 x6 x7 x8 x9 I J
set_option maxHeartbeats 4000000 in
set_option maxRecDepth 100000 in
theorem t_X11_sheet_62_s {X : sX} {post : Int32 → sI → sJ → Prop} (h : sOK X cX11_sheet RX11 11 1 22) (hr : sRt X (some .int) (sPi post)) {k62 : Int32 → Int32 → Int32 → Int32 → Int32 → Int32 → Int32 → sI → sJ → Prop} (hk62 : ∀ (x1 : Int32) (x2 : Int32) (x5 : Int32) (x6 : Int32) (x7 : Int32) (x8 : Int32) (x9 : Int32) (I : sI) (J : sJ), k62 x1 x2 x5 x6 x7 x8 x9 I J → sG X 11 62 [(0, .ref 0), (1, .int x1), (2, .int x2), (5, .int x5), (6, .int x6), (7, .int x7), (8, .int x8), (9, .int x9)] [] I J) {x1 : Int32} {x2 : Int32} {x5 : Int32} {x6 : Int32} {x7 : Int32} {x8 : Int32} {x9 : Int32} {I : sI} {J : sJ} (hw : w_X11_sheet_62_s post k62 x1 x2 x5 x6 x7 x8 x9 I J) : sG X 11 62 [(0, .ref 0), (1, .int x1), (2, .int x2), (5, .int x5), (6, .int x6), (7, .int x7), (8, .int x8), (9, .int x9)] [] I J := by
  unfold w_X11_sheet_62_s at hw
  refine g_iload h 7 rfl dX11_sheet_62 ?_
  refine g_bipush (v := 12) h (by decide) dX11_sheet_64 ?_
  refine g_icmp_ge (tgt := 134) h (by decide) dX11_sheet_66 (fun q66 => ?_) (fun q66 => ?_)
  · replace hw := hw.1 q66
    refine g_iload_n h rfl 2 rfl dX11_sheet_134 ?_
    refine g_iconst (v := 3) h (by decide) dX11_sheet_135 ?_
    refine g_icmp_ne (tgt := 144) h (by decide) dX11_sheet_136 (fun q136 => ?_) (fun q136 => ?_)
    · replace hw := hw.1 q136
      refine g_iload h 5 rfl dX11_sheet_144 ?_
      exact g_iret h hr dX11_sheet_146 hw
    · replace hw := hw.2 q136
      refine g_bipush (v := (-3)) h (by decide) dX11_sheet_139 ?_
      refine g_goto (tgt := 146) h (by decide) dX11_sheet_141 ?_
      exact g_iret h hr dX11_sheet_146 hw
  · replace hw := hw.2 q66
    refine g_iload h 7 rfl dX11_sheet_69 ?_
    refine g_iload h 4 rfl dX11_sheet_71 ?_
    refine g_icmp_ge (tgt := 89) h (by decide) dX11_sheet_73 (fun q73 => ?_) (fun q73 => ?_)
    · replace hw := hw.1 q73
      refine g_iconst (v := 0) h (by decide) dX11_sheet_89 ?_
      exact g_sub [0, 1, 2, 3, 4, 5, 6, 7] rfl (t_X11_sheet_90 h hr hk62 hw)
    · replace hw := hw.2 q73
      refine g_iload_n h rfl 2 rfl dX11_sheet_76 ?_
      refine g_iload h 6 rfl dX11_sheet_77 ?_
      refine g_callS [.int x2, .int x8] h (c_X11_narrowed X hw) sPi_v mw_X11_narrowed lk_X11_397 rfl ⟨by decide, by decide⟩ (Nat.le_of_ble_eq_true rfl) dX11_sheet_79 (sPi_k (fun r_79 I_79 J_79 hw => ?_))
      refine g_iconst (v := 3) h (by decide) dX11_sheet_82 ?_
      refine g_callS [.int r_79, .int 3] h (c_J9_floorMod_7cf53 X hw) sPi_v mw_J9_floorMod_7cf53 lk_X11_400 rfl ⟨by decide, by decide⟩ (Nat.le_of_ble_eq_true rfl) dX11_sheet_83 (sPi_k (fun r_83 I_83 J_83 hw => ?_))
      refine g_goto (tgt := 90) h (by decide) dX11_sheet_86 ?_
      exact g_sub [0, 1, 2, 3, 4, 5, 6, 7] rfl (t_X11_sheet_90 h hr hk62 hw)
theorem t_X11_sheet_62 {X : sX} {post : Int32 → sI → sJ → Prop} (h : sOK X cX11_sheet RX11 11 1 22) (hr : sRt X (some .int) (sPi post)) {x1 : Int32} {x2 : Int32} {x5 : Int32} {x6 : Int32} {x7 : Int32} {x8 : Int32} {x9 : Int32} {I : sI} {J : sJ} (hw : w_X11_sheet_62 post x1 x2 x5 x6 x7 x8 x9 I J) : sG X 11 62 [(0, .ref 0), (1, .int x1), (2, .int x2), (5, .int x5), (6, .int x6), (7, .int x7), (8, .int x8), (9, .int x9)] [] I J := by
  obtain ⟨n, hw⟩ := hw
  induction n generalizing x1 x2 x5 x6 x7 x8 x9 I J with
  | zero => exact hw.elim
  | succ n ih => exact t_X11_sheet_62_s h hr (fun _ _ _ _ _ _ _ _ _ q => ih q) hw
def w_X11_sheet_50 (post : Int32 → sI → sJ → Prop) (x1 : Int32) (x2 : Int32) (x4 : Int32) (x5 : Int32) (s0 : Int32) (I : sI) (J : sJ) : Prop :=
  w_X11_sheet_62 post x1 x2 x5 s0 0 x4 0 I J
set_option maxHeartbeats 4000000 in
set_option maxRecDepth 100000 in
theorem t_X11_sheet_50 {X : sX} {post : Int32 → sI → sJ → Prop} (h : sOK X cX11_sheet RX11 11 1 22) (hr : sRt X (some .int) (sPi post)) {x1 : Int32} {x2 : Int32} {x4 : Int32} {x5 : Int32} {s0 : Int32} {I : sI} {J : sJ} (hw : w_X11_sheet_50 post x1 x2 x4 x5 s0 I J) : sG X 11 50 [(0, .ref 0), (1, .int x1), (2, .int x2), (4, .int x4), (5, .int x5)] [.int s0] I J := by
  unfold w_X11_sheet_50 at hw
  refine g_istore (lo2 := [(6, .int s0), (0, .ref 0), (1, .int x1), (2, .int x2), (4, .int x4), (5, .int x5)]) h (by decide) rfl dX11_sheet_50 ?_
  refine g_iconst (v := 0) h (by decide) dX11_sheet_52 ?_
  refine g_istore (lo2 := [(7, .int 0), (6, .int s0), (0, .ref 0), (1, .int x1), (2, .int x2), (4, .int x4), (5, .int x5)]) h (by decide) rfl dX11_sheet_53 ?_
  refine g_iload h 5 rfl dX11_sheet_55 ?_
  refine g_istore (lo2 := [(8, .int x4), (7, .int 0), (6, .int s0), (0, .ref 0), (1, .int x1), (2, .int x2), (4, .int x4), (5, .int x5)]) h (by decide) rfl dX11_sheet_57 ?_
  refine g_iconst (v := 0) h (by decide) dX11_sheet_59 ?_
  refine g_istore (lo2 := [(9, .int 0), (8, .int x4), (7, .int 0), (6, .int s0), (0, .ref 0), (1, .int x1), (2, .int x2), (4, .int x4), (5, .int x5)]) h (by decide) rfl dX11_sheet_60 ?_
  exact g_sub [4, 5, 6, 8, 3, 2, 1, 0] rfl (t_X11_sheet_62 h hr hw)
def w_X11_sheet_40 (post : Int32 → sI → sJ → Prop) (x1 : Int32) (x2 : Int32) (x3 : Int32) (x4 : Int32) (x5 : Int32) (I : sI) (J : sJ) : Prop :=
  ((¬ x2 = 3 → w_X11_sheet_50 post x1 x2 x4 x5 x3 I J) ∧ (x2 = 3 → w_X11_sheet_50 post x1 x2 x4 x5 0 I J))
set_option maxHeartbeats 4000000 in
set_option maxRecDepth 100000 in
theorem t_X11_sheet_40 {X : sX} {post : Int32 → sI → sJ → Prop} (h : sOK X cX11_sheet RX11 11 1 22) (hr : sRt X (some .int) (sPi post)) {x1 : Int32} {x2 : Int32} {x3 : Int32} {x4 : Int32} {x5 : Int32} {I : sI} {J : sJ} (hw : w_X11_sheet_40 post x1 x2 x3 x4 x5 I J) : sG X 11 40 [(0, .ref 0), (1, .int x1), (2, .int x2), (3, .int x3), (4, .int x4), (5, .int x5)] [] I J := by
  unfold w_X11_sheet_40 at hw
  refine g_iload_n h rfl 2 rfl dX11_sheet_40 ?_
  refine g_iconst (v := 3) h (by decide) dX11_sheet_41 ?_
  refine g_icmp_ne (tgt := 49) h (by decide) dX11_sheet_42 (fun q42 => ?_) (fun q42 => ?_)
  · replace hw := hw.1 q42
    refine g_iload_n h rfl 3 rfl dX11_sheet_49 ?_
    exact g_sub [0, 1, 2, 4, 5] rfl (t_X11_sheet_50 h hr hw)
  · replace hw := hw.2 q42
    refine g_iconst (v := 0) h (by decide) dX11_sheet_45 ?_
    refine g_goto (tgt := 50) h (by decide) dX11_sheet_46 ?_
    exact g_sub [0, 1, 2, 4, 5] rfl (t_X11_sheet_50 h hr hw)
def w_X11_sheet (a1 : Int32) (a2 : Int32) (a3 : Int32) (a4 : Int32) (a5 : Int32) (I : sI) (J : sJ) (post : Int32 → sI → sJ → Prop) : Prop :=
  w_X1_has a1 I J (fun (r_5 : Int32) (I_5 : sI) (J_5 : sJ) => (((r_5 = 0 → post (-1) I_5 J_5) ∧ (¬ r_5 = 0 → ((a2 < 0 → post (-1) I_5 J_5) ∧ (¬ a2 < 0 → ((3 < a2 → post (-1) I_5 J_5) ∧ (¬ 3 < a2 → ((a3 ≤ 12 → ((a2 = 3 → w_X11_sheet_40 post a1 a2 a3 a4 a5 I_5 J_5) ∧ (¬ a2 = 3 → ((0 ≤ a3 → w_X11_sheet_40 post a1 a2 a3 a4 a5 I_5 J_5) ∧ (¬ 0 ≤ a3 → post (-2) I_5 J_5))))) ∧ (¬ a3 ≤ 12 → post (-1) I_5 J_5))))))))))
set_option maxHeartbeats 4000000 in
set_option maxRecDepth 100000 in
theorem t_X11_sheet {X : sX} {a1 : Int32} {a2 : Int32} {a3 : Int32} {a4 : Int32} {a5 : Int32} {I : sI} {J : sJ} {post : Int32 → sI → sJ → Prop} (h : sOK X cX11_sheet RX11 11 1 22) (hr : sRt X (some .int) (sPi post)) (hw : w_X11_sheet a1 a2 a3 a4 a5 I J post) : sG X 11 0 [(0, .ref 0), (1, .int a1), (2, .int a2), (3, .int a3), (4, .int a4), (5, .int a5)] [] I J := by
  unfold w_X11_sheet at hw
  refine g_aload_n h rfl 0 rfl dX11_sheet_0 ?_
  refine g_get h is_0 fl_X11_81 fr_0_11 dX11_sheet_1 ?_
  refine g_iload_n h rfl 1 rfl dX11_sheet_4 ?_
  refine g_callV [.int a1] h (c_X1_has X hw) sPi_v mw_X1_has lk_X11_388 is_227 rfl rfl ⟨by decide, by decide⟩ (Nat.le_of_ble_eq_true rfl) dX11_sheet_5 (sPi_k (fun r_5 I_5 J_5 hw => ?_))
  refine g_if_eq (tgt := 26) h (by decide) dX11_sheet_8 (fun q8 => ?_) (fun q8 => ?_)
  · replace hw := hw.1 q8
    refine g_iconst (v := (-1)) h (by decide) dX11_sheet_26 ?_
    exact g_iret h hr dX11_sheet_27 hw
  · replace hw := hw.2 q8
    refine g_iload_n h rfl 2 rfl dX11_sheet_11 ?_
    refine g_if_lt (tgt := 26) h (by decide) dX11_sheet_12 (fun q12 => ?_) (fun q12 => ?_)
    · replace hw := hw.1 q12
      refine g_iconst (v := (-1)) h (by decide) dX11_sheet_26 ?_
      exact g_iret h hr dX11_sheet_27 hw
    · replace hw := hw.2 q12
      refine g_iload_n h rfl 2 rfl dX11_sheet_15 ?_
      refine g_iconst (v := 3) h (by decide) dX11_sheet_16 ?_
      refine g_icmp_gt (tgt := 26) h (by decide) dX11_sheet_17 (fun q17 => ?_) (fun q17 => ?_)
      · replace hw := hw.1 q17
        refine g_iconst (v := (-1)) h (by decide) dX11_sheet_26 ?_
        exact g_iret h hr dX11_sheet_27 hw
      · replace hw := hw.2 q17
        refine g_iload_n h rfl 3 rfl dX11_sheet_20 ?_
        refine g_bipush (v := 12) h (by decide) dX11_sheet_21 ?_
        refine g_icmp_le (tgt := 28) h (by decide) dX11_sheet_23 (fun q23 => ?_) (fun q23 => ?_)
        · replace hw := hw.1 q23
          refine g_iload_n h rfl 2 rfl dX11_sheet_28 ?_
          refine g_iconst (v := 3) h (by decide) dX11_sheet_29 ?_
          refine g_icmp_eq (tgt := 40) h (by decide) dX11_sheet_30 (fun q30 => ?_) (fun q30 => ?_)
          · replace hw := hw.1 q30
            exact g_sub [0, 1, 2, 3, 4, 5] rfl (t_X11_sheet_40 h hr hw)
          · replace hw := hw.2 q30
            refine g_iload_n h rfl 3 rfl dX11_sheet_33 ?_
            refine g_if_ge (tgt := 40) h (by decide) dX11_sheet_34 (fun q34 => ?_) (fun q34 => ?_)
            · replace hw := hw.1 q34
              exact g_sub [0, 1, 2, 3, 4, 5] rfl (t_X11_sheet_40 h hr hw)
            · replace hw := hw.2 q34
              refine g_bipush (v := (-2)) h (by decide) dX11_sheet_37 ?_
              exact g_iret h hr dX11_sheet_39 hw
        · replace hw := hw.2 q23
          refine g_iconst (v := (-1)) h (by decide) dX11_sheet_26 ?_
          exact g_iret h hr dX11_sheet_27 hw
theorem c_X11_sheet (X : sX) {a1 : Int32} {a2 : Int32} {a3 : Int32} {a4 : Int32} {a5 : Int32} {I : sI} {J : sJ} {post : Int32 → sI → sJ → Prop} (hw : w_X11_sheet a1 a2 a3 a4 a5 I J post) : sCall X yX11_sheet cX11_sheet 11 (some .int) 1 22 [.ref 0, .int a1, .int a2, .int a3, .int a4, .int a5] I J (sPi post) := sCall_of (by decide +kernel) (Nat.le_of_ble_eq_true rfl) (fun X h hr => t_X11_sheet h hr hw)
theorem dX11_find_0 : decode cX11_find 0 = .ok (.iload_n 1, 1) := by decide +kernel
theorem dX11_find_1 : decode cX11_find 1 = .ok (.invokestatic 390, 3) := by decide +kernel
theorem dX11_find_4 : decode cX11_find 4 = .ok (.ifCond .eq 12, 3) := by decide +kernel
theorem dX11_find_7 : decode cX11_find 7 = .ok (.iload_n 2, 1) := by decide +kernel
theorem dX11_find_8 : decode cX11_find 8 = .ok (.ifCond .lt 8, 3) := by decide +kernel
theorem dX11_find_11 : decode cX11_find 11 = .ok (.iload_n 2, 1) := by decide +kernel
theorem dX11_find_12 : decode cX11_find 12 = .ok (.iconst 2, 1) := by decide +kernel
theorem dX11_find_13 : decode cX11_find 13 = .ok (.if_icmp .le 5, 3) := by decide +kernel
theorem dX11_find_16 : decode cX11_find 16 = .ok (.iconst (-1), 1) := by decide +kernel
theorem dX11_find_17 : decode cX11_find 17 = .ok (.ireturn, 1) := by decide +kernel
theorem dX11_find_18 : decode cX11_find 18 = .ok (.aload_n 0, 1) := by decide +kernel
theorem dX11_find_19 : decode cX11_find 19 = .ok (.getfield 19, 3) := by decide +kernel
theorem dX11_find_22 : decode cX11_find 22 = .ok (.getfield 403, 3) := by decide +kernel
theorem dX11_find_25 : decode cX11_find 25 = .ok (.iload_n 1, 1) := by decide +kernel
theorem dX11_find_26 : decode cX11_find 26 = .ok (.iaload, 1) := by decide +kernel
theorem dX11_find_27 : decode cX11_find 27 = .ok (.istore_n 3, 1) := by decide +kernel
theorem dX11_find_28 : decode cX11_find 28 = .ok (.aload_n 0, 1) := by decide +kernel
theorem dX11_find_29 : decode cX11_find 29 = .ok (.getfield 19, 3) := by decide +kernel
theorem dX11_find_32 : decode cX11_find 32 = .ok (.getfield 403, 3) := by decide +kernel
theorem dX11_find_35 : decode cX11_find 35 = .ok (.iload_n 1, 1) := by decide +kernel
theorem dX11_find_36 : decode cX11_find 36 = .ok (.iload_n 2, 1) := by decide +kernel
theorem dX11_find_37 : decode cX11_find 37 = .ok (.iastore, 1) := by decide +kernel
theorem dX11_find_38 : decode cX11_find 38 = .ok (.iload_n 3, 1) := by decide +kernel
theorem dX11_find_39 : decode cX11_find 39 = .ok (.ireturn, 1) := by decide +kernel
def w_X11_find (a1 : Int32) (a2 : Int32) (I : sI) (J : sJ) (post : Int32 → sI → sJ → Prop) : Prop :=
  w_X11_isFind a1 I J (fun (r_1 : Int32) (I_1 : sI) (J_1 : sJ) => (((r_1 = 0 → post (-1) I_1 J_1) ∧ (¬ r_1 = 0 → ((a2 < 0 → post (-1) I_1 J_1) ∧ (¬ a2 < 0 → ((a2 ≤ 2 → (vp_in a1 12 ∧ (∀ v3_27 : Int32, v3_27 = I_1 11 (Int32.toNatClampNeg a1) → (vp_in a1 12 ∧ (∀ I_37 : sI, I_37 = sUI I_1 11 (Int32.toNatClampNeg a1) a2 → post v3_27 I_37 J_1))))) ∧ (¬ a2 ≤ 2 → post (-1) I_1 J_1))))))))
set_option maxHeartbeats 4000000 in
set_option maxRecDepth 100000 in
theorem t_X11_find {X : sX} {a1 : Int32} {a2 : Int32} {I : sI} {J : sJ} {post : Int32 → sI → sJ → Prop} (h : sOK X cX11_find RX11 4 1 20) (hr : sRt X (some .int) (sPi post)) (hw : w_X11_find a1 a2 I J post) : sG X 4 0 [(0, .ref 0), (1, .int a1), (2, .int a2)] [] I J := by
  unfold w_X11_find at hw
  refine g_iload_n h rfl 1 rfl dX11_find_0 ?_
  refine g_callS [.int a1] h (c_X11_isFind X hw) sPi_v mw_X11_isFind lk_X11_390 rfl ⟨by decide, by decide⟩ (Nat.le_of_ble_eq_true rfl) dX11_find_1 (sPi_k (fun r_1 I_1 J_1 hw => ?_))
  refine g_if_eq (tgt := 16) h (by decide) dX11_find_4 (fun q4 => ?_) (fun q4 => ?_)
  · replace hw := hw.1 q4
    refine g_iconst (v := (-1)) h (by decide) dX11_find_16 ?_
    exact g_iret h hr dX11_find_17 hw
  · replace hw := hw.2 q4
    refine g_iload_n h rfl 2 rfl dX11_find_7 ?_
    refine g_if_lt (tgt := 16) h (by decide) dX11_find_8 (fun q8 => ?_) (fun q8 => ?_)
    · replace hw := hw.1 q8
      refine g_iconst (v := (-1)) h (by decide) dX11_find_16 ?_
      exact g_iret h hr dX11_find_17 hw
    · replace hw := hw.2 q8
      refine g_iload_n h rfl 2 rfl dX11_find_11 ?_
      refine g_iconst (v := 2) h (by decide) dX11_find_12 ?_
      refine g_icmp_le (tgt := 18) h (by decide) dX11_find_13 (fun q13 => ?_) (fun q13 => ?_)
      · replace hw := hw.1 q13
        refine g_aload_n h rfl 0 rfl dX11_find_18 ?_
        refine g_get h is_0 fl_X11_19 fr_0_1 dX11_find_19 ?_
        refine g_get h is_3 fl_X11_403 fr_3_2 dX11_find_22 ?_
        refine g_iload_n h rfl 1 rfl dX11_find_25 ?_
        obtain ⟨hi26, hw⟩ := hw
        refine g_iald h ar_11 hi26 dX11_find_26 ?_
        refine g_ni (fun v3_27 ev3_27 => ?_)
        replace hw := hw v3_27 ev3_27
        refine g_istore_n (lo2 := [(3, .int v3_27), (0, .ref 0), (1, .int a1), (2, .int a2)]) h rfl (by decide) rfl dX11_find_27 ?_
        refine g_aload_n h rfl 1 rfl dX11_find_28 ?_
        refine g_get h is_0 fl_X11_19 fr_0_1 dX11_find_29 ?_
        refine g_get h is_3 fl_X11_403 fr_3_2 dX11_find_32 ?_
        refine g_iload_n h rfl 2 rfl dX11_find_35 ?_
        refine g_iload_n h rfl 3 rfl dX11_find_36 ?_
        obtain ⟨hi37, hw⟩ := hw
        refine g_iast h ar_11 hi37 dX11_find_37 ?_
        refine g_nI (fun I_37 eI_37 => ?_)
        replace hw := hw I_37 eI_37
        refine g_iload_n h rfl 0 rfl dX11_find_38 ?_
        exact g_iret h hr dX11_find_39 hw
      · replace hw := hw.2 q13
        refine g_iconst (v := (-1)) h (by decide) dX11_find_16 ?_
        exact g_iret h hr dX11_find_17 hw
theorem c_X11_find (X : sX) {a1 : Int32} {a2 : Int32} {I : sI} {J : sJ} {post : Int32 → sI → sJ → Prop} (hw : w_X11_find a1 a2 I J post) : sCall X yX11_find cX11_find 4 (some .int) 1 20 [.ref 0, .int a1, .int a2] I J (sPi post) := sCall_of (by decide +kernel) (Nat.le_of_ble_eq_true rfl) (fun X h hr => t_X11_find h hr hw)
theorem dX11_stand_0 : decode cX11_stand 0 = .ok (.aload_n 0, 1) := by decide +kernel
theorem dX11_stand_1 : decode cX11_stand 1 = .ok (.getfield 81, 3) := by decide +kernel
theorem dX11_stand_4 : decode cX11_stand 4 = .ok (.aload_n 0, 1) := by decide +kernel
theorem dX11_stand_5 : decode cX11_stand 5 = .ok (.getfield 19, 3) := by decide +kernel
theorem dX11_stand_8 : decode cX11_stand 8 = .ok (.getfield 403, 3) := by decide +kernel
theorem dX11_stand_11 : decode cX11_stand 11 = .ok (.invokevirtual 406, 3) := by decide +kernel
theorem dX11_stand_14 : decode cX11_stand 14 = .ok (.ireturn, 1) := by decide +kernel
def w_X11_stand (I : sI) (J : sJ) (post : Int32 → sI → sJ → Prop) : Prop :=
  w_X1_standing I J (fun (r_11 : Int32) (I_11 : sI) (J_11 : sJ) => (post r_11 I_11 J_11))
set_option maxHeartbeats 4000000 in
set_option maxRecDepth 100000 in
theorem t_X11_stand {X : sX} {I : sI} {J : sJ} {post : Int32 → sI → sJ → Prop} (h : sOK X cX11_stand RX11 1 2 47) (hr : sRt X (some .int) (sPi post)) (hw : w_X11_stand I J post) : sG X 1 0 [(0, .ref 0)] [] I J := by
  unfold w_X11_stand at hw
  refine g_aload_n h rfl 0 rfl dX11_stand_0 ?_
  refine g_get h is_0 fl_X11_81 fr_0_11 dX11_stand_1 ?_
  refine g_aload_n h rfl 0 rfl dX11_stand_4 ?_
  refine g_get h is_0 fl_X11_19 fr_0_1 dX11_stand_5 ?_
  refine g_get h is_3 fl_X11_403 fr_3_2 dX11_stand_8 ?_
  refine g_callV [.ref 11] h (c_X1_standing X hw) sPi_v mw_X1_standing lk_X11_406 is_227 rfl rfl ⟨by decide, by decide⟩ (Nat.le_of_ble_eq_true rfl) dX11_stand_11 (sPi_k (fun r_11 I_11 J_11 hw => ?_))
  exact g_iret h hr dX11_stand_14 hw
theorem c_X11_stand (X : sX) {I : sI} {J : sJ} {post : Int32 → sI → sJ → Prop} (hw : w_X11_stand I J post) : sCall X yX11_stand cX11_stand 1 (some .int) 2 47 [.ref 0] I J (sPi post) := sCall_of (by decide +kernel) (Nat.le_of_ble_eq_true rfl) (fun X h hr => t_X11_stand h hr hw)
theorem dX11_risks_0 : decode cX11_risks 0 = .ok (.aload_n 0, 1) := by decide +kernel
theorem dX11_risks_1 : decode cX11_risks 1 = .ok (.getfield 81, 3) := by decide +kernel
theorem dX11_risks_4 : decode cX11_risks 4 = .ok (.iload_n 1, 1) := by decide +kernel
theorem dX11_risks_5 : decode cX11_risks 5 = .ok (.invokevirtual 388, 3) := by decide +kernel
theorem dX11_risks_8 : decode cX11_risks 8 = .ok (.ifCond .ne 5, 3) := by decide +kernel
theorem dX11_risks_11 : decode cX11_risks 11 = .ok (.iconst (-1), 1) := by decide +kernel
theorem dX11_risks_12 : decode cX11_risks 12 = .ok (.ireturn, 1) := by decide +kernel
theorem dX11_risks_13 : decode cX11_risks 13 = .ok (.aload_n 0, 1) := by decide +kernel
theorem dX11_risks_14 : decode cX11_risks 14 = .ok (.getfield 81, 3) := by decide +kernel
theorem dX11_risks_17 : decode cX11_risks 17 = .ok (.aload_n 0, 1) := by decide +kernel
theorem dX11_risks_18 : decode cX11_risks 18 = .ok (.getfield 19, 3) := by decide +kernel
theorem dX11_risks_21 : decode cX11_risks 21 = .ok (.getfield 403, 3) := by decide +kernel
theorem dX11_risks_24 : decode cX11_risks 24 = .ok (.invokevirtual 406, 3) := by decide +kernel
theorem dX11_risks_27 : decode cX11_risks 27 = .ok (.iconst 1, 1) := by decide +kernel
theorem dX11_risks_28 : decode cX11_risks 28 = .ok (.iload_n 1, 1) := by decide +kernel
theorem dX11_risks_29 : decode cX11_risks 29 = .ok (.ishl, 1) := by decide +kernel
theorem dX11_risks_30 : decode cX11_risks 30 = .ok (.iconst (-1), 1) := by decide +kernel
theorem dX11_risks_31 : decode cX11_risks 31 = .ok (.ixor, 1) := by decide +kernel
theorem dX11_risks_32 : decode cX11_risks 32 = .ok (.iand, 1) := by decide +kernel
theorem dX11_risks_33 : decode cX11_risks 33 = .ok (.istore_n 2, 1) := by decide +kernel
theorem dX11_risks_34 : decode cX11_risks 34 = .ok (.iconst 0, 1) := by decide +kernel
theorem dX11_risks_35 : decode cX11_risks 35 = .ok (.istore_n 3, 1) := by decide +kernel
theorem dX11_risks_36 : decode cX11_risks 36 = .ok (.iconst 0, 1) := by decide +kernel
theorem dX11_risks_37 : decode cX11_risks 37 = .ok (.istore 4, 2) := by decide +kernel
theorem dX11_risks_39 : decode cX11_risks 39 = .ok (.iconst 0, 1) := by decide +kernel
theorem dX11_risks_40 : decode cX11_risks 40 = .ok (.istore 5, 2) := by decide +kernel
theorem dX11_risks_42 : decode cX11_risks 42 = .ok (.iload 5, 2) := by decide +kernel
theorem dX11_risks_44 : decode cX11_risks 44 = .ok (.bipush 12, 2) := by decide +kernel
theorem dX11_risks_46 : decode cX11_risks 46 = .ok (.if_icmp .ge 76, 3) := by decide +kernel
theorem dX11_risks_49 : decode cX11_risks 49 = .ok (.aload_n 0, 1) := by decide +kernel
theorem dX11_risks_50 : decode cX11_risks 50 = .ok (.getfield 81, 3) := by decide +kernel
theorem dX11_risks_53 : decode cX11_risks 53 = .ok (.getfield 393, 3) := by decide +kernel
theorem dX11_risks_56 : decode cX11_risks 56 = .ok (.iload_n 1, 1) := by decide +kernel
theorem dX11_risks_57 : decode cX11_risks 57 = .ok (.aaload, 1) := by decide +kernel
theorem dX11_risks_58 : decode cX11_risks 58 = .ok (.iload 5, 2) := by decide +kernel
theorem dX11_risks_60 : decode cX11_risks 60 = .ok (.iaload, 1) := by decide +kernel
theorem dX11_risks_61 : decode cX11_risks 61 = .ok (.istore 6, 2) := by decide +kernel
theorem dX11_risks_63 : decode cX11_risks 63 = .ok (.aload_n 0, 1) := by decide +kernel
theorem dX11_risks_64 : decode cX11_risks 64 = .ok (.getfield 19, 3) := by decide +kernel
theorem dX11_risks_67 : decode cX11_risks 67 = .ok (.getfield 403, 3) := by decide +kernel
theorem dX11_risks_70 : decode cX11_risks 70 = .ok (.iload 5, 2) := by decide +kernel
theorem dX11_risks_72 : decode cX11_risks 72 = .ok (.iaload, 1) := by decide +kernel
theorem dX11_risks_73 : decode cX11_risks 73 = .ok (.ifCond .ne 43, 3) := by decide +kernel
theorem dX11_risks_76 : decode cX11_risks 76 = .ok (.iload 6, 2) := by decide +kernel
theorem dX11_risks_78 : decode cX11_risks 78 = .ok (.ifCond .ne 6, 3) := by decide +kernel
theorem dX11_risks_81 : decode cX11_risks 81 = .ok (.goto 35, 3) := by decide +kernel
theorem dX11_risks_84 : decode cX11_risks 84 = .ok (.iinc 3 1, 3) := by decide +kernel
theorem dX11_risks_87 : decode cX11_risks 87 = .ok (.iload 4, 2) := by decide +kernel
theorem dX11_risks_89 : decode cX11_risks 89 = .ok (.aload_n 0, 1) := by decide +kernel
theorem dX11_risks_90 : decode cX11_risks 90 = .ok (.getfield 81, 3) := by decide +kernel
theorem dX11_risks_93 : decode cX11_risks 93 = .ok (.iload 5, 2) := by decide +kernel
theorem dX11_risks_95 : decode cX11_risks 95 = .ok (.iload 6, 2) := by decide +kernel
theorem dX11_risks_97 : decode cX11_risks 97 = .ok (.invokevirtual 410, 3) := by decide +kernel
theorem dX11_risks_100 : decode cX11_risks 100 = .ok (.iload_n 2, 1) := by decide +kernel
theorem dX11_risks_101 : decode cX11_risks 101 = .ok (.iand, 1) := by decide +kernel
theorem dX11_risks_102 : decode cX11_risks 102 = .ok (.ifCond .ne 10, 3) := by decide +kernel
theorem dX11_risks_105 : decode cX11_risks 105 = .ok (.iconst 1, 1) := by decide +kernel
theorem dX11_risks_106 : decode cX11_risks 106 = .ok (.iload 5, 2) := by decide +kernel
theorem dX11_risks_108 : decode cX11_risks 108 = .ok (.ishl, 1) := by decide +kernel
theorem dX11_risks_109 : decode cX11_risks 109 = .ok (.goto 4, 3) := by decide +kernel
theorem dX11_risks_112 : decode cX11_risks 112 = .ok (.iconst 0, 1) := by decide +kernel
theorem dX11_risks_113 : decode cX11_risks 113 = .ok (.ior, 1) := by decide +kernel
theorem dX11_risks_114 : decode cX11_risks 114 = .ok (.istore 4, 2) := by decide +kernel
theorem dX11_risks_116 : decode cX11_risks 116 = .ok (.iinc 5 1, 3) := by decide +kernel
theorem dX11_risks_119 : decode cX11_risks 119 = .ok (.goto (-77), 3) := by decide +kernel
theorem dX11_risks_122 : decode cX11_risks 122 = .ok (.aload_n 0, 1) := by decide +kernel
theorem dX11_risks_123 : decode cX11_risks 123 = .ok (.getfield 41, 3) := by decide +kernel
theorem dX11_risks_126 : decode cX11_risks 126 = .ok (.iload 4, 2) := by decide +kernel
theorem dX11_risks_128 : decode cX11_risks 128 = .ok (.i2l, 1) := by decide +kernel
theorem dX11_risks_129 : decode cX11_risks 129 = .ok (.invokevirtual 256, 3) := by decide +kernel
theorem dX11_risks_132 : decode cX11_risks 132 = .ok (.iload_n 3, 1) := by decide +kernel
theorem dX11_risks_133 : decode cX11_risks 133 = .ok (.ireturn, 1) := by decide +kernel
def w_X11_risks_116 (post : Int32 → sI → sJ → Prop) (k42 : Int32 → Int32 → Int32 → Int32 → Int32 → sI → sJ → Prop) (x1 : Int32) (x2 : Int32) (x3 : Int32) (x4 : Int32) (x5 : Int32) (I : sI) (J : sJ) : Prop :=
  (∀ v5_116 : Int32, v5_116 = x5 + 1 → k42 x1 x2 x3 x4 v5_116 I J)
set_option maxHeartbeats 4000000 in
set_option maxRecDepth 100000 in
theorem t_X11_risks_116 {X : sX} {post : Int32 → sI → sJ → Prop} (h : sOK X cX11_risks RX11 7 2 47) (hr : sRt X (some .int) (sPi post)) {k42 : Int32 → Int32 → Int32 → Int32 → Int32 → sI → sJ → Prop} (hk42 : ∀ (x1 : Int32) (x2 : Int32) (x3 : Int32) (x4 : Int32) (x5 : Int32) (I : sI) (J : sJ), k42 x1 x2 x3 x4 x5 I J → sG X 7 42 [(0, .ref 0), (1, .int x1), (2, .int x2), (3, .int x3), (4, .int x4), (5, .int x5)] [] I J) {x1 : Int32} {x2 : Int32} {x3 : Int32} {x4 : Int32} {x5 : Int32} {I : sI} {J : sJ} (hw : w_X11_risks_116 post k42 x1 x2 x3 x4 x5 I J) : sG X 7 116 [(0, .ref 0), (1, .int x1), (2, .int x2), (3, .int x3), (4, .int x4), (5, .int x5)] [] I J := by
  unfold w_X11_risks_116 at hw
  obtain ⟨v5_116, ev5_116⟩ : ∃ z : Int32, z = x5 + 1 := ⟨_, rfl⟩
  replace hw := hw v5_116 ev5_116
  refine g_iinc (v := v5_116) (lo2 := [(5, .int v5_116), (0, .ref 0), (1, .int x1), (2, .int x2), (3, .int x3), (4, .int x4)]) h 5 rfl (by rw [ev5_116]; rfl) (by decide) rfl dX11_risks_116 ?_
  refine g_goto (tgt := 42) h (by decide) dX11_risks_119 ?_
  exact g_sub [1, 2, 3, 4, 5, 0] rfl (hk42 _ _ _ _ _ _ _ hw)
def w_X11_risks_113 (post : Int32 → sI → sJ → Prop) (k42 : Int32 → Int32 → Int32 → Int32 → Int32 → sI → sJ → Prop) (x1 : Int32) (x2 : Int32) (x3 : Int32) (x5 : Int32) (s0 : Int32) (s1 : Int32) (I : sI) (J : sJ) : Prop :=
  (∀ v4_114 : Int32, v4_114 = s1 ||| s0 → w_X11_risks_116 post k42 x1 x2 x3 v4_114 x5 I J)
set_option maxHeartbeats 4000000 in
set_option maxRecDepth 100000 in
theorem t_X11_risks_113 {X : sX} {post : Int32 → sI → sJ → Prop} (h : sOK X cX11_risks RX11 7 2 47) (hr : sRt X (some .int) (sPi post)) {k42 : Int32 → Int32 → Int32 → Int32 → Int32 → sI → sJ → Prop} (hk42 : ∀ (x1 : Int32) (x2 : Int32) (x3 : Int32) (x4 : Int32) (x5 : Int32) (I : sI) (J : sJ), k42 x1 x2 x3 x4 x5 I J → sG X 7 42 [(0, .ref 0), (1, .int x1), (2, .int x2), (3, .int x3), (4, .int x4), (5, .int x5)] [] I J) {x1 : Int32} {x2 : Int32} {x3 : Int32} {x5 : Int32} {s0 : Int32} {s1 : Int32} {I : sI} {J : sJ} (hw : w_X11_risks_113 post k42 x1 x2 x3 x5 s0 s1 I J) : sG X 7 113 [(0, .ref 0), (1, .int x1), (2, .int x2), (3, .int x3), (5, .int x5)] [.int s0, .int s1] I J := by
  unfold w_X11_risks_113 at hw
  refine g_ior h dX11_risks_113 ?_
  refine g_ni (fun v4_114 ev4_114 => ?_)
  replace hw := hw v4_114 ev4_114
  refine g_istore (lo2 := [(4, .int v4_114), (0, .ref 0), (1, .int x1), (2, .int x2), (3, .int x3), (5, .int x5)]) h (by decide) rfl dX11_risks_114 ?_
  exact g_sub [1, 2, 3, 4, 0, 5] rfl (t_X11_risks_116 h hr hk42 hw)
def w_X11_risks_42_s (post : Int32 → sI → sJ → Prop) (k42 : Int32 → Int32 → Int32 → Int32 → Int32 → sI → sJ → Prop) (x1 : Int32) (x2 : Int32) (x3 : Int32) (x4 : Int32) (x5 : Int32) (I : sI) (J : sJ) : Prop :=
  ((12 ≤ x5 → w_X6_tell 134 (Int32.toInt64 x4) I J (fun (I_129 : sI) (J_129 : sJ) => (post x3 I_129 J_129))) ∧ (¬ 12 ≤ x5 → (vp_in x1 10 ∧ (vp_in x5 12 ∧ (∀ v6_61 : Int32, v6_61 = I (sR 228 (Int32.toNatClampNeg x1)) (Int32.toNatClampNeg x5) → (vp_in x5 12 ∧ ((¬ (I 11 (Int32.toNatClampNeg x5)) = 0 → w_X11_risks_116 post k42 x1 x2 x3 x4 x5 I J) ∧ ((I 11 (Int32.toNatClampNeg x5)) = 0 → ((¬ v6_61 = 0 → (∀ v3_84 : Int32, v3_84 = x3 + 1 → w_X1_saying x5 v6_61 I J (fun (r_97 : Int32) (I_97 : sI) (J_97 : sJ) => (((¬ (r_97 &&& x2) = 0 → w_X11_risks_113 post k42 x1 x2 v3_84 x5 0 x4 I_97 J_97) ∧ ((r_97 &&& x2) = 0 → w_X11_risks_113 post k42 x1 x2 v3_84 x5 (1 <<< (x5 &&& 31)) x4 I_97 J_97)))))) ∧ (v6_61 = 0 → w_X11_risks_116 post k42 x1 x2 x3 x4 x5 I J))))))))))
def w_X11_risks_42_n (post : Int32 → sI → sJ → Prop) : Nat → Int32 → Int32 → Int32 → Int32 → Int32 → sI → sJ → Prop
  | 0 => fun _ _ _ _ _ _ _ => False
  | n + 1 => fun x1 x2 x3 x4 x5 I J => w_X11_risks_42_s post (w_X11_risks_42_n post n) x1 x2 x3 x4 x5 I J
def w_X11_risks_42 (post : Int32 → sI → sJ → Prop) (x1 : Int32) (x2 : Int32) (x3 : Int32) (x4 : Int32) (x5 : Int32) (I : sI) (J : sJ) : Prop := ∃ n, w_X11_risks_42_n post n x1 x2 x3 x4 x5 I J
set_option maxHeartbeats 4000000 in
set_option maxRecDepth 100000 in
theorem t_X11_risks_42_s {X : sX} {post : Int32 → sI → sJ → Prop} (h : sOK X cX11_risks RX11 7 2 47) (hr : sRt X (some .int) (sPi post)) {k42 : Int32 → Int32 → Int32 → Int32 → Int32 → sI → sJ → Prop} (hk42 : ∀ (x1 : Int32) (x2 : Int32) (x3 : Int32) (x4 : Int32) (x5 : Int32) (I : sI) (J : sJ), k42 x1 x2 x3 x4 x5 I J → sG X 7 42 [(0, .ref 0), (1, .int x1), (2, .int x2), (3, .int x3), (4, .int x4), (5, .int x5)] [] I J) {x1 : Int32} {x2 : Int32} {x3 : Int32} {x4 : Int32} {x5 : Int32} {I : sI} {J : sJ} (hw : w_X11_risks_42_s post k42 x1 x2 x3 x4 x5 I J) : sG X 7 42 [(0, .ref 0), (1, .int x1), (2, .int x2), (3, .int x3), (4, .int x4), (5, .int x5)] [] I J := by
  unfold w_X11_risks_42_s at hw
  refine g_iload h 5 rfl dX11_risks_42 ?_
  refine g_bipush (v := 12) h (by decide) dX11_risks_44 ?_
  refine g_icmp_ge (tgt := 122) h (by decide) dX11_risks_46 (fun q46 => ?_) (fun q46 => ?_)
  · replace hw := hw.1 q46
    refine g_aload_n h rfl 0 rfl dX11_risks_122 ?_
    refine g_get h is_0 fl_X11_41 fr_0_5 dX11_risks_123 ?_
    refine g_iload h 4 rfl dX11_risks_126 ?_
    refine g_i2l h dX11_risks_128 ?_
    refine g_callV [.long (Int32.toInt64 x4)] h (c_X6_tell X is_134 hw) sPv_v mw_X6_tell lk_X11_256 is_134 rfl rfl ⟨by decide, by decide⟩ (Nat.le_of_ble_eq_true rfl) dX11_risks_129 (sPv_k (fun I_129 J_129 hw => ?_))
    refine g_iload_n h rfl 3 rfl dX11_risks_132 ?_
    exact g_iret h hr dX11_risks_133 hw
  · replace hw := hw.2 q46
    refine g_aload_n h rfl 0 rfl dX11_risks_49 ?_
    refine g_get h is_0 fl_X11_81 fr_0_11 dX11_risks_50 ?_
    refine g_get h is_227 fl_X11_393 fr_227_0 dX11_risks_53 ?_
    refine g_iload_n h rfl 1 rfl dX11_risks_56 ?_
    obtain ⟨hi57, hw⟩ := hw
    refine g_aald (t := 2) h ar_228 (by decide) hi57 dX11_risks_57 ?_
    refine g_iload h 5 rfl dX11_risks_58 ?_
    obtain ⟨hi60, hw⟩ := hw
    refine g_iald h (el_6_10 ar_228 hi57) hi60 dX11_risks_60 ?_
    refine g_ni (fun v6_61 ev6_61 => ?_)
    replace hw := hw v6_61 ev6_61
    refine g_istore (lo2 := [(6, .int v6_61), (0, .ref 0), (1, .int x1), (2, .int x2), (3, .int x3), (4, .int x4), (5, .int x5)]) h (by decide) rfl dX11_risks_61 ?_
    refine g_aload_n h rfl 1 rfl dX11_risks_63 ?_
    refine g_get h is_0 fl_X11_19 fr_0_1 dX11_risks_64 ?_
    refine g_get h is_3 fl_X11_403 fr_3_2 dX11_risks_67 ?_
    refine g_iload h 6 rfl dX11_risks_70 ?_
    obtain ⟨hi72, hw⟩ := hw
    refine g_iald h ar_11 hi72 dX11_risks_72 ?_
    refine g_if_ne (tgt := 116) h (by decide) dX11_risks_73 (fun q73 => ?_) (fun q73 => ?_)
    · replace hw := hw.1 q73
      exact g_sub [1, 2, 3, 4, 5, 6] rfl (t_X11_risks_116 h hr hk42 hw)
    · replace hw := hw.2 q73
      refine g_iload h 0 rfl dX11_risks_76 ?_
      refine g_if_ne (tgt := 84) h (by decide) dX11_risks_78 (fun q78 => ?_) (fun q78 => ?_)
      · replace hw := hw.1 q78
        obtain ⟨v3_84, ev3_84⟩ : ∃ z : Int32, z = x3 + 1 := ⟨_, rfl⟩
        replace hw := hw v3_84 ev3_84
        refine g_iinc (v := v3_84) (lo2 := [(3, .int v3_84), (6, .int v6_61), (0, .ref 0), (1, .int x1), (2, .int x2), (4, .int x4), (5, .int x5)]) h 4 rfl (by rw [ev3_84]; rfl) (by decide) rfl dX11_risks_84 ?_
        refine g_iload h 5 rfl dX11_risks_87 ?_
        refine g_aload_n h rfl 2 rfl dX11_risks_89 ?_
        refine g_get h is_0 fl_X11_81 fr_0_11 dX11_risks_90 ?_
        refine g_iload h 6 rfl dX11_risks_93 ?_
        refine g_iload h 1 rfl dX11_risks_95 ?_
        refine g_callV [.int x5, .int v6_61] h (c_X1_saying X hw) sPi_v mw_X1_saying lk_X11_410 is_227 rfl rfl ⟨by decide, by decide⟩ (Nat.le_of_ble_eq_true rfl) dX11_risks_97 (sPi_k (fun r_97 I_97 J_97 hw => ?_))
        refine g_iload_n h rfl 4 rfl dX11_risks_100 ?_
        refine g_iand h dX11_risks_101 ?_
        refine g_if_ne (tgt := 112) h (by decide) dX11_risks_102 (fun q102 => ?_) (fun q102 => ?_)
        · replace hw := hw.1 q102
          refine g_iconst (v := 0) h (by decide) dX11_risks_112 ?_
          exact g_sub [2, 3, 4, 0, 6] rfl (t_X11_risks_113 h hr hk42 hw)
        · replace hw := hw.2 q102
          refine g_iconst (v := 1) h (by decide) dX11_risks_105 ?_
          refine g_iload h 6 rfl dX11_risks_106 ?_
          refine g_ishl h dX11_risks_108 ?_
          refine g_goto (tgt := 113) h (by decide) dX11_risks_109 ?_
          exact g_sub [2, 3, 4, 0, 6] rfl (t_X11_risks_113 h hr hk42 hw)
      · replace hw := hw.2 q78
        refine g_goto (tgt := 116) h (by decide) dX11_risks_81 ?_
        exact g_sub [1, 2, 3, 4, 5, 6] rfl (t_X11_risks_116 h hr hk42 hw)
theorem t_X11_risks_42 {X : sX} {post : Int32 → sI → sJ → Prop} (h : sOK X cX11_risks RX11 7 2 47) (hr : sRt X (some .int) (sPi post)) {x1 : Int32} {x2 : Int32} {x3 : Int32} {x4 : Int32} {x5 : Int32} {I : sI} {J : sJ} (hw : w_X11_risks_42 post x1 x2 x3 x4 x5 I J) : sG X 7 42 [(0, .ref 0), (1, .int x1), (2, .int x2), (3, .int x3), (4, .int x4), (5, .int x5)] [] I J := by
  obtain ⟨n, hw⟩ := hw
  induction n generalizing x1 x2 x3 x4 x5 I J with
  | zero => exact hw.elim
  | succ n ih => exact t_X11_risks_42_s h hr (fun _ _ _ _ _ _ _ q => ih q) hw
def w_X11_risks (a1 : Int32) (I : sI) (J : sJ) (post : Int32 → sI → sJ → Prop) : Prop :=
  w_X1_has a1 I J (fun (r_5 : Int32) (I_5 : sI) (J_5 : sJ) => (((¬ r_5 = 0 → w_X1_standing I_5 J_5 (fun (r_24 : Int32) (I_24 : sI) (J_24 : sJ) => ((∀ v2_33 : Int32, v2_33 = r_24 &&& ((1 <<< (a1 &&& 31)) ^^^ (-1)) → w_X11_risks_42 post a1 v2_33 0 0 0 I_24 J_24)))) ∧ (r_5 = 0 → post (-1) I_5 J_5))))
set_option maxHeartbeats 4000000 in
set_option maxRecDepth 100000 in
theorem t_X11_risks {X : sX} {a1 : Int32} {I : sI} {J : sJ} {post : Int32 → sI → sJ → Prop} (h : sOK X cX11_risks RX11 7 2 47) (hr : sRt X (some .int) (sPi post)) (hw : w_X11_risks a1 I J post) : sG X 7 0 [(0, .ref 0), (1, .int a1)] [] I J := by
  unfold w_X11_risks at hw
  refine g_aload_n h rfl 0 rfl dX11_risks_0 ?_
  refine g_get h is_0 fl_X11_81 fr_0_11 dX11_risks_1 ?_
  refine g_iload_n h rfl 1 rfl dX11_risks_4 ?_
  refine g_callV [.int a1] h (c_X1_has X hw) sPi_v mw_X1_has lk_X11_388 is_227 rfl rfl ⟨by decide, by decide⟩ (Nat.le_of_ble_eq_true rfl) dX11_risks_5 (sPi_k (fun r_5 I_5 J_5 hw => ?_))
  refine g_if_ne (tgt := 13) h (by decide) dX11_risks_8 (fun q8 => ?_) (fun q8 => ?_)
  · replace hw := hw.1 q8
    refine g_aload_n h rfl 0 rfl dX11_risks_13 ?_
    refine g_get h is_0 fl_X11_81 fr_0_11 dX11_risks_14 ?_
    refine g_aload_n h rfl 0 rfl dX11_risks_17 ?_
    refine g_get h is_0 fl_X11_19 fr_0_1 dX11_risks_18 ?_
    refine g_get h is_3 fl_X11_403 fr_3_2 dX11_risks_21 ?_
    refine g_callV [.ref 11] h (c_X1_standing X hw) sPi_v mw_X1_standing lk_X11_406 is_227 rfl rfl ⟨by decide, by decide⟩ (Nat.le_of_ble_eq_true rfl) dX11_risks_24 (sPi_k (fun r_24 I_24 J_24 hw => ?_))
    refine g_iconst (v := 1) h (by decide) dX11_risks_27 ?_
    refine g_iload_n h rfl 1 rfl dX11_risks_28 ?_
    refine g_ishl h dX11_risks_29 ?_
    refine g_iconst (v := (-1)) h (by decide) dX11_risks_30 ?_
    refine g_ixor h dX11_risks_31 ?_
    refine g_iand h dX11_risks_32 ?_
    refine g_ni (fun v2_33 ev2_33 => ?_)
    replace hw := hw v2_33 ev2_33
    refine g_istore_n (lo2 := [(2, .int v2_33), (0, .ref 0), (1, .int a1)]) h rfl (by decide) rfl dX11_risks_33 ?_
    refine g_iconst (v := 0) h (by decide) dX11_risks_34 ?_
    refine g_istore_n (lo2 := [(3, .int 0), (2, .int v2_33), (0, .ref 0), (1, .int a1)]) h rfl (by decide) rfl dX11_risks_35 ?_
    refine g_iconst (v := 0) h (by decide) dX11_risks_36 ?_
    refine g_istore (lo2 := [(4, .int 0), (3, .int 0), (2, .int v2_33), (0, .ref 0), (1, .int a1)]) h (by decide) rfl dX11_risks_37 ?_
    refine g_iconst (v := 0) h (by decide) dX11_risks_39 ?_
    refine g_istore (lo2 := [(5, .int 0), (4, .int 0), (3, .int 0), (2, .int v2_33), (0, .ref 0), (1, .int a1)]) h (by decide) rfl dX11_risks_40 ?_
    exact g_sub [4, 5, 3, 2, 1, 0] rfl (t_X11_risks_42 h hr hw)
  · replace hw := hw.2 q8
    refine g_iconst (v := (-1)) h (by decide) dX11_risks_11 ?_
    exact g_iret h hr dX11_risks_12 hw
theorem c_X11_risks (X : sX) {a1 : Int32} {I : sI} {J : sJ} {post : Int32 → sI → sJ → Prop} (hw : w_X11_risks a1 I J post) : sCall X yX11_risks cX11_risks 7 (some .int) 2 47 [.ref 0, .int a1] I J (sPi post) := sCall_of (by decide +kernel) (Nat.le_of_ble_eq_true rfl) (fun X h hr => t_X11_risks h hr hw)
theorem dX11_idle_0 : decode cX11_idle 0 = .ok (.aload_n 0, 1) := by decide +kernel
theorem dX11_idle_1 : decode cX11_idle 1 = .ok (.getfield 81, 3) := by decide +kernel
theorem dX11_idle_4 : decode cX11_idle 4 = .ok (.aload_n 0, 1) := by decide +kernel
theorem dX11_idle_5 : decode cX11_idle 5 = .ok (.getfield 19, 3) := by decide +kernel
theorem dX11_idle_8 : decode cX11_idle 8 = .ok (.getfield 403, 3) := by decide +kernel
theorem dX11_idle_11 : decode cX11_idle 11 = .ok (.invokevirtual 406, 3) := by decide +kernel
theorem dX11_idle_14 : decode cX11_idle 14 = .ok (.istore_n 1, 1) := by decide +kernel
theorem dX11_idle_15 : decode cX11_idle 15 = .ok (.iconst 0, 1) := by decide +kernel
theorem dX11_idle_16 : decode cX11_idle 16 = .ok (.istore_n 2, 1) := by decide +kernel
theorem dX11_idle_17 : decode cX11_idle 17 = .ok (.iload_n 2, 1) := by decide +kernel
theorem dX11_idle_18 : decode cX11_idle 18 = .ok (.bipush 12, 2) := by decide +kernel
theorem dX11_idle_20 : decode cX11_idle 20 = .ok (.if_icmp .ge 45, 3) := by decide +kernel
theorem dX11_idle_23 : decode cX11_idle 23 = .ok (.aload_n 0, 1) := by decide +kernel
theorem dX11_idle_24 : decode cX11_idle 24 = .ok (.getfield 19, 3) := by decide +kernel
theorem dX11_idle_27 : decode cX11_idle 27 = .ok (.getfield 403, 3) := by decide +kernel
theorem dX11_idle_30 : decode cX11_idle 30 = .ok (.iload_n 2, 1) := by decide +kernel
theorem dX11_idle_31 : decode cX11_idle 31 = .ok (.iaload, 1) := by decide +kernel
theorem dX11_idle_32 : decode cX11_idle 32 = .ok (.ifCond .ne 27, 3) := by decide +kernel
theorem dX11_idle_35 : decode cX11_idle 35 = .ok (.iload_n 1, 1) := by decide +kernel
theorem dX11_idle_36 : decode cX11_idle 36 = .ok (.aload_n 0, 1) := by decide +kernel
theorem dX11_idle_37 : decode cX11_idle 37 = .ok (.getfield 81, 3) := by decide +kernel
theorem dX11_idle_40 : decode cX11_idle 40 = .ok (.iload_n 2, 1) := by decide +kernel
theorem dX11_idle_41 : decode cX11_idle 41 = .ok (.iconst 1, 1) := by decide +kernel
theorem dX11_idle_42 : decode cX11_idle 42 = .ok (.invokevirtual 410, 3) := by decide +kernel
theorem dX11_idle_45 : decode cX11_idle 45 = .ok (.aload_n 0, 1) := by decide +kernel
theorem dX11_idle_46 : decode cX11_idle 46 = .ok (.getfield 81, 3) := by decide +kernel
theorem dX11_idle_49 : decode cX11_idle 49 = .ok (.iload_n 2, 1) := by decide +kernel
theorem dX11_idle_50 : decode cX11_idle 50 = .ok (.iconst 2, 1) := by decide +kernel
theorem dX11_idle_51 : decode cX11_idle 51 = .ok (.invokevirtual 410, 3) := by decide +kernel
theorem dX11_idle_54 : decode cX11_idle 54 = .ok (.ior, 1) := by decide +kernel
theorem dX11_idle_55 : decode cX11_idle 55 = .ok (.iconst (-1), 1) := by decide +kernel
theorem dX11_idle_56 : decode cX11_idle 56 = .ok (.ixor, 1) := by decide +kernel
theorem dX11_idle_57 : decode cX11_idle 57 = .ok (.iand, 1) := by decide +kernel
theorem dX11_idle_58 : decode cX11_idle 58 = .ok (.istore_n 1, 1) := by decide +kernel
theorem dX11_idle_59 : decode cX11_idle 59 = .ok (.iinc 2 1, 3) := by decide +kernel
theorem dX11_idle_62 : decode cX11_idle 62 = .ok (.goto (-45), 3) := by decide +kernel
theorem dX11_idle_65 : decode cX11_idle 65 = .ok (.iload_n 1, 1) := by decide +kernel
theorem dX11_idle_66 : decode cX11_idle 66 = .ok (.ireturn, 1) := by decide +kernel
def w_X11_idle_59 (post : Int32 → sI → sJ → Prop) (k17 : Int32 → Int32 → sI → sJ → Prop) (x1 : Int32) (x2 : Int32) (I : sI) (J : sJ) : Prop :=
  (∀ v2_59 : Int32, v2_59 = x2 + 1 → k17 x1 v2_59 I J)
set_option maxHeartbeats 4000000 in
set_option maxRecDepth 100000 in
theorem t_X11_idle_59 {X : sX} {post : Int32 → sI → sJ → Prop} (h : sOK X cX11_idle RX11 3 2 47) (hr : sRt X (some .int) (sPi post)) {k17 : Int32 → Int32 → sI → sJ → Prop} (hk17 : ∀ (x1 : Int32) (x2 : Int32) (I : sI) (J : sJ), k17 x1 x2 I J → sG X 3 17 [(0, .ref 0), (1, .int x1), (2, .int x2)] [] I J) {x1 : Int32} {x2 : Int32} {I : sI} {J : sJ} (hw : w_X11_idle_59 post k17 x1 x2 I J) : sG X 3 59 [(0, .ref 0), (1, .int x1), (2, .int x2)] [] I J := by
  unfold w_X11_idle_59 at hw
  obtain ⟨v2_59, ev2_59⟩ : ∃ z : Int32, z = x2 + 1 := ⟨_, rfl⟩
  replace hw := hw v2_59 ev2_59
  refine g_iinc (v := v2_59) (lo2 := [(2, .int v2_59), (0, .ref 0), (1, .int x1)]) h 2 rfl (by rw [ev2_59]; rfl) (by decide) rfl dX11_idle_59 ?_
  refine g_goto (tgt := 17) h (by decide) dX11_idle_62 ?_
  exact g_sub [1, 2, 0] rfl (hk17 _ _ _ _ hw)
def w_X11_idle_17_s (post : Int32 → sI → sJ → Prop) (k17 : Int32 → Int32 → sI → sJ → Prop) (x1 : Int32) (x2 : Int32) (I : sI) (J : sJ) : Prop :=
  ((12 ≤ x2 → post x1 I J) ∧ (¬ 12 ≤ x2 → (vp_in x2 12 ∧ ((¬ (I 11 (Int32.toNatClampNeg x2)) = 0 → w_X11_idle_59 post k17 x1 x2 I J) ∧ ((I 11 (Int32.toNatClampNeg x2)) = 0 → w_X1_saying x2 1 I J (fun (r_42 : Int32) (I_42 : sI) (J_42 : sJ) => (w_X1_saying x2 2 I_42 J_42 (fun (r_51 : Int32) (I_51 : sI) (J_51 : sJ) => ((∀ v1_58 : Int32, v1_58 = x1 &&& ((r_42 ||| r_51) ^^^ (-1)) → w_X11_idle_59 post k17 v1_58 x2 I_51 J_51))))))))))
def w_X11_idle_17_n (post : Int32 → sI → sJ → Prop) : Nat → Int32 → Int32 → sI → sJ → Prop
  | 0 => fun _ _ _ _ => False
  | n + 1 => fun x1 x2 I J => w_X11_idle_17_s post (w_X11_idle_17_n post n) x1 x2 I J
def w_X11_idle_17 (post : Int32 → sI → sJ → Prop) (x1 : Int32) (x2 : Int32) (I : sI) (J : sJ) : Prop := ∃ n, w_X11_idle_17_n post n x1 x2 I J
set_option maxHeartbeats 4000000 in
set_option maxRecDepth 100000 in
theorem t_X11_idle_17_s {X : sX} {post : Int32 → sI → sJ → Prop} (h : sOK X cX11_idle RX11 3 2 47) (hr : sRt X (some .int) (sPi post)) {k17 : Int32 → Int32 → sI → sJ → Prop} (hk17 : ∀ (x1 : Int32) (x2 : Int32) (I : sI) (J : sJ), k17 x1 x2 I J → sG X 3 17 [(0, .ref 0), (1, .int x1), (2, .int x2)] [] I J) {x1 : Int32} {x2 : Int32} {I : sI} {J : sJ} (hw : w_X11_idle_17_s post k17 x1 x2 I J) : sG X 3 17 [(0, .ref 0), (1, .int x1), (2, .int x2)] [] I J := by
  unfold w_X11_idle_17_s at hw
  refine g_iload_n h rfl 2 rfl dX11_idle_17 ?_
  refine g_bipush (v := 12) h (by decide) dX11_idle_18 ?_
  refine g_icmp_ge (tgt := 65) h (by decide) dX11_idle_20 (fun q20 => ?_) (fun q20 => ?_)
  · replace hw := hw.1 q20
    refine g_iload_n h rfl 1 rfl dX11_idle_65 ?_
    exact g_iret h hr dX11_idle_66 hw
  · replace hw := hw.2 q20
    refine g_aload_n h rfl 0 rfl dX11_idle_23 ?_
    refine g_get h is_0 fl_X11_19 fr_0_1 dX11_idle_24 ?_
    refine g_get h is_3 fl_X11_403 fr_3_2 dX11_idle_27 ?_
    refine g_iload_n h rfl 2 rfl dX11_idle_30 ?_
    obtain ⟨hi31, hw⟩ := hw
    refine g_iald h ar_11 hi31 dX11_idle_31 ?_
    refine g_if_ne (tgt := 59) h (by decide) dX11_idle_32 (fun q32 => ?_) (fun q32 => ?_)
    · replace hw := hw.1 q32
      exact g_sub [0, 1, 2] rfl (t_X11_idle_59 h hr hk17 hw)
    · replace hw := hw.2 q32
      refine g_iload_n h rfl 1 rfl dX11_idle_35 ?_
      refine g_aload_n h rfl 0 rfl dX11_idle_36 ?_
      refine g_get h is_0 fl_X11_81 fr_0_11 dX11_idle_37 ?_
      refine g_iload_n h rfl 2 rfl dX11_idle_40 ?_
      refine g_iconst (v := 1) h (by decide) dX11_idle_41 ?_
      refine g_callV [.int x2, .int 1] h (c_X1_saying X hw) sPi_v mw_X1_saying lk_X11_410 is_227 rfl rfl ⟨by decide, by decide⟩ (Nat.le_of_ble_eq_true rfl) dX11_idle_42 (sPi_k (fun r_42 I_42 J_42 hw => ?_))
      refine g_aload_n h rfl 0 rfl dX11_idle_45 ?_
      refine g_get h is_0 fl_X11_81 fr_0_11 dX11_idle_46 ?_
      refine g_iload_n h rfl 2 rfl dX11_idle_49 ?_
      refine g_iconst (v := 2) h (by decide) dX11_idle_50 ?_
      refine g_callV [.int x2, .int 2] h (c_X1_saying X hw) sPi_v mw_X1_saying lk_X11_410 is_227 rfl rfl ⟨by decide, by decide⟩ (Nat.le_of_ble_eq_true rfl) dX11_idle_51 (sPi_k (fun r_51 I_51 J_51 hw => ?_))
      refine g_ior h dX11_idle_54 ?_
      refine g_iconst (v := (-1)) h (by decide) dX11_idle_55 ?_
      refine g_ixor h dX11_idle_56 ?_
      refine g_iand h dX11_idle_57 ?_
      refine g_ni (fun v1_58 ev1_58 => ?_)
      replace hw := hw v1_58 ev1_58
      refine g_istore_n (lo2 := [(1, .int v1_58), (0, .ref 0), (2, .int x2)]) h rfl (by decide) rfl dX11_idle_58 ?_
      exact g_sub [1, 0, 2] rfl (t_X11_idle_59 h hr hk17 hw)
theorem t_X11_idle_17 {X : sX} {post : Int32 → sI → sJ → Prop} (h : sOK X cX11_idle RX11 3 2 47) (hr : sRt X (some .int) (sPi post)) {x1 : Int32} {x2 : Int32} {I : sI} {J : sJ} (hw : w_X11_idle_17 post x1 x2 I J) : sG X 3 17 [(0, .ref 0), (1, .int x1), (2, .int x2)] [] I J := by
  obtain ⟨n, hw⟩ := hw
  induction n generalizing x1 x2 I J with
  | zero => exact hw.elim
  | succ n ih => exact t_X11_idle_17_s h hr (fun _ _ _ _ q => ih q) hw
def w_X11_idle (I : sI) (J : sJ) (post : Int32 → sI → sJ → Prop) : Prop :=
  w_X1_standing I J (fun (r_11 : Int32) (I_11 : sI) (J_11 : sJ) => (w_X11_idle_17 post r_11 0 I_11 J_11))
set_option maxHeartbeats 4000000 in
set_option maxRecDepth 100000 in
theorem t_X11_idle {X : sX} {I : sI} {J : sJ} {post : Int32 → sI → sJ → Prop} (h : sOK X cX11_idle RX11 3 2 47) (hr : sRt X (some .int) (sPi post)) (hw : w_X11_idle I J post) : sG X 3 0 [(0, .ref 0)] [] I J := by
  unfold w_X11_idle at hw
  refine g_aload_n h rfl 0 rfl dX11_idle_0 ?_
  refine g_get h is_0 fl_X11_81 fr_0_11 dX11_idle_1 ?_
  refine g_aload_n h rfl 0 rfl dX11_idle_4 ?_
  refine g_get h is_0 fl_X11_19 fr_0_1 dX11_idle_5 ?_
  refine g_get h is_3 fl_X11_403 fr_3_2 dX11_idle_8 ?_
  refine g_callV [.ref 11] h (c_X1_standing X hw) sPi_v mw_X1_standing lk_X11_406 is_227 rfl rfl ⟨by decide, by decide⟩ (Nat.le_of_ble_eq_true rfl) dX11_idle_11 (sPi_k (fun r_11 I_11 J_11 hw => ?_))
  refine g_istore_n (lo2 := [(1, .int r_11), (0, .ref 0)]) h rfl (by decide) rfl dX11_idle_14 ?_
  refine g_iconst (v := 0) h (by decide) dX11_idle_15 ?_
  refine g_istore_n (lo2 := [(2, .int 0), (1, .int r_11), (0, .ref 0)]) h rfl (by decide) rfl dX11_idle_16 ?_
  exact g_sub [2, 1, 0] rfl (t_X11_idle_17 h hr hw)
theorem c_X11_idle (X : sX) {I : sI} {J : sJ} {post : Int32 → sI → sJ → Prop} (hw : w_X11_idle I J post) : sCall X yX11_idle cX11_idle 3 (some .int) 2 47 [.ref 0] I J (sPi post) := sCall_of (by decide +kernel) (Nat.le_of_ble_eq_true rfl) (fun X h hr => t_X11_idle h hr hw)
theorem dX11_seek_0 : decode cX11_seek 0 = .ok (.aload_n 0, 1) := by decide +kernel
theorem dX11_seek_1 : decode cX11_seek 1 = .ok (.getfield 81, 3) := by decide +kernel
theorem dX11_seek_4 : decode cX11_seek 4 = .ok (.aload_n 0, 1) := by decide +kernel
theorem dX11_seek_5 : decode cX11_seek 5 = .ok (.getfield 19, 3) := by decide +kernel
theorem dX11_seek_8 : decode cX11_seek 8 = .ok (.getfield 403, 3) := by decide +kernel
theorem dX11_seek_11 : decode cX11_seek 11 = .ok (.invokevirtual 406, 3) := by decide +kernel
theorem dX11_seek_14 : decode cX11_seek 14 = .ok (.istore_n 1, 1) := by decide +kernel
theorem dX11_seek_15 : decode cX11_seek 15 = .ok (.iload_n 1, 1) := by decide +kernel
theorem dX11_seek_16 : decode cX11_seek 16 = .ok (.ifCond .ne 5, 3) := by decide +kernel
theorem dX11_seek_19 : decode cX11_seek 19 = .ok (.iconst (-1), 1) := by decide +kernel
theorem dX11_seek_20 : decode cX11_seek 20 = .ok (.ireturn, 1) := by decide +kernel
theorem dX11_seek_21 : decode cX11_seek 21 = .ok (.bipush (-2), 2) := by decide +kernel
theorem dX11_seek_23 : decode cX11_seek 23 = .ok (.istore_n 2, 1) := by decide +kernel
theorem dX11_seek_24 : decode cX11_seek 24 = .ok (.iconst 0, 1) := by decide +kernel
theorem dX11_seek_25 : decode cX11_seek 25 = .ok (.istore_n 3, 1) := by decide +kernel
theorem dX11_seek_26 : decode cX11_seek 26 = .ok (.iconst 0, 1) := by decide +kernel
theorem dX11_seek_27 : decode cX11_seek 27 = .ok (.istore 4, 2) := by decide +kernel
theorem dX11_seek_29 : decode cX11_seek 29 = .ok (.iload 4, 2) := by decide +kernel
theorem dX11_seek_31 : decode cX11_seek 31 = .ok (.bipush 12, 2) := by decide +kernel
theorem dX11_seek_33 : decode cX11_seek 33 = .ok (.if_icmp .ge 90, 3) := by decide +kernel
theorem dX11_seek_36 : decode cX11_seek 36 = .ok (.aload_n 0, 1) := by decide +kernel
theorem dX11_seek_37 : decode cX11_seek 37 = .ok (.getfield 19, 3) := by decide +kernel
theorem dX11_seek_40 : decode cX11_seek 40 = .ok (.getfield 403, 3) := by decide +kernel
theorem dX11_seek_43 : decode cX11_seek 43 = .ok (.iload 4, 2) := by decide +kernel
theorem dX11_seek_45 : decode cX11_seek 45 = .ok (.iaload, 1) := by decide +kernel
theorem dX11_seek_46 : decode cX11_seek 46 = .ok (.ifCond .eq 6, 3) := by decide +kernel
theorem dX11_seek_49 : decode cX11_seek 49 = .ok (.goto 68, 3) := by decide +kernel
theorem dX11_seek_52 : decode cX11_seek 52 = .ok (.iload_n 1, 1) := by decide +kernel
theorem dX11_seek_53 : decode cX11_seek 53 = .ok (.aload_n 0, 1) := by decide +kernel
theorem dX11_seek_54 : decode cX11_seek 54 = .ok (.getfield 81, 3) := by decide +kernel
theorem dX11_seek_57 : decode cX11_seek 57 = .ok (.iload 4, 2) := by decide +kernel
theorem dX11_seek_59 : decode cX11_seek 59 = .ok (.iconst 2, 1) := by decide +kernel
theorem dX11_seek_60 : decode cX11_seek 60 = .ok (.invokevirtual 410, 3) := by decide +kernel
theorem dX11_seek_63 : decode cX11_seek 63 = .ok (.iconst (-1), 1) := by decide +kernel
theorem dX11_seek_64 : decode cX11_seek 64 = .ok (.ixor, 1) := by decide +kernel
theorem dX11_seek_65 : decode cX11_seek 65 = .ok (.iand, 1) := by decide +kernel
theorem dX11_seek_66 : decode cX11_seek 66 = .ok (.invokestatic 216, 3) := by decide +kernel
theorem dX11_seek_69 : decode cX11_seek 69 = .ok (.istore 5, 2) := by decide +kernel
theorem dX11_seek_71 : decode cX11_seek 71 = .ok (.iload_n 1, 1) := by decide +kernel
theorem dX11_seek_72 : decode cX11_seek 72 = .ok (.aload_n 0, 1) := by decide +kernel
theorem dX11_seek_73 : decode cX11_seek 73 = .ok (.getfield 81, 3) := by decide +kernel
theorem dX11_seek_76 : decode cX11_seek 76 = .ok (.iload 4, 2) := by decide +kernel
theorem dX11_seek_78 : decode cX11_seek 78 = .ok (.iconst 1, 1) := by decide +kernel
theorem dX11_seek_79 : decode cX11_seek 79 = .ok (.invokevirtual 410, 3) := by decide +kernel
theorem dX11_seek_82 : decode cX11_seek 82 = .ok (.iconst (-1), 1) := by decide +kernel
theorem dX11_seek_83 : decode cX11_seek 83 = .ok (.ixor, 1) := by decide +kernel
theorem dX11_seek_84 : decode cX11_seek 84 = .ok (.iand, 1) := by decide +kernel
theorem dX11_seek_85 : decode cX11_seek 85 = .ok (.invokestatic 216, 3) := by decide +kernel
theorem dX11_seek_88 : decode cX11_seek 88 = .ok (.istore 6, 2) := by decide +kernel
theorem dX11_seek_90 : decode cX11_seek 90 = .ok (.iload 5, 2) := by decide +kernel
theorem dX11_seek_92 : decode cX11_seek 92 = .ok (.iload 6, 2) := by decide +kernel
theorem dX11_seek_94 : decode cX11_seek 94 = .ok (.invokestatic 321, 3) := by decide +kernel
theorem dX11_seek_97 : decode cX11_seek 97 = .ok (.istore 7, 2) := by decide +kernel
theorem dX11_seek_99 : decode cX11_seek 99 = .ok (.iload_n 2, 1) := by decide +kernel
theorem dX11_seek_100 : decode cX11_seek 100 = .ok (.bipush (-2), 2) := by decide +kernel
theorem dX11_seek_102 : decode cX11_seek 102 = .ok (.if_icmp .eq 9, 3) := by decide +kernel
theorem dX11_seek_105 : decode cX11_seek 105 = .ok (.iload 7, 2) := by decide +kernel
theorem dX11_seek_107 : decode cX11_seek 107 = .ok (.iload_n 3, 1) := by decide +kernel
theorem dX11_seek_108 : decode cX11_seek 108 = .ok (.if_icmp .ge 9, 3) := by decide +kernel
theorem dX11_seek_111 : decode cX11_seek 111 = .ok (.iload 4, 2) := by decide +kernel
theorem dX11_seek_113 : decode cX11_seek 113 = .ok (.istore_n 2, 1) := by decide +kernel
theorem dX11_seek_114 : decode cX11_seek 114 = .ok (.iload 7, 2) := by decide +kernel
theorem dX11_seek_116 : decode cX11_seek 116 = .ok (.istore_n 3, 1) := by decide +kernel
theorem dX11_seek_117 : decode cX11_seek 117 = .ok (.iinc 4 1, 3) := by decide +kernel
theorem dX11_seek_120 : decode cX11_seek 120 = .ok (.goto (-91), 3) := by decide +kernel
theorem dX11_seek_123 : decode cX11_seek 123 = .ok (.iload_n 2, 1) := by decide +kernel
theorem dX11_seek_124 : decode cX11_seek 124 = .ok (.bipush (-2), 2) := by decide +kernel
theorem dX11_seek_126 : decode cX11_seek 126 = .ok (.if_icmp .eq 12, 3) := by decide +kernel
theorem dX11_seek_129 : decode cX11_seek 129 = .ok (.aload_n 0, 1) := by decide +kernel
theorem dX11_seek_130 : decode cX11_seek 130 = .ok (.getfield 41, 3) := by decide +kernel
theorem dX11_seek_133 : decode cX11_seek 133 = .ok (.iload_n 3, 1) := by decide +kernel
theorem dX11_seek_134 : decode cX11_seek 134 = .ok (.i2l, 1) := by decide +kernel
theorem dX11_seek_135 : decode cX11_seek 135 = .ok (.invokevirtual 256, 3) := by decide +kernel
theorem dX11_seek_138 : decode cX11_seek 138 = .ok (.iload_n 2, 1) := by decide +kernel
theorem dX11_seek_139 : decode cX11_seek 139 = .ok (.ireturn, 1) := by decide +kernel
def w_X11_seek_117 (post : Int32 → sI → sJ → Prop) (k29 : Int32 → Int32 → Int32 → Int32 → sI → sJ → Prop) (x1 : Int32) (x2 : Int32) (x3 : Int32) (x4 : Int32) (I : sI) (J : sJ) : Prop :=
  (∀ v4_117 : Int32, v4_117 = x4 + 1 → k29 x1 x2 x3 v4_117 I J)
set_option maxHeartbeats 4000000 in
set_option maxRecDepth 100000 in
theorem t_X11_seek_117 {X : sX} {post : Int32 → sI → sJ → Prop} (h : sOK X cX11_seek RX11 8 2 47) (hr : sRt X (some .int) (sPi post)) {k29 : Int32 → Int32 → Int32 → Int32 → sI → sJ → Prop} (hk29 : ∀ (x1 : Int32) (x2 : Int32) (x3 : Int32) (x4 : Int32) (I : sI) (J : sJ), k29 x1 x2 x3 x4 I J → sG X 8 29 [(0, .ref 0), (1, .int x1), (2, .int x2), (3, .int x3), (4, .int x4)] [] I J) {x1 : Int32} {x2 : Int32} {x3 : Int32} {x4 : Int32} {I : sI} {J : sJ} (hw : w_X11_seek_117 post k29 x1 x2 x3 x4 I J) : sG X 8 117 [(0, .ref 0), (1, .int x1), (2, .int x2), (3, .int x3), (4, .int x4)] [] I J := by
  unfold w_X11_seek_117 at hw
  obtain ⟨v4_117, ev4_117⟩ : ∃ z : Int32, z = x4 + 1 := ⟨_, rfl⟩
  replace hw := hw v4_117 ev4_117
  refine g_iinc (v := v4_117) (lo2 := [(4, .int v4_117), (0, .ref 0), (1, .int x1), (2, .int x2), (3, .int x3)]) h 4 rfl (by rw [ev4_117]; rfl) (by decide) rfl dX11_seek_117 ?_
  refine g_goto (tgt := 29) h (by decide) dX11_seek_120 ?_
  exact g_sub [1, 2, 3, 4, 0] rfl (hk29 _ _ _ _ _ _ hw)
def w_X11_seek_111 (post : Int32 → sI → sJ → Prop) (k29 : Int32 → Int32 → Int32 → Int32 → sI → sJ → Prop) (x1 : Int32) (x4 : Int32) (x7 : Int32) (I : sI) (J : sJ) : Prop :=
  w_X11_seek_117 post k29 x1 x4 x7 x4 I J
set_option maxHeartbeats 4000000 in
set_option maxRecDepth 100000 in
theorem t_X11_seek_111 {X : sX} {post : Int32 → sI → sJ → Prop} (h : sOK X cX11_seek RX11 8 2 47) (hr : sRt X (some .int) (sPi post)) {k29 : Int32 → Int32 → Int32 → Int32 → sI → sJ → Prop} (hk29 : ∀ (x1 : Int32) (x2 : Int32) (x3 : Int32) (x4 : Int32) (I : sI) (J : sJ), k29 x1 x2 x3 x4 I J → sG X 8 29 [(0, .ref 0), (1, .int x1), (2, .int x2), (3, .int x3), (4, .int x4)] [] I J) {x1 : Int32} {x4 : Int32} {x7 : Int32} {I : sI} {J : sJ} (hw : w_X11_seek_111 post k29 x1 x4 x7 I J) : sG X 8 111 [(0, .ref 0), (1, .int x1), (4, .int x4), (7, .int x7)] [] I J := by
  unfold w_X11_seek_111 at hw
  refine g_iload h 2 rfl dX11_seek_111 ?_
  refine g_istore_n (lo2 := [(2, .int x4), (0, .ref 0), (1, .int x1), (4, .int x4), (7, .int x7)]) h rfl (by decide) rfl dX11_seek_113 ?_
  refine g_iload h 4 rfl dX11_seek_114 ?_
  refine g_istore_n (lo2 := [(3, .int x7), (2, .int x4), (0, .ref 0), (1, .int x1), (4, .int x4), (7, .int x7)]) h rfl (by decide) rfl dX11_seek_116 ?_
  exact g_sub [2, 3, 1, 0, 4] rfl (t_X11_seek_117 h hr hk29 hw)
def w_X11_seek_29_s (post : Int32 → sI → sJ → Prop) (k29 : Int32 → Int32 → Int32 → Int32 → sI → sJ → Prop) (x1 : Int32) (x2 : Int32) (x3 : Int32) (x4 : Int32) (I : sI) (J : sJ) : Prop :=
  ((12 ≤ x4 → ((x2 = (-2) → post x2 I J) ∧ (¬ x2 = (-2) → w_X6_tell 134 (Int32.toInt64 x3) I J (fun (I_135 : sI) (J_135 : sJ) => (post x2 I_135 J_135))))) ∧ (¬ 12 ≤ x4 → (vp_in x4 12 ∧ (((I 11 (Int32.toNatClampNeg x4)) = 0 → w_X1_saying x4 2 I J (fun (r_60 : Int32) (I_60 : sI) (J_60 : sJ) => (w_J6_bitCount_0f7a4 (x1 &&& (r_60 ^^^ (-1))) I_60 J_60 (fun (r_66 : Int32) (I_66 : sI) (J_66 : sJ) => (w_X1_saying x4 1 I_66 J_66 (fun (r_79 : Int32) (I_79 : sI) (J_79 : sJ) => (w_J6_bitCount_0f7a4 (x1 &&& (r_79 ^^^ (-1))) I_79 J_79 (fun (r_85 : Int32) (I_85 : sI) (J_85 : sJ) => (w_J9_max_7cf53 r_66 r_85 I_85 J_85 (fun (r_94 : Int32) (I_94 : sI) (J_94 : sJ) => (((x2 = (-2) → w_X11_seek_111 post k29 x1 x4 r_94 I_94 J_94) ∧ (¬ x2 = (-2) → ((x3 ≤ r_94 → w_X11_seek_117 post k29 x1 x2 x3 x4 I_94 J_94) ∧ (¬ x3 ≤ r_94 → w_X11_seek_111 post k29 x1 x4 r_94 I_94 J_94))))))))))))))) ∧ (¬ (I 11 (Int32.toNatClampNeg x4)) = 0 → w_X11_seek_117 post k29 x1 x2 x3 x4 I J)))))
def w_X11_seek_29_n (post : Int32 → sI → sJ → Prop) : Nat → Int32 → Int32 → Int32 → Int32 → sI → sJ → Prop
  | 0 => fun _ _ _ _ _ _ => False
  | n + 1 => fun x1 x2 x3 x4 I J => w_X11_seek_29_s post (w_X11_seek_29_n post n) x1 x2 x3 x4 I J
def w_X11_seek_29 (post : Int32 → sI → sJ → Prop) (x1 : Int32) (x2 : Int32) (x3 : Int32) (x4 : Int32) (I : sI) (J : sJ) : Prop := ∃ n, w_X11_seek_29_n post n x1 x2 x3 x4 I J
set_option maxHeartbeats 4000000 in
set_option maxRecDepth 100000 in
theorem t_X11_seek_29_s {X : sX} {post : Int32 → sI → sJ → Prop} (h : sOK X cX11_seek RX11 8 2 47) (hr : sRt X (some .int) (sPi post)) {k29 : Int32 → Int32 → Int32 → Int32 → sI → sJ → Prop} (hk29 : ∀ (x1 : Int32) (x2 : Int32) (x3 : Int32) (x4 : Int32) (I : sI) (J : sJ), k29 x1 x2 x3 x4 I J → sG X 8 29 [(0, .ref 0), (1, .int x1), (2, .int x2), (3, .int x3), (4, .int x4)] [] I J) {x1 : Int32} {x2 : Int32} {x3 : Int32} {x4 : Int32} {I : sI} {J : sJ} (hw : w_X11_seek_29_s post k29 x1 x2 x3 x4 I J) : sG X 8 29 [(0, .ref 0), (1, .int x1), (2, .int x2), (3, .int x3), (4, .int x4)] [] I J := by
  unfold w_X11_seek_29_s at hw
  refine g_iload h 4 rfl dX11_seek_29 ?_
  refine g_bipush (v := 12) h (by decide) dX11_seek_31 ?_
  refine g_icmp_ge (tgt := 123) h (by decide) dX11_seek_33 (fun q33 => ?_) (fun q33 => ?_)
  · replace hw := hw.1 q33
    refine g_iload_n h rfl 2 rfl dX11_seek_123 ?_
    refine g_bipush (v := (-2)) h (by decide) dX11_seek_124 ?_
    refine g_icmp_eq (tgt := 138) h (by decide) dX11_seek_126 (fun q126 => ?_) (fun q126 => ?_)
    · replace hw := hw.1 q126
      refine g_iload_n h rfl 2 rfl dX11_seek_138 ?_
      exact g_iret h hr dX11_seek_139 hw
    · replace hw := hw.2 q126
      refine g_aload_n h rfl 0 rfl dX11_seek_129 ?_
      refine g_get h is_0 fl_X11_41 fr_0_5 dX11_seek_130 ?_
      refine g_iload_n h rfl 3 rfl dX11_seek_133 ?_
      refine g_i2l h dX11_seek_134 ?_
      refine g_callV [.long (Int32.toInt64 x3)] h (c_X6_tell X is_134 hw) sPv_v mw_X6_tell lk_X11_256 is_134 rfl rfl ⟨by decide, by decide⟩ (Nat.le_of_ble_eq_true rfl) dX11_seek_135 (sPv_k (fun I_135 J_135 hw => ?_))
      refine g_iload_n h rfl 2 rfl dX11_seek_138 ?_
      exact g_iret h hr dX11_seek_139 hw
  · replace hw := hw.2 q33
    refine g_aload_n h rfl 0 rfl dX11_seek_36 ?_
    refine g_get h is_0 fl_X11_19 fr_0_1 dX11_seek_37 ?_
    refine g_get h is_3 fl_X11_403 fr_3_2 dX11_seek_40 ?_
    refine g_iload h 4 rfl dX11_seek_43 ?_
    obtain ⟨hi45, hw⟩ := hw
    refine g_iald h ar_11 hi45 dX11_seek_45 ?_
    refine g_if_eq (tgt := 52) h (by decide) dX11_seek_46 (fun q46 => ?_) (fun q46 => ?_)
    · replace hw := hw.1 q46
      refine g_iload_n h rfl 1 rfl dX11_seek_52 ?_
      refine g_aload_n h rfl 0 rfl dX11_seek_53 ?_
      refine g_get h is_0 fl_X11_81 fr_0_11 dX11_seek_54 ?_
      refine g_iload h 4 rfl dX11_seek_57 ?_
      refine g_iconst (v := 2) h (by decide) dX11_seek_59 ?_
      refine g_callV [.int x4, .int 2] h (c_X1_saying X hw) sPi_v mw_X1_saying lk_X11_410 is_227 rfl rfl ⟨by decide, by decide⟩ (Nat.le_of_ble_eq_true rfl) dX11_seek_60 (sPi_k (fun r_60 I_60 J_60 hw => ?_))
      refine g_iconst (v := (-1)) h (by decide) dX11_seek_63 ?_
      refine g_ixor h dX11_seek_64 ?_
      refine g_iand h dX11_seek_65 ?_
      refine g_callS [.int (x1 &&& (r_60 ^^^ (-1)))] h (c_J6_bitCount_0f7a4 X hw) sPi_v mw_J6_bitCount_0f7a4 lk_X11_216 rfl ⟨by decide, by decide⟩ (Nat.le_of_ble_eq_true rfl) dX11_seek_66 (sPi_k (fun r_66 I_66 J_66 hw => ?_))
      refine g_istore (lo2 := [(5, .int r_66), (0, .ref 0), (1, .int x1), (2, .int x2), (3, .int x3), (4, .int x4)]) h (by decide) rfl dX11_seek_69 ?_
      refine g_iload_n h rfl 2 rfl dX11_seek_71 ?_
      refine g_aload_n h rfl 1 rfl dX11_seek_72 ?_
      refine g_get h is_0 fl_X11_81 fr_0_11 dX11_seek_73 ?_
      refine g_iload h 5 rfl dX11_seek_76 ?_
      refine g_iconst (v := 1) h (by decide) dX11_seek_78 ?_
      refine g_callV [.int x4, .int 1] h (c_X1_saying X hw) sPi_v mw_X1_saying lk_X11_410 is_227 rfl rfl ⟨by decide, by decide⟩ (Nat.le_of_ble_eq_true rfl) dX11_seek_79 (sPi_k (fun r_79 I_79 J_79 hw => ?_))
      refine g_iconst (v := (-1)) h (by decide) dX11_seek_82 ?_
      refine g_ixor h dX11_seek_83 ?_
      refine g_iand h dX11_seek_84 ?_
      refine g_callS [.int (x1 &&& (r_79 ^^^ (-1)))] h (c_J6_bitCount_0f7a4 X hw) sPi_v mw_J6_bitCount_0f7a4 lk_X11_216 rfl ⟨by decide, by decide⟩ (Nat.le_of_ble_eq_true rfl) dX11_seek_85 (sPi_k (fun r_85 I_85 J_85 hw => ?_))
      refine g_istore (lo2 := [(6, .int r_85), (5, .int r_66), (0, .ref 0), (1, .int x1), (2, .int x2), (3, .int x3), (4, .int x4)]) h (by decide) rfl dX11_seek_88 ?_
      refine g_iload h 1 rfl dX11_seek_90 ?_
      refine g_iload h 0 rfl dX11_seek_92 ?_
      refine g_callS [.int r_66, .int r_85] h (c_J9_max_7cf53 X hw) sPi_v mw_J9_max_7cf53 lk_X11_321 rfl ⟨by decide, by decide⟩ (Nat.le_of_ble_eq_true rfl) dX11_seek_94 (sPi_k (fun r_94 I_94 J_94 hw => ?_))
      refine g_istore (lo2 := [(7, .int r_94), (6, .int r_85), (5, .int r_66), (0, .ref 0), (1, .int x1), (2, .int x2), (3, .int x3), (4, .int x4)]) h (by decide) rfl dX11_seek_97 ?_
      refine g_iload_n h rfl 5 rfl dX11_seek_99 ?_
      refine g_bipush (v := (-2)) h (by decide) dX11_seek_100 ?_
      refine g_icmp_eq (tgt := 111) h (by decide) dX11_seek_102 (fun q102 => ?_) (fun q102 => ?_)
      · replace hw := hw.1 q102
        exact g_sub [3, 4, 7, 0] rfl (t_X11_seek_111 h hr hk29 hw)
      · replace hw := hw.2 q102
        refine g_iload h 0 rfl dX11_seek_105 ?_
        refine g_iload_n h rfl 6 rfl dX11_seek_107 ?_
        refine g_icmp_ge (tgt := 117) h (by decide) dX11_seek_108 (fun q108 => ?_) (fun q108 => ?_)
        · replace hw := hw.1 q108
          exact g_sub [3, 4, 5, 6, 7] rfl (t_X11_seek_117 h hr hk29 hw)
        · replace hw := hw.2 q108
          exact g_sub [3, 4, 7, 0] rfl (t_X11_seek_111 h hr hk29 hw)
    · replace hw := hw.2 q46
      refine g_goto (tgt := 117) h (by decide) dX11_seek_49 ?_
      exact g_sub [0, 1, 2, 3, 4] rfl (t_X11_seek_117 h hr hk29 hw)
theorem t_X11_seek_29 {X : sX} {post : Int32 → sI → sJ → Prop} (h : sOK X cX11_seek RX11 8 2 47) (hr : sRt X (some .int) (sPi post)) {x1 : Int32} {x2 : Int32} {x3 : Int32} {x4 : Int32} {I : sI} {J : sJ} (hw : w_X11_seek_29 post x1 x2 x3 x4 I J) : sG X 8 29 [(0, .ref 0), (1, .int x1), (2, .int x2), (3, .int x3), (4, .int x4)] [] I J := by
  obtain ⟨n, hw⟩ := hw
  induction n generalizing x1 x2 x3 x4 I J with
  | zero => exact hw.elim
  | succ n ih => exact t_X11_seek_29_s h hr (fun _ _ _ _ _ _ q => ih q) hw
def w_X11_seek (I : sI) (J : sJ) (post : Int32 → sI → sJ → Prop) : Prop :=
  w_X1_standing I J (fun (r_11 : Int32) (I_11 : sI) (J_11 : sJ) => (((¬ r_11 = 0 → w_X11_seek_29 post r_11 (-2) 0 0 I_11 J_11) ∧ (r_11 = 0 → post (-1) I_11 J_11))))
set_option maxHeartbeats 4000000 in
set_option maxRecDepth 100000 in
theorem t_X11_seek {X : sX} {I : sI} {J : sJ} {post : Int32 → sI → sJ → Prop} (h : sOK X cX11_seek RX11 8 2 47) (hr : sRt X (some .int) (sPi post)) (hw : w_X11_seek I J post) : sG X 8 0 [(0, .ref 0)] [] I J := by
  unfold w_X11_seek at hw
  refine g_aload_n h rfl 0 rfl dX11_seek_0 ?_
  refine g_get h is_0 fl_X11_81 fr_0_11 dX11_seek_1 ?_
  refine g_aload_n h rfl 0 rfl dX11_seek_4 ?_
  refine g_get h is_0 fl_X11_19 fr_0_1 dX11_seek_5 ?_
  refine g_get h is_3 fl_X11_403 fr_3_2 dX11_seek_8 ?_
  refine g_callV [.ref 11] h (c_X1_standing X hw) sPi_v mw_X1_standing lk_X11_406 is_227 rfl rfl ⟨by decide, by decide⟩ (Nat.le_of_ble_eq_true rfl) dX11_seek_11 (sPi_k (fun r_11 I_11 J_11 hw => ?_))
  refine g_istore_n (lo2 := [(1, .int r_11), (0, .ref 0)]) h rfl (by decide) rfl dX11_seek_14 ?_
  refine g_iload_n h rfl 0 rfl dX11_seek_15 ?_
  refine g_if_ne (tgt := 21) h (by decide) dX11_seek_16 (fun q16 => ?_) (fun q16 => ?_)
  · replace hw := hw.1 q16
    refine g_bipush (v := (-2)) h (by decide) dX11_seek_21 ?_
    refine g_istore_n (lo2 := [(2, .int (-2)), (1, .int r_11), (0, .ref 0)]) h rfl (by decide) rfl dX11_seek_23 ?_
    refine g_iconst (v := 0) h (by decide) dX11_seek_24 ?_
    refine g_istore_n (lo2 := [(3, .int 0), (2, .int (-2)), (1, .int r_11), (0, .ref 0)]) h rfl (by decide) rfl dX11_seek_25 ?_
    refine g_iconst (v := 0) h (by decide) dX11_seek_26 ?_
    refine g_istore (lo2 := [(4, .int 0), (3, .int 0), (2, .int (-2)), (1, .int r_11), (0, .ref 0)]) h (by decide) rfl dX11_seek_27 ?_
    exact g_sub [4, 3, 2, 1, 0] rfl (t_X11_seek_29 h hr hw)
  · replace hw := hw.2 q16
    refine g_iconst (v := (-1)) h (by decide) dX11_seek_19 ?_
    exact g_iret h hr dX11_seek_20 hw
theorem c_X11_seek (X : sX) {I : sI} {J : sJ} {post : Int32 → sI → sJ → Prop} (hw : w_X11_seek I J post) : sCall X yX11_seek cX11_seek 8 (some .int) 2 47 [.ref 0] I J (sPi post) := sCall_of (by decide +kernel) (Nat.le_of_ble_eq_true rfl) (fun X h hr => t_X11_seek h hr hw)
theorem dX11_unknownFinds_0 : decode cX11_unknownFinds 0 = .ok (.iconst 0, 1) := by decide +kernel
theorem dX11_unknownFinds_1 : decode cX11_unknownFinds 1 = .ok (.istore_n 1, 1) := by decide +kernel
theorem dX11_unknownFinds_2 : decode cX11_unknownFinds 2 = .ok (.iconst 0, 1) := by decide +kernel
theorem dX11_unknownFinds_3 : decode cX11_unknownFinds 3 = .ok (.istore_n 2, 1) := by decide +kernel
theorem dX11_unknownFinds_4 : decode cX11_unknownFinds 4 = .ok (.iload_n 2, 1) := by decide +kernel
theorem dX11_unknownFinds_5 : decode cX11_unknownFinds 5 = .ok (.bipush 12, 2) := by decide +kernel
theorem dX11_unknownFinds_7 : decode cX11_unknownFinds 7 = .ok (.if_icmp .ge 31, 3) := by decide +kernel
theorem dX11_unknownFinds_10 : decode cX11_unknownFinds 10 = .ok (.iload_n 1, 1) := by decide +kernel
theorem dX11_unknownFinds_11 : decode cX11_unknownFinds 11 = .ok (.aload_n 0, 1) := by decide +kernel
theorem dX11_unknownFinds_12 : decode cX11_unknownFinds 12 = .ok (.getfield 19, 3) := by decide +kernel
theorem dX11_unknownFinds_15 : decode cX11_unknownFinds 15 = .ok (.getfield 403, 3) := by decide +kernel
theorem dX11_unknownFinds_18 : decode cX11_unknownFinds 18 = .ok (.iload_n 2, 1) := by decide +kernel
theorem dX11_unknownFinds_19 : decode cX11_unknownFinds 19 = .ok (.iaload, 1) := by decide +kernel
theorem dX11_unknownFinds_20 : decode cX11_unknownFinds 20 = .ok (.ifCond .ne 9, 3) := by decide +kernel
theorem dX11_unknownFinds_23 : decode cX11_unknownFinds 23 = .ok (.iconst 1, 1) := by decide +kernel
theorem dX11_unknownFinds_24 : decode cX11_unknownFinds 24 = .ok (.iload_n 2, 1) := by decide +kernel
theorem dX11_unknownFinds_25 : decode cX11_unknownFinds 25 = .ok (.ishl, 1) := by decide +kernel
theorem dX11_unknownFinds_26 : decode cX11_unknownFinds 26 = .ok (.goto 4, 3) := by decide +kernel
theorem dX11_unknownFinds_29 : decode cX11_unknownFinds 29 = .ok (.iconst 0, 1) := by decide +kernel
theorem dX11_unknownFinds_30 : decode cX11_unknownFinds 30 = .ok (.ior, 1) := by decide +kernel
theorem dX11_unknownFinds_31 : decode cX11_unknownFinds 31 = .ok (.istore_n 1, 1) := by decide +kernel
theorem dX11_unknownFinds_32 : decode cX11_unknownFinds 32 = .ok (.iinc 2 1, 3) := by decide +kernel
theorem dX11_unknownFinds_35 : decode cX11_unknownFinds 35 = .ok (.goto (-31), 3) := by decide +kernel
theorem dX11_unknownFinds_38 : decode cX11_unknownFinds 38 = .ok (.iload_n 1, 1) := by decide +kernel
theorem dX11_unknownFinds_39 : decode cX11_unknownFinds 39 = .ok (.ireturn, 1) := by decide +kernel
def w_X11_unknownFinds_30 (post : Int32 → sI → sJ → Prop) (k4 : Int32 → Int32 → sI → sJ → Prop) (x2 : Int32) (s0 : Int32) (s1 : Int32) (I : sI) (J : sJ) : Prop :=
  (∀ v1_31 : Int32, v1_31 = s1 ||| s0 → (∀ v2_32 : Int32, v2_32 = x2 + 1 → k4 v1_31 v2_32 I J))
set_option maxHeartbeats 4000000 in
set_option maxRecDepth 100000 in
theorem t_X11_unknownFinds_30 {X : sX} {post : Int32 → sI → sJ → Prop} (h : sOK X cX11_unknownFinds RX11 3 0 0) (hr : sRt X (some .int) (sPi post)) {k4 : Int32 → Int32 → sI → sJ → Prop} (hk4 : ∀ (x1 : Int32) (x2 : Int32) (I : sI) (J : sJ), k4 x1 x2 I J → sG X 3 4 [(0, .ref 0), (1, .int x1), (2, .int x2)] [] I J) {x2 : Int32} {s0 : Int32} {s1 : Int32} {I : sI} {J : sJ} (hw : w_X11_unknownFinds_30 post k4 x2 s0 s1 I J) : sG X 3 30 [(0, .ref 0), (2, .int x2)] [.int s0, .int s1] I J := by
  unfold w_X11_unknownFinds_30 at hw
  refine g_ior h dX11_unknownFinds_30 ?_
  refine g_ni (fun v1_31 ev1_31 => ?_)
  replace hw := hw v1_31 ev1_31
  refine g_istore_n (lo2 := [(1, .int v1_31), (0, .ref 0), (2, .int x2)]) h rfl (by decide) rfl dX11_unknownFinds_31 ?_
  obtain ⟨v2_32, ev2_32⟩ : ∃ z : Int32, z = x2 + 1 := ⟨_, rfl⟩
  replace hw := hw v2_32 ev2_32
  refine g_iinc (v := v2_32) (lo2 := [(2, .int v2_32), (1, .int v1_31), (0, .ref 0)]) h 2 rfl (by rw [ev2_32]; rfl) (by decide) rfl dX11_unknownFinds_32 ?_
  refine g_goto (tgt := 4) h (by decide) dX11_unknownFinds_35 ?_
  exact g_sub [2, 1, 0] rfl (hk4 _ _ _ _ hw)
def w_X11_unknownFinds_4_s (post : Int32 → sI → sJ → Prop) (k4 : Int32 → Int32 → sI → sJ → Prop) (x1 : Int32) (x2 : Int32) (I : sI) (J : sJ) : Prop :=
  ((12 ≤ x2 → post x1 I J) ∧ (¬ 12 ≤ x2 → (vp_in x2 12 ∧ ((¬ (I 11 (Int32.toNatClampNeg x2)) = 0 → w_X11_unknownFinds_30 post k4 x2 0 x1 I J) ∧ ((I 11 (Int32.toNatClampNeg x2)) = 0 → w_X11_unknownFinds_30 post k4 x2 (1 <<< (x2 &&& 31)) x1 I J)))))
def w_X11_unknownFinds_4_n (post : Int32 → sI → sJ → Prop) : Nat → Int32 → Int32 → sI → sJ → Prop
  | 0 => fun _ _ _ _ => False
  | n + 1 => fun x1 x2 I J => w_X11_unknownFinds_4_s post (w_X11_unknownFinds_4_n post n) x1 x2 I J
def w_X11_unknownFinds_4 (post : Int32 → sI → sJ → Prop) (x1 : Int32) (x2 : Int32) (I : sI) (J : sJ) : Prop := ∃ n, w_X11_unknownFinds_4_n post n x1 x2 I J
set_option maxHeartbeats 4000000 in
set_option maxRecDepth 100000 in
theorem t_X11_unknownFinds_4_s {X : sX} {post : Int32 → sI → sJ → Prop} (h : sOK X cX11_unknownFinds RX11 3 0 0) (hr : sRt X (some .int) (sPi post)) {k4 : Int32 → Int32 → sI → sJ → Prop} (hk4 : ∀ (x1 : Int32) (x2 : Int32) (I : sI) (J : sJ), k4 x1 x2 I J → sG X 3 4 [(0, .ref 0), (1, .int x1), (2, .int x2)] [] I J) {x1 : Int32} {x2 : Int32} {I : sI} {J : sJ} (hw : w_X11_unknownFinds_4_s post k4 x1 x2 I J) : sG X 3 4 [(0, .ref 0), (1, .int x1), (2, .int x2)] [] I J := by
  unfold w_X11_unknownFinds_4_s at hw
  refine g_iload_n h rfl 2 rfl dX11_unknownFinds_4 ?_
  refine g_bipush (v := 12) h (by decide) dX11_unknownFinds_5 ?_
  refine g_icmp_ge (tgt := 38) h (by decide) dX11_unknownFinds_7 (fun q7 => ?_) (fun q7 => ?_)
  · replace hw := hw.1 q7
    refine g_iload_n h rfl 1 rfl dX11_unknownFinds_38 ?_
    exact g_iret h hr dX11_unknownFinds_39 hw
  · replace hw := hw.2 q7
    refine g_iload_n h rfl 1 rfl dX11_unknownFinds_10 ?_
    refine g_aload_n h rfl 0 rfl dX11_unknownFinds_11 ?_
    refine g_get h is_0 fl_X11_19 fr_0_1 dX11_unknownFinds_12 ?_
    refine g_get h is_3 fl_X11_403 fr_3_2 dX11_unknownFinds_15 ?_
    refine g_iload_n h rfl 2 rfl dX11_unknownFinds_18 ?_
    obtain ⟨hi19, hw⟩ := hw
    refine g_iald h ar_11 hi19 dX11_unknownFinds_19 ?_
    refine g_if_ne (tgt := 29) h (by decide) dX11_unknownFinds_20 (fun q20 => ?_) (fun q20 => ?_)
    · replace hw := hw.1 q20
      refine g_iconst (v := 0) h (by decide) dX11_unknownFinds_29 ?_
      exact g_sub [0, 2] rfl (t_X11_unknownFinds_30 h hr hk4 hw)
    · replace hw := hw.2 q20
      refine g_iconst (v := 1) h (by decide) dX11_unknownFinds_23 ?_
      refine g_iload_n h rfl 2 rfl dX11_unknownFinds_24 ?_
      refine g_ishl h dX11_unknownFinds_25 ?_
      refine g_goto (tgt := 30) h (by decide) dX11_unknownFinds_26 ?_
      exact g_sub [0, 2] rfl (t_X11_unknownFinds_30 h hr hk4 hw)
theorem t_X11_unknownFinds_4 {X : sX} {post : Int32 → sI → sJ → Prop} (h : sOK X cX11_unknownFinds RX11 3 0 0) (hr : sRt X (some .int) (sPi post)) {x1 : Int32} {x2 : Int32} {I : sI} {J : sJ} (hw : w_X11_unknownFinds_4 post x1 x2 I J) : sG X 3 4 [(0, .ref 0), (1, .int x1), (2, .int x2)] [] I J := by
  obtain ⟨n, hw⟩ := hw
  induction n generalizing x1 x2 I J with
  | zero => exact hw.elim
  | succ n ih => exact t_X11_unknownFinds_4_s h hr (fun _ _ _ _ q => ih q) hw
def w_X11_unknownFinds (I : sI) (J : sJ) (post : Int32 → sI → sJ → Prop) : Prop :=
  w_X11_unknownFinds_4 post 0 0 I J
set_option maxHeartbeats 4000000 in
set_option maxRecDepth 100000 in
theorem t_X11_unknownFinds {X : sX} {I : sI} {J : sJ} {post : Int32 → sI → sJ → Prop} (h : sOK X cX11_unknownFinds RX11 3 0 0) (hr : sRt X (some .int) (sPi post)) (hw : w_X11_unknownFinds I J post) : sG X 3 0 [(0, .ref 0)] [] I J := by
  unfold w_X11_unknownFinds at hw
  refine g_iconst (v := 0) h (by decide) dX11_unknownFinds_0 ?_
  refine g_istore_n (lo2 := [(1, .int 0), (0, .ref 0)]) h rfl (by decide) rfl dX11_unknownFinds_1 ?_
  refine g_iconst (v := 0) h (by decide) dX11_unknownFinds_2 ?_
  refine g_istore_n (lo2 := [(2, .int 0), (1, .int 0), (0, .ref 0)]) h rfl (by decide) rfl dX11_unknownFinds_3 ?_
  exact g_sub [2, 1, 0] rfl (t_X11_unknownFinds_4 h hr hw)
theorem c_X11_unknownFinds (X : sX) {I : sI} {J : sJ} {post : Int32 → sI → sJ → Prop} (hw : w_X11_unknownFinds I J post) : sCall X yX11_unknownFinds cX11_unknownFinds 3 (some .int) 0 0 [.ref 0] I J (sPi post) := sCall_of (by decide +kernel) (Nat.le_of_ble_eq_true rfl) (fun X h hr => t_X11_unknownFinds h hr hw)
theorem dX11_part_0 : decode cX11_part 0 = .ok (.aload_n 0, 1) := by decide +kernel
theorem dX11_part_1 : decode cX11_part 1 = .ok (.invokevirtual 413, 3) := by decide +kernel
theorem dX11_part_4 : decode cX11_part 4 = .ok (.istore_n 1, 1) := by decide +kernel
theorem dX11_part_5 : decode cX11_part 5 = .ok (.aload_n 0, 1) := by decide +kernel
theorem dX11_part_6 : decode cX11_part 6 = .ok (.getfield 81, 3) := by decide +kernel
theorem dX11_part_9 : decode cX11_part 9 = .ok (.aload_n 0, 1) := by decide +kernel
theorem dX11_part_10 : decode cX11_part 10 = .ok (.getfield 81, 3) := by decide +kernel
theorem dX11_part_13 : decode cX11_part 13 = .ok (.aload_n 0, 1) := by decide +kernel
theorem dX11_part_14 : decode cX11_part 14 = .ok (.getfield 19, 3) := by decide +kernel
theorem dX11_part_17 : decode cX11_part 17 = .ok (.getfield 403, 3) := by decide +kernel
theorem dX11_part_20 : decode cX11_part 20 = .ok (.invokevirtual 406, 3) := by decide +kernel
theorem dX11_part_23 : decode cX11_part 23 = .ok (.iload_n 1, 1) := by decide +kernel
theorem dX11_part_24 : decode cX11_part 24 = .ok (.invokevirtual 416, 3) := by decide +kernel
theorem dX11_part_27 : decode cX11_part 27 = .ok (.bipush 13, 2) := by decide +kernel
theorem dX11_part_29 : decode cX11_part 29 = .ok (.istore_n 2, 1) := by decide +kernel
theorem dX11_part_30 : decode cX11_part 30 = .ok (.iconst 0, 1) := by decide +kernel
theorem dX11_part_31 : decode cX11_part 31 = .ok (.istore_n 3, 1) := by decide +kernel
theorem dX11_part_32 : decode cX11_part 32 = .ok (.iconst 0, 1) := by decide +kernel
theorem dX11_part_33 : decode cX11_part 33 = .ok (.istore 4, 2) := by decide +kernel
theorem dX11_part_35 : decode cX11_part 35 = .ok (.iload 4, 2) := by decide +kernel
theorem dX11_part_37 : decode cX11_part 37 = .ok (.sipush 4096, 3) := by decide +kernel
theorem dX11_part_40 : decode cX11_part 40 = .ok (.if_icmp .ge 48, 3) := by decide +kernel
theorem dX11_part_43 : decode cX11_part 43 = .ok (.iload 4, 2) := by decide +kernel
theorem dX11_part_45 : decode cX11_part 45 = .ok (.iload_n 1, 1) := by decide +kernel
theorem dX11_part_46 : decode cX11_part 46 = .ok (.iconst (-1), 1) := by decide +kernel
theorem dX11_part_47 : decode cX11_part 47 = .ok (.ixor, 1) := by decide +kernel
theorem dX11_part_48 : decode cX11_part 48 = .ok (.iand, 1) := by decide +kernel
theorem dX11_part_49 : decode cX11_part 49 = .ok (.ifCond .ne 33, 3) := by decide +kernel
theorem dX11_part_52 : decode cX11_part 52 = .ok (.iload 4, 2) := by decide +kernel
theorem dX11_part_54 : decode cX11_part 54 = .ok (.invokestatic 216, 3) := by decide +kernel
theorem dX11_part_57 : decode cX11_part 57 = .ok (.iload_n 2, 1) := by decide +kernel
theorem dX11_part_58 : decode cX11_part 58 = .ok (.if_icmp .ge 24, 3) := by decide +kernel
theorem dX11_part_61 : decode cX11_part 61 = .ok (.aload_n 0, 1) := by decide +kernel
theorem dX11_part_62 : decode cX11_part 62 = .ok (.getfield 81, 3) := by decide +kernel
theorem dX11_part_65 : decode cX11_part 65 = .ok (.iload 4, 2) := by decide +kernel
theorem dX11_part_67 : decode cX11_part 67 = .ok (.invokevirtual 419, 3) := by decide +kernel
theorem dX11_part_70 : decode cX11_part 70 = .ok (.ifCond .eq 12, 3) := by decide +kernel
theorem dX11_part_73 : decode cX11_part 73 = .ok (.iload 4, 2) := by decide +kernel
theorem dX11_part_75 : decode cX11_part 75 = .ok (.invokestatic 216, 3) := by decide +kernel
theorem dX11_part_78 : decode cX11_part 78 = .ok (.istore_n 2, 1) := by decide +kernel
theorem dX11_part_79 : decode cX11_part 79 = .ok (.iload 4, 2) := by decide +kernel
theorem dX11_part_81 : decode cX11_part 81 = .ok (.istore_n 3, 1) := by decide +kernel
theorem dX11_part_82 : decode cX11_part 82 = .ok (.iinc 4 1, 3) := by decide +kernel
theorem dX11_part_85 : decode cX11_part 85 = .ok (.goto (-50), 3) := by decide +kernel
theorem dX11_part_88 : decode cX11_part 88 = .ok (.iload_n 2, 1) := by decide +kernel
theorem dX11_part_89 : decode cX11_part 89 = .ok (.bipush 12, 2) := by decide +kernel
theorem dX11_part_91 : decode cX11_part 91 = .ok (.if_icmp .le 6, 3) := by decide +kernel
theorem dX11_part_94 : decode cX11_part 94 = .ok (.bipush (-2), 2) := by decide +kernel
theorem dX11_part_96 : decode cX11_part 96 = .ok (.ireturn, 1) := by decide +kernel
theorem dX11_part_97 : decode cX11_part 97 = .ok (.aload_n 0, 1) := by decide +kernel
theorem dX11_part_98 : decode cX11_part 98 = .ok (.getfield 41, 3) := by decide +kernel
theorem dX11_part_101 : decode cX11_part 101 = .ok (.iload_n 3, 1) := by decide +kernel
theorem dX11_part_102 : decode cX11_part 102 = .ok (.i2l, 1) := by decide +kernel
theorem dX11_part_103 : decode cX11_part 103 = .ok (.invokevirtual 256, 3) := by decide +kernel
theorem dX11_part_106 : decode cX11_part 106 = .ok (.iload_n 2, 1) := by decide +kernel
theorem dX11_part_107 : decode cX11_part 107 = .ok (.ireturn, 1) := by decide +kernel
def w_X11_part_82 (post : Int32 → sI → sJ → Prop) (k35 : Int32 → Int32 → Int32 → Int32 → sI → sJ → Prop) (x1 : Int32) (x2 : Int32) (x3 : Int32) (x4 : Int32) (I : sI) (J : sJ) : Prop :=
  (∀ v4_82 : Int32, v4_82 = x4 + 1 → k35 x1 x2 x3 v4_82 I J)
set_option maxHeartbeats 4000000 in
set_option maxRecDepth 100000 in
theorem t_X11_part_82 {X : sX} {post : Int32 → sI → sJ → Prop} (h : sOK X cX11_part RX11 5 2 48) (hr : sRt X (some .int) (sPi post)) {k35 : Int32 → Int32 → Int32 → Int32 → sI → sJ → Prop} (hk35 : ∀ (x1 : Int32) (x2 : Int32) (x3 : Int32) (x4 : Int32) (I : sI) (J : sJ), k35 x1 x2 x3 x4 I J → sG X 5 35 [(0, .ref 0), (1, .int x1), (2, .int x2), (3, .int x3), (4, .int x4)] [] I J) {x1 : Int32} {x2 : Int32} {x3 : Int32} {x4 : Int32} {I : sI} {J : sJ} (hw : w_X11_part_82 post k35 x1 x2 x3 x4 I J) : sG X 5 82 [(0, .ref 0), (1, .int x1), (2, .int x2), (3, .int x3), (4, .int x4)] [] I J := by
  unfold w_X11_part_82 at hw
  obtain ⟨v4_82, ev4_82⟩ : ∃ z : Int32, z = x4 + 1 := ⟨_, rfl⟩
  replace hw := hw v4_82 ev4_82
  refine g_iinc (v := v4_82) (lo2 := [(4, .int v4_82), (0, .ref 0), (1, .int x1), (2, .int x2), (3, .int x3)]) h 4 rfl (by rw [ev4_82]; rfl) (by decide) rfl dX11_part_82 ?_
  refine g_goto (tgt := 35) h (by decide) dX11_part_85 ?_
  exact g_sub [1, 2, 3, 4, 0] rfl (hk35 _ _ _ _ _ _ hw)
def w_X11_part_35_s (post : Int32 → sI → sJ → Prop) (k35 : Int32 → Int32 → Int32 → Int32 → sI → sJ → Prop) (x1 : Int32) (x2 : Int32) (x3 : Int32) (x4 : Int32) (I : sI) (J : sJ) : Prop :=
  ((4096 ≤ x4 → ((x2 ≤ 12 → w_X6_tell 134 (Int32.toInt64 x3) I J (fun (I_103 : sI) (J_103 : sJ) => (post x2 I_103 J_103))) ∧ (¬ x2 ≤ 12 → post (-2) I J))) ∧ (¬ 4096 ≤ x4 → ((¬ (x4 &&& (x1 ^^^ (-1))) = 0 → w_X11_part_82 post k35 x1 x2 x3 x4 I J) ∧ ((x4 &&& (x1 ^^^ (-1))) = 0 → w_J6_bitCount_0f7a4 x4 I J (fun (r_54 : Int32) (I_54 : sI) (J_54 : sJ) => (((x2 ≤ r_54 → w_X11_part_82 post k35 x1 x2 x3 x4 I_54 J_54) ∧ (¬ x2 ≤ r_54 → w_X1_partedBy x4 I_54 J_54 (fun (r_67 : Int32) (I_67 : sI) (J_67 : sJ) => (((r_67 = 0 → w_X11_part_82 post k35 x1 x2 x3 x4 I_67 J_67) ∧ (¬ r_67 = 0 → w_J6_bitCount_0f7a4 x4 I_67 J_67 (fun (r_75 : Int32) (I_75 : sI) (J_75 : sJ) => (w_X11_part_82 post k35 x1 r_75 x4 x4 I_75 J_75))))))))))))))
def w_X11_part_35_n (post : Int32 → sI → sJ → Prop) : Nat → Int32 → Int32 → Int32 → Int32 → sI → sJ → Prop
  | 0 => fun _ _ _ _ _ _ => False
  | n + 1 => fun x1 x2 x3 x4 I J => w_X11_part_35_s post (w_X11_part_35_n post n) x1 x2 x3 x4 I J
def w_X11_part_35 (post : Int32 → sI → sJ → Prop) (x1 : Int32) (x2 : Int32) (x3 : Int32) (x4 : Int32) (I : sI) (J : sJ) : Prop := ∃ n, w_X11_part_35_n post n x1 x2 x3 x4 I J
set_option maxHeartbeats 4000000 in
set_option maxRecDepth 100000 in
theorem t_X11_part_35_s {X : sX} {post : Int32 → sI → sJ → Prop} (h : sOK X cX11_part RX11 5 2 48) (hr : sRt X (some .int) (sPi post)) {k35 : Int32 → Int32 → Int32 → Int32 → sI → sJ → Prop} (hk35 : ∀ (x1 : Int32) (x2 : Int32) (x3 : Int32) (x4 : Int32) (I : sI) (J : sJ), k35 x1 x2 x3 x4 I J → sG X 5 35 [(0, .ref 0), (1, .int x1), (2, .int x2), (3, .int x3), (4, .int x4)] [] I J) {x1 : Int32} {x2 : Int32} {x3 : Int32} {x4 : Int32} {I : sI} {J : sJ} (hw : w_X11_part_35_s post k35 x1 x2 x3 x4 I J) : sG X 5 35 [(0, .ref 0), (1, .int x1), (2, .int x2), (3, .int x3), (4, .int x4)] [] I J := by
  unfold w_X11_part_35_s at hw
  refine g_iload h 4 rfl dX11_part_35 ?_
  refine g_sipush (v := 4096) h (by decide) dX11_part_37 ?_
  refine g_icmp_ge (tgt := 88) h (by decide) dX11_part_40 (fun q40 => ?_) (fun q40 => ?_)
  · replace hw := hw.1 q40
    refine g_iload_n h rfl 2 rfl dX11_part_88 ?_
    refine g_bipush (v := 12) h (by decide) dX11_part_89 ?_
    refine g_icmp_le (tgt := 97) h (by decide) dX11_part_91 (fun q91 => ?_) (fun q91 => ?_)
    · replace hw := hw.1 q91
      refine g_aload_n h rfl 0 rfl dX11_part_97 ?_
      refine g_get h is_0 fl_X11_41 fr_0_5 dX11_part_98 ?_
      refine g_iload_n h rfl 3 rfl dX11_part_101 ?_
      refine g_i2l h dX11_part_102 ?_
      refine g_callV [.long (Int32.toInt64 x3)] h (c_X6_tell X is_134 hw) sPv_v mw_X6_tell lk_X11_256 is_134 rfl rfl ⟨by decide, by decide⟩ (Nat.le_of_ble_eq_true rfl) dX11_part_103 (sPv_k (fun I_103 J_103 hw => ?_))
      refine g_iload_n h rfl 2 rfl dX11_part_106 ?_
      exact g_iret h hr dX11_part_107 hw
    · replace hw := hw.2 q91
      refine g_bipush (v := (-2)) h (by decide) dX11_part_94 ?_
      exact g_iret h hr dX11_part_96 hw
  · replace hw := hw.2 q40
    refine g_iload h 4 rfl dX11_part_43 ?_
    refine g_iload_n h rfl 1 rfl dX11_part_45 ?_
    refine g_iconst (v := (-1)) h (by decide) dX11_part_46 ?_
    refine g_ixor h dX11_part_47 ?_
    refine g_iand h dX11_part_48 ?_
    refine g_if_ne (tgt := 82) h (by decide) dX11_part_49 (fun q49 => ?_) (fun q49 => ?_)
    · replace hw := hw.1 q49
      exact g_sub [0, 1, 2, 3, 4] rfl (t_X11_part_82 h hr hk35 hw)
    · replace hw := hw.2 q49
      refine g_iload h 4 rfl dX11_part_52 ?_
      refine g_callS [.int x4] h (c_J6_bitCount_0f7a4 X hw) sPi_v mw_J6_bitCount_0f7a4 lk_X11_216 rfl ⟨by decide, by decide⟩ (Nat.le_of_ble_eq_true rfl) dX11_part_54 (sPi_k (fun r_54 I_54 J_54 hw => ?_))
      refine g_iload_n h rfl 2 rfl dX11_part_57 ?_
      refine g_icmp_ge (tgt := 82) h (by decide) dX11_part_58 (fun q58 => ?_) (fun q58 => ?_)
      · replace hw := hw.1 q58
        exact g_sub [0, 1, 2, 3, 4] rfl (t_X11_part_82 h hr hk35 hw)
      · replace hw := hw.2 q58
        refine g_aload_n h rfl 0 rfl dX11_part_61 ?_
        refine g_get h is_0 fl_X11_81 fr_0_11 dX11_part_62 ?_
        refine g_iload h 4 rfl dX11_part_65 ?_
        refine g_callV [.int x4] h (c_X1_partedBy X hw) sPi_v mw_X1_partedBy lk_X11_419 is_227 rfl rfl ⟨by decide, by decide⟩ (Nat.le_of_ble_eq_true rfl) dX11_part_67 (sPi_k (fun r_67 I_67 J_67 hw => ?_))
        refine g_if_eq (tgt := 82) h (by decide) dX11_part_70 (fun q70 => ?_) (fun q70 => ?_)
        · replace hw := hw.1 q70
          exact g_sub [0, 1, 2, 3, 4] rfl (t_X11_part_82 h hr hk35 hw)
        · replace hw := hw.2 q70
          refine g_iload h 4 rfl dX11_part_73 ?_
          refine g_callS [.int x4] h (c_J6_bitCount_0f7a4 X hw) sPi_v mw_J6_bitCount_0f7a4 lk_X11_216 rfl ⟨by decide, by decide⟩ (Nat.le_of_ble_eq_true rfl) dX11_part_75 (sPi_k (fun r_75 I_75 J_75 hw => ?_))
          refine g_istore_n (lo2 := [(2, .int r_75), (0, .ref 0), (1, .int x1), (3, .int x3), (4, .int x4)]) h rfl (by decide) rfl dX11_part_78 ?_
          refine g_iload h 4 rfl dX11_part_79 ?_
          refine g_istore_n (lo2 := [(3, .int x4), (2, .int r_75), (0, .ref 0), (1, .int x1), (4, .int x4)]) h rfl (by decide) rfl dX11_part_81 ?_
          exact g_sub [2, 3, 1, 0, 4] rfl (t_X11_part_82 h hr hk35 hw)
theorem t_X11_part_35 {X : sX} {post : Int32 → sI → sJ → Prop} (h : sOK X cX11_part RX11 5 2 48) (hr : sRt X (some .int) (sPi post)) {x1 : Int32} {x2 : Int32} {x3 : Int32} {x4 : Int32} {I : sI} {J : sJ} (hw : w_X11_part_35 post x1 x2 x3 x4 I J) : sG X 5 35 [(0, .ref 0), (1, .int x1), (2, .int x2), (3, .int x3), (4, .int x4)] [] I J := by
  obtain ⟨n, hw⟩ := hw
  induction n generalizing x1 x2 x3 x4 I J with
  | zero => exact hw.elim
  | succ n ih => exact t_X11_part_35_s h hr (fun _ _ _ _ _ _ q => ih q) hw
def w_X11_part (I : sI) (J : sJ) (post : Int32 → sI → sJ → Prop) : Prop :=
  w_X11_unknownFinds I J (fun (r_1 : Int32) (I_1 : sI) (J_1 : sJ) => (w_X1_standing I_1 J_1 (fun (r_20 : Int32) (I_20 : sI) (J_20 : sJ) => (w_X1_listPairs r_20 r_1 I_20 J_20 (fun (I_24 : sI) (J_24 : sJ) => (w_X11_part_35 post r_1 13 0 0 I_24 J_24))))))
set_option maxHeartbeats 4000000 in
set_option maxRecDepth 100000 in
theorem t_X11_part {X : sX} {I : sI} {J : sJ} {post : Int32 → sI → sJ → Prop} (h : sOK X cX11_part RX11 5 2 48) (hr : sRt X (some .int) (sPi post)) (hw : w_X11_part I J post) : sG X 5 0 [(0, .ref 0)] [] I J := by
  unfold w_X11_part at hw
  refine g_aload_n h rfl 0 rfl dX11_part_0 ?_
  refine g_callV [] h (c_X11_unknownFinds X hw) sPi_v mw_X11_unknownFinds lk_X11_413 is_0 rfl rfl ⟨by decide, by decide⟩ (Nat.le_of_ble_eq_true rfl) dX11_part_1 (sPi_k (fun r_1 I_1 J_1 hw => ?_))
  refine g_istore_n (lo2 := [(1, .int r_1), (0, .ref 0)]) h rfl (by decide) rfl dX11_part_4 ?_
  refine g_aload_n h rfl 1 rfl dX11_part_5 ?_
  refine g_get h is_0 fl_X11_81 fr_0_11 dX11_part_6 ?_
  refine g_aload_n h rfl 1 rfl dX11_part_9 ?_
  refine g_get h is_0 fl_X11_81 fr_0_11 dX11_part_10 ?_
  refine g_aload_n h rfl 1 rfl dX11_part_13 ?_
  refine g_get h is_0 fl_X11_19 fr_0_1 dX11_part_14 ?_
  refine g_get h is_3 fl_X11_403 fr_3_2 dX11_part_17 ?_
  refine g_callV [.ref 11] h (c_X1_standing X hw) sPi_v mw_X1_standing lk_X11_406 is_227 rfl rfl ⟨by decide, by decide⟩ (Nat.le_of_ble_eq_true rfl) dX11_part_20 (sPi_k (fun r_20 I_20 J_20 hw => ?_))
  refine g_iload_n h rfl 0 rfl dX11_part_23 ?_
  refine g_callV [.int r_20, .int r_1] h (c_X1_listPairs X hw) sPv_v mw_X1_listPairs lk_X11_416 is_227 rfl rfl ⟨by decide, by decide⟩ (Nat.le_of_ble_eq_true rfl) dX11_part_24 (sPv_k (fun I_24 J_24 hw => ?_))
  refine g_bipush (v := 13) h (by decide) dX11_part_27 ?_
  refine g_istore_n (lo2 := [(2, .int 13), (1, .int r_1), (0, .ref 0)]) h rfl (by decide) rfl dX11_part_29 ?_
  refine g_iconst (v := 0) h (by decide) dX11_part_30 ?_
  refine g_istore_n (lo2 := [(3, .int 0), (2, .int 13), (1, .int r_1), (0, .ref 0)]) h rfl (by decide) rfl dX11_part_31 ?_
  refine g_iconst (v := 0) h (by decide) dX11_part_32 ?_
  refine g_istore (lo2 := [(4, .int 0), (3, .int 0), (2, .int 13), (1, .int r_1), (0, .ref 0)]) h (by decide) rfl dX11_part_33 ?_
  exact g_sub [4, 3, 2, 1, 0] rfl (t_X11_part_35 h hr hw)
theorem c_X11_part (X : sX) {I : sI} {J : sJ} {post : Int32 → sI → sJ → Prop} (hw : w_X11_part I J post) : sCall X yX11_part cX11_part 5 (some .int) 2 48 [.ref 0] I J (sPi post) := sCall_of (by decide +kernel) (Nat.le_of_ble_eq_true rfl) (fun X h hr => t_X11_part h hr hw)
theorem dX11_plan_0 : decode cX11_plan 0 = .ok (.aload_n 0, 1) := by decide +kernel
theorem dX11_plan_1 : decode cX11_plan 1 = .ok (.getfield 81, 3) := by decide +kernel
theorem dX11_plan_4 : decode cX11_plan 4 = .ok (.aload_n 0, 1) := by decide +kernel
theorem dX11_plan_5 : decode cX11_plan 5 = .ok (.getfield 19, 3) := by decide +kernel
theorem dX11_plan_8 : decode cX11_plan 8 = .ok (.getfield 403, 3) := by decide +kernel
theorem dX11_plan_11 : decode cX11_plan 11 = .ok (.invokevirtual 406, 3) := by decide +kernel
theorem dX11_plan_14 : decode cX11_plan 14 = .ok (.istore_n 1, 1) := by decide +kernel
theorem dX11_plan_15 : decode cX11_plan 15 = .ok (.aload_n 0, 1) := by decide +kernel
theorem dX11_plan_16 : decode cX11_plan 16 = .ok (.invokevirtual 413, 3) := by decide +kernel
theorem dX11_plan_19 : decode cX11_plan 19 = .ok (.istore_n 2, 1) := by decide +kernel
theorem dX11_plan_20 : decode cX11_plan 20 = .ok (.iconst 0, 1) := by decide +kernel
theorem dX11_plan_21 : decode cX11_plan 21 = .ok (.istore_n 3, 1) := by decide +kernel
theorem dX11_plan_22 : decode cX11_plan 22 = .ok (.iconst 0, 1) := by decide +kernel
theorem dX11_plan_23 : decode cX11_plan 23 = .ok (.istore 4, 2) := by decide +kernel
theorem dX11_plan_25 : decode cX11_plan 25 = .ok (.iload 4, 2) := by decide +kernel
theorem dX11_plan_27 : decode cX11_plan 27 = .ok (.bipush 12, 2) := by decide +kernel
theorem dX11_plan_29 : decode cX11_plan 29 = .ok (.if_icmp .ge 56, 3) := by decide +kernel
theorem dX11_plan_32 : decode cX11_plan 32 = .ok (.aload_n 0, 1) := by decide +kernel
theorem dX11_plan_33 : decode cX11_plan 33 = .ok (.getfield 81, 3) := by decide +kernel
theorem dX11_plan_36 : decode cX11_plan 36 = .ok (.iload 4, 2) := by decide +kernel
theorem dX11_plan_38 : decode cX11_plan 38 = .ok (.iconst 1, 1) := by decide +kernel
theorem dX11_plan_39 : decode cX11_plan 39 = .ok (.invokevirtual 410, 3) := by decide +kernel
theorem dX11_plan_42 : decode cX11_plan 42 = .ok (.aload_n 0, 1) := by decide +kernel
theorem dX11_plan_43 : decode cX11_plan 43 = .ok (.getfield 81, 3) := by decide +kernel
theorem dX11_plan_46 : decode cX11_plan 46 = .ok (.iload 4, 2) := by decide +kernel
theorem dX11_plan_48 : decode cX11_plan 48 = .ok (.iconst 2, 1) := by decide +kernel
theorem dX11_plan_49 : decode cX11_plan 49 = .ok (.invokevirtual 410, 3) := by decide +kernel
theorem dX11_plan_52 : decode cX11_plan 52 = .ok (.ior, 1) := by decide +kernel
theorem dX11_plan_53 : decode cX11_plan 53 = .ok (.istore 5, 2) := by decide +kernel
theorem dX11_plan_55 : decode cX11_plan 55 = .ok (.iload_n 3, 1) := by decide +kernel
theorem dX11_plan_56 : decode cX11_plan 56 = .ok (.iload_n 2, 1) := by decide +kernel
theorem dX11_plan_57 : decode cX11_plan 57 = .ok (.iload 4, 2) := by decide +kernel
theorem dX11_plan_59 : decode cX11_plan 59 = .ok (.ishr, 1) := by decide +kernel
theorem dX11_plan_60 : decode cX11_plan 60 = .ok (.iconst 1, 1) := by decide +kernel
theorem dX11_plan_61 : decode cX11_plan 61 = .ok (.iand, 1) := by decide +kernel
theorem dX11_plan_62 : decode cX11_plan 62 = .ok (.ifCond .eq 14, 3) := by decide +kernel
theorem dX11_plan_65 : decode cX11_plan 65 = .ok (.iload 5, 2) := by decide +kernel
theorem dX11_plan_67 : decode cX11_plan 67 = .ok (.iload_n 1, 1) := by decide +kernel
theorem dX11_plan_68 : decode cX11_plan 68 = .ok (.iand, 1) := by decide +kernel
theorem dX11_plan_69 : decode cX11_plan 69 = .ok (.ifCond .eq 7, 3) := by decide +kernel
theorem dX11_plan_72 : decode cX11_plan 72 = .ok (.iconst 1, 1) := by decide +kernel
theorem dX11_plan_73 : decode cX11_plan 73 = .ok (.goto 4, 3) := by decide +kernel
theorem dX11_plan_76 : decode cX11_plan 76 = .ok (.iconst 0, 1) := by decide +kernel
theorem dX11_plan_77 : decode cX11_plan 77 = .ok (.iadd, 1) := by decide +kernel
theorem dX11_plan_78 : decode cX11_plan 78 = .ok (.istore_n 3, 1) := by decide +kernel
theorem dX11_plan_79 : decode cX11_plan 79 = .ok (.iinc 4 1, 3) := by decide +kernel
theorem dX11_plan_82 : decode cX11_plan 82 = .ok (.goto (-57), 3) := by decide +kernel
theorem dX11_plan_85 : decode cX11_plan 85 = .ok (.iload_n 3, 1) := by decide +kernel
theorem dX11_plan_86 : decode cX11_plan 86 = .ok (.bipush 8, 2) := by decide +kernel
theorem dX11_plan_88 : decode cX11_plan 88 = .ok (.if_icmp .le 8, 3) := by decide +kernel
theorem dX11_plan_91 : decode cX11_plan 91 = .ok (.bipush (-3), 2) := by decide +kernel
theorem dX11_plan_93 : decode cX11_plan 93 = .ok (.goto 12, 3) := by decide +kernel
theorem dX11_plan_96 : decode cX11_plan 96 = .ok (.aload_n 0, 1) := by decide +kernel
theorem dX11_plan_97 : decode cX11_plan 97 = .ok (.getfield 81, 3) := by decide +kernel
theorem dX11_plan_100 : decode cX11_plan 100 = .ok (.iload_n 1, 1) := by decide +kernel
theorem dX11_plan_101 : decode cX11_plan 101 = .ok (.iload_n 2, 1) := by decide +kernel
theorem dX11_plan_102 : decode cX11_plan 102 = .ok (.invokevirtual 422, 3) := by decide +kernel
theorem dX11_plan_105 : decode cX11_plan 105 = .ok (.ireturn, 1) := by decide +kernel
def w_X11_plan_77 (post : Int32 → sI → sJ → Prop) (k25 : Int32 → Int32 → Int32 → Int32 → sI → sJ → Prop) (x1 : Int32) (x2 : Int32) (x4 : Int32) (s0 : Int32) (s1 : Int32) (I : sI) (J : sJ) : Prop :=
  (∀ v3_78 : Int32, v3_78 = s1 + s0 → (∀ v4_79 : Int32, v4_79 = x4 + 1 → k25 x1 x2 v3_78 v4_79 I J))
set_option maxHeartbeats 4000000 in
set_option maxRecDepth 100000 in
theorem t_X11_plan_77 {X : sX} {post : Int32 → sI → sJ → Prop} (h : sOK X cX11_plan RX11 6 3 69) (hr : sRt X (some .int) (sPi post)) {k25 : Int32 → Int32 → Int32 → Int32 → sI → sJ → Prop} (hk25 : ∀ (x1 : Int32) (x2 : Int32) (x3 : Int32) (x4 : Int32) (I : sI) (J : sJ), k25 x1 x2 x3 x4 I J → sG X 6 25 [(0, .ref 0), (1, .int x1), (2, .int x2), (3, .int x3), (4, .int x4)] [] I J) {x1 : Int32} {x2 : Int32} {x4 : Int32} {s0 : Int32} {s1 : Int32} {I : sI} {J : sJ} (hw : w_X11_plan_77 post k25 x1 x2 x4 s0 s1 I J) : sG X 6 77 [(0, .ref 0), (1, .int x1), (2, .int x2), (4, .int x4)] [.int s0, .int s1] I J := by
  unfold w_X11_plan_77 at hw
  refine g_iadd h dX11_plan_77 ?_
  refine g_ni (fun v3_78 ev3_78 => ?_)
  replace hw := hw v3_78 ev3_78
  refine g_istore_n (lo2 := [(3, .int v3_78), (0, .ref 0), (1, .int x1), (2, .int x2), (4, .int x4)]) h rfl (by decide) rfl dX11_plan_78 ?_
  obtain ⟨v4_79, ev4_79⟩ : ∃ z : Int32, z = x4 + 1 := ⟨_, rfl⟩
  replace hw := hw v4_79 ev4_79
  refine g_iinc (v := v4_79) (lo2 := [(4, .int v4_79), (3, .int v3_78), (0, .ref 0), (1, .int x1), (2, .int x2)]) h 4 rfl (by rw [ev4_79]; rfl) (by decide) rfl dX11_plan_79 ?_
  refine g_goto (tgt := 25) h (by decide) dX11_plan_82 ?_
  exact g_sub [2, 3, 4, 1, 0] rfl (hk25 _ _ _ _ _ _ hw)
def w_X11_plan_76 (post : Int32 → sI → sJ → Prop) (k25 : Int32 → Int32 → Int32 → Int32 → sI → sJ → Prop) (x1 : Int32) (x2 : Int32) (x4 : Int32) (s0 : Int32) (I : sI) (J : sJ) : Prop :=
  w_X11_plan_77 post k25 x1 x2 x4 0 s0 I J
set_option maxHeartbeats 4000000 in
set_option maxRecDepth 100000 in
theorem t_X11_plan_76 {X : sX} {post : Int32 → sI → sJ → Prop} (h : sOK X cX11_plan RX11 6 3 69) (hr : sRt X (some .int) (sPi post)) {k25 : Int32 → Int32 → Int32 → Int32 → sI → sJ → Prop} (hk25 : ∀ (x1 : Int32) (x2 : Int32) (x3 : Int32) (x4 : Int32) (I : sI) (J : sJ), k25 x1 x2 x3 x4 I J → sG X 6 25 [(0, .ref 0), (1, .int x1), (2, .int x2), (3, .int x3), (4, .int x4)] [] I J) {x1 : Int32} {x2 : Int32} {x4 : Int32} {s0 : Int32} {I : sI} {J : sJ} (hw : w_X11_plan_76 post k25 x1 x2 x4 s0 I J) : sG X 6 76 [(0, .ref 0), (1, .int x1), (2, .int x2), (4, .int x4)] [.int s0] I J := by
  unfold w_X11_plan_76 at hw
  refine g_iconst (v := 0) h (by decide) dX11_plan_76 ?_
  exact g_sub [0, 1, 2, 3] rfl (t_X11_plan_77 h hr hk25 hw)
def w_X11_plan_25_s (post : Int32 → sI → sJ → Prop) (k25 : Int32 → Int32 → Int32 → Int32 → sI → sJ → Prop) (x1 : Int32) (x2 : Int32) (x3 : Int32) (x4 : Int32) (I : sI) (J : sJ) : Prop :=
  ((12 ≤ x4 → ((x3 ≤ 8 → w_X1_depth x1 x2 I J (fun (r_102 : Int32) (I_102 : sI) (J_102 : sJ) => (post r_102 I_102 J_102))) ∧ (¬ x3 ≤ 8 → post (-3) I J))) ∧ (¬ 12 ≤ x4 → w_X1_saying x4 1 I J (fun (r_39 : Int32) (I_39 : sI) (J_39 : sJ) => (w_X1_saying x4 2 I_39 J_39 (fun (r_49 : Int32) (I_49 : sI) (J_49 : sJ) => ((∀ v5_53 : Int32, v5_53 = r_39 ||| r_49 → ((((x2 >>> (x4 &&& 31)) &&& 1) = 0 → w_X11_plan_76 post k25 x1 x2 x4 x3 I_49 J_49) ∧ (¬ ((x2 >>> (x4 &&& 31)) &&& 1) = 0 → (((v5_53 &&& x1) = 0 → w_X11_plan_76 post k25 x1 x2 x4 x3 I_49 J_49) ∧ (¬ (v5_53 &&& x1) = 0 → w_X11_plan_77 post k25 x1 x2 x4 1 x3 I_49 J_49)))))))))))
def w_X11_plan_25_n (post : Int32 → sI → sJ → Prop) : Nat → Int32 → Int32 → Int32 → Int32 → sI → sJ → Prop
  | 0 => fun _ _ _ _ _ _ => False
  | n + 1 => fun x1 x2 x3 x4 I J => w_X11_plan_25_s post (w_X11_plan_25_n post n) x1 x2 x3 x4 I J
def w_X11_plan_25 (post : Int32 → sI → sJ → Prop) (x1 : Int32) (x2 : Int32) (x3 : Int32) (x4 : Int32) (I : sI) (J : sJ) : Prop := ∃ n, w_X11_plan_25_n post n x1 x2 x3 x4 I J
set_option maxHeartbeats 4000000 in
set_option maxRecDepth 100000 in
theorem t_X11_plan_25_s {X : sX} {post : Int32 → sI → sJ → Prop} (h : sOK X cX11_plan RX11 6 3 69) (hr : sRt X (some .int) (sPi post)) {k25 : Int32 → Int32 → Int32 → Int32 → sI → sJ → Prop} (hk25 : ∀ (x1 : Int32) (x2 : Int32) (x3 : Int32) (x4 : Int32) (I : sI) (J : sJ), k25 x1 x2 x3 x4 I J → sG X 6 25 [(0, .ref 0), (1, .int x1), (2, .int x2), (3, .int x3), (4, .int x4)] [] I J) {x1 : Int32} {x2 : Int32} {x3 : Int32} {x4 : Int32} {I : sI} {J : sJ} (hw : w_X11_plan_25_s post k25 x1 x2 x3 x4 I J) : sG X 6 25 [(0, .ref 0), (1, .int x1), (2, .int x2), (3, .int x3), (4, .int x4)] [] I J := by
  unfold w_X11_plan_25_s at hw
  refine g_iload h 4 rfl dX11_plan_25 ?_
  refine g_bipush (v := 12) h (by decide) dX11_plan_27 ?_
  refine g_icmp_ge (tgt := 85) h (by decide) dX11_plan_29 (fun q29 => ?_) (fun q29 => ?_)
  · replace hw := hw.1 q29
    refine g_iload_n h rfl 3 rfl dX11_plan_85 ?_
    refine g_bipush (v := 8) h (by decide) dX11_plan_86 ?_
    refine g_icmp_le (tgt := 96) h (by decide) dX11_plan_88 (fun q88 => ?_) (fun q88 => ?_)
    · replace hw := hw.1 q88
      refine g_aload_n h rfl 0 rfl dX11_plan_96 ?_
      refine g_get h is_0 fl_X11_81 fr_0_11 dX11_plan_97 ?_
      refine g_iload_n h rfl 1 rfl dX11_plan_100 ?_
      refine g_iload_n h rfl 2 rfl dX11_plan_101 ?_
      refine g_callV [.int x1, .int x2] h (c_X1_depth X hw) sPi_v mw_X1_depth lk_X11_422 is_227 rfl rfl ⟨by decide, by decide⟩ (Nat.le_of_ble_eq_true rfl) dX11_plan_102 (sPi_k (fun r_102 I_102 J_102 hw => ?_))
      exact g_iret h hr dX11_plan_105 hw
    · replace hw := hw.2 q88
      refine g_bipush (v := (-3)) h (by decide) dX11_plan_91 ?_
      refine g_goto (tgt := 105) h (by decide) dX11_plan_93 ?_
      exact g_iret h hr dX11_plan_105 hw
  · replace hw := hw.2 q29
    refine g_aload_n h rfl 0 rfl dX11_plan_32 ?_
    refine g_get h is_0 fl_X11_81 fr_0_11 dX11_plan_33 ?_
    refine g_iload h 4 rfl dX11_plan_36 ?_
    refine g_iconst (v := 1) h (by decide) dX11_plan_38 ?_
    refine g_callV [.int x4, .int 1] h (c_X1_saying X hw) sPi_v mw_X1_saying lk_X11_410 is_227 rfl rfl ⟨by decide, by decide⟩ (Nat.le_of_ble_eq_true rfl) dX11_plan_39 (sPi_k (fun r_39 I_39 J_39 hw => ?_))
    refine g_aload_n h rfl 0 rfl dX11_plan_42 ?_
    refine g_get h is_0 fl_X11_81 fr_0_11 dX11_plan_43 ?_
    refine g_iload h 4 rfl dX11_plan_46 ?_
    refine g_iconst (v := 2) h (by decide) dX11_plan_48 ?_
    refine g_callV [.int x4, .int 2] h (c_X1_saying X hw) sPi_v mw_X1_saying lk_X11_410 is_227 rfl rfl ⟨by decide, by decide⟩ (Nat.le_of_ble_eq_true rfl) dX11_plan_49 (sPi_k (fun r_49 I_49 J_49 hw => ?_))
    refine g_ior h dX11_plan_52 ?_
    refine g_ni (fun v5_53 ev5_53 => ?_)
    replace hw := hw v5_53 ev5_53
    refine g_istore (lo2 := [(5, .int v5_53), (0, .ref 0), (1, .int x1), (2, .int x2), (3, .int x3), (4, .int x4)]) h (by decide) rfl dX11_plan_53 ?_
    refine g_iload_n h rfl 4 rfl dX11_plan_55 ?_
    refine g_iload_n h rfl 3 rfl dX11_plan_56 ?_
    refine g_iload h 5 rfl dX11_plan_57 ?_
    refine g_ishr h dX11_plan_59 ?_
    refine g_iconst (v := 1) h (by decide) dX11_plan_60 ?_
    refine g_iand h dX11_plan_61 ?_
    refine g_if_eq (tgt := 76) h (by decide) dX11_plan_62 (fun q62 => ?_) (fun q62 => ?_)
    · replace hw := hw.1 q62
      exact g_sub [1, 2, 3, 5] rfl (t_X11_plan_76 h hr hk25 hw)
    · replace hw := hw.2 q62
      refine g_iload h 0 rfl dX11_plan_65 ?_
      refine g_iload_n h rfl 2 rfl dX11_plan_67 ?_
      refine g_iand h dX11_plan_68 ?_
      refine g_if_eq (tgt := 76) h (by decide) dX11_plan_69 (fun q69 => ?_) (fun q69 => ?_)
      · replace hw := hw.1 q69
        exact g_sub [1, 2, 3, 5] rfl (t_X11_plan_76 h hr hk25 hw)
      · replace hw := hw.2 q69
        refine g_iconst (v := 1) h (by decide) dX11_plan_72 ?_
        refine g_goto (tgt := 77) h (by decide) dX11_plan_73 ?_
        exact g_sub [1, 2, 3, 5] rfl (t_X11_plan_77 h hr hk25 hw)
theorem t_X11_plan_25 {X : sX} {post : Int32 → sI → sJ → Prop} (h : sOK X cX11_plan RX11 6 3 69) (hr : sRt X (some .int) (sPi post)) {x1 : Int32} {x2 : Int32} {x3 : Int32} {x4 : Int32} {I : sI} {J : sJ} (hw : w_X11_plan_25 post x1 x2 x3 x4 I J) : sG X 6 25 [(0, .ref 0), (1, .int x1), (2, .int x2), (3, .int x3), (4, .int x4)] [] I J := by
  obtain ⟨n, hw⟩ := hw
  induction n generalizing x1 x2 x3 x4 I J with
  | zero => exact hw.elim
  | succ n ih => exact t_X11_plan_25_s h hr (fun _ _ _ _ _ _ q => ih q) hw
def w_X11_plan (I : sI) (J : sJ) (post : Int32 → sI → sJ → Prop) : Prop :=
  w_X1_standing I J (fun (r_11 : Int32) (I_11 : sI) (J_11 : sJ) => (w_X11_unknownFinds I_11 J_11 (fun (r_16 : Int32) (I_16 : sI) (J_16 : sJ) => (w_X11_plan_25 post r_11 r_16 0 0 I_16 J_16))))
set_option maxHeartbeats 4000000 in
set_option maxRecDepth 100000 in
theorem t_X11_plan {X : sX} {I : sI} {J : sJ} {post : Int32 → sI → sJ → Prop} (h : sOK X cX11_plan RX11 6 3 69) (hr : sRt X (some .int) (sPi post)) (hw : w_X11_plan I J post) : sG X 6 0 [(0, .ref 0)] [] I J := by
  unfold w_X11_plan at hw
  refine g_aload_n h rfl 0 rfl dX11_plan_0 ?_
  refine g_get h is_0 fl_X11_81 fr_0_11 dX11_plan_1 ?_
  refine g_aload_n h rfl 0 rfl dX11_plan_4 ?_
  refine g_get h is_0 fl_X11_19 fr_0_1 dX11_plan_5 ?_
  refine g_get h is_3 fl_X11_403 fr_3_2 dX11_plan_8 ?_
  refine g_callV [.ref 11] h (c_X1_standing X hw) sPi_v mw_X1_standing lk_X11_406 is_227 rfl rfl ⟨by decide, by decide⟩ (Nat.le_of_ble_eq_true rfl) dX11_plan_11 (sPi_k (fun r_11 I_11 J_11 hw => ?_))
  refine g_istore_n (lo2 := [(1, .int r_11), (0, .ref 0)]) h rfl (by decide) rfl dX11_plan_14 ?_
  refine g_aload_n h rfl 1 rfl dX11_plan_15 ?_
  refine g_callV [] h (c_X11_unknownFinds X hw) sPi_v mw_X11_unknownFinds lk_X11_413 is_0 rfl rfl ⟨by decide, by decide⟩ (Nat.le_of_ble_eq_true rfl) dX11_plan_16 (sPi_k (fun r_16 I_16 J_16 hw => ?_))
  refine g_istore_n (lo2 := [(2, .int r_16), (1, .int r_11), (0, .ref 0)]) h rfl (by decide) rfl dX11_plan_19 ?_
  refine g_iconst (v := 0) h (by decide) dX11_plan_20 ?_
  refine g_istore_n (lo2 := [(3, .int 0), (2, .int r_16), (1, .int r_11), (0, .ref 0)]) h rfl (by decide) rfl dX11_plan_21 ?_
  refine g_iconst (v := 0) h (by decide) dX11_plan_22 ?_
  refine g_istore (lo2 := [(4, .int 0), (3, .int 0), (2, .int r_16), (1, .int r_11), (0, .ref 0)]) h (by decide) rfl dX11_plan_23 ?_
  exact g_sub [4, 3, 2, 1, 0] rfl (t_X11_plan_25 h hr hw)
theorem c_X11_plan (X : sX) {I : sI} {J : sJ} {post : Int32 → sI → sJ → Prop} (hw : w_X11_plan I J post) : sCall X yX11_plan cX11_plan 6 (some .int) 3 69 [.ref 0] I J (sPi post) := sCall_of (by decide +kernel) (Nat.le_of_ble_eq_true rfl) (fun X h hr => t_X11_plan h hr hw)
theorem dX11_seed_0 : decode cX11_seed 0 = .ok (.aload_n 0, 1) := by decide +kernel
theorem dX11_seed_1 : decode cX11_seed 1 = .ok (.getfield 99, 3) := by decide +kernel
theorem dX11_seed_4 : decode cX11_seed 4 = .ok (.istore_n 2, 1) := by decide +kernel
theorem dX11_seed_5 : decode cX11_seed 5 = .ok (.aload_n 0, 1) := by decide +kernel
theorem dX11_seed_6 : decode cX11_seed 6 = .ok (.iload_n 1, 1) := by decide +kernel
theorem dX11_seed_7 : decode cX11_seed 7 = .ok (.putfield 99, 3) := by decide +kernel
theorem dX11_seed_10 : decode cX11_seed 10 = .ok (.iload_n 2, 1) := by decide +kernel
theorem dX11_seed_11 : decode cX11_seed 11 = .ok (.ireturn, 1) := by decide +kernel
def w_X11_seed (a1 : Int32) (I : sI) (J : sJ) (post : Int32 → sI → sJ → Prop) : Prop :=
  (∀ v2_4 : Int32, v2_4 = I 0 15 → (∀ I_7 : sI, I_7 = sUI I 0 15 a1 → post v2_4 I_7 J))
set_option maxHeartbeats 4000000 in
set_option maxRecDepth 100000 in
theorem t_X11_seed {X : sX} {a1 : Int32} {I : sI} {J : sJ} {post : Int32 → sI → sJ → Prop} (h : sOK X cX11_seed RX11 3 0 0) (hr : sRt X (some .int) (sPi post)) (hw : w_X11_seed a1 I J post) : sG X 3 0 [(0, .ref 0), (1, .int a1)] [] I J := by
  unfold w_X11_seed at hw
  refine g_aload_n h rfl 0 rfl dX11_seed_0 ?_
  refine g_get h is_0 fl_X11_99 rfl dX11_seed_1 ?_
  refine g_ni (fun v2_4 ev2_4 => ?_)
  replace hw := hw v2_4 ev2_4
  refine g_istore_n (lo2 := [(2, .int v2_4), (0, .ref 0), (1, .int a1)]) h rfl (by decide) rfl dX11_seed_4 ?_
  refine g_aload_n h rfl 1 rfl dX11_seed_5 ?_
  refine g_iload_n h rfl 2 rfl dX11_seed_6 ?_
  refine g_putI h is_0 fl_X11_99 rfl rfl dX11_seed_7 ?_
  refine g_nI (fun I_7 eI_7 => ?_)
  replace hw := hw I_7 eI_7
  refine g_iload_n h rfl 0 rfl dX11_seed_10 ?_
  exact g_iret h hr dX11_seed_11 hw
theorem c_X11_seed (X : sX) {a1 : Int32} {I : sI} {J : sJ} {post : Int32 → sI → sJ → Prop} (hw : w_X11_seed a1 I J post) : sCall X yX11_seed cX11_seed 3 (some .int) 0 0 [.ref 0, .int a1] I J (sPi post) := sCall_of (by decide +kernel) (Nat.le_of_ble_eq_true rfl) (fun X h hr => t_X11_seed h hr hw)
theorem dX11_keep_0 : decode cX11_keep 0 = .ok (.iload_n 1, 1) := by decide +kernel
theorem dX11_keep_1 : decode cX11_keep 1 = .ok (.ifCond .lt 8, 3) := by decide +kernel
theorem dX11_keep_4 : decode cX11_keep 4 = .ok (.iload_n 1, 1) := by decide +kernel
theorem dX11_keep_5 : decode cX11_keep 5 = .ok (.iconst 3, 1) := by decide +kernel
theorem dX11_keep_6 : decode cX11_keep 6 = .ok (.if_icmp .lt 5, 3) := by decide +kernel
theorem dX11_keep_9 : decode cX11_keep 9 = .ok (.iconst 0, 1) := by decide +kernel
theorem dX11_keep_10 : decode cX11_keep 10 = .ok (.ireturn, 1) := by decide +kernel
theorem dX11_keep_11 : decode cX11_keep 11 = .ok (.aload_n 0, 1) := by decide +kernel
theorem dX11_keep_12 : decode cX11_keep 12 = .ok (.getfield 23, 3) := by decide +kernel
theorem dX11_keep_15 : decode cX11_keep 15 = .ok (.iload_n 1, 1) := by decide +kernel
theorem dX11_keep_16 : decode cX11_keep 16 = .ok (.aaload, 1) := by decide +kernel
theorem dX11_keep_17 : decode cX11_keep 17 = .ok (.aload_n 0, 1) := by decide +kernel
theorem dX11_keep_18 : decode cX11_keep 18 = .ok (.getfield 19, 3) := by decide +kernel
theorem dX11_keep_21 : decode cX11_keep 21 = .ok (.invokevirtual 425, 3) := by decide +kernel
theorem dX11_keep_24 : decode cX11_keep 24 = .ok (.aload_n 0, 1) := by decide +kernel
theorem dX11_keep_25 : decode cX11_keep 25 = .ok (.getfield 27, 3) := by decide +kernel
theorem dX11_keep_28 : decode cX11_keep 28 = .ok (.iload_n 1, 1) := by decide +kernel
theorem dX11_keep_29 : decode cX11_keep 29 = .ok (.iconst 1, 1) := by decide +kernel
theorem dX11_keep_30 : decode cX11_keep 30 = .ok (.bastore, 1) := by decide +kernel
theorem dX11_keep_31 : decode cX11_keep 31 = .ok (.iconst 1, 1) := by decide +kernel
theorem dX11_keep_32 : decode cX11_keep 32 = .ok (.ireturn, 1) := by decide +kernel
def w_X11_keep (a1 : Int32) (I : sI) (J : sJ) (post : Int32 → sI → sJ → Prop) : Prop :=
  ((a1 < 0 → post 0 I J) ∧ (¬ a1 < 0 → ((a1 < 3 → (vp_in a1 3 ∧ w_X8_take (sR 12 (Int32.toNatClampNeg a1)) 3 I J (fun (I_21 : sI) (J_21 : sJ) => ((vp_in a1 3 ∧ (∀ I_30 : sI, I_30 = sUI I_21 40 (Int32.toNatClampNeg a1) 1 → post 1 I_30 J_21)))))) ∧ (¬ a1 < 3 → post 0 I J))))
set_option maxHeartbeats 4000000 in
set_option maxRecDepth 100000 in
theorem t_X11_keep {X : sX} {a1 : Int32} {I : sI} {J : sJ} {post : Int32 → sI → sJ → Prop} (h : sOK X cX11_keep RX11 2 2 44) (hr : sRt X (some .boolean) (sPi post)) (hw : w_X11_keep a1 I J post) : sG X 2 0 [(0, .ref 0), (1, .int a1)] [] I J := by
  unfold w_X11_keep at hw
  refine g_iload_n h rfl 1 rfl dX11_keep_0 ?_
  refine g_if_lt (tgt := 9) h (by decide) dX11_keep_1 (fun q1 => ?_) (fun q1 => ?_)
  · replace hw := hw.1 q1
    refine g_iconst (v := 0) h (by decide) dX11_keep_9 ?_
    exact g_zret h hr (Or.inl rfl) dX11_keep_10 hw
  · replace hw := hw.2 q1
    refine g_iload_n h rfl 1 rfl dX11_keep_4 ?_
    refine g_iconst (v := 3) h (by decide) dX11_keep_5 ?_
    refine g_icmp_lt (tgt := 11) h (by decide) dX11_keep_6 (fun q6 => ?_) (fun q6 => ?_)
    · replace hw := hw.1 q6
      refine g_aload_n h rfl 0 rfl dX11_keep_11 ?_
      refine g_get h is_0 fl_X11_23 fr_0_2 dX11_keep_12 ?_
      refine g_iload_n h rfl 1 rfl dX11_keep_15 ?_
      obtain ⟨hi16, hw⟩ := hw
      refine g_aald (t := 0) h ar_12 (by decide) hi16 dX11_keep_16 ?_
      refine g_aload_n h rfl 0 rfl dX11_keep_17 ?_
      refine g_get h is_0 fl_X11_19 fr_0_1 dX11_keep_18 ?_
      refine g_callV [.ref 3] h (c_X8_take X (el_4_3 ar_12 hi16) is_3 hw) sPv_v mw_X8_take lk_X11_425 (el_4_3 ar_12 hi16) rfl rfl ⟨by decide, by decide⟩ (Nat.le_of_ble_eq_true rfl) dX11_keep_21 (sPv_k (fun I_21 J_21 hw => ?_))
      refine g_aload_n h rfl 0 rfl dX11_keep_24 ?_
      refine g_get h is_0 fl_X11_27 fr_0_3 dX11_keep_25 ?_
      refine g_iload_n h rfl 1 rfl dX11_keep_28 ?_
      refine g_iconst (v := 1) h (by decide) dX11_keep_29 ?_
      obtain ⟨hi30, hw⟩ := hw
      refine g_zast h ar_40 hi30 (Or.inr rfl) dX11_keep_30 ?_
      refine g_nI (fun I_30 eI_30 => ?_)
      replace hw := hw I_30 eI_30
      refine g_iconst (v := 1) h (by decide) dX11_keep_31 ?_
      exact g_zret h hr (Or.inr rfl) dX11_keep_32 hw
    · replace hw := hw.2 q6
      refine g_iconst (v := 0) h (by decide) dX11_keep_9 ?_
      exact g_zret h hr (Or.inl rfl) dX11_keep_10 hw
theorem c_X11_keep (X : sX) {a1 : Int32} {I : sI} {J : sJ} {post : Int32 → sI → sJ → Prop} (hw : w_X11_keep a1 I J post) : sCall X yX11_keep cX11_keep 2 (some .boolean) 2 44 [.ref 0, .int a1] I J (sPi post) := sCall_of (by decide +kernel) (Nat.le_of_ble_eq_true rfl) (fun X h hr => t_X11_keep h hr hw)
theorem dX11_again_0 : decode cX11_again 0 = .ok (.iload_n 1, 1) := by decide +kernel
theorem dX11_again_1 : decode cX11_again 1 = .ok (.ifCond .lt 17, 3) := by decide +kernel
theorem dX11_again_4 : decode cX11_again 4 = .ok (.iload_n 1, 1) := by decide +kernel
theorem dX11_again_5 : decode cX11_again 5 = .ok (.iconst 3, 1) := by decide +kernel
theorem dX11_again_6 : decode cX11_again 6 = .ok (.if_icmp .ge 12, 3) := by decide +kernel
theorem dX11_again_9 : decode cX11_again 9 = .ok (.aload_n 0, 1) := by decide +kernel
theorem dX11_again_10 : decode cX11_again 10 = .ok (.getfield 27, 3) := by decide +kernel
theorem dX11_again_13 : decode cX11_again 13 = .ok (.iload_n 1, 1) := by decide +kernel
theorem dX11_again_14 : decode cX11_again 14 = .ok (.baload, 1) := by decide +kernel
theorem dX11_again_15 : decode cX11_again 15 = .ok (.ifCond .ne 5, 3) := by decide +kernel
theorem dX11_again_18 : decode cX11_again 18 = .ok (.iconst 0, 1) := by decide +kernel
theorem dX11_again_19 : decode cX11_again 19 = .ok (.ireturn, 1) := by decide +kernel
theorem dX11_again_20 : decode cX11_again 20 = .ok (.aload_n 0, 1) := by decide +kernel
theorem dX11_again_21 : decode cX11_again 21 = .ok (.getfield 19, 3) := by decide +kernel
theorem dX11_again_24 : decode cX11_again 24 = .ok (.aload_n 0, 1) := by decide +kernel
theorem dX11_again_25 : decode cX11_again 25 = .ok (.getfield 23, 3) := by decide +kernel
theorem dX11_again_28 : decode cX11_again 28 = .ok (.iload_n 1, 1) := by decide +kernel
theorem dX11_again_29 : decode cX11_again 29 = .ok (.aaload, 1) := by decide +kernel
theorem dX11_again_30 : decode cX11_again 30 = .ok (.invokevirtual 425, 3) := by decide +kernel
theorem dX11_again_33 : decode cX11_again 33 = .ok (.iconst 1, 1) := by decide +kernel
theorem dX11_again_34 : decode cX11_again 34 = .ok (.ireturn, 1) := by decide +kernel
def w_X11_again (a1 : Int32) (I : sI) (J : sJ) (post : Int32 → sI → sJ → Prop) : Prop :=
  ((a1 < 0 → post 0 I J) ∧ (¬ a1 < 0 → ((3 ≤ a1 → post 0 I J) ∧ (¬ 3 ≤ a1 → (vp_in a1 3 ∧ ((¬ (I 40 (Int32.toNatClampNeg a1)) = 0 → (vp_in a1 3 ∧ w_X8_take 3 (sR 12 (Int32.toNatClampNeg a1)) I J (fun (I_30 : sI) (J_30 : sJ) => (post 1 I_30 J_30)))) ∧ ((I 40 (Int32.toNatClampNeg a1)) = 0 → post 0 I J)))))))
set_option maxHeartbeats 4000000 in
set_option maxRecDepth 100000 in
theorem t_X11_again {X : sX} {a1 : Int32} {I : sI} {J : sJ} {post : Int32 → sI → sJ → Prop} (h : sOK X cX11_again RX11 2 2 44) (hr : sRt X (some .boolean) (sPi post)) (hw : w_X11_again a1 I J post) : sG X 2 0 [(0, .ref 0), (1, .int a1)] [] I J := by
  unfold w_X11_again at hw
  refine g_iload_n h rfl 1 rfl dX11_again_0 ?_
  refine g_if_lt (tgt := 18) h (by decide) dX11_again_1 (fun q1 => ?_) (fun q1 => ?_)
  · replace hw := hw.1 q1
    refine g_iconst (v := 0) h (by decide) dX11_again_18 ?_
    exact g_zret h hr (Or.inl rfl) dX11_again_19 hw
  · replace hw := hw.2 q1
    refine g_iload_n h rfl 1 rfl dX11_again_4 ?_
    refine g_iconst (v := 3) h (by decide) dX11_again_5 ?_
    refine g_icmp_ge (tgt := 18) h (by decide) dX11_again_6 (fun q6 => ?_) (fun q6 => ?_)
    · replace hw := hw.1 q6
      refine g_iconst (v := 0) h (by decide) dX11_again_18 ?_
      exact g_zret h hr (Or.inl rfl) dX11_again_19 hw
    · replace hw := hw.2 q6
      refine g_aload_n h rfl 0 rfl dX11_again_9 ?_
      refine g_get h is_0 fl_X11_27 fr_0_3 dX11_again_10 ?_
      refine g_iload_n h rfl 1 rfl dX11_again_13 ?_
      obtain ⟨hi14, hw⟩ := hw
      refine g_zald h ar_40 hi14 dX11_again_14 ?_
      refine g_if_ne (tgt := 20) h (by decide) dX11_again_15 (fun q15 => ?_) (fun q15 => ?_)
      · replace hw := hw.1 q15
        refine g_aload_n h rfl 0 rfl dX11_again_20 ?_
        refine g_get h is_0 fl_X11_19 fr_0_1 dX11_again_21 ?_
        refine g_aload_n h rfl 0 rfl dX11_again_24 ?_
        refine g_get h is_0 fl_X11_23 fr_0_2 dX11_again_25 ?_
        refine g_iload_n h rfl 1 rfl dX11_again_28 ?_
        obtain ⟨hi29, hw⟩ := hw
        refine g_aald (t := 0) h ar_12 (by decide) hi29 dX11_again_29 ?_
        refine g_callV [.ref (sR 12 (Int32.toNatClampNeg a1))] h (c_X8_take X is_3 (el_4_3 ar_12 hi29) hw) sPv_v mw_X8_take lk_X11_425 is_3 rfl rfl ⟨by decide, by decide⟩ (Nat.le_of_ble_eq_true rfl) dX11_again_30 (sPv_k (fun I_30 J_30 hw => ?_))
        refine g_iconst (v := 1) h (by decide) dX11_again_33 ?_
        exact g_zret h hr (Or.inr rfl) dX11_again_34 hw
      · replace hw := hw.2 q15
        refine g_iconst (v := 0) h (by decide) dX11_again_18 ?_
        exact g_zret h hr (Or.inl rfl) dX11_again_19 hw
theorem c_X11_again (X : sX) {a1 : Int32} {I : sI} {J : sJ} {post : Int32 → sI → sJ → Prop} (hw : w_X11_again a1 I J post) : sCall X yX11_again cX11_again 2 (some .boolean) 2 44 [.ref 0, .int a1] I J (sPi post) := sCall_of (by decide +kernel) (Nat.le_of_ble_eq_true rfl) (fun X h hr => t_X11_again h hr hw)
theorem dX11_count_0 : decode cX11_count 0 = .ok (.iload_n 1, 1) := by decide +kernel
theorem dX11_count_1 : decode cX11_count 1 = .ok (.tableswitch 177 0 13 #[71, 82, 93, 93, 93, 93, 105, 113, 121, 137, 148, 156, 164, 172], 71) := by decide +kernel
theorem dX11_count_72 : decode cX11_count 72 = .ok (.aload_n 0, 1) := by decide +kernel
theorem dX11_count_73 : decode cX11_count 73 = .ok (.getfield 19, 3) := by decide +kernel
theorem dX11_count_76 : decode cX11_count 76 = .ok (.getfield 117, 3) := by decide +kernel
theorem dX11_count_79 : decode cX11_count 79 = .ok (.getfield 131, 3) := by decide +kernel
theorem dX11_count_82 : decode cX11_count 82 = .ok (.ireturn, 1) := by decide +kernel
theorem dX11_count_83 : decode cX11_count 83 = .ok (.aload_n 0, 1) := by decide +kernel
theorem dX11_count_84 : decode cX11_count 84 = .ok (.getfield 19, 3) := by decide +kernel
theorem dX11_count_87 : decode cX11_count 87 = .ok (.getfield 117, 3) := by decide +kernel
theorem dX11_count_90 : decode cX11_count 90 = .ok (.getfield 179, 3) := by decide +kernel
theorem dX11_count_93 : decode cX11_count 93 = .ok (.ireturn, 1) := by decide +kernel
theorem dX11_count_94 : decode cX11_count 94 = .ok (.aload_n 0, 1) := by decide +kernel
theorem dX11_count_95 : decode cX11_count 95 = .ok (.getfield 33, 3) := by decide +kernel
theorem dX11_count_98 : decode cX11_count 98 = .ok (.iload_n 1, 1) := by decide +kernel
theorem dX11_count_99 : decode cX11_count 99 = .ok (.iconst 2, 1) := by decide +kernel
theorem dX11_count_100 : decode cX11_count 100 = .ok (.isub, 1) := by decide +kernel
theorem dX11_count_101 : decode cX11_count 101 = .ok (.aaload, 1) := by decide +kernel
theorem dX11_count_102 : decode cX11_count 102 = .ok (.getfield 138, 3) := by decide +kernel
theorem dX11_count_105 : decode cX11_count 105 = .ok (.ireturn, 1) := by decide +kernel
theorem dX11_count_106 : decode cX11_count 106 = .ok (.aload_n 0, 1) := by decide +kernel
theorem dX11_count_107 : decode cX11_count 107 = .ok (.getfield 19, 3) := by decide +kernel
theorem dX11_count_110 : decode cX11_count 110 = .ok (.getfield 160, 3) := by decide +kernel
theorem dX11_count_113 : decode cX11_count 113 = .ok (.ireturn, 1) := by decide +kernel
theorem dX11_count_114 : decode cX11_count 114 = .ok (.aload_n 0, 1) := by decide +kernel
theorem dX11_count_115 : decode cX11_count 115 = .ok (.getfield 19, 3) := by decide +kernel
theorem dX11_count_118 : decode cX11_count 118 = .ok (.getfield 163, 3) := by decide +kernel
theorem dX11_count_121 : decode cX11_count 121 = .ok (.ireturn, 1) := by decide +kernel
theorem dX11_count_122 : decode cX11_count 122 = .ok (.aload_n 0, 1) := by decide +kernel
theorem dX11_count_123 : decode cX11_count 123 = .ok (.getfield 19, 3) := by decide +kernel
theorem dX11_count_126 : decode cX11_count 126 = .ok (.getfield 166, 3) := by decide +kernel
theorem dX11_count_129 : decode cX11_count 129 = .ok (.ifCond .eq 7, 3) := by decide +kernel
theorem dX11_count_132 : decode cX11_count 132 = .ok (.iconst 1, 1) := by decide +kernel
theorem dX11_count_133 : decode cX11_count 133 = .ok (.goto 4, 3) := by decide +kernel
theorem dX11_count_136 : decode cX11_count 136 = .ok (.iconst 0, 1) := by decide +kernel
theorem dX11_count_137 : decode cX11_count 137 = .ok (.ireturn, 1) := by decide +kernel
theorem dX11_count_138 : decode cX11_count 138 = .ok (.aload_n 0, 1) := by decide +kernel
theorem dX11_count_139 : decode cX11_count 139 = .ok (.getfield 19, 3) := by decide +kernel
theorem dX11_count_142 : decode cX11_count 142 = .ok (.getfield 124, 3) := by decide +kernel
theorem dX11_count_145 : decode cX11_count 145 = .ok (.getfield 128, 3) := by decide +kernel
theorem dX11_count_148 : decode cX11_count 148 = .ok (.ireturn, 1) := by decide +kernel
theorem dX11_count_149 : decode cX11_count 149 = .ok (.aload_n 0, 1) := by decide +kernel
theorem dX11_count_150 : decode cX11_count 150 = .ok (.getfield 81, 3) := by decide +kernel
theorem dX11_count_153 : decode cX11_count 153 = .ok (.getfield 385, 3) := by decide +kernel
theorem dX11_count_156 : decode cX11_count 156 = .ok (.ireturn, 1) := by decide +kernel
theorem dX11_count_157 : decode cX11_count 157 = .ok (.aload_n 0, 1) := by decide +kernel
theorem dX11_count_158 : decode cX11_count 158 = .ok (.getfield 41, 3) := by decide +kernel
theorem dX11_count_161 : decode cX11_count 161 = .ok (.getfield 196, 3) := by decide +kernel
theorem dX11_count_164 : decode cX11_count 164 = .ok (.ireturn, 1) := by decide +kernel
theorem dX11_count_165 : decode cX11_count 165 = .ok (.aload_n 0, 1) := by decide +kernel
theorem dX11_count_166 : decode cX11_count 166 = .ok (.getfield 12, 3) := by decide +kernel
theorem dX11_count_169 : decode cX11_count 169 = .ok (.getfield 106, 3) := by decide +kernel
theorem dX11_count_172 : decode cX11_count 172 = .ok (.ireturn, 1) := by decide +kernel
theorem dX11_count_173 : decode cX11_count 173 = .ok (.aload_n 0, 1) := by decide +kernel
theorem dX11_count_174 : decode cX11_count 174 = .ok (.getfield 103, 3) := by decide +kernel
theorem dX11_count_177 : decode cX11_count 177 = .ok (.ireturn, 1) := by decide +kernel
theorem dX11_count_178 : decode cX11_count 178 = .ok (.iconst (-1), 1) := by decide +kernel
theorem dX11_count_179 : decode cX11_count 179 = .ok (.ireturn, 1) := by decide +kernel
def w_X11_count (a1 : Int32) (I : sI) (J : sJ) (post : Int32 → sI → sJ → Prop) : Prop :=
  ((a1 = 0 → post (I 4 3) I J) ∧ (a1 = 1 → post (I 4 4) I J) ∧ (a1 = 2 → (vp_in (a1 - 2) 4 ∧ post (I (sR 41 (Int32.toNatClampNeg (a1 - 2))) 2) I J)) ∧ (a1 = 3 → (vp_in (a1 - 2) 4 ∧ post (I (sR 41 (Int32.toNatClampNeg (a1 - 2))) 2) I J)) ∧ (a1 = 4 → (vp_in (a1 - 2) 4 ∧ post (I (sR 41 (Int32.toNatClampNeg (a1 - 2))) 2) I J)) ∧ (a1 = 5 → (vp_in (a1 - 2) 4 ∧ post (I (sR 41 (Int32.toNatClampNeg (a1 - 2))) 2) I J)) ∧ (a1 = 6 → post (I 3 3) I J) ∧ (a1 = 7 → post (I 3 4) I J) ∧ (a1 = 8 → (((I 3 5) = 0 → post 0 I J) ∧ (¬ (I 3 5) = 0 → post 1 I J))) ∧ (a1 = 9 → post (I 8 2) I J) ∧ (a1 = 10 → post (I 227 1) I J) ∧ (a1 = 11 → post (I 134 1) I J) ∧ (a1 = 12 → post (I 1 1) I J) ∧ (a1 = 13 → post (I 0 16) I J) ∧ (¬ a1 = 0 ∧ ¬ a1 = 1 ∧ ¬ a1 = 2 ∧ ¬ a1 = 3 ∧ ¬ a1 = 4 ∧ ¬ a1 = 5 ∧ ¬ a1 = 6 ∧ ¬ a1 = 7 ∧ ¬ a1 = 8 ∧ ¬ a1 = 9 ∧ ¬ a1 = 10 ∧ ¬ a1 = 11 ∧ ¬ a1 = 12 ∧ ¬ a1 = 13 → post (-1) I J))
set_option maxHeartbeats 4000000 in
set_option maxRecDepth 100000 in
theorem t_X11_count {X : sX} {a1 : Int32} {I : sI} {J : sJ} {post : Int32 → sI → sJ → Prop} (h : sOK X cX11_count RX11 2 0 0) (hr : sRt X (some .int) (sPi post)) (hw : w_X11_count a1 I J post) : sG X 2 0 [(0, .ref 0), (1, .int a1)] [] I J := by
  unfold w_X11_count at hw
  refine g_iload_n h rfl 1 rfl dX11_count_0 ?_
  by_cases q1_0 : a1 = 0
  · replace hw := hw.1 q1_0
    refine g_tabIn (tgt := 72) h dX11_count_1 (by rw [q1_0]; decide) (by rw [q1_0]; decide) (off := 71) (by rw [q1_0]; rfl) (by decide) ?_
    refine g_aload_n h rfl 0 rfl dX11_count_72 ?_
    refine g_get h is_0 fl_X11_19 fr_0_1 dX11_count_73 ?_
    refine g_get h is_3 fl_X11_117 fr_3_0 dX11_count_76 ?_
    refine g_get h is_4 fl_X11_131 rfl dX11_count_79 ?_
    exact g_iret h hr dX11_count_82 hw
  replace hw := hw.2
  by_cases q1_1 : a1 = 1
  · replace hw := hw.1 q1_1
    refine g_tabIn (tgt := 83) h dX11_count_1 (by rw [q1_1]; decide) (by rw [q1_1]; decide) (off := 82) (by rw [q1_1]; rfl) (by decide) ?_
    refine g_aload_n h rfl 0 rfl dX11_count_83 ?_
    refine g_get h is_0 fl_X11_19 fr_0_1 dX11_count_84 ?_
    refine g_get h is_3 fl_X11_117 fr_3_0 dX11_count_87 ?_
    refine g_get h is_4 fl_X11_179 rfl dX11_count_90 ?_
    exact g_iret h hr dX11_count_93 hw
  replace hw := hw.2
  by_cases q1_2 : a1 = 2
  · replace hw := hw.1 q1_2
    refine g_tabIn (tgt := 94) h dX11_count_1 (by rw [q1_2]; decide) (by rw [q1_2]; decide) (off := 93) (by rw [q1_2]; rfl) (by decide) ?_
    refine g_aload_n h rfl 0 rfl dX11_count_94 ?_
    refine g_get h is_0 fl_X11_33 fr_0_4 dX11_count_95 ?_
    refine g_iload_n h rfl 1 rfl dX11_count_98 ?_
    refine g_iconst (v := 2) h (by decide) dX11_count_99 ?_
    refine g_isub h dX11_count_100 ?_
    obtain ⟨hi101, hw⟩ := hw
    refine g_aald (t := 1) h ar_41 (by decide) hi101 dX11_count_101 ?_
    refine g_get h (el_5_4 ar_41 hi101) fl_X11_138 rfl dX11_count_102 ?_
    exact g_iret h hr dX11_count_105 hw
  replace hw := hw.2
  by_cases q1_3 : a1 = 3
  · replace hw := hw.1 q1_3
    refine g_tabIn (tgt := 94) h dX11_count_1 (by rw [q1_3]; decide) (by rw [q1_3]; decide) (off := 93) (by rw [q1_3]; rfl) (by decide) ?_
    refine g_aload_n h rfl 0 rfl dX11_count_94 ?_
    refine g_get h is_0 fl_X11_33 fr_0_4 dX11_count_95 ?_
    refine g_iload_n h rfl 1 rfl dX11_count_98 ?_
    refine g_iconst (v := 2) h (by decide) dX11_count_99 ?_
    refine g_isub h dX11_count_100 ?_
    obtain ⟨hi101, hw⟩ := hw
    refine g_aald (t := 1) h ar_41 (by decide) hi101 dX11_count_101 ?_
    refine g_get h (el_5_4 ar_41 hi101) fl_X11_138 rfl dX11_count_102 ?_
    exact g_iret h hr dX11_count_105 hw
  replace hw := hw.2
  by_cases q1_4 : a1 = 4
  · replace hw := hw.1 q1_4
    refine g_tabIn (tgt := 94) h dX11_count_1 (by rw [q1_4]; decide) (by rw [q1_4]; decide) (off := 93) (by rw [q1_4]; rfl) (by decide) ?_
    refine g_aload_n h rfl 0 rfl dX11_count_94 ?_
    refine g_get h is_0 fl_X11_33 fr_0_4 dX11_count_95 ?_
    refine g_iload_n h rfl 1 rfl dX11_count_98 ?_
    refine g_iconst (v := 2) h (by decide) dX11_count_99 ?_
    refine g_isub h dX11_count_100 ?_
    obtain ⟨hi101, hw⟩ := hw
    refine g_aald (t := 1) h ar_41 (by decide) hi101 dX11_count_101 ?_
    refine g_get h (el_5_4 ar_41 hi101) fl_X11_138 rfl dX11_count_102 ?_
    exact g_iret h hr dX11_count_105 hw
  replace hw := hw.2
  by_cases q1_5 : a1 = 5
  · replace hw := hw.1 q1_5
    refine g_tabIn (tgt := 94) h dX11_count_1 (by rw [q1_5]; decide) (by rw [q1_5]; decide) (off := 93) (by rw [q1_5]; rfl) (by decide) ?_
    refine g_aload_n h rfl 0 rfl dX11_count_94 ?_
    refine g_get h is_0 fl_X11_33 fr_0_4 dX11_count_95 ?_
    refine g_iload_n h rfl 1 rfl dX11_count_98 ?_
    refine g_iconst (v := 2) h (by decide) dX11_count_99 ?_
    refine g_isub h dX11_count_100 ?_
    obtain ⟨hi101, hw⟩ := hw
    refine g_aald (t := 1) h ar_41 (by decide) hi101 dX11_count_101 ?_
    refine g_get h (el_5_4 ar_41 hi101) fl_X11_138 rfl dX11_count_102 ?_
    exact g_iret h hr dX11_count_105 hw
  replace hw := hw.2
  by_cases q1_6 : a1 = 6
  · replace hw := hw.1 q1_6
    refine g_tabIn (tgt := 106) h dX11_count_1 (by rw [q1_6]; decide) (by rw [q1_6]; decide) (off := 105) (by rw [q1_6]; rfl) (by decide) ?_
    refine g_aload_n h rfl 0 rfl dX11_count_106 ?_
    refine g_get h is_0 fl_X11_19 fr_0_1 dX11_count_107 ?_
    refine g_get h is_3 fl_X11_160 rfl dX11_count_110 ?_
    exact g_iret h hr dX11_count_113 hw
  replace hw := hw.2
  by_cases q1_7 : a1 = 7
  · replace hw := hw.1 q1_7
    refine g_tabIn (tgt := 114) h dX11_count_1 (by rw [q1_7]; decide) (by rw [q1_7]; decide) (off := 113) (by rw [q1_7]; rfl) (by decide) ?_
    refine g_aload_n h rfl 0 rfl dX11_count_114 ?_
    refine g_get h is_0 fl_X11_19 fr_0_1 dX11_count_115 ?_
    refine g_get h is_3 fl_X11_163 rfl dX11_count_118 ?_
    exact g_iret h hr dX11_count_121 hw
  replace hw := hw.2
  by_cases q1_8 : a1 = 8
  · replace hw := hw.1 q1_8
    refine g_tabIn (tgt := 122) h dX11_count_1 (by rw [q1_8]; decide) (by rw [q1_8]; decide) (off := 121) (by rw [q1_8]; rfl) (by decide) ?_
    refine g_aload_n h rfl 0 rfl dX11_count_122 ?_
    refine g_get h is_0 fl_X11_19 fr_0_1 dX11_count_123 ?_
    refine g_get h is_3 fl_X11_166 rfl dX11_count_126 ?_
    refine g_if_eq (tgt := 136) h (by decide) dX11_count_129 (fun q129 => ?_) (fun q129 => ?_)
    · replace hw := hw.1 q129
      refine g_iconst (v := 0) h (by decide) dX11_count_136 ?_
      exact g_iret h hr dX11_count_137 hw
    · replace hw := hw.2 q129
      refine g_iconst (v := 1) h (by decide) dX11_count_132 ?_
      refine g_goto (tgt := 137) h (by decide) dX11_count_133 ?_
      exact g_iret h hr dX11_count_137 hw
  replace hw := hw.2
  by_cases q1_9 : a1 = 9
  · replace hw := hw.1 q1_9
    refine g_tabIn (tgt := 138) h dX11_count_1 (by rw [q1_9]; decide) (by rw [q1_9]; decide) (off := 137) (by rw [q1_9]; rfl) (by decide) ?_
    refine g_aload_n h rfl 0 rfl dX11_count_138 ?_
    refine g_get h is_0 fl_X11_19 fr_0_1 dX11_count_139 ?_
    refine g_get h is_3 fl_X11_124 fr_3_1 dX11_count_142 ?_
    refine g_get h is_8 fl_X11_128 rfl dX11_count_145 ?_
    exact g_iret h hr dX11_count_148 hw
  replace hw := hw.2
  by_cases q1_10 : a1 = 10
  · replace hw := hw.1 q1_10
    refine g_tabIn (tgt := 149) h dX11_count_1 (by rw [q1_10]; decide) (by rw [q1_10]; decide) (off := 148) (by rw [q1_10]; rfl) (by decide) ?_
    refine g_aload_n h rfl 0 rfl dX11_count_149 ?_
    refine g_get h is_0 fl_X11_81 fr_0_11 dX11_count_150 ?_
    refine g_get h is_227 fl_X11_385 rfl dX11_count_153 ?_
    exact g_iret h hr dX11_count_156 hw
  replace hw := hw.2
  by_cases q1_11 : a1 = 11
  · replace hw := hw.1 q1_11
    refine g_tabIn (tgt := 157) h dX11_count_1 (by rw [q1_11]; decide) (by rw [q1_11]; decide) (off := 156) (by rw [q1_11]; rfl) (by decide) ?_
    refine g_aload_n h rfl 0 rfl dX11_count_157 ?_
    refine g_get h is_0 fl_X11_41 fr_0_5 dX11_count_158 ?_
    refine g_get h is_134 fl_X11_196 rfl dX11_count_161 ?_
    exact g_iret h hr dX11_count_164 hw
  replace hw := hw.2
  by_cases q1_12 : a1 = 12
  · replace hw := hw.1 q1_12
    refine g_tabIn (tgt := 165) h dX11_count_1 (by rw [q1_12]; decide) (by rw [q1_12]; decide) (off := 164) (by rw [q1_12]; rfl) (by decide) ?_
    refine g_aload_n h rfl 0 rfl dX11_count_165 ?_
    refine g_get h is_0 fl_X11_12 fr_0_0 dX11_count_166 ?_
    refine g_get h is_1 fl_X11_106 rfl dX11_count_169 ?_
    exact g_iret h hr dX11_count_172 hw
  replace hw := hw.2
  by_cases q1_13 : a1 = 13
  · replace hw := hw.1 q1_13
    refine g_tabIn (tgt := 173) h dX11_count_1 (by rw [q1_13]; decide) (by rw [q1_13]; decide) (off := 172) (by rw [q1_13]; rfl) (by decide) ?_
    refine g_aload_n h rfl 0 rfl dX11_count_173 ?_
    refine g_get h is_0 fl_X11_103 rfl dX11_count_174 ?_
    exact g_iret h hr dX11_count_177 hw
  replace hw := hw.2
  replace hw := hw ⟨q1_0, q1_1, q1_2, q1_3, q1_4, q1_5, q1_6, q1_7, q1_8, q1_9, q1_10, q1_11, q1_12, q1_13⟩
  have hout : (a1).toInt < 0 ∨ 13 < (a1).toInt := by
    refine Classical.byContradiction fun hc => ?_
    rcases (show (a1).toInt = 0 ∨ (a1).toInt = 1 ∨ (a1).toInt = 2 ∨ (a1).toInt = 3 ∨ (a1).toInt = 4 ∨ (a1).toInt = 5 ∨ (a1).toInt = 6 ∨ (a1).toInt = 7 ∨ (a1).toInt = 8 ∨ (a1).toInt = 9 ∨ (a1).toInt = 10 ∨ (a1).toInt = 11 ∨ (a1).toInt = 12 ∨ (a1).toInt = 13 by omega) with z | z | z | z | z | z | z | z | z | z | z | z | z | z
    · exact q1_0 (Int32.toInt_inj.mp z)
    · exact q1_1 (Int32.toInt_inj.mp z)
    · exact q1_2 (Int32.toInt_inj.mp z)
    · exact q1_3 (Int32.toInt_inj.mp z)
    · exact q1_4 (Int32.toInt_inj.mp z)
    · exact q1_5 (Int32.toInt_inj.mp z)
    · exact q1_6 (Int32.toInt_inj.mp z)
    · exact q1_7 (Int32.toInt_inj.mp z)
    · exact q1_8 (Int32.toInt_inj.mp z)
    · exact q1_9 (Int32.toInt_inj.mp z)
    · exact q1_10 (Int32.toInt_inj.mp z)
    · exact q1_11 (Int32.toInt_inj.mp z)
    · exact q1_12 (Int32.toInt_inj.mp z)
    · exact q1_13 (Int32.toInt_inj.mp z)
  refine g_tabOut (tgt := 178) h dX11_count_1 hout (by decide) ?_
  refine g_iconst (v := (-1)) h (by decide) dX11_count_178 ?_
  exact g_iret h hr dX11_count_179 hw
theorem c_X11_count (X : sX) {a1 : Int32} {I : sI} {J : sJ} {post : Int32 → sI → sJ → Prop} (hw : w_X11_count a1 I J post) : sCall X yX11_count cX11_count 2 (some .int) 0 0 [.ref 0, .int a1] I J (sPi post) := sCall_of (by decide +kernel) (Nat.le_of_ble_eq_true rfl) (fun X h hr => t_X11_count h hr hw)
theorem dX12_thrown_0 : decode cX12_thrown 0 = .ok (.aload_n 0, 1) := by decide +kernel
theorem dX12_thrown_1 : decode cX12_thrown 1 = .ok (.getfield 1, 3) := by decide +kernel
theorem dX12_thrown_4 : decode cX12_thrown 4 = .ok (.ireturn, 1) := by decide +kernel
def w_X12_thrown (I : sI) (J : sJ) (post : Int32 → sI → sJ → Prop) : Prop :=
  post (I 248 0) I J
set_option maxHeartbeats 4000000 in
set_option maxRecDepth 100000 in
theorem t_X12_thrown {X : sX} {I : sI} {J : sJ} {post : Int32 → sI → sJ → Prop} (h : sOK X cX12_thrown RX12 1 0 0) (hr : sRt X (some .int) (sPi post)) (hw : w_X12_thrown I J post) : sG X 1 0 [(0, .ref 248)] [] I J := by
  unfold w_X12_thrown at hw
  refine g_aload_n h rfl 0 rfl dX12_thrown_0 ?_
  refine g_get h is_248 fl_X12_1 rfl dX12_thrown_1 ?_
  exact g_iret h hr dX12_thrown_4 hw
theorem c_X12_thrown (X : sX) {I : sI} {J : sJ} {post : Int32 → sI → sJ → Prop} (hw : w_X12_thrown I J post) : sCall X yX12_thrown cX12_thrown 1 (some .int) 0 0 [.ref 248] I J (sPi post) := sCall_of (by decide +kernel) (Nat.le_of_ble_eq_true rfl) (fun X h hr => t_X12_thrown h hr hw)
theorem dX12_in_0 : decode cX12_in 0 = .ok (.lload_n 0, 1) := by decide +kernel
theorem dX12_in_1 : decode cX12_in 1 = .ok (.lload_n 2, 1) := by decide +kernel
theorem dX12_in_2 : decode cX12_in 2 = .ok (.lcmp, 1) := by decide +kernel
theorem dX12_in_3 : decode cX12_in 3 = .ok (.ifCond .lt 14, 3) := by decide +kernel
theorem dX12_in_6 : decode cX12_in 6 = .ok (.lload_n 0, 1) := by decide +kernel
theorem dX12_in_7 : decode cX12_in 7 = .ok (.lload 4, 2) := by decide +kernel
theorem dX12_in_9 : decode cX12_in 9 = .ok (.lcmp, 1) := by decide +kernel
theorem dX12_in_10 : decode cX12_in 10 = .ok (.ifCond .gt 7, 3) := by decide +kernel
theorem dX12_in_13 : decode cX12_in 13 = .ok (.iconst 1, 1) := by decide +kernel
theorem dX12_in_14 : decode cX12_in 14 = .ok (.goto 4, 3) := by decide +kernel
theorem dX12_in_17 : decode cX12_in 17 = .ok (.iconst 0, 1) := by decide +kernel
theorem dX12_in_18 : decode cX12_in 18 = .ok (.ireturn, 1) := by decide +kernel
def w_X12_in (a0 : Int64) (a2 : Int64) (a4 : Int64) (I : sI) (J : sJ) (post : Int32 → sI → sJ → Prop) : Prop :=
  (((lg_cmp a0 a2) < 0 → post 0 I J) ∧ (¬ (lg_cmp a0 a2) < 0 → ((0 < (lg_cmp a0 a4) → post 0 I J) ∧ (¬ 0 < (lg_cmp a0 a4) → post 1 I J))))
set_option maxHeartbeats 4000000 in
set_option maxRecDepth 100000 in
theorem t_X12_in {X : sX} {a0 : Int64} {a2 : Int64} {a4 : Int64} {I : sI} {J : sJ} {post : Int32 → sI → sJ → Prop} (h : sOK X cX12_in RX12 6 0 0) (hr : sRt X (some .boolean) (sPi post)) (hw : w_X12_in a0 a2 a4 I J post) : sG X 6 0 [(0, .long a0), (2, .long a2), (4, .long a4)] [] I J := by
  unfold w_X12_in at hw
  refine g_lload_n h rfl 0 rfl dX12_in_0 ?_
  refine g_lload_n h rfl 1 rfl dX12_in_1 ?_
  refine g_lcmp h dX12_in_2 ?_
  refine g_if_lt (tgt := 17) h (by decide) dX12_in_3 (fun q3 => ?_) (fun q3 => ?_)
  · replace hw := hw.1 q3
    refine g_iconst (v := 0) h (by decide) dX12_in_17 ?_
    exact g_zret h hr (Or.inl rfl) dX12_in_18 hw
  · replace hw := hw.2 q3
    refine g_lload_n h rfl 0 rfl dX12_in_6 ?_
    refine g_lload h 2 rfl dX12_in_7 ?_
    refine g_lcmp h dX12_in_9 ?_
    refine g_if_gt (tgt := 17) h (by decide) dX12_in_10 (fun q10 => ?_) (fun q10 => ?_)
    · replace hw := hw.1 q10
      refine g_iconst (v := 0) h (by decide) dX12_in_17 ?_
      exact g_zret h hr (Or.inl rfl) dX12_in_18 hw
    · replace hw := hw.2 q10
      refine g_iconst (v := 1) h (by decide) dX12_in_13 ?_
      refine g_goto (tgt := 18) h (by decide) dX12_in_14 ?_
      exact g_zret h hr (Or.inr rfl) dX12_in_18 hw
theorem c_X12_in (X : sX) {a0 : Int64} {a2 : Int64} {a4 : Int64} {I : sI} {J : sJ} {post : Int32 → sI → sJ → Prop} (hw : w_X12_in a0 a2 a4 I J post) : sCall X yX12_in cX12_in 6 (some .boolean) 0 0 [.long a0, .long a2, .long a4] I J (sPi post) := sCall_of (by decide +kernel) (Nat.le_of_ble_eq_true rfl) (fun X h hr => t_X12_in h hr hw)
theorem dX12_has_0 : decode cX12_has 0 = .ok (.iload_n 0, 1) := by decide +kernel
theorem dX12_has_1 : decode cX12_has 1 = .ok (.iload_n 1, 1) := by decide +kernel
theorem dX12_has_2 : decode cX12_has 2 = .ok (.ishr, 1) := by decide +kernel
theorem dX12_has_3 : decode cX12_has 3 = .ok (.iconst 1, 1) := by decide +kernel
theorem dX12_has_4 : decode cX12_has 4 = .ok (.iand, 1) := by decide +kernel
theorem dX12_has_5 : decode cX12_has 5 = .ok (.iconst 1, 1) := by decide +kernel
theorem dX12_has_6 : decode cX12_has 6 = .ok (.if_icmp .ne 7, 3) := by decide +kernel
theorem dX12_has_9 : decode cX12_has 9 = .ok (.iconst 1, 1) := by decide +kernel
theorem dX12_has_10 : decode cX12_has 10 = .ok (.goto 4, 3) := by decide +kernel
theorem dX12_has_13 : decode cX12_has 13 = .ok (.iconst 0, 1) := by decide +kernel
theorem dX12_has_14 : decode cX12_has 14 = .ok (.ireturn, 1) := by decide +kernel
def w_X12_has (a0 : Int32) (a1 : Int32) (I : sI) (J : sJ) (post : Int32 → sI → sJ → Prop) : Prop :=
  ((¬ ((a0 >>> (a1 &&& 31)) &&& 1) = 1 → post 0 I J) ∧ (((a0 >>> (a1 &&& 31)) &&& 1) = 1 → post 1 I J))
set_option maxHeartbeats 4000000 in
set_option maxRecDepth 100000 in
theorem t_X12_has {X : sX} {a0 : Int32} {a1 : Int32} {I : sI} {J : sJ} {post : Int32 → sI → sJ → Prop} (h : sOK X cX12_has RX12 2 0 0) (hr : sRt X (some .boolean) (sPi post)) (hw : w_X12_has a0 a1 I J post) : sG X 2 0 [(0, .int a0), (1, .int a1)] [] I J := by
  unfold w_X12_has at hw
  refine g_iload_n h rfl 0 rfl dX12_has_0 ?_
  refine g_iload_n h rfl 1 rfl dX12_has_1 ?_
  refine g_ishr h dX12_has_2 ?_
  refine g_iconst (v := 1) h (by decide) dX12_has_3 ?_
  refine g_iand h dX12_has_4 ?_
  refine g_iconst (v := 1) h (by decide) dX12_has_5 ?_
  refine g_icmp_ne (tgt := 13) h (by decide) dX12_has_6 (fun q6 => ?_) (fun q6 => ?_)
  · replace hw := hw.1 q6
    refine g_iconst (v := 0) h (by decide) dX12_has_13 ?_
    exact g_zret h hr (Or.inl rfl) dX12_has_14 hw
  · replace hw := hw.2 q6
    refine g_iconst (v := 1) h (by decide) dX12_has_9 ?_
    refine g_goto (tgt := 14) h (by decide) dX12_has_10 ?_
    exact g_zret h hr (Or.inr rfl) dX12_has_14 hw
theorem c_X12_has (X : sX) {a0 : Int32} {a1 : Int32} {I : sI} {J : sJ} {post : Int32 → sI → sJ → Prop} (hw : w_X12_has a0 a1 I J post) : sCall X yX12_has cX12_has 2 (some .boolean) 0 0 [.int a0, .int a1] I J (sPi post) := sCall_of (by decide +kernel) (Nat.le_of_ble_eq_true rfl) (fun X h hr => t_X12_has h hr hw)
theorem dX12_flag_0 : decode cX12_flag 0 = .ok (.iload_n 0, 1) := by decide +kernel
theorem dX12_flag_1 : decode cX12_flag 1 = .ok (.ifCond .eq 7, 3) := by decide +kernel
theorem dX12_flag_4 : decode cX12_flag 4 = .ok (.iconst 1, 1) := by decide +kernel
theorem dX12_flag_5 : decode cX12_flag 5 = .ok (.goto 4, 3) := by decide +kernel
theorem dX12_flag_8 : decode cX12_flag 8 = .ok (.iconst 0, 1) := by decide +kernel
theorem dX12_flag_9 : decode cX12_flag 9 = .ok (.ireturn, 1) := by decide +kernel
def w_X12_flag (a0 : Int32) (I : sI) (J : sJ) (post : Int32 → sI → sJ → Prop) : Prop :=
  ((a0 = 0 → post 0 I J) ∧ (¬ a0 = 0 → post 1 I J))
set_option maxHeartbeats 4000000 in
set_option maxRecDepth 100000 in
theorem t_X12_flag {X : sX} {a0 : Int32} {I : sI} {J : sJ} {post : Int32 → sI → sJ → Prop} (h : sOK X cX12_flag RX12 1 0 0) (hr : sRt X (some .int) (sPi post)) (hw : w_X12_flag a0 I J post) : sG X 1 0 [(0, .int a0)] [] I J := by
  unfold w_X12_flag at hw
  refine g_iload_n h rfl 0 rfl dX12_flag_0 ?_
  refine g_if_eq (tgt := 8) h (by decide) dX12_flag_1 (fun q1 => ?_) (fun q1 => ?_)
  · replace hw := hw.1 q1
    refine g_iconst (v := 0) h (by decide) dX12_flag_8 ?_
    exact g_iret h hr dX12_flag_9 hw
  · replace hw := hw.2 q1
    refine g_iconst (v := 1) h (by decide) dX12_flag_4 ?_
    refine g_goto (tgt := 9) h (by decide) dX12_flag_5 ?_
    exact g_iret h hr dX12_flag_9 hw
theorem c_X12_flag (X : sX) {a0 : Int32} {I : sI} {J : sJ} {post : Int32 → sI → sJ → Prop} (hw : w_X12_flag a0 I J post) : sCall X yX12_flag cX12_flag 1 (some .int) 0 0 [.int a0] I J (sPi post) := sCall_of (by decide +kernel) (Nat.le_of_ble_eq_true rfl) (fun X h hr => t_X12_flag h hr hw)
theorem dX12_refuse_0 : decode cX12_refuse 0 = .ok (.aload_n 0, 1) := by decide +kernel
theorem dX12_refuse_1 : decode cX12_refuse 1 = .ok (.iconst 1, 1) := by decide +kernel
theorem dX12_refuse_2 : decode cX12_refuse 2 = .ok (.putfield 1, 3) := by decide +kernel
theorem dX12_refuse_5 : decode cX12_refuse 5 = .ok (.iconst 0, 1) := by decide +kernel
theorem dX12_refuse_6 : decode cX12_refuse 6 = .ok (.ireturn, 1) := by decide +kernel
def w_X12_refuse (I : sI) (J : sJ) (post : Int32 → sI → sJ → Prop) : Prop :=
  (∀ I_2 : sI, I_2 = sUI I 248 0 1 → post 0 I_2 J)
set_option maxHeartbeats 4000000 in
set_option maxRecDepth 100000 in
theorem t_X12_refuse {X : sX} {I : sI} {J : sJ} {post : Int32 → sI → sJ → Prop} (h : sOK X cX12_refuse RX12 1 0 0) (hr : sRt X (some .int) (sPi post)) (hw : w_X12_refuse I J post) : sG X 1 0 [(0, .ref 248)] [] I J := by
  unfold w_X12_refuse at hw
  refine g_aload_n h rfl 0 rfl dX12_refuse_0 ?_
  refine g_iconst (v := 1) h (by decide) dX12_refuse_1 ?_
  refine g_putI h is_248 fl_X12_1 rfl rfl dX12_refuse_2 ?_
  refine g_nI (fun I_2 eI_2 => ?_)
  replace hw := hw I_2 eI_2
  refine g_iconst (v := 0) h (by decide) dX12_refuse_5 ?_
  exact g_iret h hr dX12_refuse_6 hw
theorem c_X12_refuse (X : sX) {I : sI} {J : sJ} {post : Int32 → sI → sJ → Prop} (hw : w_X12_refuse I J post) : sCall X yX12_refuse cX12_refuse 1 (some .int) 0 0 [.ref 248] I J (sPi post) := sCall_of (by decide +kernel) (Nat.le_of_ble_eq_true rfl) (fun X h hr => t_X12_refuse h hr hw)
theorem dX12_enters_0 : decode cX12_enters 0 = .ok (.aload_n 0, 1) := by decide +kernel
theorem dX12_enters_1 : decode cX12_enters 1 = .ok (.getfield 7, 3) := by decide +kernel
theorem dX12_enters_4 : decode cX12_enters 4 = .ok (.aload_n 0, 1) := by decide +kernel
theorem dX12_enters_5 : decode cX12_enters 5 = .ok (.getfield 11, 3) := by decide +kernel
theorem dX12_enters_8 : decode cX12_enters 8 = .ok (.lload_n 1, 1) := by decide +kernel
theorem dX12_enters_9 : decode cX12_enters 9 = .ok (.lastore, 1) := by decide +kernel
theorem dX12_enters_10 : decode cX12_enters 10 = .ok (.aload_n 0, 1) := by decide +kernel
theorem dX12_enters_11 : decode cX12_enters 11 = .ok (.dup, 1) := by decide +kernel
theorem dX12_enters_12 : decode cX12_enters 12 = .ok (.getfield 11, 3) := by decide +kernel
theorem dX12_enters_15 : decode cX12_enters 15 = .ok (.iconst 1, 1) := by decide +kernel
theorem dX12_enters_16 : decode cX12_enters 16 = .ok (.iadd, 1) := by decide +kernel
theorem dX12_enters_17 : decode cX12_enters 17 = .ok (.putfield 11, 3) := by decide +kernel
theorem dX12_enters_20 : decode cX12_enters 20 = .ok (.return_, 1) := by decide +kernel
def w_X12_enters (a1 : Int64) (I : sI) (J : sJ) (post : sI → sJ → Prop) : Prop :=
  (vp_in (I 248 1) 64 ∧ (∀ J_9 : sJ, J_9 = sUJ J 249 (Int32.toNatClampNeg (I 248 1)) a1 → (∀ I_17 : sI, I_17 = sUI I 248 1 ((I 248 1) + 1) → post I_17 J_9)))
set_option maxHeartbeats 4000000 in
set_option maxRecDepth 100000 in
theorem t_X12_enters {X : sX} {a1 : Int64} {I : sI} {J : sJ} {post : sI → sJ → Prop} (h : sOK X cX12_enters RX12 3 0 0) (hr : sRt X none (sPv post)) (hw : w_X12_enters a1 I J post) : sG X 3 0 [(0, .ref 248), (1, .long a1)] [] I J := by
  unfold w_X12_enters at hw
  refine g_aload_n h rfl 0 rfl dX12_enters_0 ?_
  refine g_get h is_248 fl_X12_7 fr_248_2 dX12_enters_1 ?_
  refine g_aload_n h rfl 0 rfl dX12_enters_4 ?_
  refine g_get h is_248 fl_X12_11 rfl dX12_enters_5 ?_
  refine g_lload_n h rfl 1 rfl dX12_enters_8 ?_
  obtain ⟨hi9, hw⟩ := hw
  refine g_last h ar_249 hi9 dX12_enters_9 ?_
  refine g_nJ (fun J_9 eJ_9 => ?_)
  replace hw := hw J_9 eJ_9
  refine g_aload_n h rfl 0 rfl dX12_enters_10 ?_
  refine g_dup h rfl dX12_enters_11 ?_
  refine g_get h is_248 fl_X12_11 rfl dX12_enters_12 ?_
  refine g_iconst (v := 1) h (by decide) dX12_enters_15 ?_
  refine g_iadd h dX12_enters_16 ?_
  refine g_putI h is_248 fl_X12_11 rfl rfl dX12_enters_17 ?_
  refine g_nI (fun I_17 eI_17 => ?_)
  replace hw := hw I_17 eI_17
  exact g_vret h hr dX12_enters_20 hw
theorem c_X12_enters (X : sX) {a1 : Int64} {I : sI} {J : sJ} {post : sI → sJ → Prop} (hw : w_X12_enters a1 I J post) : sCall X yX12_enters cX12_enters 3 none 0 0 [.ref 248, .long a1] I J (sPv post) := sCall_of (by decide +kernel) (Nat.le_of_ble_eq_true rfl) (fun X h hr => t_X12_enters h hr hw)
theorem dX12_common_0 : decode cX12_common 0 = .ok (.lload_n 0, 1) := by decide +kernel
theorem dX12_common_1 : decode cX12_common 1 = .ok (.lstore 4, 2) := by decide +kernel
theorem dX12_common_3 : decode cX12_common 3 = .ok (.lload_n 2, 1) := by decide +kernel
theorem dX12_common_4 : decode cX12_common 4 = .ok (.lstore 6, 2) := by decide +kernel
theorem dX12_common_6 : decode cX12_common 6 = .ok (.lload 6, 2) := by decide +kernel
theorem dX12_common_8 : decode cX12_common 8 = .ok (.lconst 0, 1) := by decide +kernel
theorem dX12_common_9 : decode cX12_common 9 = .ok (.lcmp, 1) := by decide +kernel
theorem dX12_common_10 : decode cX12_common 10 = .ok (.ifCond .eq 21, 3) := by decide +kernel
theorem dX12_common_13 : decode cX12_common 13 = .ok (.lload 4, 2) := by decide +kernel
theorem dX12_common_15 : decode cX12_common 15 = .ok (.lload 6, 2) := by decide +kernel
theorem dX12_common_17 : decode cX12_common 17 = .ok (.lrem, 1) := by decide +kernel
theorem dX12_common_18 : decode cX12_common 18 = .ok (.lstore 8, 2) := by decide +kernel
theorem dX12_common_20 : decode cX12_common 20 = .ok (.lload 6, 2) := by decide +kernel
theorem dX12_common_22 : decode cX12_common 22 = .ok (.lstore 4, 2) := by decide +kernel
theorem dX12_common_24 : decode cX12_common 24 = .ok (.lload 8, 2) := by decide +kernel
theorem dX12_common_26 : decode cX12_common 26 = .ok (.lstore 6, 2) := by decide +kernel
theorem dX12_common_28 : decode cX12_common 28 = .ok (.goto (-22), 3) := by decide +kernel
theorem dX12_common_31 : decode cX12_common 31 = .ok (.lload 4, 2) := by decide +kernel
theorem dX12_common_33 : decode cX12_common 33 = .ok (.lreturn, 1) := by decide +kernel
def w_X12_common_6_s (post : Int64 → sI → sJ → Prop) (k6 : Int64 → Int64 → sI → sJ → Prop) (x4 : Int64) (x6 : Int64) (I : sI) (J : sJ) : Prop :=
  (((lg_cmp x6 0) = 0 → post x4 I J) ∧ (¬ (lg_cmp x6 0) = 0 → (¬ x6 = 0 ∧ (∀ v8_18 : Int64, v8_18 = x4 - x4 / x6 * x6 → k6 x6 v8_18 I J))))
def w_X12_common_6_n (post : Int64 → sI → sJ → Prop) : Nat → Int64 → Int64 → sI → sJ → Prop
  | 0 => fun _ _ _ _ => False
  | n + 1 => fun x4 x6 I J => w_X12_common_6_s post (w_X12_common_6_n post n) x4 x6 I J
def w_X12_common_6 (post : Int64 → sI → sJ → Prop) (x4 : Int64) (x6 : Int64) (I : sI) (J : sJ) : Prop := ∃ n, w_X12_common_6_n post n x4 x6 I J
set_option maxHeartbeats 4000000 in
set_option maxRecDepth 100000 in
theorem t_X12_common_6_s {X : sX} {post : Int64 → sI → sJ → Prop} (h : sOK X cX12_common RX12 10 0 0) (hr : sRt X (some .long) (sPl post)) {k6 : Int64 → Int64 → sI → sJ → Prop} (hk6 : ∀ (x4 : Int64) (x6 : Int64) (I : sI) (J : sJ), k6 x4 x6 I J → sG X 10 6 [(4, .long x4), (6, .long x6)] [] I J) {x4 : Int64} {x6 : Int64} {I : sI} {J : sJ} (hw : w_X12_common_6_s post k6 x4 x6 I J) : sG X 10 6 [(4, .long x4), (6, .long x6)] [] I J := by
  unfold w_X12_common_6_s at hw
  refine g_lload h 1 rfl dX12_common_6 ?_
  refine g_lconst (v := 0) h (by decide) dX12_common_8 ?_
  refine g_lcmp h dX12_common_9 ?_
  refine g_if_eq (tgt := 31) h (by decide) dX12_common_10 (fun q10 => ?_) (fun q10 => ?_)
  · replace hw := hw.1 q10
    refine g_lload h 0 rfl dX12_common_31 ?_
    exact g_lret h hr dX12_common_33 hw
  · replace hw := hw.2 q10
    refine g_lload h 0 rfl dX12_common_13 ?_
    refine g_lload h 1 rfl dX12_common_15 ?_
    obtain ⟨hz17, hw⟩ := hw
    refine g_lrem h hz17 dX12_common_17 ?_
    refine g_nl (fun v8_18 ev8_18 => ?_)
    replace hw := hw v8_18 ev8_18
    refine g_lstore (lo2 := [(8, .long v8_18), (4, .long x4), (6, .long x6)]) h (by decide) rfl dX12_common_18 ?_
    refine g_lload h 2 rfl dX12_common_20 ?_
    refine g_lstore (lo2 := [(4, .long x6), (8, .long v8_18), (6, .long x6)]) h (by decide) rfl dX12_common_22 ?_
    refine g_lload h 1 rfl dX12_common_24 ?_
    refine g_lstore (lo2 := [(6, .long v8_18), (4, .long x6), (8, .long v8_18)]) h (by decide) rfl dX12_common_26 ?_
    refine g_goto (tgt := 6) h (by decide) dX12_common_28 ?_
    exact g_sub [1, 0] rfl (hk6 _ _ _ _ hw)
theorem t_X12_common_6 {X : sX} {post : Int64 → sI → sJ → Prop} (h : sOK X cX12_common RX12 10 0 0) (hr : sRt X (some .long) (sPl post)) {x4 : Int64} {x6 : Int64} {I : sI} {J : sJ} (hw : w_X12_common_6 post x4 x6 I J) : sG X 10 6 [(4, .long x4), (6, .long x6)] [] I J := by
  obtain ⟨n, hw⟩ := hw
  induction n generalizing x4 x6 I J with
  | zero => exact hw.elim
  | succ n ih => exact t_X12_common_6_s h hr (fun _ _ _ _ q => ih q) hw
def w_X12_common (a0 : Int64) (a2 : Int64) (I : sI) (J : sJ) (post : Int64 → sI → sJ → Prop) : Prop :=
  w_X12_common_6 post a0 a2 I J
set_option maxHeartbeats 4000000 in
set_option maxRecDepth 100000 in
theorem t_X12_common {X : sX} {a0 : Int64} {a2 : Int64} {I : sI} {J : sJ} {post : Int64 → sI → sJ → Prop} (h : sOK X cX12_common RX12 10 0 0) (hr : sRt X (some .long) (sPl post)) (hw : w_X12_common a0 a2 I J post) : sG X 10 0 [(0, .long a0), (2, .long a2)] [] I J := by
  unfold w_X12_common at hw
  refine g_lload_n h rfl 0 rfl dX12_common_0 ?_
  refine g_lstore (lo2 := [(4, .long a0), (0, .long a0), (2, .long a2)]) h (by decide) rfl dX12_common_1 ?_
  refine g_lload_n h rfl 2 rfl dX12_common_3 ?_
  refine g_lstore (lo2 := [(6, .long a2), (4, .long a0), (0, .long a0), (2, .long a2)]) h (by decide) rfl dX12_common_4 ?_
  exact g_sub [1, 0] rfl (t_X12_common_6 h hr hw)
theorem c_X12_common (X : sX) {a0 : Int64} {a2 : Int64} {I : sI} {J : sJ} {post : Int64 → sI → sJ → Prop} (hw : w_X12_common a0 a2 I J post) : sCall X yX12_common cX12_common 10 (some .long) 0 0 [.long a0, .long a2] I J (sPl post) := sCall_of (by decide +kernel) (Nat.le_of_ble_eq_true rfl) (fun X h hr => t_X12_common h hr hw)
