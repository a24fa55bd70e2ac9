theorem dX11_ends_0 : decode cX11_ends 0 = .ok (.aload_n 0, 1) := by decide +kernel
theorem dX11_ends_1 : decode cX11_ends 1 = .ok (.invokevirtual 288, 3) := by decide +kernel
theorem dX11_ends_4 : decode cX11_ends 4 = .ok (.ifCond .ne 12, 3) := by decide +kernel
theorem dX11_ends_7 : decode cX11_ends 7 = .ok (.iload_n 1, 1) := by decide +kernel
theorem dX11_ends_8 : decode cX11_ends 8 = .ok (.ifCond .lt 8, 3) := by decide +kernel
theorem dX11_ends_11 : decode cX11_ends 11 = .ok (.iload_n 1, 1) := by decide +kernel
theorem dX11_ends_12 : decode cX11_ends 12 = .ok (.iconst 1, 1) := by decide +kernel
theorem dX11_ends_13 : decode cX11_ends 13 = .ok (.if_icmp .le 5, 3) := by decide +kernel
theorem dX11_ends_16 : decode cX11_ends 16 = .ok (.iconst (-1), 1) := by decide +kernel
theorem dX11_ends_17 : decode cX11_ends 17 = .ok (.ireturn, 1) := by decide +kernel
theorem dX11_ends_18 : decode cX11_ends 18 = .ok (.aload_n 0, 1) := by decide +kernel
theorem dX11_ends_19 : decode cX11_ends 19 = .ok (.getfield 19, 3) := by decide +kernel
theorem dX11_ends_22 : decode cX11_ends 22 = .ok (.getfield 124, 3) := by decide +kernel
theorem dX11_ends_25 : decode cX11_ends 25 = .ok (.aload_n 0, 1) := by decide +kernel
theorem dX11_ends_26 : decode cX11_ends 26 = .ok (.getfield 19, 3) := by decide +kernel
theorem dX11_ends_29 : decode cX11_ends 29 = .ok (.getfield 124, 3) := by decide +kernel
theorem dX11_ends_32 : decode cX11_ends 32 = .ok (.invokevirtual 305, 3) := by decide +kernel
theorem dX11_ends_35 : decode cX11_ends 35 = .ok (.invokevirtual 308, 3) := by decide +kernel
theorem dX11_ends_38 : decode cX11_ends 38 = .ok (.ifCond .ne 6, 3) := by decide +kernel
theorem dX11_ends_41 : decode cX11_ends 41 = .ok (.bipush (-2), 2) := by decide +kernel
theorem dX11_ends_43 : decode cX11_ends 43 = .ok (.ireturn, 1) := by decide +kernel
theorem dX11_ends_44 : decode cX11_ends 44 = .ok (.iconst 1, 1) := by decide +kernel
theorem dX11_ends_45 : decode cX11_ends 45 = .ok (.aload_n 0, 1) := by decide +kernel
theorem dX11_ends_46 : decode cX11_ends 46 = .ok (.getfield 19, 3) := by decide +kernel
theorem dX11_ends_49 : decode cX11_ends 49 = .ok (.getfield 117, 3) := by decide +kernel
theorem dX11_ends_52 : decode cX11_ends 52 = .ok (.getfield 179, 3) := by decide +kernel
theorem dX11_ends_55 : decode cX11_ends 55 = .ok (.ishl, 1) := by decide +kernel
theorem dX11_ends_56 : decode cX11_ends 56 = .ok (.iconst 1, 1) := by decide +kernel
theorem dX11_ends_57 : decode cX11_ends 57 = .ok (.isub, 1) := by decide +kernel
theorem dX11_ends_58 : decode cX11_ends 58 = .ok (.istore_n 2, 1) := by decide +kernel
theorem dX11_ends_59 : decode cX11_ends 59 = .ok (.iconst 0, 1) := by decide +kernel
theorem dX11_ends_60 : decode cX11_ends 60 = .ok (.istore_n 3, 1) := by decide +kernel
theorem dX11_ends_61 : decode cX11_ends 61 = .ok (.iload_n 3, 1) := by decide +kernel
theorem dX11_ends_62 : decode cX11_ends 62 = .ok (.aload_n 0, 1) := by decide +kernel
theorem dX11_ends_63 : decode cX11_ends 63 = .ok (.getfield 19, 3) := by decide +kernel
theorem dX11_ends_66 : decode cX11_ends 66 = .ok (.getfield 124, 3) := by decide +kernel
theorem dX11_ends_69 : decode cX11_ends 69 = .ok (.getfield 128, 3) := by decide +kernel
theorem dX11_ends_72 : decode cX11_ends 72 = .ok (.if_icmp .ge 47, 3) := by decide +kernel
theorem dX11_ends_75 : decode cX11_ends 75 = .ok (.iload_n 2, 1) := by decide +kernel
theorem dX11_ends_76 : decode cX11_ends 76 = .ok (.iconst 1, 1) := by decide +kernel
theorem dX11_ends_77 : decode cX11_ends 77 = .ok (.iload_n 1, 1) := by decide +kernel
theorem dX11_ends_78 : decode cX11_ends 78 = .ok (.ifCond .ne 18, 3) := by decide +kernel
theorem dX11_ends_81 : decode cX11_ends 81 = .ok (.aload_n 0, 1) := by decide +kernel
theorem dX11_ends_82 : decode cX11_ends 82 = .ok (.getfield 19, 3) := by decide +kernel
theorem dX11_ends_85 : decode cX11_ends 85 = .ok (.getfield 124, 3) := by decide +kernel
theorem dX11_ends_88 : decode cX11_ends 88 = .ok (.getfield 311, 3) := by decide +kernel
theorem dX11_ends_91 : decode cX11_ends 91 = .ok (.iload_n 3, 1) := by decide +kernel
theorem dX11_ends_92 : decode cX11_ends 92 = .ok (.iaload, 1) := by decide +kernel
theorem dX11_ends_93 : decode cX11_ends 93 = .ok (.goto 15, 3) := by decide +kernel
theorem dX11_ends_96 : decode cX11_ends 96 = .ok (.aload_n 0, 1) := by decide +kernel
theorem dX11_ends_97 : decode cX11_ends 97 = .ok (.getfield 19, 3) := by decide +kernel
theorem dX11_ends_100 : decode cX11_ends 100 = .ok (.getfield 124, 3) := by decide +kernel
theorem dX11_ends_103 : decode cX11_ends 103 = .ok (.getfield 314, 3) := by decide +kernel
theorem dX11_ends_106 : decode cX11_ends 106 = .ok (.iload_n 3, 1) := by decide +kernel
theorem dX11_ends_107 : decode cX11_ends 107 = .ok (.iaload, 1) := by decide +kernel
theorem dX11_ends_108 : decode cX11_ends 108 = .ok (.ishl, 1) := by decide +kernel
theorem dX11_ends_109 : decode cX11_ends 109 = .ok (.iconst (-1), 1) := by decide +kernel
theorem dX11_ends_110 : decode cX11_ends 110 = .ok (.ixor, 1) := by decide +kernel
theorem dX11_ends_111 : decode cX11_ends 111 = .ok (.iand, 1) := by decide +kernel
theorem dX11_ends_112 : decode cX11_ends 112 = .ok (.istore_n 2, 1) := by decide +kernel
theorem dX11_ends_113 : decode cX11_ends 113 = .ok (.iinc 3 1, 3) := by decide +kernel
theorem dX11_ends_116 : decode cX11_ends 116 = .ok (.goto (-55), 3) := by decide +kernel
theorem dX11_ends_119 : decode cX11_ends 119 = .ok (.iload_n 2, 1) := by decide +kernel
theorem dX11_ends_120 : decode cX11_ends 120 = .ok (.ireturn, 1) := by decide +kernel
def w_X11_ends_108 (post : Int32 → sI → sJ → Prop) (k61 : Int32 → Int32 → Int32 → sI → sJ → Prop) (x1 : Int32) (x3 : Int32) (s0 : Int32) (s1 : Int32) (s2 : Int32) (I : sI) (J : sJ) : Prop :=
  (∀ v2_112 : Int32, v2_112 = s2 &&& ((s1 <<< (s0 &&& 31)) ^^^ (-1)) → (∀ v3_113 : Int32, v3_113 = x3 + 1 → k61 x1 v2_112 v3_113 I J))
set_option maxHeartbeats 4000000 in
set_option maxRecDepth 100000 in
theorem t_X11_ends_108 {X : sX} {post : Int32 → sI → sJ → Prop} (h : sOK X cX11_ends RX11 4 2 48) (hr : sRt X (some .int) (sPi post)) {k61 : Int32 → Int32 → Int32 → sI → sJ → Prop} (hk61 : ∀ (x1 : Int32) (x2 : Int32) (x3 : Int32) (I : sI) (J : sJ), k61 x1 x2 x3 I J → sG X 4 61 [(0, .ref 0), (1, .int x1), (2, .int x2), (3, .int x3)] [] I J) {x1 : Int32} {x3 : Int32} {s0 : Int32} {s1 : Int32} {s2 : Int32} {I : sI} {J : sJ} (hw : w_X11_ends_108 post k61 x1 x3 s0 s1 s2 I J) : sG X 4 108 [(0, .ref 0), (1, .int x1), (3, .int x3)] [.int s0, .int s1, .int s2] I J := by
  unfold w_X11_ends_108 at hw
  refine g_ishl h dX11_ends_108 ?_
  refine g_iconst (v := (-1)) h (by decide) dX11_ends_109 ?_
  refine g_ixor h dX11_ends_110 ?_
  refine g_iand h dX11_ends_111 ?_
  refine g_ni (fun v2_112 ev2_112 => ?_)
  replace hw := hw v2_112 ev2_112
  refine g_istore_n (lo2 := [(2, .int v2_112), (0, .ref 0), (1, .int x1), (3, .int x3)]) h rfl (by decide) rfl dX11_ends_112 ?_
  obtain ⟨v3_113, ev3_113⟩ : ∃ z : Int32, z = x3 + 1 := ⟨_, rfl⟩
  replace hw := hw v3_113 ev3_113
  refine g_iinc (v := v3_113) (lo2 := [(3, .int v3_113), (2, .int v2_112), (0, .ref 0), (1, .int x1)]) h 3 rfl (by rw [ev3_113]; rfl) (by decide) rfl dX11_ends_113 ?_
  refine g_goto (tgt := 61) h (by decide) dX11_ends_116 ?_
  exact g_sub [2, 3, 1, 0] rfl (hk61 _ _ _ _ _ hw)
def w_X11_ends_61_s (post : Int32 → sI → sJ → Prop) (k61 : Int32 → Int32 → Int32 → sI → sJ → Prop) (x1 : Int32) (x2 : Int32) (x3 : Int32) (I : sI) (J : sJ) : Prop :=
  (((I 8 2) ≤ x3 → post x2 I J) ∧ (¬ (I 8 2) ≤ x3 → ((¬ x1 = 0 → (vp_in x3 12 ∧ w_X11_ends_108 post k61 x1 x3 (I 10 (Int32.toNatClampNeg x3)) 1 x2 I J)) ∧ (x1 = 0 → (vp_in x3 12 ∧ w_X11_ends_108 post k61 x1 x3 (I 9 (Int32.toNatClampNeg x3)) 1 x2 I J)))))
def w_X11_ends_61_n (post : Int32 → sI → sJ → Prop) : Nat → Int32 → Int32 → Int32 → sI → sJ → Prop
  | 0 => fun _ _ _ _ _ => False
  | n + 1 => fun x1 x2 x3 I J => w_X11_ends_61_s post (w_X11_ends_61_n post n) x1 x2 x3 I J
def w_X11_ends_61 (post : Int32 → sI → sJ → Prop) (x1 : Int32) (x2 : Int32) (x3 : Int32) (I : sI) (J : sJ) : Prop := ∃ n, w_X11_ends_61_n post n x1 x2 x3 I J
set_option maxHeartbeats 4000000 in
set_option maxRecDepth 100000 in
theorem t_X11_ends_61_s {X : sX} {post : Int32 → sI → sJ → Prop} (h : sOK X cX11_ends RX11 4 2 48) (hr : sRt X (some .int) (sPi post)) {k61 : Int32 → Int32 → Int32 → sI → sJ → Prop} (hk61 : ∀ (x1 : Int32) (x2 : Int32) (x3 : Int32) (I : sI) (J : sJ), k61 x1 x2 x3 I J → sG X 4 61 [(0, .ref 0), (1, .int x1), (2, .int x2), (3, .int x3)] [] I J) {x1 : Int32} {x2 : Int32} {x3 : Int32} {I : sI} {J : sJ} (hw : w_X11_ends_61_s post k61 x1 x2 x3 I J) : sG X 4 61 [(0, .ref 0), (1, .int x1), (2, .int x2), (3, .int x3)] [] I J := by
  unfold w_X11_ends_61_s at hw
  refine g_iload_n h rfl 3 rfl dX11_ends_61 ?_
  refine g_aload_n h rfl 0 rfl dX11_ends_62 ?_
  refine g_get h is_0 fl_X11_19 fr_0_1 dX11_ends_63 ?_
  refine g_get h is_3 fl_X11_124 fr_3_1 dX11_ends_66 ?_
  refine g_get h is_8 fl_X11_128 rfl dX11_ends_69 ?_
  refine g_icmp_ge (tgt := 119) h (by decide) dX11_ends_72 (fun q72 => ?_) (fun q72 => ?_)
  · replace hw := hw.1 q72
    refine g_iload_n h rfl 2 rfl dX11_ends_119 ?_
    exact g_iret h hr dX11_ends_120 hw
  · replace hw := hw.2 q72
    refine g_iload_n h rfl 2 rfl dX11_ends_75 ?_
    refine g_iconst (v := 1) h (by decide) dX11_ends_76 ?_
    refine g_iload_n h rfl 1 rfl dX11_ends_77 ?_
    refine g_if_ne (tgt := 96) h (by decide) dX11_ends_78 (fun q78 => ?_) (fun q78 => ?_)
    · replace hw := hw.1 q78
      refine g_aload_n h rfl 0 rfl dX11_ends_96 ?_
      refine g_get h is_0 fl_X11_19 fr_0_1 dX11_ends_97 ?_
      refine g_get h is_3 fl_X11_124 fr_3_1 dX11_ends_100 ?_
      refine g_get h is_8 fl_X11_314 fr_8_1 dX11_ends_103 ?_
      refine g_iload_n h rfl 3 rfl dX11_ends_106 ?_
      obtain ⟨hi107, hw⟩ := hw
      refine g_iald h ar_10 hi107 dX11_ends_107 ?_
      exact g_sub [0, 1, 3] rfl (t_X11_ends_108 h hr hk61 hw)
    · replace hw := hw.2 q78
      refine g_aload_n h rfl 0 rfl dX11_ends_81 ?_
      refine g_get h is_0 fl_X11_19 fr_0_1 dX11_ends_82 ?_
      refine g_get h is_3 fl_X11_124 fr_3_1 dX11_ends_85 ?_
      refine g_get h is_8 fl_X11_311 fr_8_0 dX11_ends_88 ?_
      refine g_iload_n h rfl 3 rfl dX11_ends_91 ?_
      obtain ⟨hi92, hw⟩ := hw
      refine g_iald h ar_9 hi92 dX11_ends_92 ?_
      refine g_goto (tgt := 108) h (by decide) dX11_ends_93 ?_
      exact g_sub [0, 1, 3] rfl (t_X11_ends_108 h hr hk61 hw)
theorem t_X11_ends_61 {X : sX} {post : Int32 → sI → sJ → Prop} (h : sOK X cX11_ends RX11 4 2 48) (hr : sRt X (some .int) (sPi post)) {x1 : Int32} {x2 : Int32} {x3 : Int32} {I : sI} {J : sJ} (hw : w_X11_ends_61 post x1 x2 x3 I J) : sG X 4 61 [(0, .ref 0), (1, .int x1), (2, .int x2), (3, .int x3)] [] I J := by
  obtain ⟨n, hw⟩ := hw
  induction n generalizing x1 x2 x3 I J with
  | zero => exact hw.elim
  | succ n ih => exact t_X11_ends_61_s h hr (fun _ _ _ _ _ q => ih q) hw
def w_X11_ends (a1 : Int32) (I : sI) (J : sJ) (post : Int32 → sI → sJ → Prop) : Prop :=
  w_X11_cannotOrder I J (fun (r_1 : Int32) (I_1 : sI) (J_1 : sJ) => (((¬ r_1 = 0 → post (-1) I_1 J_1) ∧ (r_1 = 0 → ((a1 < 0 → post (-1) I_1 J_1) ∧ (¬ a1 < 0 → ((a1 ≤ 1 → w_X4_all 8 I_1 J_1 (fun (r_32 : Int32) (I_32 : sI) (J_32 : sJ) => (w_X4_ringFree 8 r_32 I_32 J_32 (fun (r_35 : Int32) (I_35 : sI) (J_35 : sJ) => (((¬ r_35 = 0 → (∀ v2_58 : Int32, v2_58 = (1 <<< ((I_35 4 4) &&& 31)) - 1 → w_X11_ends_61 post a1 v2_58 0 I_35 J_35)) ∧ (r_35 = 0 → post (-2) I_35 J_35))))))) ∧ (¬ a1 ≤ 1 → post (-1) I_1 J_1))))))))
set_option maxHeartbeats 4000000 in
set_option maxRecDepth 100000 in
theorem t_X11_ends {X : sX} {a1 : Int32} {I : sI} {J : sJ} {post : Int32 → sI → sJ → Prop} (h : sOK X cX11_ends RX11 4 2 48) (hr : sRt X (some .int) (sPi post)) (hw : w_X11_ends a1 I J post) : sG X 4 0 [(0, .ref 0), (1, .int a1)] [] I J := by
  unfold w_X11_ends at hw
  refine g_aload_n h rfl 0 rfl dX11_ends_0 ?_
  refine g_callV [] h (c_X11_cannotOrder X hw) sPi_v mw_X11_cannotOrder lk_X11_288 is_0 rfl rfl ⟨by decide, by decide⟩ (Nat.le_of_ble_eq_true rfl) dX11_ends_1 (sPi_k (fun r_1 I_1 J_1 hw => ?_))
  refine g_if_ne (tgt := 16) h (by decide) dX11_ends_4 (fun q4 => ?_) (fun q4 => ?_)
  · replace hw := hw.1 q4
    refine g_iconst (v := (-1)) h (by decide) dX11_ends_16 ?_
    exact g_iret h hr dX11_ends_17 hw
  · replace hw := hw.2 q4
    refine g_iload_n h rfl 1 rfl dX11_ends_7 ?_
    refine g_if_lt (tgt := 16) h (by decide) dX11_ends_8 (fun q8 => ?_) (fun q8 => ?_)
    · replace hw := hw.1 q8
      refine g_iconst (v := (-1)) h (by decide) dX11_ends_16 ?_
      exact g_iret h hr dX11_ends_17 hw
    · replace hw := hw.2 q8
      refine g_iload_n h rfl 1 rfl dX11_ends_11 ?_
      refine g_iconst (v := 1) h (by decide) dX11_ends_12 ?_
      refine g_icmp_le (tgt := 18) h (by decide) dX11_ends_13 (fun q13 => ?_) (fun q13 => ?_)
      · replace hw := hw.1 q13
        refine g_aload_n h rfl 0 rfl dX11_ends_18 ?_
        refine g_get h is_0 fl_X11_19 fr_0_1 dX11_ends_19 ?_
        refine g_get h is_3 fl_X11_124 fr_3_1 dX11_ends_22 ?_
        refine g_aload_n h rfl 0 rfl dX11_ends_25 ?_
        refine g_get h is_0 fl_X11_19 fr_0_1 dX11_ends_26 ?_
        refine g_get h is_3 fl_X11_124 fr_3_1 dX11_ends_29 ?_
        refine g_callV [] h (c_X4_all X is_8 hw) sPi_v mw_X4_all lk_X11_305 is_8 rfl rfl ⟨by decide, by decide⟩ (Nat.le_of_ble_eq_true rfl) dX11_ends_32 (sPi_k (fun r_32 I_32 J_32 hw => ?_))
        refine g_callV [.int r_32] h (c_X4_ringFree X is_8 hw) sPi_v mw_X4_ringFree lk_X11_308 is_8 rfl rfl ⟨by decide, by decide⟩ (Nat.le_of_ble_eq_true rfl) dX11_ends_35 (sPi_k (fun r_35 I_35 J_35 hw => ?_))
        refine g_if_ne (tgt := 44) h (by decide) dX11_ends_38 (fun q38 => ?_) (fun q38 => ?_)
        · replace hw := hw.1 q38
          refine g_iconst (v := 1) h (by decide) dX11_ends_44 ?_
          refine g_aload_n h rfl 0 rfl dX11_ends_45 ?_
          refine g_get h is_0 fl_X11_19 fr_0_1 dX11_ends_46 ?_
          refine g_get h is_3 fl_X11_117 fr_3_0 dX11_ends_49 ?_
          refine g_get h is_4 fl_X11_179 rfl dX11_ends_52 ?_
          refine g_ishl h dX11_ends_55 ?_
          refine g_iconst (v := 1) h (by decide) dX11_ends_56 ?_
          refine g_isub h dX11_ends_57 ?_
          refine g_ni (fun v2_58 ev2_58 => ?_)
          replace hw := hw v2_58 ev2_58
          refine g_istore_n (lo2 := [(2, .int v2_58), (0, .ref 0), (1, .int a1)]) h rfl (by decide) rfl dX11_ends_58 ?_
          refine g_iconst (v := 0) h (by decide) dX11_ends_59 ?_
          refine g_istore_n (lo2 := [(3, .int 0), (2, .int v2_58), (0, .ref 0), (1, .int a1)]) h rfl (by decide) rfl dX11_ends_60 ?_
          exact g_sub [2, 3, 1, 0] rfl (t_X11_ends_61 h hr hw)
        · replace hw := hw.2 q38
          refine g_bipush (v := (-2)) h (by decide) dX11_ends_41 ?_
          exact g_iret h hr dX11_ends_43 hw
      · replace hw := hw.2 q13
        refine g_iconst (v := (-1)) h (by decide) dX11_ends_16 ?_
        exact g_iret h hr dX11_ends_17 hw
theorem c_X11_ends (X : sX) {a1 : Int32} {I : sI} {J : sJ} {post : Int32 → sI → sJ → Prop} (hw : w_X11_ends a1 I J post) : sCall X yX11_ends cX11_ends 4 (some .int) 2 48 [.ref 0, .int a1] I J (sPi post) := sCall_of (by decide +kernel) (Nat.le_of_ble_eq_true rfl) (fun X h hr => t_X11_ends h hr hw)
theorem dX11_neighbours_0 : decode cX11_neighbours 0 = .ok (.iconst 0, 1) := by decide +kernel
theorem dX11_neighbours_1 : decode cX11_neighbours 1 = .ok (.istore_n 2, 1) := by decide +kernel
theorem dX11_neighbours_2 : decode cX11_neighbours 2 = .ok (.iconst 0, 1) := by decide +kernel
theorem dX11_neighbours_3 : decode cX11_neighbours 3 = .ok (.istore_n 3, 1) := by decide +kernel
theorem dX11_neighbours_4 : decode cX11_neighbours 4 = .ok (.iload_n 3, 1) := by decide +kernel
theorem dX11_neighbours_5 : decode cX11_neighbours 5 = .ok (.aload_n 0, 1) := by decide +kernel
theorem dX11_neighbours_6 : decode cX11_neighbours 6 = .ok (.getfield 19, 3) := by decide +kernel
theorem dX11_neighbours_9 : decode cX11_neighbours 9 = .ok (.getfield 124, 3) := by decide +kernel
theorem dX11_neighbours_12 : decode cX11_neighbours 12 = .ok (.getfield 128, 3) := by decide +kernel
theorem dX11_neighbours_15 : decode cX11_neighbours 15 = .ok (.if_icmp .ge 94, 3) := by decide +kernel
theorem dX11_neighbours_18 : decode cX11_neighbours 18 = .ok (.aload_n 0, 1) := by decide +kernel
theorem dX11_neighbours_19 : decode cX11_neighbours 19 = .ok (.getfield 19, 3) := by decide +kernel
theorem dX11_neighbours_22 : decode cX11_neighbours 22 = .ok (.getfield 124, 3) := by decide +kernel
theorem dX11_neighbours_25 : decode cX11_neighbours 25 = .ok (.getfield 311, 3) := by decide +kernel
theorem dX11_neighbours_28 : decode cX11_neighbours 28 = .ok (.iload_n 3, 1) := by decide +kernel
theorem dX11_neighbours_29 : decode cX11_neighbours 29 = .ok (.iaload, 1) := by decide +kernel
theorem dX11_neighbours_30 : decode cX11_neighbours 30 = .ok (.istore 4, 2) := by decide +kernel
theorem dX11_neighbours_32 : decode cX11_neighbours 32 = .ok (.aload_n 0, 1) := by decide +kernel
theorem dX11_neighbours_33 : decode cX11_neighbours 33 = .ok (.getfield 19, 3) := by decide +kernel
theorem dX11_neighbours_36 : decode cX11_neighbours 36 = .ok (.getfield 124, 3) := by decide +kernel
theorem dX11_neighbours_39 : decode cX11_neighbours 39 = .ok (.getfield 314, 3) := by decide +kernel
theorem dX11_neighbours_42 : decode cX11_neighbours 42 = .ok (.iload_n 3, 1) := by decide +kernel
theorem dX11_neighbours_43 : decode cX11_neighbours 43 = .ok (.iaload, 1) := by decide +kernel
theorem dX11_neighbours_44 : decode cX11_neighbours 44 = .ok (.istore 5, 2) := by decide +kernel
theorem dX11_neighbours_46 : decode cX11_neighbours 46 = .ok (.iload_n 1, 1) := by decide +kernel
theorem dX11_neighbours_47 : decode cX11_neighbours 47 = .ok (.ifCond .eq 11, 3) := by decide +kernel
theorem dX11_neighbours_50 : decode cX11_neighbours 50 = .ok (.iload 4, 2) := by decide +kernel
theorem dX11_neighbours_52 : decode cX11_neighbours 52 = .ok (.iload 5, 2) := by decide +kernel
theorem dX11_neighbours_54 : decode cX11_neighbours 54 = .ok (.isub, 1) := by decide +kernel
theorem dX11_neighbours_55 : decode cX11_neighbours 55 = .ok (.goto 8, 3) := by decide +kernel
theorem dX11_neighbours_58 : decode cX11_neighbours 58 = .ok (.iload 5, 2) := by decide +kernel
theorem dX11_neighbours_60 : decode cX11_neighbours 60 = .ok (.iload 4, 2) := by decide +kernel
theorem dX11_neighbours_62 : decode cX11_neighbours 62 = .ok (.isub, 1) := by decide +kernel
theorem dX11_neighbours_63 : decode cX11_neighbours 63 = .ok (.istore 6, 2) := by decide +kernel
theorem dX11_neighbours_65 : decode cX11_neighbours 65 = .ok (.iload 6, 2) := by decide +kernel
theorem dX11_neighbours_67 : decode cX11_neighbours 67 = .ok (.iconst 1, 1) := by decide +kernel
theorem dX11_neighbours_68 : decode cX11_neighbours 68 = .ok (.if_icmp .ne 35, 3) := by decide +kernel
theorem dX11_neighbours_71 : decode cX11_neighbours 71 = .ok (.aload_n 0, 1) := by decide +kernel
theorem dX11_neighbours_72 : decode cX11_neighbours 72 = .ok (.getfield 19, 3) := by decide +kernel
theorem dX11_neighbours_75 : decode cX11_neighbours 75 = .ok (.getfield 117, 3) := by decide +kernel
theorem dX11_neighbours_78 : decode cX11_neighbours 78 = .ok (.getfield 330, 3) := by decide +kernel
theorem dX11_neighbours_81 : decode cX11_neighbours 81 = .ok (.iload 4, 2) := by decide +kernel
theorem dX11_neighbours_83 : decode cX11_neighbours 83 = .ok (.iaload, 1) := by decide +kernel
theorem dX11_neighbours_84 : decode cX11_neighbours 84 = .ok (.aload_n 0, 1) := by decide +kernel
theorem dX11_neighbours_85 : decode cX11_neighbours 85 = .ok (.getfield 19, 3) := by decide +kernel
theorem dX11_neighbours_88 : decode cX11_neighbours 88 = .ok (.getfield 117, 3) := by decide +kernel
theorem dX11_neighbours_91 : decode cX11_neighbours 91 = .ok (.getfield 330, 3) := by decide +kernel
theorem dX11_neighbours_94 : decode cX11_neighbours 94 = .ok (.iload 5, 2) := by decide +kernel
theorem dX11_neighbours_96 : decode cX11_neighbours 96 = .ok (.iaload, 1) := by decide +kernel
theorem dX11_neighbours_97 : decode cX11_neighbours 97 = .ok (.if_icmp .ne 6, 3) := by decide +kernel
theorem dX11_neighbours_100 : decode cX11_neighbours 100 = .ok (.iinc 2 1, 3) := by decide +kernel
theorem dX11_neighbours_103 : decode cX11_neighbours 103 = .ok (.iinc 3 1, 3) := by decide +kernel
theorem dX11_neighbours_106 : decode cX11_neighbours 106 = .ok (.goto (-102), 3) := by decide +kernel
theorem dX11_neighbours_109 : decode cX11_neighbours 109 = .ok (.iload_n 2, 1) := by decide +kernel
theorem dX11_neighbours_110 : decode cX11_neighbours 110 = .ok (.ireturn, 1) := by decide +kernel
def w_X11_neighbours_103 (post : Int32 → sI → sJ → Prop) (k4 : Int32 → Int32 → Int32 → sI → sJ → Prop) (x1 : Int32) (x2 : Int32) (x3 : Int32) (I : sI) (J : sJ) : Prop :=
  (∀ v3_103 : Int32, v3_103 = x3 + 1 → k4 x1 x2 v3_103 I J)
set_option maxHeartbeats 4000000 in
set_option maxRecDepth 100000 in
theorem t_X11_neighbours_103 {X : sX} {post : Int32 → sI → sJ → Prop} (h : sOK X cX11_neighbours RX11 7 0 0) (hr : sRt X (some .int) (sPi post)) {k4 : Int32 → Int32 → Int32 → sI → sJ → Prop} (hk4 : ∀ (x1 : Int32) (x2 : Int32) (x3 : Int32) (I : sI) (J : sJ), k4 x1 x2 x3 I J → sG X 7 4 [(0, .ref 0), (1, .int x1), (2, .int x2), (3, .int x3)] [] I J) {x1 : Int32} {x2 : Int32} {x3 : Int32} {I : sI} {J : sJ} (hw : w_X11_neighbours_103 post k4 x1 x2 x3 I J) : sG X 7 103 [(0, .ref 0), (1, .int x1), (2, .int x2), (3, .int x3)] [] I J := by
  unfold w_X11_neighbours_103 at hw
  obtain ⟨v3_103, ev3_103⟩ : ∃ z : Int32, z = x3 + 1 := ⟨_, rfl⟩
  replace hw := hw v3_103 ev3_103
  refine g_iinc (v := v3_103) (lo2 := [(3, .int v3_103), (0, .ref 0), (1, .int x1), (2, .int x2)]) h 3 rfl (by rw [ev3_103]; rfl) (by decide) rfl dX11_neighbours_103 ?_
  refine g_goto (tgt := 4) h (by decide) dX11_neighbours_106 ?_
  exact g_sub [1, 2, 3, 0] rfl (hk4 _ _ _ _ _ hw)
def w_X11_neighbours_63 (post : Int32 → sI → sJ → Prop) (k4 : Int32 → Int32 → Int32 → sI → sJ → Prop) (x1 : Int32) (x2 : Int32) (x3 : Int32) (x4 : Int32) (x5 : Int32) (s0 : Int32) (I : sI) (J : sJ) : Prop :=
  ((¬ s0 = 1 → w_X11_neighbours_103 post k4 x1 x2 x3 I J) ∧ (s0 = 1 → (vp_in x4 60 ∧ (vp_in x5 60 ∧ ((¬ (I 6 (Int32.toNatClampNeg x4)) = (I 6 (Int32.toNatClampNeg x5)) → w_X11_neighbours_103 post k4 x1 x2 x3 I J) ∧ ((I 6 (Int32.toNatClampNeg x4)) = (I 6 (Int32.toNatClampNeg x5)) → (∀ v2_100 : Int32, v2_100 = x2 + 1 → w_X11_neighbours_103 post k4 x1 v2_100 x3 I J)))))))
set_option maxHeartbeats 4000000 in
set_option maxRecDepth 100000 in
theorem t_X11_neighbours_63 {X : sX} {post : Int32 → sI → sJ → Prop} (h : sOK X cX11_neighbours RX11 7 0 0) (hr : sRt X (some .int) (sPi post)) {k4 : Int32 → Int32 → Int32 → sI → sJ → Prop} (hk4 : ∀ (x1 : Int32) (x2 : Int32) (x3 : Int32) (I : sI) (J : sJ), k4 x1 x2 x3 I J → sG X 7 4 [(0, .ref 0), (1, .int x1), (2, .int x2), (3, .int x3)] [] I J) {x1 : Int32} {x2 : Int32} {x3 : Int32} {x4 : Int32} {x5 : Int32} {s0 : Int32} {I : sI} {J : sJ} (hw : w_X11_neighbours_63 post k4 x1 x2 x3 x4 x5 s0 I J) : sG X 7 63 [(0, .ref 0), (1, .int x1), (2, .int x2), (3, .int x3), (4, .int x4), (5, .int x5)] [.int s0] I J := by
  unfold w_X11_neighbours_63 at hw
  refine g_istore (lo2 := [(6, .int s0), (0, .ref 0), (1, .int x1), (2, .int x2), (3, .int x3), (4, .int x4), (5, .int x5)]) h (by decide) rfl dX11_neighbours_63 ?_
  refine g_iload h 0 rfl dX11_neighbours_65 ?_
  refine g_iconst (v := 1) h (by decide) dX11_neighbours_67 ?_
  refine g_icmp_ne (tgt := 103) h (by decide) dX11_neighbours_68 (fun q68 => ?_) (fun q68 => ?_)
  · replace hw := hw.1 q68
    exact g_sub [1, 2, 3, 4] rfl (t_X11_neighbours_103 h hr hk4 hw)
  · replace hw := hw.2 q68
    refine g_aload_n h rfl 1 rfl dX11_neighbours_71 ?_
    refine g_get h is_0 fl_X11_19 fr_0_1 dX11_neighbours_72 ?_
    refine g_get h is_3 fl_X11_117 fr_3_0 dX11_neighbours_75 ?_
    refine g_get h is_4 fl_X11_330 fr_4_1 dX11_neighbours_78 ?_
    refine g_iload h 5 rfl dX11_neighbours_81 ?_
    obtain ⟨hi83, hw⟩ := hw
    refine g_iald h ar_6 hi83 dX11_neighbours_83 ?_
    refine g_aload_n h rfl 1 rfl dX11_neighbours_84 ?_
    refine g_get h is_0 fl_X11_19 fr_0_1 dX11_neighbours_85 ?_
    refine g_get h is_3 fl_X11_117 fr_3_0 dX11_neighbours_88 ?_
    refine g_get h is_4 fl_X11_330 fr_4_1 dX11_neighbours_91 ?_
    refine g_iload h 6 rfl dX11_neighbours_94 ?_
    obtain ⟨hi96, hw⟩ := hw
    refine g_iald h ar_6 hi96 dX11_neighbours_96 ?_
    refine g_icmp_ne (tgt := 103) h (by decide) dX11_neighbours_97 (fun q97 => ?_) (fun q97 => ?_)
    · replace hw := hw.1 q97
      exact g_sub [1, 2, 3, 4] rfl (t_X11_neighbours_103 h hr hk4 hw)
    · replace hw := hw.2 q97
      obtain ⟨v2_100, ev2_100⟩ : ∃ z : Int32, z = x2 + 1 := ⟨_, rfl⟩
      replace hw := hw v2_100 ev2_100
      refine g_iinc (v := v2_100) (lo2 := [(2, .int v2_100), (6, .int s0), (0, .ref 0), (1, .int x1), (3, .int x3), (4, .int x4), (5, .int x5)]) h 3 rfl (by rw [ev2_100]; rfl) (by decide) rfl dX11_neighbours_100 ?_
      exact g_sub [2, 3, 0, 4] rfl (t_X11_neighbours_103 h hr hk4 hw)
def w_X11_neighbours_4_s (post : Int32 → sI → sJ → Prop) (k4 : Int32 → Int32 → Int32 → sI → sJ → Prop) (x1 : Int32) (x2 : Int32) (x3 : Int32) (I : sI) (J : sJ) : Prop :=
  (((I 8 2) ≤ x3 → post x2 I J) ∧ (¬ (I 8 2) ≤ x3 → (vp_in x3 12 ∧ (∀ v4_30 : Int32, v4_30 = I 9 (Int32.toNatClampNeg x3) → (vp_in x3 12 ∧ (∀ v5_44 : Int32, v5_44 = I 10 (Int32.toNatClampNeg x3) → ((x1 = 0 → w_X11_neighbours_63 post k4 x1 x2 x3 v4_30 v5_44 (v5_44 - v4_30) I J) ∧ (¬ x1 = 0 → w_X11_neighbours_63 post k4 x1 x2 x3 v4_30 v5_44 (v4_30 - v5_44) I J))))))))
def w_X11_neighbours_4_n (post : Int32 → sI → sJ → Prop) : Nat → Int32 → Int32 → Int32 → sI → sJ → Prop
  | 0 => fun _ _ _ _ _ => False
  | n + 1 => fun x1 x2 x3 I J => w_X11_neighbours_4_s post (w_X11_neighbours_4_n post n) x1 x2 x3 I J
def w_X11_neighbours_4 (post : Int32 → sI → sJ → Prop) (x1 : Int32) (x2 : Int32) (x3 : Int32) (I : sI) (J : sJ) : Prop := ∃ n, w_X11_neighbours_4_n post n x1 x2 x3 I J
set_option maxHeartbeats 4000000 in
set_option maxRecDepth 100000 in
theorem t_X11_neighbours_4_s {X : sX} {post : Int32 → sI → sJ → Prop} (h : sOK X cX11_neighbours RX11 7 0 0) (hr : sRt X (some .int) (sPi post)) {k4 : Int32 → Int32 → Int32 → sI → sJ → Prop} (hk4 : ∀ (x1 : Int32) (x2 : Int32) (x3 : Int32) (I : sI) (J : sJ), k4 x1 x2 x3 I J → sG X 7 4 [(0, .ref 0), (1, .int x1), (2, .int x2), (3, .int x3)] [] I J) {x1 : Int32} {x2 : Int32} {x3 : Int32} {I : sI} {J : sJ} (hw : w_X11_neighbours_4_s post k4 x1 x2 x3 I J) : sG X 7 4 [(0, .ref 0), (1, .int x1), (2, .int x2), (3, .int x3)] [] I J := by
  unfold w_X11_neighbours_4_s at hw
  refine g_iload_n h rfl 3 rfl dX11_neighbours_4 ?_
  refine g_aload_n h rfl 0 rfl dX11_neighbours_5 ?_
  refine g_get h is_0 fl_X11_19 fr_0_1 dX11_neighbours_6 ?_
  refine g_get h is_3 fl_X11_124 fr_3_1 dX11_neighbours_9 ?_
  refine g_get h is_8 fl_X11_128 rfl dX11_neighbours_12 ?_
  refine g_icmp_ge (tgt := 109) h (by decide) dX11_neighbours_15 (fun q15 => ?_) (fun q15 => ?_)
  · replace hw := hw.1 q15
    refine g_iload_n h rfl 2 rfl dX11_neighbours_109 ?_
    exact g_iret h hr dX11_neighbours_110 hw
  · replace hw := hw.2 q15
    refine g_aload_n h rfl 0 rfl dX11_neighbours_18 ?_
    refine g_get h is_0 fl_X11_19 fr_0_1 dX11_neighbours_19 ?_
    refine g_get h is_3 fl_X11_124 fr_3_1 dX11_neighbours_22 ?_
    refine g_get h is_8 fl_X11_311 fr_8_0 dX11_neighbours_25 ?_
    refine g_iload_n h rfl 3 rfl dX11_neighbours_28 ?_
    obtain ⟨hi29, hw⟩ := hw
    refine g_iald h ar_9 hi29 dX11_neighbours_29 ?_
    refine g_ni (fun v4_30 ev4_30 => ?_)
    replace hw := hw v4_30 ev4_30
    refine g_istore (lo2 := [(4, .int v4_30), (0, .ref 0), (1, .int x1), (2, .int x2), (3, .int x3)]) h (by decide) rfl dX11_neighbours_30 ?_
    refine g_aload_n h rfl 1 rfl dX11_neighbours_32 ?_
    refine g_get h is_0 fl_X11_19 fr_0_1 dX11_neighbours_33 ?_
    refine g_get h is_3 fl_X11_124 fr_3_1 dX11_neighbours_36 ?_
    refine g_get h is_8 fl_X11_314 fr_8_1 dX11_neighbours_39 ?_
    refine g_iload_n h rfl 4 rfl dX11_neighbours_42 ?_
    obtain ⟨hi43, hw⟩ := hw
    refine g_iald h ar_10 hi43 dX11_neighbours_43 ?_
    refine g_ni (fun v5_44 ev5_44 => ?_)
    replace hw := hw v5_44 ev5_44
    refine g_istore (lo2 := [(5, .int v5_44), (4, .int v4_30), (0, .ref 0), (1, .int x1), (2, .int x2), (3, .int x3)]) h (by decide) rfl dX11_neighbours_44 ?_
    refine g_iload_n h rfl 3 rfl dX11_neighbours_46 ?_
    refine g_if_eq (tgt := 58) h (by decide) dX11_neighbours_47 (fun q47 => ?_) (fun q47 => ?_)
    · replace hw := hw.1 q47
      refine g_iload h 0 rfl dX11_neighbours_58 ?_
      refine g_iload h 1 rfl dX11_neighbours_60 ?_
      refine g_isub h dX11_neighbours_62 ?_
      exact g_sub [2, 3, 4, 5, 1, 0] rfl (t_X11_neighbours_63 h hr hk4 hw)
    · replace hw := hw.2 q47
      refine g_iload h 1 rfl dX11_neighbours_50 ?_
      refine g_iload h 0 rfl dX11_neighbours_52 ?_
      refine g_isub h dX11_neighbours_54 ?_
      refine g_goto (tgt := 63) h (by decide) dX11_neighbours_55 ?_
      exact g_sub [2, 3, 4, 5, 1, 0] rfl (t_X11_neighbours_63 h hr hk4 hw)
theorem t_X11_neighbours_4 {X : sX} {post : Int32 → sI → sJ → Prop} (h : sOK X cX11_neighbours RX11 7 0 0) (hr : sRt X (some .int) (sPi post)) {x1 : Int32} {x2 : Int32} {x3 : Int32} {I : sI} {J : sJ} (hw : w_X11_neighbours_4 post x1 x2 x3 I J) : sG X 7 4 [(0, .ref 0), (1, .int x1), (2, .int x2), (3, .int x3)] [] I J := by
  obtain ⟨n, hw⟩ := hw
  induction n generalizing x1 x2 x3 I J with
  | zero => exact hw.elim
  | succ n ih => exact t_X11_neighbours_4_s h hr (fun _ _ _ _ _ q => ih q) hw
def w_X11_neighbours (a1 : Int32) (I : sI) (J : sJ) (post : Int32 → sI → sJ → Prop) : Prop :=
  w_X11_neighbours_4 post a1 0 0 I J
set_option maxHeartbeats 4000000 in
set_option maxRecDepth 100000 in
theorem t_X11_neighbours {X : sX} {a1 : Int32} {I : sI} {J : sJ} {post : Int32 → sI → sJ → Prop} (h : sOK X cX11_neighbours RX11 7 0 0) (hr : sRt X (some .int) (sPi post)) (hw : w_X11_neighbours a1 I J post) : sG X 7 0 [(0, .ref 0), (1, .int a1)] [] I J := by
  unfold w_X11_neighbours at hw
  refine g_iconst (v := 0) h (by decide) dX11_neighbours_0 ?_
  refine g_istore_n (lo2 := [(2, .int 0), (0, .ref 0), (1, .int a1)]) h rfl (by decide) rfl dX11_neighbours_1 ?_
  refine g_iconst (v := 0) h (by decide) dX11_neighbours_2 ?_
  refine g_istore_n (lo2 := [(3, .int 0), (2, .int 0), (0, .ref 0), (1, .int a1)]) h rfl (by decide) rfl dX11_neighbours_3 ?_
  exact g_sub [2, 3, 1, 0] rfl (t_X11_neighbours_4 h hr hw)
theorem c_X11_neighbours (X : sX) {a1 : Int32} {I : sI} {J : sJ} {post : Int32 → sI → sJ → Prop} (hw : w_X11_neighbours a1 I J post) : sCall X yX11_neighbours cX11_neighbours 7 (some .int) 0 0 [.ref 0, .int a1] I J (sPi post) := sCall_of (by decide +kernel) (Nat.le_of_ble_eq_true rfl) (fun X h hr => t_X11_neighbours h hr hw)
theorem dX11_way_0 : decode cX11_way 0 = .ok (.aload_n 0, 1) := by decide +kernel
theorem dX11_way_1 : decode cX11_way 1 = .ok (.iconst 1, 1) := by decide +kernel
theorem dX11_way_2 : decode cX11_way 2 = .ok (.invokevirtual 317, 3) := by decide +kernel
theorem dX11_way_5 : decode cX11_way 5 = .ok (.istore_n 1, 1) := by decide +kernel
theorem dX11_way_6 : decode cX11_way 6 = .ok (.aload_n 0, 1) := by decide +kernel
theorem dX11_way_7 : decode cX11_way 7 = .ok (.iconst 0, 1) := by decide +kernel
theorem dX11_way_8 : decode cX11_way 8 = .ok (.invokevirtual 317, 3) := by decide +kernel
theorem dX11_way_11 : decode cX11_way 11 = .ok (.istore_n 2, 1) := by decide +kernel
theorem dX11_way_12 : decode cX11_way 12 = .ok (.aload_n 0, 1) := by decide +kernel
theorem dX11_way_13 : decode cX11_way 13 = .ok (.getfield 41, 3) := by decide +kernel
theorem dX11_way_16 : decode cX11_way 16 = .ok (.iload_n 1, 1) := by decide +kernel
theorem dX11_way_17 : decode cX11_way 17 = .ok (.i2l, 1) := by decide +kernel
theorem dX11_way_18 : decode cX11_way 18 = .ok (.iload_n 2, 1) := by decide +kernel
theorem dX11_way_19 : decode cX11_way 19 = .ok (.i2l, 1) := by decide +kernel
theorem dX11_way_20 : decode cX11_way 20 = .ok (.invokevirtual 252, 3) := by decide +kernel
theorem dX11_way_23 : decode cX11_way 23 = .ok (.iload_n 1, 1) := by decide +kernel
theorem dX11_way_24 : decode cX11_way 24 = .ok (.iload_n 2, 1) := by decide +kernel
theorem dX11_way_25 : decode cX11_way 25 = .ok (.if_icmp .ne 5, 3) := by decide +kernel
theorem dX11_way_28 : decode cX11_way 28 = .ok (.iconst 0, 1) := by decide +kernel
theorem dX11_way_29 : decode cX11_way 29 = .ok (.ireturn, 1) := by decide +kernel
theorem dX11_way_30 : decode cX11_way 30 = .ok (.iload_n 1, 1) := by decide +kernel
theorem dX11_way_31 : decode cX11_way 31 = .ok (.iload_n 2, 1) := by decide +kernel
theorem dX11_way_32 : decode cX11_way 32 = .ok (.if_icmp .le 7, 3) := by decide +kernel
theorem dX11_way_35 : decode cX11_way 35 = .ok (.iconst 1, 1) := by decide +kernel
theorem dX11_way_36 : decode cX11_way 36 = .ok (.goto 4, 3) := by decide +kernel
theorem dX11_way_39 : decode cX11_way 39 = .ok (.iconst 2, 1) := by decide +kernel
theorem dX11_way_40 : decode cX11_way 40 = .ok (.ireturn, 1) := by decide +kernel
def w_X11_way (I : sI) (J : sJ) (post : Int32 → sI → sJ → Prop) : Prop :=
  w_X11_neighbours 1 I J (fun (r_2 : Int32) (I_2 : sI) (J_2 : sJ) => (w_X11_neighbours 0 I_2 J_2 (fun (r_8 : Int32) (I_8 : sI) (J_8 : sJ) => (w_X6_tell_ 134 (Int32.toInt64 r_2) (Int32.toInt64 r_8) I_8 J_8 (fun (I_20 : sI) (J_20 : sJ) => (((¬ r_2 = r_8 → ((r_2 ≤ r_8 → post 2 I_20 J_20) ∧ (¬ r_2 ≤ r_8 → post 1 I_20 J_20))) ∧ (r_2 = r_8 → post 0 I_20 J_20))))))))
set_option maxHeartbeats 4000000 in
set_option maxRecDepth 100000 in
theorem t_X11_way {X : sX} {I : sI} {J : sJ} {post : Int32 → sI → sJ → Prop} (h : sOK X cX11_way RX11 3 3 68) (hr : sRt X (some .int) (sPi post)) (hw : w_X11_way I J post) : sG X 3 0 [(0, .ref 0)] [] I J := by
  unfold w_X11_way at hw
  refine g_aload_n h rfl 0 rfl dX11_way_0 ?_
  refine g_iconst (v := 1) h (by decide) dX11_way_1 ?_
  refine g_callV [.int 1] h (c_X11_neighbours X hw) sPi_v mw_X11_neighbours lk_X11_317 is_0 rfl rfl ⟨by decide, by decide⟩ (Nat.le_of_ble_eq_true rfl) dX11_way_2 (sPi_k (fun r_2 I_2 J_2 hw => ?_))
  refine g_istore_n (lo2 := [(1, .int r_2), (0, .ref 0)]) h rfl (by decide) rfl dX11_way_5 ?_
  refine g_aload_n h rfl 1 rfl dX11_way_6 ?_
  refine g_iconst (v := 0) h (by decide) dX11_way_7 ?_
  refine g_callV [.int 0] h (c_X11_neighbours X hw) sPi_v mw_X11_neighbours lk_X11_317 is_0 rfl rfl ⟨by decide, by decide⟩ (Nat.le_of_ble_eq_true rfl) dX11_way_8 (sPi_k (fun r_8 I_8 J_8 hw => ?_))
  refine g_istore_n (lo2 := [(2, .int r_8), (1, .int r_2), (0, .ref 0)]) h rfl (by decide) rfl dX11_way_11 ?_
  refine g_aload_n h rfl 2 rfl dX11_way_12 ?_
  refine g_get h is_0 fl_X11_41 fr_0_5 dX11_way_13 ?_
  refine g_iload_n h rfl 1 rfl dX11_way_16 ?_
  refine g_i2l h dX11_way_17 ?_
  refine g_iload_n h rfl 0 rfl dX11_way_18 ?_
  refine g_i2l h dX11_way_19 ?_
  refine g_callV [.long (Int32.toInt64 r_2), .long (Int32.toInt64 r_8)] h (c_X6_tell_ X is_134 hw) sPv_v mw_X6_tell_ lk_X11_252 is_134 rfl rfl ⟨by decide, by decide⟩ (Nat.le_of_ble_eq_true rfl) dX11_way_20 (sPv_k (fun I_20 J_20 hw => ?_))
  refine g_iload_n h rfl 1 rfl dX11_way_23 ?_
  refine g_iload_n h rfl 0 rfl dX11_way_24 ?_
  refine g_icmp_ne (tgt := 30) h (by decide) dX11_way_25 (fun q25 => ?_) (fun q25 => ?_)
  · replace hw := hw.1 q25
    refine g_iload_n h rfl 1 rfl dX11_way_30 ?_
    refine g_iload_n h rfl 0 rfl dX11_way_31 ?_
    refine g_icmp_le (tgt := 39) h (by decide) dX11_way_32 (fun q32 => ?_) (fun q32 => ?_)
    · replace hw := hw.1 q32
      refine g_iconst (v := 2) h (by decide) dX11_way_39 ?_
      exact g_iret h hr dX11_way_40 hw
    · replace hw := hw.2 q32
      refine g_iconst (v := 1) h (by decide) dX11_way_35 ?_
      refine g_goto (tgt := 40) h (by decide) dX11_way_36 ?_
      exact g_iret h hr dX11_way_40 hw
  · replace hw := hw.2 q25
    refine g_iconst (v := 0) h (by decide) dX11_way_28 ?_
    exact g_iret h hr dX11_way_29 hw
theorem c_X11_way (X : sX) {I : sI} {J : sJ} {post : Int32 → sI → sJ → Prop} (hw : w_X11_way I J post) : sCall X yX11_way cX11_way 3 (some .int) 3 68 [.ref 0] I J (sPi post) := sCall_of (by decide +kernel) (Nat.le_of_ble_eq_true rfl) (fun X h hr => t_X11_way h hr hw)
theorem dX11_choose_0 : decode cX11_choose 0 = .ok (.iload_n 1, 1) := by decide +kernel
theorem dX11_choose_1 : decode cX11_choose 1 = .ok (.ifCond .lt 8, 3) := by decide +kernel
theorem dX11_choose_4 : decode cX11_choose 4 = .ok (.iload_n 1, 1) := by decide +kernel
theorem dX11_choose_5 : decode cX11_choose 5 = .ok (.iload_n 0, 1) := by decide +kernel
theorem dX11_choose_6 : decode cX11_choose 6 = .ok (.if_icmp .le 5, 3) := by decide +kernel
theorem dX11_choose_9 : decode cX11_choose 9 = .ok (.lconst 0, 1) := by decide +kernel
theorem dX11_choose_10 : decode cX11_choose 10 = .ok (.lreturn, 1) := by decide +kernel
theorem dX11_choose_11 : decode cX11_choose 11 = .ok (.lconst 1, 1) := by decide +kernel
theorem dX11_choose_12 : decode cX11_choose 12 = .ok (.lstore_n 2, 1) := by decide +kernel
theorem dX11_choose_13 : decode cX11_choose 13 = .ok (.iconst 1, 1) := by decide +kernel
theorem dX11_choose_14 : decode cX11_choose 14 = .ok (.istore 4, 2) := by decide +kernel
theorem dX11_choose_16 : decode cX11_choose 16 = .ok (.iload 4, 2) := by decide +kernel
theorem dX11_choose_18 : decode cX11_choose 18 = .ok (.iload_n 1, 1) := by decide +kernel
theorem dX11_choose_19 : decode cX11_choose 19 = .ok (.if_icmp .gt 23, 3) := by decide +kernel
theorem dX11_choose_22 : decode cX11_choose 22 = .ok (.lload_n 2, 1) := by decide +kernel
theorem dX11_choose_23 : decode cX11_choose 23 = .ok (.iload_n 0, 1) := by decide +kernel
theorem dX11_choose_24 : decode cX11_choose 24 = .ok (.iload_n 1, 1) := by decide +kernel
theorem dX11_choose_25 : decode cX11_choose 25 = .ok (.isub, 1) := by decide +kernel
theorem dX11_choose_26 : decode cX11_choose 26 = .ok (.iload 4, 2) := by decide +kernel
theorem dX11_choose_28 : decode cX11_choose 28 = .ok (.iadd, 1) := by decide +kernel
theorem dX11_choose_29 : decode cX11_choose 29 = .ok (.i2l, 1) := by decide +kernel
theorem dX11_choose_30 : decode cX11_choose 30 = .ok (.lmul, 1) := by decide +kernel
theorem dX11_choose_31 : decode cX11_choose 31 = .ok (.iload 4, 2) := by decide +kernel
theorem dX11_choose_33 : decode cX11_choose 33 = .ok (.i2l, 1) := by decide +kernel
theorem dX11_choose_34 : decode cX11_choose 34 = .ok (.ldiv, 1) := by decide +kernel
theorem dX11_choose_35 : decode cX11_choose 35 = .ok (.lstore_n 2, 1) := by decide +kernel
theorem dX11_choose_36 : decode cX11_choose 36 = .ok (.iinc 4 1, 3) := by decide +kernel
theorem dX11_choose_39 : decode cX11_choose 39 = .ok (.goto (-23), 3) := by decide +kernel
theorem dX11_choose_42 : decode cX11_choose 42 = .ok (.lload_n 2, 1) := by decide +kernel
theorem dX11_choose_43 : decode cX11_choose 43 = .ok (.lreturn, 1) := by decide +kernel
def w_X11_choose_16_s (post : Int64 → sI → sJ → Prop) (k16 : Int32 → Int32 → Int64 → Int32 → sI → sJ → Prop) (x0 : Int32) (x1 : Int32) (x2 : Int64) (x4 : Int32) (I : sI) (J : sJ) : Prop :=
  ((x1 < x4 → post x2 I J) ∧ (¬ x1 < x4 → (¬ (Int32.toInt64 x4) = 0 ∧ (∀ v2_35 : Int64, v2_35 = (x2 * (Int32.toInt64 ((x0 - x1) + x4))) / (Int32.toInt64 x4) → (∀ v4_36 : Int32, v4_36 = x4 + 1 → k16 x0 x1 v2_35 v4_36 I J)))))
def w_X11_choose_16_n (post : Int64 → sI → sJ → Prop) : Nat → Int32 → Int32 → Int64 → Int32 → sI → sJ → Prop
  | 0 => fun _ _ _ _ _ _ => False
  | n + 1 => fun x0 x1 x2 x4 I J => w_X11_choose_16_s post (w_X11_choose_16_n post n) x0 x1 x2 x4 I J
def w_X11_choose_16 (post : Int64 → sI → sJ → Prop) (x0 : Int32) (x1 : Int32) (x2 : Int64) (x4 : Int32) (I : sI) (J : sJ) : Prop := ∃ n, w_X11_choose_16_n post n x0 x1 x2 x4 I J
set_option maxHeartbeats 4000000 in
set_option maxRecDepth 100000 in
theorem t_X11_choose_16_s {X : sX} {post : Int64 → sI → sJ → Prop} (h : sOK X cX11_choose RX11 5 0 0) (hr : sRt X (some .long) (sPl post)) {k16 : Int32 → Int32 → Int64 → Int32 → sI → sJ → Prop} (hk16 : ∀ (x0 : Int32) (x1 : Int32) (x2 : Int64) (x4 : Int32) (I : sI) (J : sJ), k16 x0 x1 x2 x4 I J → sG X 5 16 [(0, .int x0), (1, .int x1), (2, .long x2), (4, .int x4)] [] I J) {x0 : Int32} {x1 : Int32} {x2 : Int64} {x4 : Int32} {I : sI} {J : sJ} (hw : w_X11_choose_16_s post k16 x0 x1 x2 x4 I J) : sG X 5 16 [(0, .int x0), (1, .int x1), (2, .long x2), (4, .int x4)] [] I J := by
  unfold w_X11_choose_16_s at hw
  refine g_iload h 3 rfl dX11_choose_16 ?_
  refine g_iload_n h rfl 1 rfl dX11_choose_18 ?_
  refine g_icmp_gt (tgt := 42) h (by decide) dX11_choose_19 (fun q19 => ?_) (fun q19 => ?_)
  · replace hw := hw.1 q19
    refine g_lload_n h rfl 2 rfl dX11_choose_42 ?_
    exact g_lret h hr dX11_choose_43 hw
  · replace hw := hw.2 q19
    refine g_lload_n h rfl 2 rfl dX11_choose_22 ?_
    refine g_iload_n h rfl 0 rfl dX11_choose_23 ?_
    refine g_iload_n h rfl 1 rfl dX11_choose_24 ?_
    refine g_isub h dX11_choose_25 ?_
    refine g_iload h 3 rfl dX11_choose_26 ?_
    refine g_iadd h dX11_choose_28 ?_
    refine g_i2l h dX11_choose_29 ?_
    refine g_lmul h dX11_choose_30 ?_
    refine g_iload h 3 rfl dX11_choose_31 ?_
    refine g_i2l h dX11_choose_33 ?_
    obtain ⟨hz34, hw⟩ := hw
    refine g_ldiv h hz34 dX11_choose_34 ?_
    refine g_nl (fun v2_35 ev2_35 => ?_)
    replace hw := hw v2_35 ev2_35
    refine g_lstore_n (lo2 := [(2, .long v2_35), (0, .int x0), (1, .int x1), (4, .int x4)]) h rfl (by decide) rfl dX11_choose_35 ?_
    obtain ⟨v4_36, ev4_36⟩ : ∃ z : Int32, z = x4 + 1 := ⟨_, rfl⟩
    replace hw := hw v4_36 ev4_36
    refine g_iinc (v := v4_36) (lo2 := [(4, .int v4_36), (2, .long v2_35), (0, .int x0), (1, .int x1)]) h 3 rfl (by rw [ev4_36]; rfl) (by decide) rfl dX11_choose_36 ?_
    refine g_goto (tgt := 16) h (by decide) dX11_choose_39 ?_
    exact g_sub [2, 3, 1, 0] rfl (hk16 _ _ _ _ _ _ hw)
theorem t_X11_choose_16 {X : sX} {post : Int64 → sI → sJ → Prop} (h : sOK X cX11_choose RX11 5 0 0) (hr : sRt X (some .long) (sPl post)) {x0 : Int32} {x1 : Int32} {x2 : Int64} {x4 : Int32} {I : sI} {J : sJ} (hw : w_X11_choose_16 post x0 x1 x2 x4 I J) : sG X 5 16 [(0, .int x0), (1, .int x1), (2, .long x2), (4, .int x4)] [] I J := by
  obtain ⟨n, hw⟩ := hw
  induction n generalizing x0 x1 x2 x4 I J with
  | zero => exact hw.elim
  | succ n ih => exact t_X11_choose_16_s h hr (fun _ _ _ _ _ _ q => ih q) hw
def w_X11_choose (a0 : Int32) (a1 : Int32) (I : sI) (J : sJ) (post : Int64 → sI → sJ → Prop) : Prop :=
  ((a1 < 0 → post 0 I J) ∧ (¬ a1 < 0 → ((a1 ≤ a0 → w_X11_choose_16 post a0 a1 1 1 I J) ∧ (¬ a1 ≤ a0 → post 0 I J))))
set_option maxHeartbeats 4000000 in
set_option maxRecDepth 100000 in
theorem t_X11_choose {X : sX} {a0 : Int32} {a1 : Int32} {I : sI} {J : sJ} {post : Int64 → sI → sJ → Prop} (h : sOK X cX11_choose RX11 5 0 0) (hr : sRt X (some .long) (sPl post)) (hw : w_X11_choose a0 a1 I J post) : sG X 5 0 [(0, .int a0), (1, .int a1)] [] I J := by
  unfold w_X11_choose at hw
  refine g_iload_n h rfl 1 rfl dX11_choose_0 ?_
  refine g_if_lt (tgt := 9) h (by decide) dX11_choose_1 (fun q1 => ?_) (fun q1 => ?_)
  · replace hw := hw.1 q1
    refine g_lconst (v := 0) h (by decide) dX11_choose_9 ?_
    exact g_lret h hr dX11_choose_10 hw
  · replace hw := hw.2 q1
    refine g_iload_n h rfl 1 rfl dX11_choose_4 ?_
    refine g_iload_n h rfl 0 rfl dX11_choose_5 ?_
    refine g_icmp_le (tgt := 11) h (by decide) dX11_choose_6 (fun q6 => ?_) (fun q6 => ?_)
    · replace hw := hw.1 q6
      refine g_lconst (v := 1) h (by decide) dX11_choose_11 ?_
      refine g_lstore_n (lo2 := [(2, .long 1), (0, .int a0), (1, .int a1)]) h rfl (by decide) rfl dX11_choose_12 ?_
      refine g_iconst (v := 1) h (by decide) dX11_choose_13 ?_
      refine g_istore (lo2 := [(4, .int 1), (2, .long 1), (0, .int a0), (1, .int a1)]) h (by decide) rfl dX11_choose_14 ?_
      exact g_sub [2, 3, 1, 0] rfl (t_X11_choose_16 h hr hw)
    · replace hw := hw.2 q6
      refine g_lconst (v := 0) h (by decide) dX11_choose_9 ?_
      exact g_lret h hr dX11_choose_10 hw
theorem c_X11_choose (X : sX) {a0 : Int32} {a1 : Int32} {I : sI} {J : sJ} {post : Int64 → sI → sJ → Prop} (hw : w_X11_choose a0 a1 I J post) : sCall X yX11_choose cX11_choose 5 (some .long) 0 0 [.int a0, .int a1] I J (sPl post) := sCall_of (by decide +kernel) (Nat.le_of_ble_eq_true rfl) (fun X h hr => t_X11_choose h hr hw)
theorem dX11_lot_0 : decode cX11_lot 0 = .ok (.aload_n 0, 1) := by decide +kernel
theorem dX11_lot_1 : decode cX11_lot 1 = .ok (.iconst 1, 1) := by decide +kernel
theorem dX11_lot_2 : decode cX11_lot 2 = .ok (.invokevirtual 317, 3) := by decide +kernel
theorem dX11_lot_5 : decode cX11_lot 5 = .ok (.istore_n 1, 1) := by decide +kernel
theorem dX11_lot_6 : decode cX11_lot 6 = .ok (.aload_n 0, 1) := by decide +kernel
theorem dX11_lot_7 : decode cX11_lot 7 = .ok (.iconst 0, 1) := by decide +kernel
theorem dX11_lot_8 : decode cX11_lot 8 = .ok (.invokevirtual 317, 3) := by decide +kernel
theorem dX11_lot_11 : decode cX11_lot 11 = .ok (.istore_n 2, 1) := by decide +kernel
theorem dX11_lot_12 : decode cX11_lot 12 = .ok (.iload_n 1, 1) := by decide +kernel
theorem dX11_lot_13 : decode cX11_lot 13 = .ok (.iload_n 2, 1) := by decide +kernel
theorem dX11_lot_14 : decode cX11_lot 14 = .ok (.iadd, 1) := by decide +kernel
theorem dX11_lot_15 : decode cX11_lot 15 = .ok (.istore_n 3, 1) := by decide +kernel
theorem dX11_lot_16 : decode cX11_lot 16 = .ok (.iload_n 1, 1) := by decide +kernel
theorem dX11_lot_17 : decode cX11_lot 17 = .ok (.iload_n 2, 1) := by decide +kernel
theorem dX11_lot_18 : decode cX11_lot 18 = .ok (.invokestatic 321, 3) := by decide +kernel
theorem dX11_lot_21 : decode cX11_lot 21 = .ok (.istore 4, 2) := by decide +kernel
theorem dX11_lot_23 : decode cX11_lot 23 = .ok (.lconst 0, 1) := by decide +kernel
theorem dX11_lot_24 : decode cX11_lot 24 = .ok (.lstore 5, 2) := by decide +kernel
theorem dX11_lot_26 : decode cX11_lot 26 = .ok (.iconst 0, 1) := by decide +kernel
theorem dX11_lot_27 : decode cX11_lot 27 = .ok (.istore 7, 2) := by decide +kernel
theorem dX11_lot_29 : decode cX11_lot 29 = .ok (.iload 7, 2) := by decide +kernel
theorem dX11_lot_31 : decode cX11_lot 31 = .ok (.iload_n 3, 1) := by decide +kernel
theorem dX11_lot_32 : decode cX11_lot 32 = .ok (.if_icmp .gt 38, 3) := by decide +kernel
theorem dX11_lot_35 : decode cX11_lot 35 = .ok (.lload 5, 2) := by decide +kernel
theorem dX11_lot_37 : decode cX11_lot 37 = .ok (.iload 7, 2) := by decide +kernel
theorem dX11_lot_39 : decode cX11_lot 39 = .ok (.iload_n 3, 1) := by decide +kernel
theorem dX11_lot_40 : decode cX11_lot 40 = .ok (.iload 7, 2) := by decide +kernel
theorem dX11_lot_42 : decode cX11_lot 42 = .ok (.isub, 1) := by decide +kernel
theorem dX11_lot_43 : decode cX11_lot 43 = .ok (.invokestatic 321, 3) := by decide +kernel
theorem dX11_lot_46 : decode cX11_lot 46 = .ok (.iload 4, 2) := by decide +kernel
theorem dX11_lot_48 : decode cX11_lot 48 = .ok (.if_icmp .lt 12, 3) := by decide +kernel
theorem dX11_lot_51 : decode cX11_lot 51 = .ok (.iload_n 3, 1) := by decide +kernel
theorem dX11_lot_52 : decode cX11_lot 52 = .ok (.iload 7, 2) := by decide +kernel
theorem dX11_lot_54 : decode cX11_lot 54 = .ok (.invokestatic 326, 3) := by decide +kernel
theorem dX11_lot_57 : decode cX11_lot 57 = .ok (.goto 4, 3) := by decide +kernel
theorem dX11_lot_60 : decode cX11_lot 60 = .ok (.lconst 0, 1) := by decide +kernel
theorem dX11_lot_61 : decode cX11_lot 61 = .ok (.ladd, 1) := by decide +kernel
theorem dX11_lot_62 : decode cX11_lot 62 = .ok (.lstore 5, 2) := by decide +kernel
theorem dX11_lot_64 : decode cX11_lot 64 = .ok (.iinc 7 1, 3) := by decide +kernel
theorem dX11_lot_67 : decode cX11_lot 67 = .ok (.goto (-38), 3) := by decide +kernel
theorem dX11_lot_70 : decode cX11_lot 70 = .ok (.aload_n 0, 1) := by decide +kernel
theorem dX11_lot_71 : decode cX11_lot 71 = .ok (.getfield 41, 3) := by decide +kernel
theorem dX11_lot_74 : decode cX11_lot 74 = .ok (.lload 5, 2) := by decide +kernel
theorem dX11_lot_76 : decode cX11_lot 76 = .ok (.lconst 1, 1) := by decide +kernel
theorem dX11_lot_77 : decode cX11_lot 77 = .ok (.iload_n 3, 1) := by decide +kernel
theorem dX11_lot_78 : decode cX11_lot 78 = .ok (.lshl, 1) := by decide +kernel
theorem dX11_lot_79 : decode cX11_lot 79 = .ok (.invokevirtual 302, 3) := by decide +kernel
theorem dX11_lot_82 : decode cX11_lot 82 = .ok (.iconst 0, 1) := by decide +kernel
theorem dX11_lot_83 : decode cX11_lot 83 = .ok (.ireturn, 1) := by decide +kernel
def w_X11_lot_61 (post : Int32 → sI → sJ → Prop) (k29 : Int32 → Int32 → Int64 → Int32 → sI → sJ → Prop) (x3 : Int32) (x4 : Int32) (x7 : Int32) (s0 : Int64) (s1 : Int64) (I : sI) (J : sJ) : Prop :=
  (∀ v5_62 : Int64, v5_62 = s1 + s0 → (∀ v7_64 : Int32, v7_64 = x7 + 1 → k29 x3 x4 v5_62 v7_64 I J))
set_option maxHeartbeats 4000000 in
set_option maxRecDepth 100000 in
theorem t_X11_lot_61 {X : sX} {post : Int32 → sI → sJ → Prop} (h : sOK X cX11_lot RX11 8 4 94) (hr : sRt X (some .int) (sPi post)) {k29 : Int32 → Int32 → Int64 → Int32 → sI → sJ → Prop} (hk29 : ∀ (x3 : Int32) (x4 : Int32) (x5 : Int64) (x7 : Int32) (I : sI) (J : sJ), k29 x3 x4 x5 x7 I J → sG X 8 29 [(0, .ref 0), (3, .int x3), (4, .int x4), (5, .long x5), (7, .int x7)] [] I J) {x3 : Int32} {x4 : Int32} {x7 : Int32} {s0 : Int64} {s1 : Int64} {I : sI} {J : sJ} (hw : w_X11_lot_61 post k29 x3 x4 x7 s0 s1 I J) : sG X 8 61 [(0, .ref 0), (3, .int x3), (4, .int x4), (7, .int x7)] [.long s0, .long s1] I J := by
  unfold w_X11_lot_61 at hw
  refine g_ladd h dX11_lot_61 ?_
  refine g_nl (fun v5_62 ev5_62 => ?_)
  replace hw := hw v5_62 ev5_62
  refine g_lstore (lo2 := [(5, .long v5_62), (0, .ref 0), (3, .int x3), (4, .int x4), (7, .int x7)]) h (by decide) rfl dX11_lot_62 ?_
  obtain ⟨v7_64, ev7_64⟩ : ∃ z : Int32, z = x7 + 1 := ⟨_, rfl⟩
  replace hw := hw v7_64 ev7_64
  refine g_iinc (v := v7_64) (lo2 := [(7, .int v7_64), (5, .long v5_62), (0, .ref 0), (3, .int x3), (4, .int x4)]) h 4 rfl (by rw [ev7_64]; rfl) (by decide) rfl dX11_lot_64 ?_
  refine g_goto (tgt := 29) h (by decide) dX11_lot_67 ?_
  exact g_sub [2, 3, 4, 1, 0] rfl (hk29 _ _ _ _ _ _ hw)
def w_X11_lot_29_s (post : Int32 → sI → sJ → Prop) (k29 : Int32 → Int32 → Int64 → Int32 → sI → sJ → Prop) (x3 : Int32) (x4 : Int32) (x5 : Int64) (x7 : Int32) (I : sI) (J : sJ) : Prop :=
  ((x3 < x7 → w_X6_tellFraction 134 x5 (1 <<< (Int32.toInt64 x3 &&& 63)) I J (fun (I_79 : sI) (J_79 : sJ) => (post 0 I_79 J_79))) ∧ (¬ x3 < x7 → w_J9_max_7cf53 x7 (x3 - x7) I J (fun (r_43 : Int32) (I_43 : sI) (J_43 : sJ) => (((r_43 < x4 → w_X11_lot_61 post k29 x3 x4 x7 0 x5 I_43 J_43) ∧ (¬ r_43 < x4 → w_X11_choose x3 x7 I_43 J_43 (fun (r_54 : Int64) (I_54 : sI) (J_54 : sJ) => (w_X11_lot_61 post k29 x3 x4 x7 r_54 x5 I_54 J_54))))))))
def w_X11_lot_29_n (post : Int32 → sI → sJ → Prop) : Nat → Int32 → Int32 → Int64 → Int32 → sI → sJ → Prop
  | 0 => fun _ _ _ _ _ _ => False
  | n + 1 => fun x3 x4 x5 x7 I J => w_X11_lot_29_s post (w_X11_lot_29_n post n) x3 x4 x5 x7 I J
def w_X11_lot_29 (post : Int32 → sI → sJ → Prop) (x3 : Int32) (x4 : Int32) (x5 : Int64) (x7 : Int32) (I : sI) (J : sJ) : Prop := ∃ n, w_X11_lot_29_n post n x3 x4 x5 x7 I J
set_option maxHeartbeats 4000000 in
set_option maxRecDepth 100000 in
theorem t_X11_lot_29_s {X : sX} {post : Int32 → sI → sJ → Prop} (h : sOK X cX11_lot RX11 8 4 94) (hr : sRt X (some .int) (sPi post)) {k29 : Int32 → Int32 → Int64 → Int32 → sI → sJ → Prop} (hk29 : ∀ (x3 : Int32) (x4 : Int32) (x5 : Int64) (x7 : Int32) (I : sI) (J : sJ), k29 x3 x4 x5 x7 I J → sG X 8 29 [(0, .ref 0), (3, .int x3), (4, .int x4), (5, .long x5), (7, .int x7)] [] I J) {x3 : Int32} {x4 : Int32} {x5 : Int64} {x7 : Int32} {I : sI} {J : sJ} (hw : w_X11_lot_29_s post k29 x3 x4 x5 x7 I J) : sG X 8 29 [(0, .ref 0), (3, .int x3), (4, .int x4), (5, .long x5), (7, .int x7)] [] I J := by
  unfold w_X11_lot_29_s at hw
  refine g_iload h 4 rfl dX11_lot_29 ?_
  refine g_iload_n h rfl 1 rfl dX11_lot_31 ?_
  refine g_icmp_gt (tgt := 70) h (by decide) dX11_lot_32 (fun q32 => ?_) (fun q32 => ?_)
  · replace hw := hw.1 q32
    refine g_aload_n h rfl 0 rfl dX11_lot_70 ?_
    refine g_get h is_0 fl_X11_41 fr_0_5 dX11_lot_71 ?_
    refine g_lload h 3 rfl dX11_lot_74 ?_
    refine g_lconst (v := 1) h (by decide) dX11_lot_76 ?_
    refine g_iload_n h rfl 1 rfl dX11_lot_77 ?_
    refine g_lshl h dX11_lot_78 ?_
    refine g_callV [.long x5, .long (1 <<< (Int32.toInt64 x3 &&& 63))] h (c_X6_tellFraction X is_134 hw) sPv_v mw_X6_tellFraction lk_X11_302 is_134 rfl rfl ⟨by decide, by decide⟩ (Nat.le_of_ble_eq_true rfl) dX11_lot_79 (sPv_k (fun I_79 J_79 hw => ?_))
    refine g_iconst (v := 0) h (by decide) dX11_lot_82 ?_
    exact g_iret h hr dX11_lot_83 hw
  · replace hw := hw.2 q32
    refine g_lload h 3 rfl dX11_lot_35 ?_
    refine g_iload h 4 rfl dX11_lot_37 ?_
    refine g_iload_n h rfl 1 rfl dX11_lot_39 ?_
    refine g_iload h 4 rfl dX11_lot_40 ?_
    refine g_isub h dX11_lot_42 ?_
    refine g_callS [.int x7, .int (x3 - x7)] h (c_J9_max_7cf53 X hw) sPi_v mw_J9_max_7cf53 lk_X11_321 rfl ⟨by decide, by decide⟩ (Nat.le_of_ble_eq_true rfl) dX11_lot_43 (sPi_k (fun r_43 I_43 J_43 hw => ?_))
    refine g_iload h 2 rfl dX11_lot_46 ?_
    refine g_icmp_lt (tgt := 60) h (by decide) dX11_lot_48 (fun q48 => ?_) (fun q48 => ?_)
    · replace hw := hw.1 q48
      refine g_lconst (v := 0) h (by decide) dX11_lot_60 ?_
      exact g_sub [0, 1, 2, 4] rfl (t_X11_lot_61 h hr hk29 hw)
    · replace hw := hw.2 q48
      refine g_iload_n h rfl 1 rfl dX11_lot_51 ?_
      refine g_iload h 4 rfl dX11_lot_52 ?_
      refine g_callS [.int x3, .int x7] h (c_X11_choose X hw) sPl_v mw_X11_choose lk_X11_326 rfl ⟨by decide, by decide⟩ (Nat.le_of_ble_eq_true rfl) dX11_lot_54 (sPl_k (fun r_54 I_54 J_54 hw => ?_))
      refine g_goto (tgt := 61) h (by decide) dX11_lot_57 ?_
      exact g_sub [0, 1, 2, 4] rfl (t_X11_lot_61 h hr hk29 hw)
theorem t_X11_lot_29 {X : sX} {post : Int32 → sI → sJ → Prop} (h : sOK X cX11_lot RX11 8 4 94) (hr : sRt X (some .int) (sPi post)) {x3 : Int32} {x4 : Int32} {x5 : Int64} {x7 : Int32} {I : sI} {J : sJ} (hw : w_X11_lot_29 post x3 x4 x5 x7 I J) : sG X 8 29 [(0, .ref 0), (3, .int x3), (4, .int x4), (5, .long x5), (7, .int x7)] [] I J := by
  obtain ⟨n, hw⟩ := hw
  induction n generalizing x3 x4 x5 x7 I J with
  | zero => exact hw.elim
  | succ n ih => exact t_X11_lot_29_s h hr (fun _ _ _ _ _ _ q => ih q) hw
def w_X11_lot (I : sI) (J : sJ) (post : Int32 → sI → sJ → Prop) : Prop :=
  w_X11_neighbours 1 I J (fun (r_2 : Int32) (I_2 : sI) (J_2 : sJ) => (w_X11_neighbours 0 I_2 J_2 (fun (r_8 : Int32) (I_8 : sI) (J_8 : sJ) => ((∀ v3_15 : Int32, v3_15 = r_2 + r_8 → w_J9_max_7cf53 r_2 r_8 I_8 J_8 (fun (r_18 : Int32) (I_18 : sI) (J_18 : sJ) => (w_X11_lot_29 post v3_15 r_18 0 0 I_18 J_18)))))))
set_option maxHeartbeats 4000000 in
set_option maxRecDepth 100000 in
theorem t_X11_lot {X : sX} {I : sI} {J : sJ} {post : Int32 → sI → sJ → Prop} (h : sOK X cX11_lot RX11 8 4 94) (hr : sRt X (some .int) (sPi post)) (hw : w_X11_lot I J post) : sG X 8 0 [(0, .ref 0)] [] I J := by
  unfold w_X11_lot at hw
  refine g_aload_n h rfl 0 rfl dX11_lot_0 ?_
  refine g_iconst (v := 1) h (by decide) dX11_lot_1 ?_
  refine g_callV [.int 1] h (c_X11_neighbours X hw) sPi_v mw_X11_neighbours lk_X11_317 is_0 rfl rfl ⟨by decide, by decide⟩ (Nat.le_of_ble_eq_true rfl) dX11_lot_2 (sPi_k (fun r_2 I_2 J_2 hw => ?_))
  refine g_istore_n (lo2 := [(1, .int r_2), (0, .ref 0)]) h rfl (by decide) rfl dX11_lot_5 ?_
  refine g_aload_n h rfl 1 rfl dX11_lot_6 ?_
  refine g_iconst (v := 0) h (by decide) dX11_lot_7 ?_
  refine g_callV [.int 0] h (c_X11_neighbours X hw) sPi_v mw_X11_neighbours lk_X11_317 is_0 rfl rfl ⟨by decide, by decide⟩ (Nat.le_of_ble_eq_true rfl) dX11_lot_8 (sPi_k (fun r_8 I_8 J_8 hw => ?_))
  refine g_istore_n (lo2 := [(2, .int r_8), (1, .int r_2), (0, .ref 0)]) h rfl (by decide) rfl dX11_lot_11 ?_
  refine g_iload_n h rfl 1 rfl dX11_lot_12 ?_
  refine g_iload_n h rfl 0 rfl dX11_lot_13 ?_
  refine g_iadd h dX11_lot_14 ?_
  refine g_ni (fun v3_15 ev3_15 => ?_)
  replace hw := hw v3_15 ev3_15
  refine g_istore_n (lo2 := [(3, .int v3_15), (2, .int r_8), (1, .int r_2), (0, .ref 0)]) h rfl (by decide) rfl dX11_lot_15 ?_
  refine g_iload_n h rfl 2 rfl dX11_lot_16 ?_
  refine g_iload_n h rfl 1 rfl dX11_lot_17 ?_
  refine g_callS [.int r_2, .int r_8] h (c_J9_max_7cf53 X hw) sPi_v mw_J9_max_7cf53 lk_X11_321 rfl ⟨by decide, by decide⟩ (Nat.le_of_ble_eq_true rfl) dX11_lot_18 (sPi_k (fun r_18 I_18 J_18 hw => ?_))
  refine g_istore (lo2 := [(4, .int r_18), (3, .int v3_15), (2, .int r_8), (1, .int r_2), (0, .ref 0)]) h (by decide) rfl dX11_lot_21 ?_
  refine g_lconst (v := 0) h (by decide) dX11_lot_23 ?_
  refine g_lstore (lo2 := [(5, .long 0), (4, .int r_18), (3, .int v3_15), (2, .int r_8), (1, .int r_2), (0, .ref 0)]) h (by decide) rfl dX11_lot_24 ?_
  refine g_iconst (v := 0) h (by decide) dX11_lot_26 ?_
  refine g_istore (lo2 := [(7, .int 0), (5, .long 0), (4, .int r_18), (3, .int v3_15), (2, .int r_8), (1, .int r_2), (0, .ref 0)]) h (by decide) rfl dX11_lot_27 ?_
  exact g_sub [6, 3, 2, 1, 0] rfl (t_X11_lot_29 h hr hw)
theorem c_X11_lot (X : sX) {I : sI} {J : sJ} {post : Int32 → sI → sJ → Prop} (hw : w_X11_lot I J post) : sCall X yX11_lot cX11_lot 8 (some .int) 4 94 [.ref 0] I J (sPi post) := sCall_of (by decide +kernel) (Nat.le_of_ble_eq_true rfl) (fun X h hr => t_X11_lot h hr hw)
theorem dX11_mend_0 : decode cX11_mend 0 = .ok (.aload_n 0, 1) := by decide +kernel
theorem dX11_mend_1 : decode cX11_mend 1 = .ok (.getfield 19, 3) := by decide +kernel
theorem dX11_mend_4 : decode cX11_mend 4 = .ok (.getfield 124, 3) := by decide +kernel
theorem dX11_mend_7 : decode cX11_mend 7 = .ok (.astore_n 1, 1) := by decide +kernel
theorem dX11_mend_8 : decode cX11_mend 8 = .ok (.aload_n 1, 1) := by decide +kernel
theorem dX11_mend_9 : decode cX11_mend 9 = .ok (.invokevirtual 305, 3) := by decide +kernel
theorem dX11_mend_12 : decode cX11_mend 12 = .ok (.istore_n 2, 1) := by decide +kernel
theorem dX11_mend_13 : decode cX11_mend 13 = .ok (.bipush 13, 2) := by decide +kernel
theorem dX11_mend_15 : decode cX11_mend 15 = .ok (.istore_n 3, 1) := by decide +kernel
theorem dX11_mend_16 : decode cX11_mend 16 = .ok (.iconst 0, 1) := by decide +kernel
theorem dX11_mend_17 : decode cX11_mend 17 = .ok (.istore 4, 2) := by decide +kernel
theorem dX11_mend_19 : decode cX11_mend 19 = .ok (.iconst 0, 1) := by decide +kernel
theorem dX11_mend_20 : decode cX11_mend 20 = .ok (.istore 5, 2) := by decide +kernel
theorem dX11_mend_22 : decode cX11_mend 22 = .ok (.iload 5, 2) := by decide +kernel
theorem dX11_mend_24 : decode cX11_mend 24 = .ok (.iload_n 2, 1) := by decide +kernel
theorem dX11_mend_25 : decode cX11_mend 25 = .ok (.if_icmp .gt 41, 3) := by decide +kernel
theorem dX11_mend_28 : decode cX11_mend 28 = .ok (.iload 5, 2) := by decide +kernel
theorem dX11_mend_30 : decode cX11_mend 30 = .ok (.invokestatic 216, 3) := by decide +kernel
theorem dX11_mend_33 : decode cX11_mend 33 = .ok (.iload_n 3, 1) := by decide +kernel
theorem dX11_mend_34 : decode cX11_mend 34 = .ok (.if_icmp .ge 26, 3) := by decide +kernel
theorem dX11_mend_37 : decode cX11_mend 37 = .ok (.aload_n 1, 1) := by decide +kernel
theorem dX11_mend_38 : decode cX11_mend 38 = .ok (.iload_n 2, 1) := by decide +kernel
theorem dX11_mend_39 : decode cX11_mend 39 = .ok (.iload 5, 2) := by decide +kernel
theorem dX11_mend_41 : decode cX11_mend 41 = .ok (.iconst (-1), 1) := by decide +kernel
theorem dX11_mend_42 : decode cX11_mend 42 = .ok (.ixor, 1) := by decide +kernel
theorem dX11_mend_43 : decode cX11_mend 43 = .ok (.iand, 1) := by decide +kernel
theorem dX11_mend_44 : decode cX11_mend 44 = .ok (.invokevirtual 308, 3) := by decide +kernel
theorem dX11_mend_47 : decode cX11_mend 47 = .ok (.ifCond .eq 13, 3) := by decide +kernel
theorem dX11_mend_50 : decode cX11_mend 50 = .ok (.iload 5, 2) := by decide +kernel
theorem dX11_mend_52 : decode cX11_mend 52 = .ok (.invokestatic 216, 3) := by decide +kernel
theorem dX11_mend_55 : decode cX11_mend 55 = .ok (.istore_n 3, 1) := by decide +kernel
theorem dX11_mend_56 : decode cX11_mend 56 = .ok (.iload 5, 2) := by decide +kernel
theorem dX11_mend_58 : decode cX11_mend 58 = .ok (.istore 4, 2) := by decide +kernel
theorem dX11_mend_60 : decode cX11_mend 60 = .ok (.iinc 5 1, 3) := by decide +kernel
theorem dX11_mend_63 : decode cX11_mend 63 = .ok (.goto (-41), 3) := by decide +kernel
theorem dX11_mend_66 : decode cX11_mend 66 = .ok (.aload_n 0, 1) := by decide +kernel
theorem dX11_mend_67 : decode cX11_mend 67 = .ok (.getfield 41, 3) := by decide +kernel
theorem dX11_mend_70 : decode cX11_mend 70 = .ok (.iload 4, 2) := by decide +kernel
theorem dX11_mend_72 : decode cX11_mend 72 = .ok (.i2l, 1) := by decide +kernel
theorem dX11_mend_73 : decode cX11_mend 73 = .ok (.invokevirtual 256, 3) := by decide +kernel
theorem dX11_mend_76 : decode cX11_mend 76 = .ok (.iload_n 3, 1) := by decide +kernel
theorem dX11_mend_77 : decode cX11_mend 77 = .ok (.ireturn, 1) := by decide +kernel
def w_X11_mend_60 (post : Int32 → sI → sJ → Prop) (k22 : Int32 → Int32 → Int32 → Int32 → sI → sJ → Prop) (x2 : Int32) (x3 : Int32) (x4 : Int32) (x5 : Int32) (I : sI) (J : sJ) : Prop :=
  (∀ v5_60 : Int32, v5_60 = x5 + 1 → k22 x2 x3 x4 v5_60 I J)
set_option maxHeartbeats 4000000 in
set_option maxRecDepth 100000 in
theorem t_X11_mend_60 {X : sX} {post : Int32 → sI → sJ → Prop} (h : sOK X cX11_mend RX11 6 2 48) (hr : sRt X (some .int) (sPi post)) {k22 : Int32 → Int32 → Int32 → Int32 → sI → sJ → Prop} (hk22 : ∀ (x2 : Int32) (x3 : Int32) (x4 : Int32) (x5 : Int32) (I : sI) (J : sJ), k22 x2 x3 x4 x5 I J → sG X 6 22 [(0, .ref 0), (1, .ref 8), (2, .int x2), (3, .int x3), (4, .int x4), (5, .int x5)] [] I J) {x2 : Int32} {x3 : Int32} {x4 : Int32} {x5 : Int32} {I : sI} {J : sJ} (hw : w_X11_mend_60 post k22 x2 x3 x4 x5 I J) : sG X 6 60 [(0, .ref 0), (1, .ref 8), (2, .int x2), (3, .int x3), (4, .int x4), (5, .int x5)] [] I J := by
  unfold w_X11_mend_60 at hw
  obtain ⟨v5_60, ev5_60⟩ : ∃ z : Int32, z = x5 + 1 := ⟨_, rfl⟩
  replace hw := hw v5_60 ev5_60
  refine g_iinc (v := v5_60) (lo2 := [(5, .int v5_60), (0, .ref 0), (1, .ref 8), (2, .int x2), (3, .int x3), (4, .int x4)]) h 5 rfl (by rw [ev5_60]; rfl) (by decide) rfl dX11_mend_60 ?_
  refine g_goto (tgt := 22) h (by decide) dX11_mend_63 ?_
  exact g_sub [1, 2, 3, 4, 5, 0] rfl (hk22 _ _ _ _ _ _ hw)
def w_X11_mend_22_s (post : Int32 → sI → sJ → Prop) (k22 : Int32 → Int32 → Int32 → Int32 → sI → sJ → Prop) (x2 : Int32) (x3 : Int32) (x4 : Int32) (x5 : Int32) (I : sI) (J : sJ) : Prop :=
  ((x2 < x5 → w_X6_tell 134 (Int32.toInt64 x4) I J (fun (I_73 : sI) (J_73 : sJ) => (post x3 I_73 J_73))) ∧ (¬ x2 < x5 → w_J6_bitCount_0f7a4 x5 I J (fun (r_30 : Int32) (I_30 : sI) (J_30 : sJ) => (((x3 ≤ r_30 → w_X11_mend_60 post k22 x2 x3 x4 x5 I_30 J_30) ∧ (¬ x3 ≤ r_30 → w_X4_ringFree 8 (x2 &&& (x5 ^^^ (-1))) I_30 J_30 (fun (r_44 : Int32) (I_44 : sI) (J_44 : sJ) => (((r_44 = 0 → w_X11_mend_60 post k22 x2 x3 x4 x5 I_44 J_44) ∧ (¬ r_44 = 0 → w_J6_bitCount_0f7a4 x5 I_44 J_44 (fun (r_52 : Int32) (I_52 : sI) (J_52 : sJ) => (w_X11_mend_60 post k22 x2 r_52 x5 x5 I_52 J_52))))))))))))
def w_X11_mend_22_n (post : Int32 → sI → sJ → Prop) : Nat → Int32 → Int32 → Int32 → Int32 → sI → sJ → Prop
  | 0 => fun _ _ _ _ _ _ => False
  | n + 1 => fun x2 x3 x4 x5 I J => w_X11_mend_22_s post (w_X11_mend_22_n post n) x2 x3 x4 x5 I J
def w_X11_mend_22 (post : Int32 → sI → sJ → Prop) (x2 : Int32) (x3 : Int32) (x4 : Int32) (x5 : Int32) (I : sI) (J : sJ) : Prop := ∃ n, w_X11_mend_22_n post n x2 x3 x4 x5 I J
set_option maxHeartbeats 4000000 in
set_option maxRecDepth 100000 in
theorem t_X11_mend_22_s {X : sX} {post : Int32 → sI → sJ → Prop} (h : sOK X cX11_mend RX11 6 2 48) (hr : sRt X (some .int) (sPi post)) {k22 : Int32 → Int32 → Int32 → Int32 → sI → sJ → Prop} (hk22 : ∀ (x2 : Int32) (x3 : Int32) (x4 : Int32) (x5 : Int32) (I : sI) (J : sJ), k22 x2 x3 x4 x5 I J → sG X 6 22 [(0, .ref 0), (1, .ref 8), (2, .int x2), (3, .int x3), (4, .int x4), (5, .int x5)] [] I J) {x2 : Int32} {x3 : Int32} {x4 : Int32} {x5 : Int32} {I : sI} {J : sJ} (hw : w_X11_mend_22_s post k22 x2 x3 x4 x5 I J) : sG X 6 22 [(0, .ref 0), (1, .ref 8), (2, .int x2), (3, .int x3), (4, .int x4), (5, .int x5)] [] I J := by
  unfold w_X11_mend_22_s at hw
  refine g_iload h 5 rfl dX11_mend_22 ?_
  refine g_iload_n h rfl 2 rfl dX11_mend_24 ?_
  refine g_icmp_gt (tgt := 66) h (by decide) dX11_mend_25 (fun q25 => ?_) (fun q25 => ?_)
  · replace hw := hw.1 q25
    refine g_aload_n h rfl 0 rfl dX11_mend_66 ?_
    refine g_get h is_0 fl_X11_41 fr_0_5 dX11_mend_67 ?_
    refine g_iload h 4 rfl dX11_mend_70 ?_
    refine g_i2l h dX11_mend_72 ?_
    refine g_callV [.long (Int32.toInt64 x4)] h (c_X6_tell X is_134 hw) sPv_v mw_X6_tell lk_X11_256 is_134 rfl rfl ⟨by decide, by decide⟩ (Nat.le_of_ble_eq_true rfl) dX11_mend_73 (sPv_k (fun I_73 J_73 hw => ?_))
    refine g_iload_n h rfl 3 rfl dX11_mend_76 ?_
    exact g_iret h hr dX11_mend_77 hw
  · replace hw := hw.2 q25
    refine g_iload h 5 rfl dX11_mend_28 ?_
    refine g_callS [.int x5] h (c_J6_bitCount_0f7a4 X hw) sPi_v mw_J6_bitCount_0f7a4 lk_X11_216 rfl ⟨by decide, by decide⟩ (Nat.le_of_ble_eq_true rfl) dX11_mend_30 (sPi_k (fun r_30 I_30 J_30 hw => ?_))
    refine g_iload_n h rfl 3 rfl dX11_mend_33 ?_
    refine g_icmp_ge (tgt := 60) h (by decide) dX11_mend_34 (fun q34 => ?_) (fun q34 => ?_)
    · replace hw := hw.1 q34
      exact g_sub [0, 1, 2, 3, 4, 5] rfl (t_X11_mend_60 h hr hk22 hw)
    · replace hw := hw.2 q34
      refine g_aload_n h rfl 1 rfl dX11_mend_37 ?_
      refine g_iload_n h rfl 2 rfl dX11_mend_38 ?_
      refine g_iload h 5 rfl dX11_mend_39 ?_
      refine g_iconst (v := (-1)) h (by decide) dX11_mend_41 ?_
      refine g_ixor h dX11_mend_42 ?_
      refine g_iand h dX11_mend_43 ?_
      refine g_callV [.int (x2 &&& (x5 ^^^ (-1)))] h (c_X4_ringFree X is_8 hw) sPi_v mw_X4_ringFree lk_X11_308 is_8 rfl rfl ⟨by decide, by decide⟩ (Nat.le_of_ble_eq_true rfl) dX11_mend_44 (sPi_k (fun r_44 I_44 J_44 hw => ?_))
      refine g_if_eq (tgt := 60) h (by decide) dX11_mend_47 (fun q47 => ?_) (fun q47 => ?_)
      · replace hw := hw.1 q47
        exact g_sub [0, 1, 2, 3, 4, 5] rfl (t_X11_mend_60 h hr hk22 hw)
      · replace hw := hw.2 q47
        refine g_iload h 5 rfl dX11_mend_50 ?_
        refine g_callS [.int x5] h (c_J6_bitCount_0f7a4 X hw) sPi_v mw_J6_bitCount_0f7a4 lk_X11_216 rfl ⟨by decide, by decide⟩ (Nat.le_of_ble_eq_true rfl) dX11_mend_52 (sPi_k (fun r_52 I_52 J_52 hw => ?_))
        refine g_istore_n (lo2 := [(3, .int r_52), (0, .ref 0), (1, .ref 8), (2, .int x2), (4, .int x4), (5, .int x5)]) h rfl (by decide) rfl dX11_mend_55 ?_
        refine g_iload h 5 rfl dX11_mend_56 ?_
        refine g_istore (lo2 := [(4, .int x5), (3, .int r_52), (0, .ref 0), (1, .ref 8), (2, .int x2), (5, .int x5)]) h (by decide) rfl dX11_mend_58 ?_
        exact g_sub [2, 3, 4, 1, 0, 5] rfl (t_X11_mend_60 h hr hk22 hw)
theorem t_X11_mend_22 {X : sX} {post : Int32 → sI → sJ → Prop} (h : sOK X cX11_mend RX11 6 2 48) (hr : sRt X (some .int) (sPi post)) {x2 : Int32} {x3 : Int32} {x4 : Int32} {x5 : Int32} {I : sI} {J : sJ} (hw : w_X11_mend_22 post x2 x3 x4 x5 I J) : sG X 6 22 [(0, .ref 0), (1, .ref 8), (2, .int x2), (3, .int x3), (4, .int x4), (5, .int x5)] [] I J := by
  obtain ⟨n, hw⟩ := hw
  induction n generalizing x2 x3 x4 x5 I J with
  | zero => exact hw.elim
  | succ n ih => exact t_X11_mend_22_s h hr (fun _ _ _ _ _ _ q => ih q) hw
def w_X11_mend (I : sI) (J : sJ) (post : Int32 → sI → sJ → Prop) : Prop :=
  w_X4_all 8 I J (fun (r_9 : Int32) (I_9 : sI) (J_9 : sJ) => (w_X11_mend_22 post r_9 13 0 0 I_9 J_9))
set_option maxHeartbeats 4000000 in
set_option maxRecDepth 100000 in
theorem t_X11_mend {X : sX} {I : sI} {J : sJ} {post : Int32 → sI → sJ → Prop} (h : sOK X cX11_mend RX11 6 2 48) (hr : sRt X (some .int) (sPi post)) (hw : w_X11_mend I J post) : sG X 6 0 [(0, .ref 0)] [] I J := by
  unfold w_X11_mend at hw
  refine g_aload_n h rfl 0 rfl dX11_mend_0 ?_
  refine g_get h is_0 fl_X11_19 fr_0_1 dX11_mend_1 ?_
  refine g_get h is_3 fl_X11_124 fr_3_1 dX11_mend_4 ?_
  refine g_astore_n (lo2 := [(1, .ref 8), (0, .ref 0)]) h rfl (by decide) rfl dX11_mend_7 ?_
  refine g_aload_n h rfl 0 rfl dX11_mend_8 ?_
  refine g_callV [] h (c_X4_all X is_8 hw) sPi_v mw_X4_all lk_X11_305 is_8 rfl rfl ⟨by decide, by decide⟩ (Nat.le_of_ble_eq_true rfl) dX11_mend_9 (sPi_k (fun r_9 I_9 J_9 hw => ?_))
  refine g_istore_n (lo2 := [(2, .int r_9), (1, .ref 8), (0, .ref 0)]) h rfl (by decide) rfl dX11_mend_12 ?_
  refine g_bipush (v := 13) h (by decide) dX11_mend_13 ?_
  refine g_istore_n (lo2 := [(3, .int 13), (2, .int r_9), (1, .ref 8), (0, .ref 0)]) h rfl (by decide) rfl dX11_mend_15 ?_
  refine g_iconst (v := 0) h (by decide) dX11_mend_16 ?_
  refine g_istore (lo2 := [(4, .int 0), (3, .int 13), (2, .int r_9), (1, .ref 8), (0, .ref 0)]) h (by decide) rfl dX11_mend_17 ?_
  refine g_iconst (v := 0) h (by decide) dX11_mend_19 ?_
  refine g_istore (lo2 := [(5, .int 0), (4, .int 0), (3, .int 13), (2, .int r_9), (1, .ref 8), (0, .ref 0)]) h (by decide) rfl dX11_mend_20 ?_
  exact g_sub [5, 4, 3, 2, 1, 0] rfl (t_X11_mend_22 h hr hw)
theorem c_X11_mend (X : sX) {I : sI} {J : sJ} {post : Int32 → sI → sJ → Prop} (hw : w_X11_mend I J post) : sCall X yX11_mend cX11_mend 6 (some .int) 2 48 [.ref 0] I J (sPi post) := sCall_of (by decide +kernel) (Nat.le_of_ble_eq_true rfl) (fun X h hr => t_X11_mend h hr hw)
theorem dX11_unlikeKinds_0 : decode cX11_unlikeKinds 0 = .ok (.iconst 0, 1) := by decide +kernel
theorem dX11_unlikeKinds_1 : decode cX11_unlikeKinds 1 = .ok (.istore_n 1, 1) := by decide +kernel
theorem dX11_unlikeKinds_2 : decode cX11_unlikeKinds 2 = .ok (.iconst 0, 1) := by decide +kernel
theorem dX11_unlikeKinds_3 : decode cX11_unlikeKinds 3 = .ok (.istore_n 2, 1) := by decide +kernel
theorem dX11_unlikeKinds_4 : decode cX11_unlikeKinds 4 = .ok (.iload_n 2, 1) := by decide +kernel
theorem dX11_unlikeKinds_5 : decode cX11_unlikeKinds 5 = .ok (.bipush 12, 2) := by decide +kernel
theorem dX11_unlikeKinds_7 : decode cX11_unlikeKinds 7 = .ok (.if_icmp .ge 26, 3) := by decide +kernel
theorem dX11_unlikeKinds_10 : decode cX11_unlikeKinds 10 = .ok (.iload_n 1, 1) := by decide +kernel
theorem dX11_unlikeKinds_11 : decode cX11_unlikeKinds 11 = .ok (.aload_n 0, 1) := by decide +kernel
theorem dX11_unlikeKinds_12 : decode cX11_unlikeKinds 12 = .ok (.getfield 95, 3) := by decide +kernel
theorem dX11_unlikeKinds_15 : decode cX11_unlikeKinds 15 = .ok (.iload_n 2, 1) := by decide +kernel
theorem dX11_unlikeKinds_16 : decode cX11_unlikeKinds 16 = .ok (.iaload, 1) := by decide +kernel
theorem dX11_unlikeKinds_17 : decode cX11_unlikeKinds 17 = .ok (.ifCond .le 7, 3) := by decide +kernel
theorem dX11_unlikeKinds_20 : decode cX11_unlikeKinds 20 = .ok (.iconst 1, 1) := by decide +kernel
theorem dX11_unlikeKinds_21 : decode cX11_unlikeKinds 21 = .ok (.goto 4, 3) := by decide +kernel
theorem dX11_unlikeKinds_24 : decode cX11_unlikeKinds 24 = .ok (.iconst 0, 1) := by decide +kernel
theorem dX11_unlikeKinds_25 : decode cX11_unlikeKinds 25 = .ok (.iadd, 1) := by decide +kernel
theorem dX11_unlikeKinds_26 : decode cX11_unlikeKinds 26 = .ok (.istore_n 1, 1) := by decide +kernel
theorem dX11_unlikeKinds_27 : decode cX11_unlikeKinds 27 = .ok (.iinc 2 1, 3) := by decide +kernel
theorem dX11_unlikeKinds_30 : decode cX11_unlikeKinds 30 = .ok (.goto (-26), 3) := by decide +kernel
theorem dX11_unlikeKinds_33 : decode cX11_unlikeKinds 33 = .ok (.iload_n 1, 1) := by decide +kernel
theorem dX11_unlikeKinds_34 : decode cX11_unlikeKinds 34 = .ok (.ireturn, 1) := by decide +kernel
def w_X11_unlikeKinds_25 (post : Int32 → sI → sJ → Prop) (k4 : Int32 → Int32 → sI → sJ → Prop) (x2 : Int32) (s0 : Int32) (s1 : Int32) (I : sI) (J : sJ) : Prop :=
  (∀ v1_26 : Int32, v1_26 = s1 + s0 → (∀ v2_27 : Int32, v2_27 = x2 + 1 → k4 v1_26 v2_27 I J))
set_option maxHeartbeats 4000000 in
set_option maxRecDepth 100000 in
theorem t_X11_unlikeKinds_25 {X : sX} {post : Int32 → sI → sJ → Prop} (h : sOK X cX11_unlikeKinds RX11 3 0 0) (hr : sRt X (some .int) (sPi post)) {k4 : Int32 → Int32 → sI → sJ → Prop} (hk4 : ∀ (x1 : Int32) (x2 : Int32) (I : sI) (J : sJ), k4 x1 x2 I J → sG X 3 4 [(0, .ref 0), (1, .int x1), (2, .int x2)] [] I J) {x2 : Int32} {s0 : Int32} {s1 : Int32} {I : sI} {J : sJ} (hw : w_X11_unlikeKinds_25 post k4 x2 s0 s1 I J) : sG X 3 25 [(0, .ref 0), (2, .int x2)] [.int s0, .int s1] I J := by
  unfold w_X11_unlikeKinds_25 at hw
  refine g_iadd h dX11_unlikeKinds_25 ?_
  refine g_ni (fun v1_26 ev1_26 => ?_)
  replace hw := hw v1_26 ev1_26
  refine g_istore_n (lo2 := [(1, .int v1_26), (0, .ref 0), (2, .int x2)]) h rfl (by decide) rfl dX11_unlikeKinds_26 ?_
  obtain ⟨v2_27, ev2_27⟩ : ∃ z : Int32, z = x2 + 1 := ⟨_, rfl⟩
  replace hw := hw v2_27 ev2_27
  refine g_iinc (v := v2_27) (lo2 := [(2, .int v2_27), (1, .int v1_26), (0, .ref 0)]) h 2 rfl (by rw [ev2_27]; rfl) (by decide) rfl dX11_unlikeKinds_27 ?_
  refine g_goto (tgt := 4) h (by decide) dX11_unlikeKinds_30 ?_
  exact g_sub [2, 1, 0] rfl (hk4 _ _ _ _ hw)
def w_X11_unlikeKinds_4_s (post : Int32 → sI → sJ → Prop) (k4 : Int32 → Int32 → sI → sJ → Prop) (x1 : Int32) (x2 : Int32) (I : sI) (J : sJ) : Prop :=
  ((12 ≤ x2 → post x1 I J) ∧ (¬ 12 ≤ x2 → (vp_in x2 13 ∧ (((I 247 (Int32.toNatClampNeg x2)) ≤ 0 → w_X11_unlikeKinds_25 post k4 x2 0 x1 I J) ∧ (¬ (I 247 (Int32.toNatClampNeg x2)) ≤ 0 → w_X11_unlikeKinds_25 post k4 x2 1 x1 I J)))))
def w_X11_unlikeKinds_4_n (post : Int32 → sI → sJ → Prop) : Nat → Int32 → Int32 → sI → sJ → Prop
  | 0 => fun _ _ _ _ => False
  | n + 1 => fun x1 x2 I J => w_X11_unlikeKinds_4_s post (w_X11_unlikeKinds_4_n post n) x1 x2 I J
def w_X11_unlikeKinds_4 (post : Int32 → sI → sJ → Prop) (x1 : Int32) (x2 : Int32) (I : sI) (J : sJ) : Prop := ∃ n, w_X11_unlikeKinds_4_n post n x1 x2 I J
set_option maxHeartbeats 4000000 in
set_option maxRecDepth 100000 in
theorem t_X11_unlikeKinds_4_s {X : sX} {post : Int32 → sI → sJ → Prop} (h : sOK X cX11_unlikeKinds RX11 3 0 0) (hr : sRt X (some .int) (sPi post)) {k4 : Int32 → Int32 → sI → sJ → Prop} (hk4 : ∀ (x1 : Int32) (x2 : Int32) (I : sI) (J : sJ), k4 x1 x2 I J → sG X 3 4 [(0, .ref 0), (1, .int x1), (2, .int x2)] [] I J) {x1 : Int32} {x2 : Int32} {I : sI} {J : sJ} (hw : w_X11_unlikeKinds_4_s post k4 x1 x2 I J) : sG X 3 4 [(0, .ref 0), (1, .int x1), (2, .int x2)] [] I J := by
  unfold w_X11_unlikeKinds_4_s at hw
  refine g_iload_n h rfl 2 rfl dX11_unlikeKinds_4 ?_
  refine g_bipush (v := 12) h (by decide) dX11_unlikeKinds_5 ?_
  refine g_icmp_ge (tgt := 33) h (by decide) dX11_unlikeKinds_7 (fun q7 => ?_) (fun q7 => ?_)
  · replace hw := hw.1 q7
    refine g_iload_n h rfl 1 rfl dX11_unlikeKinds_33 ?_
    exact g_iret h hr dX11_unlikeKinds_34 hw
  · replace hw := hw.2 q7
    refine g_iload_n h rfl 1 rfl dX11_unlikeKinds_10 ?_
    refine g_aload_n h rfl 0 rfl dX11_unlikeKinds_11 ?_
    refine g_get h is_0 fl_X11_95 fr_0_14 dX11_unlikeKinds_12 ?_
    refine g_iload_n h rfl 2 rfl dX11_unlikeKinds_15 ?_
    obtain ⟨hi16, hw⟩ := hw
    refine g_iald h ar_247 hi16 dX11_unlikeKinds_16 ?_
    refine g_if_le (tgt := 24) h (by decide) dX11_unlikeKinds_17 (fun q17 => ?_) (fun q17 => ?_)
    · replace hw := hw.1 q17
      refine g_iconst (v := 0) h (by decide) dX11_unlikeKinds_24 ?_
      exact g_sub [0, 2] rfl (t_X11_unlikeKinds_25 h hr hk4 hw)
    · replace hw := hw.2 q17
      refine g_iconst (v := 1) h (by decide) dX11_unlikeKinds_20 ?_
      refine g_goto (tgt := 25) h (by decide) dX11_unlikeKinds_21 ?_
      exact g_sub [0, 2] rfl (t_X11_unlikeKinds_25 h hr hk4 hw)
theorem t_X11_unlikeKinds_4 {X : sX} {post : Int32 → sI → sJ → Prop} (h : sOK X cX11_unlikeKinds RX11 3 0 0) (hr : sRt X (some .int) (sPi post)) {x1 : Int32} {x2 : Int32} {I : sI} {J : sJ} (hw : w_X11_unlikeKinds_4 post x1 x2 I J) : sG X 3 4 [(0, .ref 0), (1, .int x1), (2, .int x2)] [] I J := by
  obtain ⟨n, hw⟩ := hw
  induction n generalizing x1 x2 I J with
  | zero => exact hw.elim
  | succ n ih => exact t_X11_unlikeKinds_4_s h hr (fun _ _ _ _ q => ih q) hw
def w_X11_unlikeKinds (I : sI) (J : sJ) (post : Int32 → sI → sJ → Prop) : Prop :=
  w_X11_unlikeKinds_4 post 0 0 I J
set_option maxHeartbeats 4000000 in
set_option maxRecDepth 100000 in
theorem t_X11_unlikeKinds {X : sX} {I : sI} {J : sJ} {post : Int32 → sI → sJ → Prop} (h : sOK X cX11_unlikeKinds RX11 3 0 0) (hr : sRt X (some .int) (sPi post)) (hw : w_X11_unlikeKinds I J post) : sG X 3 0 [(0, .ref 0)] [] I J := by
  unfold w_X11_unlikeKinds at hw
  refine g_iconst (v := 0) h (by decide) dX11_unlikeKinds_0 ?_
  refine g_istore_n (lo2 := [(1, .int 0), (0, .ref 0)]) h rfl (by decide) rfl dX11_unlikeKinds_1 ?_
  refine g_iconst (v := 0) h (by decide) dX11_unlikeKinds_2 ?_
  refine g_istore_n (lo2 := [(2, .int 0), (1, .int 0), (0, .ref 0)]) h rfl (by decide) rfl dX11_unlikeKinds_3 ?_
  exact g_sub [2, 1, 0] rfl (t_X11_unlikeKinds_4 h hr hw)
theorem c_X11_unlikeKinds (X : sX) {I : sI} {J : sJ} {post : Int32 → sI → sJ → Prop} (hw : w_X11_unlikeKinds I J post) : sCall X yX11_unlikeKinds cX11_unlikeKinds 3 (some .int) 0 0 [.ref 0] I J (sPi post) := sCall_of (by decide +kernel) (Nat.le_of_ble_eq_true rfl) (fun X h hr => t_X11_unlikeKinds h hr hw)
theorem dX11_kinds_0 : decode cX11_kinds 0 = .ok (.aload_n 0, 1) := by decide +kernel
theorem dX11_kinds_1 : decode cX11_kinds 1 = .ok (.getfield 19, 3) := by decide +kernel
theorem dX11_kinds_4 : decode cX11_kinds 4 = .ok (.getfield 117, 3) := by decide +kernel
theorem dX11_kinds_7 : decode cX11_kinds 7 = .ok (.aload_n 0, 1) := by decide +kernel
theorem dX11_kinds_8 : decode cX11_kinds 8 = .ok (.getfield 95, 3) := by decide +kernel
theorem dX11_kinds_11 : decode cX11_kinds 11 = .ok (.invokevirtual 333, 3) := by decide +kernel
theorem dX11_kinds_14 : decode cX11_kinds 14 = .ok (.aload_n 0, 1) := by decide +kernel
theorem dX11_kinds_15 : decode cX11_kinds 15 = .ok (.getfield 41, 3) := by decide +kernel
theorem dX11_kinds_18 : decode cX11_kinds 18 = .ok (.iconst 0, 1) := by decide +kernel
theorem dX11_kinds_19 : decode cX11_kinds 19 = .ok (.putfield 196, 3) := by decide +kernel
theorem dX11_kinds_22 : decode cX11_kinds 22 = .ok (.iconst 0, 1) := by decide +kernel
theorem dX11_kinds_23 : decode cX11_kinds 23 = .ok (.istore_n 1, 1) := by decide +kernel
theorem dX11_kinds_24 : decode cX11_kinds 24 = .ok (.iload_n 1, 1) := by decide +kernel
theorem dX11_kinds_25 : decode cX11_kinds 25 = .ok (.bipush 12, 2) := by decide +kernel
theorem dX11_kinds_27 : decode cX11_kinds 27 = .ok (.if_icmp .gt 23, 3) := by decide +kernel
theorem dX11_kinds_30 : decode cX11_kinds 30 = .ok (.aload_n 0, 1) := by decide +kernel
theorem dX11_kinds_31 : decode cX11_kinds 31 = .ok (.getfield 41, 3) := by decide +kernel
theorem dX11_kinds_34 : decode cX11_kinds 34 = .ok (.aload_n 0, 1) := by decide +kernel
theorem dX11_kinds_35 : decode cX11_kinds 35 = .ok (.getfield 95, 3) := by decide +kernel
theorem dX11_kinds_38 : decode cX11_kinds 38 = .ok (.iload_n 1, 1) := by decide +kernel
theorem dX11_kinds_39 : decode cX11_kinds 39 = .ok (.iaload, 1) := by decide +kernel
theorem dX11_kinds_40 : decode cX11_kinds 40 = .ok (.i2l, 1) := by decide +kernel
theorem dX11_kinds_41 : decode cX11_kinds 41 = .ok (.invokevirtual 227, 3) := by decide +kernel
theorem dX11_kinds_44 : decode cX11_kinds 44 = .ok (.iinc 1 1, 3) := by decide +kernel
theorem dX11_kinds_47 : decode cX11_kinds 47 = .ok (.goto (-23), 3) := by decide +kernel
theorem dX11_kinds_50 : decode cX11_kinds 50 = .ok (.aload_n 0, 1) := by decide +kernel
theorem dX11_kinds_51 : decode cX11_kinds 51 = .ok (.invokevirtual 337, 3) := by decide +kernel
theorem dX11_kinds_54 : decode cX11_kinds 54 = .ok (.ireturn, 1) := by decide +kernel
def w_X11_kinds_24_s (post : Int32 → sI → sJ → Prop) (k24 : Int32 → sI → sJ → Prop) (x1 : Int32) (I : sI) (J : sJ) : Prop :=
  ((12 < x1 → w_X11_unlikeKinds I J (fun (r_51 : Int32) (I_51 : sI) (J_51 : sJ) => (post r_51 I_51 J_51))) ∧ (¬ 12 < x1 → (vp_in x1 13 ∧ w_X6_put 134 (Int32.toInt64 (I 247 (Int32.toNatClampNeg x1))) I J (fun (I_41 : sI) (J_41 : sJ) => ((∀ v1_44 : Int32, v1_44 = x1 + 1 → k24 v1_44 I_41 J_41))))))
def w_X11_kinds_24_n (post : Int32 → sI → sJ → Prop) : Nat → Int32 → sI → sJ → Prop
  | 0 => fun _ _ _ => False
  | n + 1 => fun x1 I J => w_X11_kinds_24_s post (w_X11_kinds_24_n post n) x1 I J
def w_X11_kinds_24 (post : Int32 → sI → sJ → Prop) (x1 : Int32) (I : sI) (J : sJ) : Prop := ∃ n, w_X11_kinds_24_n post n x1 I J
set_option maxHeartbeats 4000000 in
set_option maxRecDepth 100000 in
theorem t_X11_kinds_24_s {X : sX} {post : Int32 → sI → sJ → Prop} (h : sOK X cX11_kinds RX11 2 1 22) (hr : sRt X (some .int) (sPi post)) {k24 : Int32 → sI → sJ → Prop} (hk24 : ∀ (x1 : Int32) (I : sI) (J : sJ), k24 x1 I J → sG X 2 24 [(0, .ref 0), (1, .int x1)] [] I J) {x1 : Int32} {I : sI} {J : sJ} (hw : w_X11_kinds_24_s post k24 x1 I J) : sG X 2 24 [(0, .ref 0), (1, .int x1)] [] I J := by
  unfold w_X11_kinds_24_s at hw
  refine g_iload_n h rfl 1 rfl dX11_kinds_24 ?_
  refine g_bipush (v := 12) h (by decide) dX11_kinds_25 ?_
  refine g_icmp_gt (tgt := 50) h (by decide) dX11_kinds_27 (fun q27 => ?_) (fun q27 => ?_)
  · replace hw := hw.1 q27
    refine g_aload_n h rfl 0 rfl dX11_kinds_50 ?_
    refine g_callV [] h (c_X11_unlikeKinds X hw) sPi_v mw_X11_unlikeKinds lk_X11_337 is_0 rfl rfl ⟨by decide, by decide⟩ (Nat.le_of_ble_eq_true rfl) dX11_kinds_51 (sPi_k (fun r_51 I_51 J_51 hw => ?_))
    exact g_iret h hr dX11_kinds_54 hw
  · replace hw := hw.2 q27
    refine g_aload_n h rfl 0 rfl dX11_kinds_30 ?_
    refine g_get h is_0 fl_X11_41 fr_0_5 dX11_kinds_31 ?_
    refine g_aload_n h rfl 0 rfl dX11_kinds_34 ?_
    refine g_get h is_0 fl_X11_95 fr_0_14 dX11_kinds_35 ?_
    refine g_iload_n h rfl 1 rfl dX11_kinds_38 ?_
    obtain ⟨hi39, hw⟩ := hw
    refine g_iald h ar_247 hi39 dX11_kinds_39 ?_
    refine g_i2l h dX11_kinds_40 ?_
    refine g_callV [.long (Int32.toInt64 (I 247 (Int32.toNatClampNeg x1)))] h (c_X6_put X is_134 hw) sPv_v mw_X6_put lk_X11_227 is_134 rfl rfl ⟨by decide, by decide⟩ (Nat.le_of_ble_eq_true rfl) dX11_kinds_41 (sPv_k (fun I_41 J_41 hw => ?_))
    obtain ⟨v1_44, ev1_44⟩ : ∃ z : Int32, z = x1 + 1 := ⟨_, rfl⟩
    replace hw := hw v1_44 ev1_44
    refine g_iinc (v := v1_44) (lo2 := [(1, .int v1_44), (0, .ref 0)]) h 1 rfl (by rw [ev1_44]; rfl) (by decide) rfl dX11_kinds_44 ?_
    refine g_goto (tgt := 24) h (by decide) dX11_kinds_47 ?_
    exact g_sub [1, 0] rfl (hk24 _ _ _ hw)
theorem t_X11_kinds_24 {X : sX} {post : Int32 → sI → sJ → Prop} (h : sOK X cX11_kinds RX11 2 1 22) (hr : sRt X (some .int) (sPi post)) {x1 : Int32} {I : sI} {J : sJ} (hw : w_X11_kinds_24 post x1 I J) : sG X 2 24 [(0, .ref 0), (1, .int x1)] [] I J := by
  obtain ⟨n, hw⟩ := hw
  induction n generalizing x1 I J with
  | zero => exact hw.elim
  | succ n ih => exact t_X11_kinds_24_s h hr (fun _ _ _ q => ih q) hw
def w_X11_kinds (I : sI) (J : sJ) (post : Int32 → sI → sJ → Prop) : Prop :=
  w_X2_countKinds 4 I J (fun (I_11 : sI) (J_11 : sJ) => ((∀ I_19 : sI, I_19 = sUI I_11 134 1 0 → w_X11_kinds_24 post 0 I_19 J_11)))
set_option maxHeartbeats 4000000 in
set_option maxRecDepth 100000 in
theorem t_X11_kinds {X : sX} {I : sI} {J : sJ} {post : Int32 → sI → sJ → Prop} (h : sOK X cX11_kinds RX11 2 1 22) (hr : sRt X (some .int) (sPi post)) (hw : w_X11_kinds I J post) : sG X 2 0 [(0, .ref 0)] [] I J := by
  unfold w_X11_kinds at hw
  refine g_aload_n h rfl 0 rfl dX11_kinds_0 ?_
  refine g_get h is_0 fl_X11_19 fr_0_1 dX11_kinds_1 ?_
  refine g_get h is_3 fl_X11_117 fr_3_0 dX11_kinds_4 ?_
  refine g_aload_n h rfl 0 rfl dX11_kinds_7 ?_
  refine g_get h is_0 fl_X11_95 fr_0_14 dX11_kinds_8 ?_
  refine g_callV [.ref 247] h (c_X2_countKinds X is_4 hw) sPv_v mw_X2_countKinds lk_X11_333 is_4 rfl rfl ⟨by decide, by decide⟩ (Nat.le_of_ble_eq_true rfl) dX11_kinds_11 (sPv_k (fun I_11 J_11 hw => ?_))
  refine g_aload_n h rfl 0 rfl dX11_kinds_14 ?_
  refine g_get h is_0 fl_X11_41 fr_0_5 dX11_kinds_15 ?_
  refine g_iconst (v := 0) h (by decide) dX11_kinds_18 ?_
  refine g_putI h is_134 fl_X11_196 rfl rfl dX11_kinds_19 ?_
  refine g_nI (fun I_19 eI_19 => ?_)
  replace hw := hw I_19 eI_19
  refine g_iconst (v := 0) h (by decide) dX11_kinds_22 ?_
  refine g_istore_n (lo2 := [(1, .int 0), (0, .ref 0)]) h rfl (by decide) rfl dX11_kinds_23 ?_
  exact g_sub [1, 0] rfl (t_X11_kinds_24 h hr hw)
theorem c_X11_kinds (X : sX) {I : sI} {J : sJ} {post : Int32 → sI → sJ → Prop} (hw : w_X11_kinds I J post) : sCall X yX11_kinds cX11_kinds 2 (some .int) 1 22 [.ref 0] I J (sPi post) := sCall_of (by decide +kernel) (Nat.le_of_ble_eq_true rfl) (fun X h hr => t_X11_kinds h hr hw)
theorem dX11_seenSigns_0 : decode cX11_seenSigns 0 = .ok (.iconst 0, 1) := by decide +kernel
theorem dX11_seenSigns_1 : decode cX11_seenSigns 1 = .ok (.istore_n 1, 1) := by decide +kernel
theorem dX11_seenSigns_2 : decode cX11_seenSigns 2 = .ok (.iconst 0, 1) := by decide +kernel
theorem dX11_seenSigns_3 : decode cX11_seenSigns 3 = .ok (.istore_n 2, 1) := by decide +kernel
theorem dX11_seenSigns_4 : decode cX11_seenSigns 4 = .ok (.iload_n 2, 1) := by decide +kernel
theorem dX11_seenSigns_5 : decode cX11_seenSigns 5 = .ok (.bipush 12, 2) := by decide +kernel
theorem dX11_seenSigns_7 : decode cX11_seenSigns 7 = .ok (.if_icmp .ge 18, 3) := by decide +kernel
theorem dX11_seenSigns_10 : decode cX11_seenSigns 10 = .ok (.iload_n 1, 1) := by decide +kernel
theorem dX11_seenSigns_11 : decode cX11_seenSigns 11 = .ok (.aload_n 0, 1) := by decide +kernel
theorem dX11_seenSigns_12 : decode cX11_seenSigns 12 = .ok (.getfield 95, 3) := by decide +kernel
theorem dX11_seenSigns_15 : decode cX11_seenSigns 15 = .ok (.iload_n 2, 1) := by decide +kernel
theorem dX11_seenSigns_16 : decode cX11_seenSigns 16 = .ok (.iaload, 1) := by decide +kernel
theorem dX11_seenSigns_17 : decode cX11_seenSigns 17 = .ok (.iadd, 1) := by decide +kernel
theorem dX11_seenSigns_18 : decode cX11_seenSigns 18 = .ok (.istore_n 1, 1) := by decide +kernel
theorem dX11_seenSigns_19 : decode cX11_seenSigns 19 = .ok (.iinc 2 1, 3) := by decide +kernel
theorem dX11_seenSigns_22 : decode cX11_seenSigns 22 = .ok (.goto (-18), 3) := by decide +kernel
theorem dX11_seenSigns_25 : decode cX11_seenSigns 25 = .ok (.iload_n 1, 1) := by decide +kernel
theorem dX11_seenSigns_26 : decode cX11_seenSigns 26 = .ok (.ireturn, 1) := by decide +kernel
def w_X11_seenSigns_4_s (post : Int32 → sI → sJ → Prop) (k4 : Int32 → Int32 → sI → sJ → Prop) (x1 : Int32) (x2 : Int32) (I : sI) (J : sJ) : Prop :=
  ((12 ≤ x2 → post x1 I J) ∧ (¬ 12 ≤ x2 → (vp_in x2 13 ∧ (∀ v1_18 : Int32, v1_18 = x1 + (I 247 (Int32.toNatClampNeg x2)) → (∀ v2_19 : Int32, v2_19 = x2 + 1 → k4 v1_18 v2_19 I J)))))
def w_X11_seenSigns_4_n (post : Int32 → sI → sJ → Prop) : Nat → Int32 → Int32 → sI → sJ → Prop
  | 0 => fun _ _ _ _ => False
  | n + 1 => fun x1 x2 I J => w_X11_seenSigns_4_s post (w_X11_seenSigns_4_n post n) x1 x2 I J
def w_X11_seenSigns_4 (post : Int32 → sI → sJ → Prop) (x1 : Int32) (x2 : Int32) (I : sI) (J : sJ) : Prop := ∃ n, w_X11_seenSigns_4_n post n x1 x2 I J
set_option maxHeartbeats 4000000 in
set_option maxRecDepth 100000 in
theorem t_X11_seenSigns_4_s {X : sX} {post : Int32 → sI → sJ → Prop} (h : sOK X cX11_seenSigns RX11 3 0 0) (hr : sRt X (some .int) (sPi post)) {k4 : Int32 → Int32 → sI → sJ → Prop} (hk4 : ∀ (x1 : Int32) (x2 : Int32) (I : sI) (J : sJ), k4 x1 x2 I J → sG X 3 4 [(0, .ref 0), (1, .int x1), (2, .int x2)] [] I J) {x1 : Int32} {x2 : Int32} {I : sI} {J : sJ} (hw : w_X11_seenSigns_4_s post k4 x1 x2 I J) : sG X 3 4 [(0, .ref 0), (1, .int x1), (2, .int x2)] [] I J := by
  unfold w_X11_seenSigns_4_s at hw
  refine g_iload_n h rfl 2 rfl dX11_seenSigns_4 ?_
  refine g_bipush (v := 12) h (by decide) dX11_seenSigns_5 ?_
  refine g_icmp_ge (tgt := 25) h (by decide) dX11_seenSigns_7 (fun q7 => ?_) (fun q7 => ?_)
  · replace hw := hw.1 q7
    refine g_iload_n h rfl 1 rfl dX11_seenSigns_25 ?_
    exact g_iret h hr dX11_seenSigns_26 hw
  · replace hw := hw.2 q7
    refine g_iload_n h rfl 1 rfl dX11_seenSigns_10 ?_
    refine g_aload_n h rfl 0 rfl dX11_seenSigns_11 ?_
    refine g_get h is_0 fl_X11_95 fr_0_14 dX11_seenSigns_12 ?_
    refine g_iload_n h rfl 2 rfl dX11_seenSigns_15 ?_
    obtain ⟨hi16, hw⟩ := hw
    refine g_iald h ar_247 hi16 dX11_seenSigns_16 ?_
    refine g_iadd h dX11_seenSigns_17 ?_
    refine g_ni (fun v1_18 ev1_18 => ?_)
    replace hw := hw v1_18 ev1_18
    refine g_istore_n (lo2 := [(1, .int v1_18), (0, .ref 0), (2, .int x2)]) h rfl (by decide) rfl dX11_seenSigns_18 ?_
    obtain ⟨v2_19, ev2_19⟩ : ∃ z : Int32, z = x2 + 1 := ⟨_, rfl⟩
    replace hw := hw v2_19 ev2_19
    refine g_iinc (v := v2_19) (lo2 := [(2, .int v2_19), (1, .int v1_18), (0, .ref 0)]) h 2 rfl (by rw [ev2_19]; rfl) (by decide) rfl dX11_seenSigns_19 ?_
    refine g_goto (tgt := 4) h (by decide) dX11_seenSigns_22 ?_
    exact g_sub [2, 1, 0] rfl (hk4 _ _ _ _ hw)
theorem t_X11_seenSigns_4 {X : sX} {post : Int32 → sI → sJ → Prop} (h : sOK X cX11_seenSigns RX11 3 0 0) (hr : sRt X (some .int) (sPi post)) {x1 : Int32} {x2 : Int32} {I : sI} {J : sJ} (hw : w_X11_seenSigns_4 post x1 x2 I J) : sG X 3 4 [(0, .ref 0), (1, .int x1), (2, .int x2)] [] I J := by
  obtain ⟨n, hw⟩ := hw
  induction n generalizing x1 x2 I J with
  | zero => exact hw.elim
  | succ n ih => exact t_X11_seenSigns_4_s h hr (fun _ _ _ _ q => ih q) hw
def w_X11_seenSigns (I : sI) (J : sJ) (post : Int32 → sI → sJ → Prop) : Prop :=
  w_X11_seenSigns_4 post 0 0 I J
set_option maxHeartbeats 4000000 in
set_option maxRecDepth 100000 in
theorem t_X11_seenSigns {X : sX} {I : sI} {J : sJ} {post : Int32 → sI → sJ → Prop} (h : sOK X cX11_seenSigns RX11 3 0 0) (hr : sRt X (some .int) (sPi post)) (hw : w_X11_seenSigns I J post) : sG X 3 0 [(0, .ref 0)] [] I J := by
  unfold w_X11_seenSigns at hw
  refine g_iconst (v := 0) h (by decide) dX11_seenSigns_0 ?_
  refine g_istore_n (lo2 := [(1, .int 0), (0, .ref 0)]) h rfl (by decide) rfl dX11_seenSigns_1 ?_
  refine g_iconst (v := 0) h (by decide) dX11_seenSigns_2 ?_
  refine g_istore_n (lo2 := [(2, .int 0), (1, .int 0), (0, .ref 0)]) h rfl (by decide) rfl dX11_seenSigns_3 ?_
  exact g_sub [2, 1, 0] rfl (t_X11_seenSigns_4 h hr hw)
theorem c_X11_seenSigns (X : sX) {I : sI} {J : sJ} {post : Int32 → sI → sJ → Prop} (hw : w_X11_seenSigns I J post) : sCall X yX11_seenSigns cX11_seenSigns 3 (some .int) 0 0 [.ref 0] I J (sPi post) := sCall_of (by decide +kernel) (Nat.le_of_ble_eq_true rfl) (fun X h hr => t_X11_seenSigns h hr hw)
theorem dX11_likelier_0 : decode cX11_likelier 0 = .ok (.aload_n 0, 1) := by decide +kernel
theorem dX11_likelier_1 : decode cX11_likelier 1 = .ok (.invokevirtual 347, 3) := by decide +kernel
theorem dX11_likelier_4 : decode cX11_likelier 4 = .ok (.istore 4, 2) := by decide +kernel
theorem dX11_likelier_6 : decode cX11_likelier 6 = .ok (.aload_n 0, 1) := by decide +kernel
theorem dX11_likelier_7 : decode cX11_likelier 7 = .ok (.getfield 88, 3) := by decide +kernel
theorem dX11_likelier_10 : decode cX11_likelier 10 = .ok (.iconst 1, 1) := by decide +kernel
theorem dX11_likelier_11 : decode cX11_likelier 11 = .ok (.invokevirtual 371, 3) := by decide +kernel
theorem dX11_likelier_14 : decode cX11_likelier 14 = .ok (.aload_n 0, 1) := by decide +kernel
theorem dX11_likelier_15 : decode cX11_likelier 15 = .ok (.getfield 92, 3) := by decide +kernel
theorem dX11_likelier_18 : decode cX11_likelier 18 = .ok (.iconst 1, 1) := by decide +kernel
theorem dX11_likelier_19 : decode cX11_likelier 19 = .ok (.invokevirtual 371, 3) := by decide +kernel
theorem dX11_likelier_22 : decode cX11_likelier 22 = .ok (.iconst 0, 1) := by decide +kernel
theorem dX11_likelier_23 : decode cX11_likelier 23 = .ok (.istore 5, 2) := by decide +kernel
theorem dX11_likelier_25 : decode cX11_likelier 25 = .ok (.iload 5, 2) := by decide +kernel
theorem dX11_likelier_27 : decode cX11_likelier 27 = .ok (.iload_n 3, 1) := by decide +kernel
theorem dX11_likelier_28 : decode cX11_likelier 28 = .ok (.if_icmp .ge 31, 3) := by decide +kernel
theorem dX11_likelier_31 : decode cX11_likelier 31 = .ok (.aload_n 0, 1) := by decide +kernel
theorem dX11_likelier_32 : decode cX11_likelier 32 = .ok (.getfield 88, 3) := by decide +kernel
theorem dX11_likelier_35 : decode cX11_likelier 35 = .ok (.iload_n 1, 1) := by decide +kernel
theorem dX11_likelier_36 : decode cX11_likelier 36 = .ok (.iload 5, 2) := by decide +kernel
theorem dX11_likelier_38 : decode cX11_likelier 38 = .ok (.isub, 1) := by decide +kernel
theorem dX11_likelier_39 : decode cX11_likelier 39 = .ok (.invokevirtual 374, 3) := by decide +kernel
theorem dX11_likelier_42 : decode cX11_likelier 42 = .ok (.aload_n 0, 1) := by decide +kernel
theorem dX11_likelier_43 : decode cX11_likelier 43 = .ok (.getfield 92, 3) := by decide +kernel
theorem dX11_likelier_46 : decode cX11_likelier 46 = .ok (.iload_n 2, 1) := by decide +kernel
theorem dX11_likelier_47 : decode cX11_likelier 47 = .ok (.iload 5, 2) := by decide +kernel
theorem dX11_likelier_49 : decode cX11_likelier 49 = .ok (.isub, 1) := by decide +kernel
theorem dX11_likelier_50 : decode cX11_likelier 50 = .ok (.invokevirtual 374, 3) := by decide +kernel
theorem dX11_likelier_53 : decode cX11_likelier 53 = .ok (.iinc 5 1, 3) := by decide +kernel
theorem dX11_likelier_56 : decode cX11_likelier 56 = .ok (.goto (-31), 3) := by decide +kernel
theorem dX11_likelier_59 : decode cX11_likelier 59 = .ok (.aload_n 0, 1) := by decide +kernel
theorem dX11_likelier_60 : decode cX11_likelier 60 = .ok (.getfield 88, 3) := by decide +kernel
theorem dX11_likelier_63 : decode cX11_likelier 63 = .ok (.iload_n 2, 1) := by decide +kernel
theorem dX11_likelier_64 : decode cX11_likelier 64 = .ok (.iload 4, 2) := by decide +kernel
theorem dX11_likelier_66 : decode cX11_likelier 66 = .ok (.invokevirtual 377, 3) := by decide +kernel
theorem dX11_likelier_69 : decode cX11_likelier 69 = .ok (.aload_n 0, 1) := by decide +kernel
theorem dX11_likelier_70 : decode cX11_likelier 70 = .ok (.getfield 92, 3) := by decide +kernel
theorem dX11_likelier_73 : decode cX11_likelier 73 = .ok (.iload_n 1, 1) := by decide +kernel
theorem dX11_likelier_74 : decode cX11_likelier 74 = .ok (.iload 4, 2) := by decide +kernel
theorem dX11_likelier_76 : decode cX11_likelier 76 = .ok (.invokevirtual 377, 3) := by decide +kernel
theorem dX11_likelier_79 : decode cX11_likelier 79 = .ok (.aload_n 0, 1) := by decide +kernel
theorem dX11_likelier_80 : decode cX11_likelier 80 = .ok (.getfield 88, 3) := by decide +kernel
theorem dX11_likelier_83 : decode cX11_likelier 83 = .ok (.aload_n 0, 1) := by decide +kernel
theorem dX11_likelier_84 : decode cX11_likelier 84 = .ok (.getfield 92, 3) := by decide +kernel
theorem dX11_likelier_87 : decode cX11_likelier 87 = .ok (.invokevirtual 380, 3) := by decide +kernel
theorem dX11_likelier_90 : decode cX11_likelier 90 = .ok (.ireturn, 1) := by decide +kernel
def w_X11_likelier_25_s (post : Int32 → sI → sJ → Prop) (k25 : Int32 → Int32 → Int32 → Int32 → Int32 → sI → sJ → Prop) (x1 : Int32) (x2 : Int32) (x3 : Int32) (x4 : Int32) (x5 : Int32) (I : sI) (J : sJ) : Prop :=
  ((x3 ≤ x5 → w_X0_timesPower 243 x2 x4 I J (fun (I_66 : sI) (J_66 : sJ) => (w_X0_timesPower 245 x1 x4 I_66 J_66 (fun (I_76 : sI) (J_76 : sJ) => (w_X0_against 243 245 I_76 J_76 (fun (r_87 : Int32) (I_87 : sI) (J_87 : sJ) => (post r_87 I_87 J_87))))))) ∧ (¬ x3 ≤ x5 → w_X0_times 243 (x1 - x5) I J (fun (I_39 : sI) (J_39 : sJ) => (w_X0_times 245 (x2 - x5) I_39 J_39 (fun (I_50 : sI) (J_50 : sJ) => ((∀ v5_53 : Int32, v5_53 = x5 + 1 → k25 x1 x2 x3 x4 v5_53 I_50 J_50)))))))
def w_X11_likelier_25_n (post : Int32 → sI → sJ → Prop) : Nat → Int32 → Int32 → Int32 → Int32 → Int32 → sI → sJ → Prop
  | 0 => fun _ _ _ _ _ _ _ => False
  | n + 1 => fun x1 x2 x3 x4 x5 I J => w_X11_likelier_25_s post (w_X11_likelier_25_n post n) x1 x2 x3 x4 x5 I J
def w_X11_likelier_25 (post : Int32 → sI → sJ → Prop) (x1 : Int32) (x2 : Int32) (x3 : Int32) (x4 : Int32) (x5 : Int32) (I : sI) (J : sJ) : Prop := ∃ n, w_X11_likelier_25_n post n x1 x2 x3 x4 x5 I J
set_option maxHeartbeats 4000000 in
set_option maxRecDepth 100000 in
theorem t_X11_likelier_25_s {X : sX} {post : Int32 → sI → sJ → Prop} (h : sOK X cX11_likelier RX11 6 2 49) (hr : sRt X (some .int) (sPi post)) {k25 : Int32 → Int32 → Int32 → Int32 → Int32 → sI → sJ → Prop} (hk25 : ∀ (x1 : Int32) (x2 : Int32) (x3 : Int32) (x4 : Int32) (x5 : Int32) (I : sI) (J : sJ), k25 x1 x2 x3 x4 x5 I J → sG X 6 25 [(0, .ref 0), (1, .int x1), (2, .int x2), (3, .int x3), (4, .int x4), (5, .int x5)] [] I J) {x1 : Int32} {x2 : Int32} {x3 : Int32} {x4 : Int32} {x5 : Int32} {I : sI} {J : sJ} (hw : w_X11_likelier_25_s post k25 x1 x2 x3 x4 x5 I J) : sG X 6 25 [(0, .ref 0), (1, .int x1), (2, .int x2), (3, .int x3), (4, .int x4), (5, .int x5)] [] I J := by
  unfold w_X11_likelier_25_s at hw
  refine g_iload h 5 rfl dX11_likelier_25 ?_
  refine g_iload_n h rfl 3 rfl dX11_likelier_27 ?_
  refine g_icmp_ge (tgt := 59) h (by decide) dX11_likelier_28 (fun q28 => ?_) (fun q28 => ?_)
  · replace hw := hw.1 q28
    refine g_aload_n h rfl 0 rfl dX11_likelier_59 ?_
    refine g_get h is_0 fl_X11_88 fr_0_12 dX11_likelier_60 ?_
    refine g_iload_n h rfl 2 rfl dX11_likelier_63 ?_
    refine g_iload h 4 rfl dX11_likelier_64 ?_
    refine g_callV [.int x2, .int x4] h (c_X0_timesPower X is_243 hw) sPv_v mw_X0_timesPower lk_X11_377 is_243 rfl rfl ⟨by decide, by decide⟩ (Nat.le_of_ble_eq_true rfl) dX11_likelier_66 (sPv_k (fun I_66 J_66 hw => ?_))
    refine g_aload_n h rfl 0 rfl dX11_likelier_69 ?_
    refine g_get h is_0 fl_X11_92 fr_0_13 dX11_likelier_70 ?_
    refine g_iload_n h rfl 1 rfl dX11_likelier_73 ?_
    refine g_iload h 4 rfl dX11_likelier_74 ?_
    refine g_callV [.int x1, .int x4] h (c_X0_timesPower X is_245 hw) sPv_v mw_X0_timesPower lk_X11_377 is_245 rfl rfl ⟨by decide, by decide⟩ (Nat.le_of_ble_eq_true rfl) dX11_likelier_76 (sPv_k (fun I_76 J_76 hw => ?_))
    refine g_aload_n h rfl 0 rfl dX11_likelier_79 ?_
    refine g_get h is_0 fl_X11_88 fr_0_12 dX11_likelier_80 ?_
    refine g_aload_n h rfl 0 rfl dX11_likelier_83 ?_
    refine g_get h is_0 fl_X11_92 fr_0_13 dX11_likelier_84 ?_
    refine g_callV [.ref 245] h (c_X0_against X is_243 is_245 hw) sPi_v mw_X0_against lk_X11_380 is_243 rfl rfl ⟨by decide, by decide⟩ (Nat.le_of_ble_eq_true rfl) dX11_likelier_87 (sPi_k (fun r_87 I_87 J_87 hw => ?_))
    exact g_iret h hr dX11_likelier_90 hw
  · replace hw := hw.2 q28
    refine g_aload_n h rfl 0 rfl dX11_likelier_31 ?_
    refine g_get h is_0 fl_X11_88 fr_0_12 dX11_likelier_32 ?_
    refine g_iload_n h rfl 1 rfl dX11_likelier_35 ?_
    refine g_iload h 5 rfl dX11_likelier_36 ?_
    refine g_isub h dX11_likelier_38 ?_
    refine g_callV [.int (x1 - x5)] h (c_X0_times X is_243 hw) sPv_v mw_X0_times lk_X11_374 is_243 rfl rfl ⟨by decide, by decide⟩ (Nat.le_of_ble_eq_true rfl) dX11_likelier_39 (sPv_k (fun I_39 J_39 hw => ?_))
    refine g_aload_n h rfl 0 rfl dX11_likelier_42 ?_
    refine g_get h is_0 fl_X11_92 fr_0_13 dX11_likelier_43 ?_
    refine g_iload_n h rfl 2 rfl dX11_likelier_46 ?_
    refine g_iload h 5 rfl dX11_likelier_47 ?_
    refine g_isub h dX11_likelier_49 ?_
    refine g_callV [.int (x2 - x5)] h (c_X0_times X is_245 hw) sPv_v mw_X0_times lk_X11_374 is_245 rfl rfl ⟨by decide, by decide⟩ (Nat.le_of_ble_eq_true rfl) dX11_likelier_50 (sPv_k (fun I_50 J_50 hw => ?_))
    obtain ⟨v5_53, ev5_53⟩ : ∃ z : Int32, z = x5 + 1 := ⟨_, rfl⟩
    replace hw := hw v5_53 ev5_53
    refine g_iinc (v := v5_53) (lo2 := [(5, .int v5_53), (0, .ref 0), (1, .int x1), (2, .int x2), (3, .int x3), (4, .int x4)]) h 5 rfl (by rw [ev5_53]; rfl) (by decide) rfl dX11_likelier_53 ?_
    refine g_goto (tgt := 25) h (by decide) dX11_likelier_56 ?_
    exact g_sub [1, 2, 3, 4, 5, 0] rfl (hk25 _ _ _ _ _ _ _ hw)
theorem t_X11_likelier_25 {X : sX} {post : Int32 → sI → sJ → Prop} (h : sOK X cX11_likelier RX11 6 2 49) (hr : sRt X (some .int) (sPi post)) {x1 : Int32} {x2 : Int32} {x3 : Int32} {x4 : Int32} {x5 : Int32} {I : sI} {J : sJ} (hw : w_X11_likelier_25 post x1 x2 x3 x4 x5 I J) : sG X 6 25 [(0, .ref 0), (1, .int x1), (2, .int x2), (3, .int x3), (4, .int x4), (5, .int x5)] [] I J := by
  obtain ⟨n, hw⟩ := hw
  induction n generalizing x1 x2 x3 x4 x5 I J with
  | zero => exact hw.elim
  | succ n ih => exact t_X11_likelier_25_s h hr (fun _ _ _ _ _ _ _ q => ih q) hw
def w_X11_likelier (a1 : Int32) (a2 : Int32) (a3 : Int32) (I : sI) (J : sJ) (post : Int32 → sI → sJ → Prop) : Prop :=
  w_X11_seenSigns I J (fun (r_1 : Int32) (I_1 : sI) (J_1 : sJ) => (w_X0_become 243 1 I_1 J_1 (fun (I_11 : sI) (J_11 : sJ) => (w_X0_become 245 1 I_11 J_11 (fun (I_19 : sI) (J_19 : sJ) => (w_X11_likelier_25 post a1 a2 a3 r_1 0 I_19 J_19))))))
set_option maxHeartbeats 4000000 in
set_option maxRecDepth 100000 in
theorem t_X11_likelier {X : sX} {a1 : Int32} {a2 : Int32} {a3 : Int32} {I : sI} {J : sJ} {post : Int32 → sI → sJ → Prop} (h : sOK X cX11_likelier RX11 6 2 49) (hr : sRt X (some .int) (sPi post)) (hw : w_X11_likelier a1 a2 a3 I J post) : sG X 6 0 [(0, .ref 0), (1, .int a1), (2, .int a2), (3, .int a3)] [] I J := by
  unfold w_X11_likelier at hw
  refine g_aload_n h rfl 0 rfl dX11_likelier_0 ?_
  refine g_callV [] h (c_X11_seenSigns X hw) sPi_v mw_X11_seenSigns lk_X11_347 is_0 rfl rfl ⟨by decide, by decide⟩ (Nat.le_of_ble_eq_true rfl) dX11_likelier_1 (sPi_k (fun r_1 I_1 J_1 hw => ?_))
  refine g_istore (lo2 := [(4, .int r_1), (0, .ref 0), (1, .int a1), (2, .int a2), (3, .int a3)]) h (by decide) rfl dX11_likelier_4 ?_
  refine g_aload_n h rfl 1 rfl dX11_likelier_6 ?_
  refine g_get h is_0 fl_X11_88 fr_0_12 dX11_likelier_7 ?_
  refine g_iconst (v := 1) h (by decide) dX11_likelier_10 ?_
  refine g_callV [.int 1] h (c_X0_become X is_243 hw) sPv_v mw_X0_become lk_X11_371 is_243 rfl rfl ⟨by decide, by decide⟩ (Nat.le_of_ble_eq_true rfl) dX11_likelier_11 (sPv_k (fun I_11 J_11 hw => ?_))
  refine g_aload_n h rfl 1 rfl dX11_likelier_14 ?_
  refine g_get h is_0 fl_X11_92 fr_0_13 dX11_likelier_15 ?_
  refine g_iconst (v := 1) h (by decide) dX11_likelier_18 ?_
  refine g_callV [.int 1] h (c_X0_become X is_245 hw) sPv_v mw_X0_become lk_X11_371 is_245 rfl rfl ⟨by decide, by decide⟩ (Nat.le_of_ble_eq_true rfl) dX11_likelier_19 (sPv_k (fun I_19 J_19 hw => ?_))
  refine g_iconst (v := 0) h (by decide) dX11_likelier_22 ?_
  refine g_istore (lo2 := [(5, .int 0), (4, .int r_1), (0, .ref 0), (1, .int a1), (2, .int a2), (3, .int a3)]) h (by decide) rfl dX11_likelier_23 ?_
  exact g_sub [2, 3, 4, 5, 1, 0] rfl (t_X11_likelier_25 h hr hw)
theorem c_X11_likelier (X : sX) {a1 : Int32} {a2 : Int32} {a3 : Int32} {I : sI} {J : sJ} {post : Int32 → sI → sJ → Prop} (hw : w_X11_likelier a1 a2 a3 I J post) : sCall X yX11_likelier cX11_likelier 6 (some .int) 2 49 [.ref 0, .int a1, .int a2, .int a3] I J (sPi post) := sCall_of (by decide +kernel) (Nat.le_of_ble_eq_true rfl) (fun X h hr => t_X11_likelier h hr hw)
theorem dX11_many_0 : decode cX11_many 0 = .ok (.aload_n 0, 1) := by decide +kernel
theorem dX11_many_1 : decode cX11_many 1 = .ok (.getfield 19, 3) := by decide +kernel
theorem dX11_many_4 : decode cX11_many 4 = .ok (.getfield 117, 3) := by decide +kernel
theorem dX11_many_7 : decode cX11_many 7 = .ok (.aload_n 0, 1) := by decide +kernel
theorem dX11_many_8 : decode cX11_many 8 = .ok (.getfield 95, 3) := by decide +kernel
theorem dX11_many_11 : decode cX11_many 11 = .ok (.invokevirtual 333, 3) := by decide +kernel
theorem dX11_many_14 : decode cX11_many 14 = .ok (.aload_n 0, 1) := by decide +kernel
theorem dX11_many_15 : decode cX11_many 15 = .ok (.invokevirtual 337, 3) := by decide +kernel
theorem dX11_many_18 : decode cX11_many 18 = .ok (.istore_n 1, 1) := by decide +kernel
theorem dX11_many_19 : decode cX11_many 19 = .ok (.iload_n 1, 1) := by decide +kernel
theorem dX11_many_20 : decode cX11_many 20 = .ok (.ifCond .ne 5, 3) := by decide +kernel
theorem dX11_many_23 : decode cX11_many 23 = .ok (.iconst (-1), 1) := by decide +kernel
theorem dX11_many_24 : decode cX11_many 24 = .ok (.ireturn, 1) := by decide +kernel
theorem dX11_many_25 : decode cX11_many 25 = .ok (.iload_n 1, 1) := by decide +kernel
theorem dX11_many_26 : decode cX11_many 26 = .ok (.istore_n 2, 1) := by decide +kernel
theorem dX11_many_27 : decode cX11_many 27 = .ok (.iload_n 2, 1) := by decide +kernel
theorem dX11_many_28 : decode cX11_many 28 = .ok (.sipush 200, 3) := by decide +kernel
theorem dX11_many_31 : decode cX11_many 31 = .ok (.if_icmp .ge 21, 3) := by decide +kernel
theorem dX11_many_34 : decode cX11_many 34 = .ok (.aload_n 0, 1) := by decide +kernel
theorem dX11_many_35 : decode cX11_many 35 = .ok (.iload_n 2, 1) := by decide +kernel
theorem dX11_many_36 : decode cX11_many 36 = .ok (.iconst 1, 1) := by decide +kernel
theorem dX11_many_37 : decode cX11_many 37 = .ok (.iadd, 1) := by decide +kernel
theorem dX11_many_38 : decode cX11_many 38 = .ok (.iload_n 2, 1) := by decide +kernel
theorem dX11_many_39 : decode cX11_many 39 = .ok (.iload_n 1, 1) := by decide +kernel
theorem dX11_many_40 : decode cX11_many 40 = .ok (.invokevirtual 340, 3) := by decide +kernel
theorem dX11_many_43 : decode cX11_many 43 = .ok (.ifCond .le 9, 3) := by decide +kernel
theorem dX11_many_46 : decode cX11_many 46 = .ok (.iinc 2 1, 3) := by decide +kernel
theorem dX11_many_49 : decode cX11_many 49 = .ok (.goto (-22), 3) := by decide +kernel
theorem dX11_many_52 : decode cX11_many 52 = .ok (.iload_n 2, 1) := by decide +kernel
theorem dX11_many_53 : decode cX11_many 53 = .ok (.ireturn, 1) := by decide +kernel
def w_X11_many_27_s (post : Int32 → sI → sJ → Prop) (k27 : Int32 → Int32 → sI → sJ → Prop) (x1 : Int32) (x2 : Int32) (I : sI) (J : sJ) : Prop :=
  ((200 ≤ x2 → post x2 I J) ∧ (¬ 200 ≤ x2 → w_X11_likelier (x2 + 1) x2 x1 I J (fun (r_40 : Int32) (I_40 : sI) (J_40 : sJ) => (((r_40 ≤ 0 → post x2 I_40 J_40) ∧ (¬ r_40 ≤ 0 → (∀ v2_46 : Int32, v2_46 = x2 + 1 → k27 x1 v2_46 I_40 J_40)))))))
def w_X11_many_27_n (post : Int32 → sI → sJ → Prop) : Nat → Int32 → Int32 → sI → sJ → Prop
  | 0 => fun _ _ _ _ => False
  | n + 1 => fun x1 x2 I J => w_X11_many_27_s post (w_X11_many_27_n post n) x1 x2 I J
def w_X11_many_27 (post : Int32 → sI → sJ → Prop) (x1 : Int32) (x2 : Int32) (I : sI) (J : sJ) : Prop := ∃ n, w_X11_many_27_n post n x1 x2 I J
set_option maxHeartbeats 4000000 in
set_option maxRecDepth 100000 in
theorem t_X11_many_27_s {X : sX} {post : Int32 → sI → sJ → Prop} (h : sOK X cX11_many RX11 3 3 74) (hr : sRt X (some .int) (sPi post)) {k27 : Int32 → Int32 → sI → sJ → Prop} (hk27 : ∀ (x1 : Int32) (x2 : Int32) (I : sI) (J : sJ), k27 x1 x2 I J → sG X 3 27 [(0, .ref 0), (1, .int x1), (2, .int x2)] [] I J) {x1 : Int32} {x2 : Int32} {I : sI} {J : sJ} (hw : w_X11_many_27_s post k27 x1 x2 I J) : sG X 3 27 [(0, .ref 0), (1, .int x1), (2, .int x2)] [] I J := by
  unfold w_X11_many_27_s at hw
  refine g_iload_n h rfl 2 rfl dX11_many_27 ?_
  refine g_sipush (v := 200) h (by decide) dX11_many_28 ?_
  refine g_icmp_ge (tgt := 52) h (by decide) dX11_many_31 (fun q31 => ?_) (fun q31 => ?_)
  · replace hw := hw.1 q31
    refine g_iload_n h rfl 2 rfl dX11_many_52 ?_
    exact g_iret h hr dX11_many_53 hw
  · replace hw := hw.2 q31
    refine g_aload_n h rfl 0 rfl dX11_many_34 ?_
    refine g_iload_n h rfl 2 rfl dX11_many_35 ?_
    refine g_iconst (v := 1) h (by decide) dX11_many_36 ?_
    refine g_iadd h dX11_many_37 ?_
    refine g_iload_n h rfl 2 rfl dX11_many_38 ?_
    refine g_iload_n h rfl 1 rfl dX11_many_39 ?_
    refine g_callV [.int (x2 + 1), .int x2, .int x1] h (c_X11_likelier X hw) sPi_v mw_X11_likelier lk_X11_340 is_0 rfl rfl ⟨by decide, by decide⟩ (Nat.le_of_ble_eq_true rfl) dX11_many_40 (sPi_k (fun r_40 I_40 J_40 hw => ?_))
    refine g_if_le (tgt := 52) h (by decide) dX11_many_43 (fun q43 => ?_) (fun q43 => ?_)
    · replace hw := hw.1 q43
      refine g_iload_n h rfl 2 rfl dX11_many_52 ?_
      exact g_iret h hr dX11_many_53 hw
    · replace hw := hw.2 q43
      obtain ⟨v2_46, ev2_46⟩ : ∃ z : Int32, z = x2 + 1 := ⟨_, rfl⟩
      replace hw := hw v2_46 ev2_46
      refine g_iinc (v := v2_46) (lo2 := [(2, .int v2_46), (0, .ref 0), (1, .int x1)]) h 2 rfl (by rw [ev2_46]; rfl) (by decide) rfl dX11_many_46 ?_
      refine g_goto (tgt := 27) h (by decide) dX11_many_49 ?_
      exact g_sub [1, 2, 0] rfl (hk27 _ _ _ _ hw)
theorem t_X11_many_27 {X : sX} {post : Int32 → sI → sJ → Prop} (h : sOK X cX11_many RX11 3 3 74) (hr : sRt X (some .int) (sPi post)) {x1 : Int32} {x2 : Int32} {I : sI} {J : sJ} (hw : w_X11_many_27 post x1 x2 I J) : sG X 3 27 [(0, .ref 0), (1, .int x1), (2, .int x2)] [] I J := by
  obtain ⟨n, hw⟩ := hw
  induction n generalizing x1 x2 I J with
  | zero => exact hw.elim
  | succ n ih => exact t_X11_many_27_s h hr (fun _ _ _ _ q => ih q) hw
def w_X11_many (I : sI) (J : sJ) (post : Int32 → sI → sJ → Prop) : Prop :=
  w_X2_countKinds 4 I J (fun (I_11 : sI) (J_11 : sJ) => (w_X11_unlikeKinds I_11 J_11 (fun (r_15 : Int32) (I_15 : sI) (J_15 : sJ) => (((¬ r_15 = 0 → w_X11_many_27 post r_15 r_15 I_15 J_15) ∧ (r_15 = 0 → post (-1) I_15 J_15))))))
set_option maxHeartbeats 4000000 in
set_option maxRecDepth 100000 in
theorem t_X11_many {X : sX} {I : sI} {J : sJ} {post : Int32 → sI → sJ → Prop} (h : sOK X cX11_many RX11 3 3 74) (hr : sRt X (some .int) (sPi post)) (hw : w_X11_many I J post) : sG X 3 0 [(0, .ref 0)] [] I J := by
  unfold w_X11_many at hw
  refine g_aload_n h rfl 0 rfl dX11_many_0 ?_
  refine g_get h is_0 fl_X11_19 fr_0_1 dX11_many_1 ?_
  refine g_get h is_3 fl_X11_117 fr_3_0 dX11_many_4 ?_
  refine g_aload_n h rfl 0 rfl dX11_many_7 ?_
  refine g_get h is_0 fl_X11_95 fr_0_14 dX11_many_8 ?_
  refine g_callV [.ref 247] h (c_X2_countKinds X is_4 hw) sPv_v mw_X2_countKinds lk_X11_333 is_4 rfl rfl ⟨by decide, by decide⟩ (Nat.le_of_ble_eq_true rfl) dX11_many_11 (sPv_k (fun I_11 J_11 hw => ?_))
  refine g_aload_n h rfl 0 rfl dX11_many_14 ?_
  refine g_callV [] h (c_X11_unlikeKinds X hw) sPi_v mw_X11_unlikeKinds lk_X11_337 is_0 rfl rfl ⟨by decide, by decide⟩ (Nat.le_of_ble_eq_true rfl) dX11_many_15 (sPi_k (fun r_15 I_15 J_15 hw => ?_))
  refine g_istore_n (lo2 := [(1, .int r_15), (0, .ref 0)]) h rfl (by decide) rfl dX11_many_18 ?_
  refine g_iload_n h rfl 0 rfl dX11_many_19 ?_
  refine g_if_ne (tgt := 25) h (by decide) dX11_many_20 (fun q20 => ?_) (fun q20 => ?_)
  · replace hw := hw.1 q20
    refine g_iload_n h rfl 0 rfl dX11_many_25 ?_
    refine g_istore_n (lo2 := [(2, .int r_15), (1, .int r_15), (0, .ref 0)]) h rfl (by decide) rfl dX11_many_26 ?_
    exact g_sub [2, 1, 0] rfl (t_X11_many_27 h hr hw)
  · replace hw := hw.2 q20
    refine g_iconst (v := (-1)) h (by decide) dX11_many_23 ?_
    exact g_iret h hr dX11_many_24 hw
theorem c_X11_many (X : sX) {I : sI} {J : sJ} {post : Int32 → sI → sJ → Prop} (hw : w_X11_many I J post) : sCall X yX11_many cX11_many 3 (some .int) 3 74 [.ref 0] I J (sPi post) := sCall_of (by decide +kernel) (Nat.le_of_ble_eq_true rfl) (fun X h hr => t_X11_many h hr hw)
theorem dX11_oneIsTooSmall_0 : decode cX11_oneIsTooSmall 0 = .ok (.iload_n 0, 1) := by decide +kernel
theorem dX11_oneIsTooSmall_1 : decode cX11_oneIsTooSmall 1 = .ok (.iload_n 2, 1) := by decide +kernel
theorem dX11_oneIsTooSmall_2 : decode cX11_oneIsTooSmall 2 = .ok (.if_icmp .ge 11, 3) := by decide +kernel
theorem dX11_oneIsTooSmall_5 : decode cX11_oneIsTooSmall 5 = .ok (.iload_n 1, 1) := by decide +kernel
theorem dX11_oneIsTooSmall_6 : decode cX11_oneIsTooSmall 6 = .ok (.iload_n 2, 1) := by decide +kernel
theorem dX11_oneIsTooSmall_7 : decode cX11_oneIsTooSmall 7 = .ok (.if_icmp .ge 6, 3) := by decide +kernel
theorem dX11_oneIsTooSmall_10 : decode cX11_oneIsTooSmall 10 = .ok (.bipush (-2), 2) := by decide +kernel
theorem dX11_oneIsTooSmall_12 : decode cX11_oneIsTooSmall 12 = .ok (.ireturn, 1) := by decide +kernel
theorem dX11_oneIsTooSmall_13 : decode cX11_oneIsTooSmall 13 = .ok (.iload_n 0, 1) := by decide +kernel
theorem dX11_oneIsTooSmall_14 : decode cX11_oneIsTooSmall 14 = .ok (.iload_n 2, 1) := by decide +kernel
theorem dX11_oneIsTooSmall_15 : decode cX11_oneIsTooSmall 15 = .ok (.if_icmp .ge 7, 3) := by decide +kernel
theorem dX11_oneIsTooSmall_18 : decode cX11_oneIsTooSmall 18 = .ok (.iconst 1, 1) := by decide +kernel
theorem dX11_oneIsTooSmall_19 : decode cX11_oneIsTooSmall 19 = .ok (.goto 4, 3) := by decide +kernel
theorem dX11_oneIsTooSmall_22 : decode cX11_oneIsTooSmall 22 = .ok (.iconst 0, 1) := by decide +kernel
theorem dX11_oneIsTooSmall_23 : decode cX11_oneIsTooSmall 23 = .ok (.ireturn, 1) := by decide +kernel
def w_X11_oneIsTooSmall_13 (post : Int32 → sI → sJ → Prop) (x0 : Int32) (x2 : Int32) (I : sI) (J : sJ) : Prop :=
  ((x2 ≤ x0 → post 0 I J) ∧ (¬ x2 ≤ x0 → post 1 I J))
set_option maxHeartbeats 4000000 in
set_option maxRecDepth 100000 in
theorem t_X11_oneIsTooSmall_13 {X : sX} {post : Int32 → sI → sJ → Prop} (h : sOK X cX11_oneIsTooSmall RX11 3 0 0) (hr : sRt X (some .int) (sPi post)) {x0 : Int32} {x2 : Int32} {I : sI} {J : sJ} (hw : w_X11_oneIsTooSmall_13 post x0 x2 I J) : sG X 3 13 [(0, .int x0), (2, .int x2)] [] I J := by
  unfold w_X11_oneIsTooSmall_13 at hw
  refine g_iload_n h rfl 0 rfl dX11_oneIsTooSmall_13 ?_
  refine g_iload_n h rfl 1 rfl dX11_oneIsTooSmall_14 ?_
  refine g_icmp_ge (tgt := 22) h (by decide) dX11_oneIsTooSmall_15 (fun q15 => ?_) (fun q15 => ?_)
  · replace hw := hw.1 q15
    refine g_iconst (v := 0) h (by decide) dX11_oneIsTooSmall_22 ?_
    exact g_iret h hr dX11_oneIsTooSmall_23 hw
  · replace hw := hw.2 q15
    refine g_iconst (v := 1) h (by decide) dX11_oneIsTooSmall_18 ?_
    refine g_goto (tgt := 23) h (by decide) dX11_oneIsTooSmall_19 ?_
    exact g_iret h hr dX11_oneIsTooSmall_23 hw
def w_X11_oneIsTooSmall (a0 : Int32) (a1 : Int32) (a2 : Int32) (I : sI) (J : sJ) (post : Int32 → sI → sJ → Prop) : Prop :=
  ((a2 ≤ a0 → w_X11_oneIsTooSmall_13 post a0 a2 I J) ∧ (¬ a2 ≤ a0 → ((a2 ≤ a1 → w_X11_oneIsTooSmall_13 post a0 a2 I J) ∧ (¬ a2 ≤ a1 → post (-2) I J))))
set_option maxHeartbeats 4000000 in
set_option maxRecDepth 100000 in
theorem t_X11_oneIsTooSmall {X : sX} {a0 : Int32} {a1 : Int32} {a2 : Int32} {I : sI} {J : sJ} {post : Int32 → sI → sJ → Prop} (h : sOK X cX11_oneIsTooSmall RX11 3 0 0) (hr : sRt X (some .int) (sPi post)) (hw : w_X11_oneIsTooSmall a0 a1 a2 I J post) : sG X 3 0 [(0, .int a0), (1, .int a1), (2, .int a2)] [] I J := by
  unfold w_X11_oneIsTooSmall at hw
  refine g_iload_n h rfl 0 rfl dX11_oneIsTooSmall_0 ?_
  refine g_iload_n h rfl 2 rfl dX11_oneIsTooSmall_1 ?_
  refine g_icmp_ge (tgt := 13) h (by decide) dX11_oneIsTooSmall_2 (fun q2 => ?_) (fun q2 => ?_)
  · replace hw := hw.1 q2
    exact g_sub [0, 2] rfl (t_X11_oneIsTooSmall_13 h hr hw)
  · replace hw := hw.2 q2
    refine g_iload_n h rfl 1 rfl dX11_oneIsTooSmall_5 ?_
    refine g_iload_n h rfl 2 rfl dX11_oneIsTooSmall_6 ?_
    refine g_icmp_ge (tgt := 13) h (by decide) dX11_oneIsTooSmall_7 (fun q7 => ?_) (fun q7 => ?_)
    · replace hw := hw.1 q7
      exact g_sub [0, 2] rfl (t_X11_oneIsTooSmall_13 h hr hw)
    · replace hw := hw.2 q7
      refine g_bipush (v := (-2)) h (by decide) dX11_oneIsTooSmall_10 ?_
      exact g_iret h hr dX11_oneIsTooSmall_12 hw
theorem c_X11_oneIsTooSmall (X : sX) {a0 : Int32} {a1 : Int32} {a2 : Int32} {I : sI} {J : sJ} {post : Int32 → sI → sJ → Prop} (hw : w_X11_oneIsTooSmall a0 a1 a2 I J post) : sCall X yX11_oneIsTooSmall cX11_oneIsTooSmall 3 (some .int) 0 0 [.int a0, .int a1, .int a2] I J (sPi post) := sCall_of (by decide +kernel) (Nat.le_of_ble_eq_true rfl) (fun X h hr => t_X11_oneIsTooSmall h hr hw)
theorem dX11_script_0 : decode cX11_script 0 = .ok (.aload_n 0, 1) := by decide +kernel
theorem dX11_script_1 : decode cX11_script 1 = .ok (.getfield 19, 3) := by decide +kernel
theorem dX11_script_4 : decode cX11_script 4 = .ok (.getfield 117, 3) := by decide +kernel
theorem dX11_script_7 : decode cX11_script 7 = .ok (.aload_n 0, 1) := by decide +kernel
theorem dX11_script_8 : decode cX11_script 8 = .ok (.getfield 95, 3) := by decide +kernel
theorem dX11_script_11 : decode cX11_script 11 = .ok (.invokevirtual 333, 3) := by decide +kernel
theorem dX11_script_14 : decode cX11_script 14 = .ok (.aload_n 0, 1) := by decide +kernel
theorem dX11_script_15 : decode cX11_script 15 = .ok (.invokevirtual 337, 3) := by decide +kernel
theorem dX11_script_18 : decode cX11_script 18 = .ok (.istore_n 3, 1) := by decide +kernel
theorem dX11_script_19 : decode cX11_script 19 = .ok (.iload_n 3, 1) := by decide +kernel
theorem dX11_script_20 : decode cX11_script 20 = .ok (.ifCond .eq 27, 3) := by decide +kernel
theorem dX11_script_23 : decode cX11_script 23 = .ok (.iload_n 1, 1) := by decide +kernel
theorem dX11_script_24 : decode cX11_script 24 = .ok (.iconst 1, 1) := by decide +kernel
theorem dX11_script_25 : decode cX11_script 25 = .ok (.if_icmp .lt 22, 3) := by decide +kernel
theorem dX11_script_28 : decode cX11_script 28 = .ok (.iload_n 1, 1) := by decide +kernel
theorem dX11_script_29 : decode cX11_script 29 = .ok (.sipush 200, 3) := by decide +kernel
theorem dX11_script_32 : decode cX11_script 32 = .ok (.if_icmp .gt 15, 3) := by decide +kernel
theorem dX11_script_35 : decode cX11_script 35 = .ok (.iload_n 2, 1) := by decide +kernel
theorem dX11_script_36 : decode cX11_script 36 = .ok (.iconst 1, 1) := by decide +kernel
theorem dX11_script_37 : decode cX11_script 37 = .ok (.if_icmp .lt 10, 3) := by decide +kernel
theorem dX11_script_40 : decode cX11_script 40 = .ok (.iload_n 2, 1) := by decide +kernel
theorem dX11_script_41 : decode cX11_script 41 = .ok (.sipush 200, 3) := by decide +kernel
theorem dX11_script_44 : decode cX11_script 44 = .ok (.if_icmp .le 5, 3) := by decide +kernel
theorem dX11_script_47 : decode cX11_script 47 = .ok (.iconst (-1), 1) := by decide +kernel
theorem dX11_script_48 : decode cX11_script 48 = .ok (.ireturn, 1) := by decide +kernel
theorem dX11_script_49 : decode cX11_script 49 = .ok (.iload_n 1, 1) := by decide +kernel
theorem dX11_script_50 : decode cX11_script 50 = .ok (.iload_n 3, 1) := by decide +kernel
theorem dX11_script_51 : decode cX11_script 51 = .ok (.if_icmp .lt 8, 3) := by decide +kernel
theorem dX11_script_54 : decode cX11_script 54 = .ok (.iload_n 2, 1) := by decide +kernel
theorem dX11_script_55 : decode cX11_script 55 = .ok (.iload_n 3, 1) := by decide +kernel
theorem dX11_script_56 : decode cX11_script 56 = .ok (.if_icmp .ge 10, 3) := by decide +kernel
theorem dX11_script_59 : decode cX11_script 59 = .ok (.iload_n 1, 1) := by decide +kernel
theorem dX11_script_60 : decode cX11_script 60 = .ok (.iload_n 2, 1) := by decide +kernel
theorem dX11_script_61 : decode cX11_script 61 = .ok (.iload_n 3, 1) := by decide +kernel
theorem dX11_script_62 : decode cX11_script 62 = .ok (.invokestatic 344, 3) := by decide +kernel
theorem dX11_script_65 : decode cX11_script 65 = .ok (.ireturn, 1) := by decide +kernel
theorem dX11_script_66 : decode cX11_script 66 = .ok (.aload_n 0, 1) := by decide +kernel
theorem dX11_script_67 : decode cX11_script 67 = .ok (.iload_n 1, 1) := by decide +kernel
theorem dX11_script_68 : decode cX11_script 68 = .ok (.iload_n 2, 1) := by decide +kernel
theorem dX11_script_69 : decode cX11_script 69 = .ok (.iload_n 3, 1) := by decide +kernel
theorem dX11_script_70 : decode cX11_script 70 = .ok (.invokevirtual 340, 3) := by decide +kernel
theorem dX11_script_73 : decode cX11_script 73 = .ok (.istore 4, 2) := by decide +kernel
theorem dX11_script_75 : decode cX11_script 75 = .ok (.iload 4, 2) := by decide +kernel
theorem dX11_script_77 : decode cX11_script 77 = .ok (.ifCond .ne 5, 3) := by decide +kernel
theorem dX11_script_80 : decode cX11_script 80 = .ok (.iconst 2, 1) := by decide +kernel
theorem dX11_script_81 : decode cX11_script 81 = .ok (.ireturn, 1) := by decide +kernel
theorem dX11_script_82 : decode cX11_script 82 = .ok (.iload 4, 2) := by decide +kernel
theorem dX11_script_84 : decode cX11_script 84 = .ok (.ifCond .le 7, 3) := by decide +kernel
theorem dX11_script_87 : decode cX11_script 87 = .ok (.iconst 0, 1) := by decide +kernel
theorem dX11_script_88 : decode cX11_script 88 = .ok (.goto 4, 3) := by decide +kernel
theorem dX11_script_91 : decode cX11_script 91 = .ok (.iconst 1, 1) := by decide +kernel
theorem dX11_script_92 : decode cX11_script 92 = .ok (.ireturn, 1) := by decide +kernel
def w_X11_script_59 (post : Int32 → sI → sJ → Prop) (x1 : Int32) (x2 : Int32) (x3 : Int32) (I : sI) (J : sJ) : Prop :=
  w_X11_oneIsTooSmall x1 x2 x3 I J (fun (r_62 : Int32) (I_62 : sI) (J_62 : sJ) => (post r_62 I_62 J_62))
set_option maxHeartbeats 4000000 in
set_option maxRecDepth 100000 in
theorem t_X11_script_59 {X : sX} {post : Int32 → sI → sJ → Prop} (h : sOK X cX11_script RX11 5 3 74) (hr : sRt X (some .int) (sPi post)) {x1 : Int32} {x2 : Int32} {x3 : Int32} {I : sI} {J : sJ} (hw : w_X11_script_59 post x1 x2 x3 I J) : sG X 5 59 [(1, .int x1), (2, .int x2), (3, .int x3)] [] I J := by
  unfold w_X11_script_59 at hw
  refine g_iload_n h rfl 0 rfl dX11_script_59 ?_
  refine g_iload_n h rfl 1 rfl dX11_script_60 ?_
  refine g_iload_n h rfl 2 rfl dX11_script_61 ?_
  refine g_callS [.int x1, .int x2, .int x3] h (c_X11_oneIsTooSmall X hw) sPi_v mw_X11_oneIsTooSmall lk_X11_344 rfl ⟨by decide, by decide⟩ (Nat.le_of_ble_eq_true rfl) dX11_script_62 (sPi_k (fun r_62 I_62 J_62 hw => ?_))
  exact g_iret h hr dX11_script_65 hw
def w_X11_script (a1 : Int32) (a2 : Int32) (I : sI) (J : sJ) (post : Int32 → sI → sJ → Prop) : Prop :=
  w_X2_countKinds 4 I J (fun (I_11 : sI) (J_11 : sJ) => (w_X11_unlikeKinds I_11 J_11 (fun (r_15 : Int32) (I_15 : sI) (J_15 : sJ) => (((r_15 = 0 → post (-1) I_15 J_15) ∧ (¬ r_15 = 0 → ((a1 < 1 → post (-1) I_15 J_15) ∧ (¬ a1 < 1 → ((200 < a1 → post (-1) I_15 J_15) ∧ (¬ 200 < a1 → ((a2 < 1 → post (-1) I_15 J_15) ∧ (¬ a2 < 1 → ((a2 ≤ 200 → ((a1 < r_15 → w_X11_script_59 post a1 a2 r_15 I_15 J_15) ∧ (¬ a1 < r_15 → ((r_15 ≤ a2 → w_X11_likelier a1 a2 r_15 I_15 J_15 (fun (r_70 : Int32) (I_70 : sI) (J_70 : sJ) => (((¬ r_70 = 0 → ((r_70 ≤ 0 → post 1 I_70 J_70) ∧ (¬ r_70 ≤ 0 → post 0 I_70 J_70))) ∧ (r_70 = 0 → post 2 I_70 J_70))))) ∧ (¬ r_15 ≤ a2 → w_X11_script_59 post a1 a2 r_15 I_15 J_15))))) ∧ (¬ a2 ≤ 200 → post (-1) I_15 J_15))))))))))))))
set_option maxHeartbeats 4000000 in
set_option maxRecDepth 100000 in
theorem t_X11_script {X : sX} {a1 : Int32} {a2 : Int32} {I : sI} {J : sJ} {post : Int32 → sI → sJ → Prop} (h : sOK X cX11_script RX11 5 3 74) (hr : sRt X (some .int) (sPi post)) (hw : w_X11_script a1 a2 I J post) : sG X 5 0 [(0, .ref 0), (1, .int a1), (2, .int a2)] [] I J := by
  unfold w_X11_script at hw
  refine g_aload_n h rfl 0 rfl dX11_script_0 ?_
  refine g_get h is_0 fl_X11_19 fr_0_1 dX11_script_1 ?_
  refine g_get h is_3 fl_X11_117 fr_3_0 dX11_script_4 ?_
  refine g_aload_n h rfl 0 rfl dX11_script_7 ?_
  refine g_get h is_0 fl_X11_95 fr_0_14 dX11_script_8 ?_
  refine g_callV [.ref 247] h (c_X2_countKinds X is_4 hw) sPv_v mw_X2_countKinds lk_X11_333 is_4 rfl rfl ⟨by decide, by decide⟩ (Nat.le_of_ble_eq_true rfl) dX11_script_11 (sPv_k (fun I_11 J_11 hw => ?_))
  refine g_aload_n h rfl 0 rfl dX11_script_14 ?_
  refine g_callV [] h (c_X11_unlikeKinds X hw) sPi_v mw_X11_unlikeKinds lk_X11_337 is_0 rfl rfl ⟨by decide, by decide⟩ (Nat.le_of_ble_eq_true rfl) dX11_script_15 (sPi_k (fun r_15 I_15 J_15 hw => ?_))
  refine g_istore_n (lo2 := [(3, .int r_15), (0, .ref 0), (1, .int a1), (2, .int a2)]) h rfl (by decide) rfl dX11_script_18 ?_
  refine g_iload_n h rfl 0 rfl dX11_script_19 ?_
  refine g_if_eq (tgt := 47) h (by decide) dX11_script_20 (fun q20 => ?_) (fun q20 => ?_)
  · replace hw := hw.1 q20
    refine g_iconst (v := (-1)) h (by decide) dX11_script_47 ?_
    exact g_iret h hr dX11_script_48 hw
  · replace hw := hw.2 q20
    refine g_iload_n h rfl 2 rfl dX11_script_23 ?_
    refine g_iconst (v := 1) h (by decide) dX11_script_24 ?_
    refine g_icmp_lt (tgt := 47) h (by decide) dX11_script_25 (fun q25 => ?_) (fun q25 => ?_)
    · replace hw := hw.1 q25
      refine g_iconst (v := (-1)) h (by decide) dX11_script_47 ?_
      exact g_iret h hr dX11_script_48 hw
    · replace hw := hw.2 q25
      refine g_iload_n h rfl 2 rfl dX11_script_28 ?_
      refine g_sipush (v := 200) h (by decide) dX11_script_29 ?_
      refine g_icmp_gt (tgt := 47) h (by decide) dX11_script_32 (fun q32 => ?_) (fun q32 => ?_)
      · replace hw := hw.1 q32
        refine g_iconst (v := (-1)) h (by decide) dX11_script_47 ?_
        exact g_iret h hr dX11_script_48 hw
      · replace hw := hw.2 q32
        refine g_iload_n h rfl 3 rfl dX11_script_35 ?_
        refine g_iconst (v := 1) h (by decide) dX11_script_36 ?_
        refine g_icmp_lt (tgt := 47) h (by decide) dX11_script_37 (fun q37 => ?_) (fun q37 => ?_)
        · replace hw := hw.1 q37
          refine g_iconst (v := (-1)) h (by decide) dX11_script_47 ?_
          exact g_iret h hr dX11_script_48 hw
        · replace hw := hw.2 q37
          refine g_iload_n h rfl 3 rfl dX11_script_40 ?_
          refine g_sipush (v := 200) h (by decide) dX11_script_41 ?_
          refine g_icmp_le (tgt := 49) h (by decide) dX11_script_44 (fun q44 => ?_) (fun q44 => ?_)
          · replace hw := hw.1 q44
            refine g_iload_n h rfl 2 rfl dX11_script_49 ?_
            refine g_iload_n h rfl 0 rfl dX11_script_50 ?_
            refine g_icmp_lt (tgt := 59) h (by decide) dX11_script_51 (fun q51 => ?_) (fun q51 => ?_)
            · replace hw := hw.1 q51
              exact g_sub [2, 3, 0] rfl (t_X11_script_59 h hr hw)
            · replace hw := hw.2 q51
              refine g_iload_n h rfl 3 rfl dX11_script_54 ?_
              refine g_iload_n h rfl 0 rfl dX11_script_55 ?_
              refine g_icmp_ge (tgt := 66) h (by decide) dX11_script_56 (fun q56 => ?_) (fun q56 => ?_)
              · replace hw := hw.1 q56
                refine g_aload_n h rfl 1 rfl dX11_script_66 ?_
                refine g_iload_n h rfl 2 rfl dX11_script_67 ?_
                refine g_iload_n h rfl 3 rfl dX11_script_68 ?_
                refine g_iload_n h rfl 0 rfl dX11_script_69 ?_
                refine g_callV [.int a1, .int a2, .int r_15] h (c_X11_likelier X hw) sPi_v mw_X11_likelier lk_X11_340 is_0 rfl rfl ⟨by decide, by decide⟩ (Nat.le_of_ble_eq_true rfl) dX11_script_70 (sPi_k (fun r_70 I_70 J_70 hw => ?_))
                refine g_istore (lo2 := [(4, .int r_70), (3, .int r_15), (0, .ref 0), (1, .int a1), (2, .int a2)]) h (by decide) rfl dX11_script_73 ?_
                refine g_iload h 0 rfl dX11_script_75 ?_
                refine g_if_ne (tgt := 82) h (by decide) dX11_script_77 (fun q77 => ?_) (fun q77 => ?_)
                · replace hw := hw.1 q77
                  refine g_iload h 0 rfl dX11_script_82 ?_
                  refine g_if_le (tgt := 91) h (by decide) dX11_script_84 (fun q84 => ?_) (fun q84 => ?_)
                  · replace hw := hw.1 q84
                    refine g_iconst (v := 1) h (by decide) dX11_script_91 ?_
                    exact g_iret h hr dX11_script_92 hw
                  · replace hw := hw.2 q84
                    refine g_iconst (v := 0) h (by decide) dX11_script_87 ?_
                    refine g_goto (tgt := 92) h (by decide) dX11_script_88 ?_
                    exact g_iret h hr dX11_script_92 hw
                · replace hw := hw.2 q77
                  refine g_iconst (v := 2) h (by decide) dX11_script_80 ?_
                  exact g_iret h hr dX11_script_81 hw
              · replace hw := hw.2 q56
                exact g_sub [2, 3, 0] rfl (t_X11_script_59 h hr hw)
          · replace hw := hw.2 q44
            refine g_iconst (v := (-1)) h (by decide) dX11_script_47 ?_
            exact g_iret h hr dX11_script_48 hw
theorem c_X11_script (X : sX) {a1 : Int32} {a2 : Int32} {I : sI} {J : sJ} {post : Int32 → sI → sJ → Prop} (hw : w_X11_script a1 a2 I J post) : sCall X yX11_script cX11_script 5 (some .int) 3 74 [.ref 0, .int a1, .int a2] I J (sPi post) := sCall_of (by decide +kernel) (Nat.le_of_ble_eq_true rfl) (fun X h hr => t_X11_script h hr hw)
theorem dX11_like_0 : decode cX11_like 0 = .ok (.aload_n 0, 1) := by decide +kernel
theorem dX11_like_1 : decode cX11_like 1 = .ok (.getfield 19, 3) := by decide +kernel
theorem dX11_like_4 : decode cX11_like 4 = .ok (.getfield 117, 3) := by decide +kernel
theorem dX11_like_7 : decode cX11_like 7 = .ok (.aload_n 0, 1) := by decide +kernel
theorem dX11_like_8 : decode cX11_like 8 = .ok (.getfield 95, 3) := by decide +kernel
theorem dX11_like_11 : decode cX11_like 11 = .ok (.invokevirtual 333, 3) := by decide +kernel
theorem dX11_like_14 : decode cX11_like 14 = .ok (.aload_n 0, 1) := by decide +kernel
theorem dX11_like_15 : decode cX11_like 15 = .ok (.invokevirtual 347, 3) := by decide +kernel
theorem dX11_like_18 : decode cX11_like 18 = .ok (.istore_n 1, 1) := by decide +kernel
theorem dX11_like_19 : decode cX11_like 19 = .ok (.iload_n 1, 1) := by decide +kernel
theorem dX11_like_20 : decode cX11_like 20 = .ok (.iconst 2, 1) := by decide +kernel
theorem dX11_like_21 : decode cX11_like 21 = .ok (.if_icmp .ge 5, 3) := by decide +kernel
theorem dX11_like_24 : decode cX11_like 24 = .ok (.iconst (-1), 1) := by decide +kernel
theorem dX11_like_25 : decode cX11_like 25 = .ok (.ireturn, 1) := by decide +kernel
theorem dX11_like_26 : decode cX11_like 26 = .ok (.lconst 0, 1) := by decide +kernel
theorem dX11_like_27 : decode cX11_like 27 = .ok (.lstore_n 2, 1) := by decide +kernel
theorem dX11_like_28 : decode cX11_like 28 = .ok (.iconst 0, 1) := by decide +kernel
theorem dX11_like_29 : decode cX11_like 29 = .ok (.istore 4, 2) := by decide +kernel
theorem dX11_like_31 : decode cX11_like 31 = .ok (.iload 4, 2) := by decide +kernel
theorem dX11_like_33 : decode cX11_like 33 = .ok (.bipush 12, 2) := by decide +kernel
theorem dX11_like_35 : decode cX11_like 35 = .ok (.if_icmp .ge 23, 3) := by decide +kernel
theorem dX11_like_38 : decode cX11_like 38 = .ok (.lload_n 2, 1) := by decide +kernel
theorem dX11_like_39 : decode cX11_like 39 = .ok (.aload_n 0, 1) := by decide +kernel
theorem dX11_like_40 : decode cX11_like 40 = .ok (.getfield 95, 3) := by decide +kernel
theorem dX11_like_43 : decode cX11_like 43 = .ok (.iload 4, 2) := by decide +kernel
theorem dX11_like_45 : decode cX11_like 45 = .ok (.iaload, 1) := by decide +kernel
theorem dX11_like_46 : decode cX11_like 46 = .ok (.iconst 2, 1) := by decide +kernel
theorem dX11_like_47 : decode cX11_like 47 = .ok (.invokestatic 326, 3) := by decide +kernel
theorem dX11_like_50 : decode cX11_like 50 = .ok (.ladd, 1) := by decide +kernel
theorem dX11_like_51 : decode cX11_like 51 = .ok (.lstore_n 2, 1) := by decide +kernel
theorem dX11_like_52 : decode cX11_like 52 = .ok (.iinc 4 1, 3) := by decide +kernel
theorem dX11_like_55 : decode cX11_like 55 = .ok (.goto (-24), 3) := by decide +kernel
theorem dX11_like_58 : decode cX11_like 58 = .ok (.aload_n 0, 1) := by decide +kernel
theorem dX11_like_59 : decode cX11_like 59 = .ok (.getfield 41, 3) := by decide +kernel
theorem dX11_like_62 : decode cX11_like 62 = .ok (.lload_n 2, 1) := by decide +kernel
theorem dX11_like_63 : decode cX11_like 63 = .ok (.iload_n 1, 1) := by decide +kernel
theorem dX11_like_64 : decode cX11_like 64 = .ok (.iconst 2, 1) := by decide +kernel
theorem dX11_like_65 : decode cX11_like 65 = .ok (.invokestatic 326, 3) := by decide +kernel
theorem dX11_like_68 : decode cX11_like 68 = .ok (.invokevirtual 302, 3) := by decide +kernel
theorem dX11_like_71 : decode cX11_like 71 = .ok (.iconst 0, 1) := by decide +kernel
theorem dX11_like_72 : decode cX11_like 72 = .ok (.ireturn, 1) := by decide +kernel
def w_X11_like_31_s (post : Int32 → sI → sJ → Prop) (k31 : Int32 → Int64 → Int32 → sI → sJ → Prop) (x1 : Int32) (x2 : Int64) (x4 : Int32) (I : sI) (J : sJ) : Prop :=
  ((12 ≤ x4 → w_X11_choose x1 2 I J (fun (r_65 : Int64) (I_65 : sI) (J_65 : sJ) => (w_X6_tellFraction 134 x2 r_65 I_65 J_65 (fun (I_68 : sI) (J_68 : sJ) => (post 0 I_68 J_68))))) ∧ (¬ 12 ≤ x4 → (vp_in x4 13 ∧ w_X11_choose (I 247 (Int32.toNatClampNeg x4)) 2 I J (fun (r_47 : Int64) (I_47 : sI) (J_47 : sJ) => ((∀ v2_51 : Int64, v2_51 = x2 + r_47 → (∀ v4_52 : Int32, v4_52 = x4 + 1 → k31 x1 v2_51 v4_52 I_47 J_47)))))))
def w_X11_like_31_n (post : Int32 → sI → sJ → Prop) : Nat → Int32 → Int64 → Int32 → sI → sJ → Prop
  | 0 => fun _ _ _ _ _ => False
  | n + 1 => fun x1 x2 x4 I J => w_X11_like_31_s post (w_X11_like_31_n post n) x1 x2 x4 I J
def w_X11_like_31 (post : Int32 → sI → sJ → Prop) (x1 : Int32) (x2 : Int64) (x4 : Int32) (I : sI) (J : sJ) : Prop := ∃ n, w_X11_like_31_n post n x1 x2 x4 I J
set_option maxHeartbeats 4000000 in
set_option maxRecDepth 100000 in
theorem t_X11_like_31_s {X : sX} {post : Int32 → sI → sJ → Prop} (h : sOK X cX11_like RX11 5 4 94) (hr : sRt X (some .int) (sPi post)) {k31 : Int32 → Int64 → Int32 → sI → sJ → Prop} (hk31 : ∀ (x1 : Int32) (x2 : Int64) (x4 : Int32) (I : sI) (J : sJ), k31 x1 x2 x4 I J → sG X 5 31 [(0, .ref 0), (1, .int x1), (2, .long x2), (4, .int x4)] [] I J) {x1 : Int32} {x2 : Int64} {x4 : Int32} {I : sI} {J : sJ} (hw : w_X11_like_31_s post k31 x1 x2 x4 I J) : sG X 5 31 [(0, .ref 0), (1, .int x1), (2, .long x2), (4, .int x4)] [] I J := by
  unfold w_X11_like_31_s at hw
  refine g_iload h 3 rfl dX11_like_31 ?_
  refine g_bipush (v := 12) h (by decide) dX11_like_33 ?_
  refine g_icmp_ge (tgt := 58) h (by decide) dX11_like_35 (fun q35 => ?_) (fun q35 => ?_)
  · replace hw := hw.1 q35
    refine g_aload_n h rfl 0 rfl dX11_like_58 ?_
    refine g_get h is_0 fl_X11_41 fr_0_5 dX11_like_59 ?_
    refine g_lload_n h rfl 2 rfl dX11_like_62 ?_
    refine g_iload_n h rfl 1 rfl dX11_like_63 ?_
    refine g_iconst (v := 2) h (by decide) dX11_like_64 ?_
    refine g_callS [.int x1, .int 2] h (c_X11_choose X hw) sPl_v mw_X11_choose lk_X11_326 rfl ⟨by decide, by decide⟩ (Nat.le_of_ble_eq_true rfl) dX11_like_65 (sPl_k (fun r_65 I_65 J_65 hw => ?_))
    refine g_callV [.long x2, .long r_65] h (c_X6_tellFraction X is_134 hw) sPv_v mw_X6_tellFraction lk_X11_302 is_134 rfl rfl ⟨by decide, by decide⟩ (Nat.le_of_ble_eq_true rfl) dX11_like_68 (sPv_k (fun I_68 J_68 hw => ?_))
    refine g_iconst (v := 0) h (by decide) dX11_like_71 ?_
    exact g_iret h hr dX11_like_72 hw
  · replace hw := hw.2 q35
    refine g_lload_n h rfl 2 rfl dX11_like_38 ?_
    refine g_aload_n h rfl 0 rfl dX11_like_39 ?_
    refine g_get h is_0 fl_X11_95 fr_0_14 dX11_like_40 ?_
    refine g_iload h 3 rfl dX11_like_43 ?_
    obtain ⟨hi45, hw⟩ := hw
    refine g_iald h ar_247 hi45 dX11_like_45 ?_
    refine g_iconst (v := 2) h (by decide) dX11_like_46 ?_
    refine g_callS [.int (I 247 (Int32.toNatClampNeg x4)), .int 2] h (c_X11_choose X hw) sPl_v mw_X11_choose lk_X11_326 rfl ⟨by decide, by decide⟩ (Nat.le_of_ble_eq_true rfl) dX11_like_47 (sPl_k (fun r_47 I_47 J_47 hw => ?_))
    refine g_ladd h dX11_like_50 ?_
    refine g_nl (fun v2_51 ev2_51 => ?_)
    replace hw := hw v2_51 ev2_51
    refine g_lstore_n (lo2 := [(2, .long v2_51), (0, .ref 0), (1, .int x1), (4, .int x4)]) h rfl (by decide) rfl dX11_like_51 ?_
    obtain ⟨v4_52, ev4_52⟩ : ∃ z : Int32, z = x4 + 1 := ⟨_, rfl⟩
    replace hw := hw v4_52 ev4_52
    refine g_iinc (v := v4_52) (lo2 := [(4, .int v4_52), (2, .long v2_51), (0, .ref 0), (1, .int x1)]) h 3 rfl (by rw [ev4_52]; rfl) (by decide) rfl dX11_like_52 ?_
    refine g_goto (tgt := 31) h (by decide) dX11_like_55 ?_
    exact g_sub [2, 3, 1, 0] rfl (hk31 _ _ _ _ _ hw)
theorem t_X11_like_31 {X : sX} {post : Int32 → sI → sJ → Prop} (h : sOK X cX11_like RX11 5 4 94) (hr : sRt X (some .int) (sPi post)) {x1 : Int32} {x2 : Int64} {x4 : Int32} {I : sI} {J : sJ} (hw : w_X11_like_31 post x1 x2 x4 I J) : sG X 5 31 [(0, .ref 0), (1, .int x1), (2, .long x2), (4, .int x4)] [] I J := by
  obtain ⟨n, hw⟩ := hw
  induction n generalizing x1 x2 x4 I J with
  | zero => exact hw.elim
  | succ n ih => exact t_X11_like_31_s h hr (fun _ _ _ _ _ q => ih q) hw
def w_X11_like (I : sI) (J : sJ) (post : Int32 → sI → sJ → Prop) : Prop :=
  w_X2_countKinds 4 I J (fun (I_11 : sI) (J_11 : sJ) => (w_X11_seenSigns I_11 J_11 (fun (r_15 : Int32) (I_15 : sI) (J_15 : sJ) => (((2 ≤ r_15 → w_X11_like_31 post r_15 0 0 I_15 J_15) ∧ (¬ 2 ≤ r_15 → post (-1) I_15 J_15))))))
set_option maxHeartbeats 4000000 in
set_option maxRecDepth 100000 in
theorem t_X11_like {X : sX} {I : sI} {J : sJ} {post : Int32 → sI → sJ → Prop} (h : sOK X cX11_like RX11 5 4 94) (hr : sRt X (some .int) (sPi post)) (hw : w_X11_like I J post) : sG X 5 0 [(0, .ref 0)] [] I J := by
  unfold w_X11_like at hw
  refine g_aload_n h rfl 0 rfl dX11_like_0 ?_
  refine g_get h is_0 fl_X11_19 fr_0_1 dX11_like_1 ?_
  refine g_get h is_3 fl_X11_117 fr_3_0 dX11_like_4 ?_
  refine g_aload_n h rfl 0 rfl dX11_like_7 ?_
  refine g_get h is_0 fl_X11_95 fr_0_14 dX11_like_8 ?_
  refine g_callV [.ref 247] h (c_X2_countKinds X is_4 hw) sPv_v mw_X2_countKinds lk_X11_333 is_4 rfl rfl ⟨by decide, by decide⟩ (Nat.le_of_ble_eq_true rfl) dX11_like_11 (sPv_k (fun I_11 J_11 hw => ?_))
  refine g_aload_n h rfl 0 rfl dX11_like_14 ?_
  refine g_callV [] h (c_X11_seenSigns X hw) sPi_v mw_X11_seenSigns lk_X11_347 is_0 rfl rfl ⟨by decide, by decide⟩ (Nat.le_of_ble_eq_true rfl) dX11_like_15 (sPi_k (fun r_15 I_15 J_15 hw => ?_))
  refine g_istore_n (lo2 := [(1, .int r_15), (0, .ref 0)]) h rfl (by decide) rfl dX11_like_18 ?_
  refine g_iload_n h rfl 0 rfl dX11_like_19 ?_
  refine g_iconst (v := 2) h (by decide) dX11_like_20 ?_
  refine g_icmp_ge (tgt := 26) h (by decide) dX11_like_21 (fun q21 => ?_) (fun q21 => ?_)
  · replace hw := hw.1 q21
    refine g_lconst (v := 0) h (by decide) dX11_like_26 ?_
    refine g_lstore_n (lo2 := [(2, .long 0), (1, .int r_15), (0, .ref 0)]) h rfl (by decide) rfl dX11_like_27 ?_
    refine g_iconst (v := 0) h (by decide) dX11_like_28 ?_
    refine g_istore (lo2 := [(4, .int 0), (2, .long 0), (1, .int r_15), (0, .ref 0)]) h (by decide) rfl dX11_like_29 ?_
    exact g_sub [3, 2, 1, 0] rfl (t_X11_like_31 h hr hw)
  · replace hw := hw.2 q21
    refine g_iconst (v := (-1)) h (by decide) dX11_like_24 ?_
    exact g_iret h hr dX11_like_25 hw
theorem c_X11_like (X : sX) {I : sI} {J : sJ} {post : Int32 → sI → sJ → Prop} (hw : w_X11_like I J post) : sCall X yX11_like cX11_like 5 (some .int) 4 94 [.ref 0] I J (sPi post) := sCall_of (by decide +kernel) (Nat.le_of_ble_eq_true rfl) (fun X h hr => t_X11_like h hr hw)
theorem dX11_shareToPower_0 : decode cX11_shareToPower 0 = .ok (.aload_n 0, 1) := by decide +kernel
theorem dX11_shareToPower_1 : decode cX11_shareToPower 1 = .ok (.invokevirtual 347, 3) := by decide +kernel
theorem dX11_shareToPower_4 : decode cX11_shareToPower 4 = .ok (.istore_n 2, 1) := by decide +kernel
theorem dX11_shareToPower_5 : decode cX11_shareToPower 5 = .ok (.iconst 0, 1) := by decide +kernel
theorem dX11_shareToPower_6 : decode cX11_shareToPower 6 = .ok (.istore_n 3, 1) := by decide +kernel
theorem dX11_shareToPower_7 : decode cX11_shareToPower 7 = .ok (.iconst 0, 1) := by decide +kernel
theorem dX11_shareToPower_8 : decode cX11_shareToPower 8 = .ok (.istore 4, 2) := by decide +kernel
theorem dX11_shareToPower_10 : decode cX11_shareToPower 10 = .ok (.iload 4, 2) := by decide +kernel
theorem dX11_shareToPower_12 : decode cX11_shareToPower 12 = .ok (.bipush 12, 2) := by decide +kernel
theorem dX11_shareToPower_14 : decode cX11_shareToPower 14 = .ok (.if_icmp .ge 27, 3) := by decide +kernel
theorem dX11_shareToPower_17 : decode cX11_shareToPower 17 = .ok (.iload_n 3, 1) := by decide +kernel
theorem dX11_shareToPower_18 : decode cX11_shareToPower 18 = .ok (.aload_n 0, 1) := by decide +kernel
theorem dX11_shareToPower_19 : decode cX11_shareToPower 19 = .ok (.getfield 95, 3) := by decide +kernel
theorem dX11_shareToPower_22 : decode cX11_shareToPower 22 = .ok (.iload 4, 2) := by decide +kernel
theorem dX11_shareToPower_24 : decode cX11_shareToPower 24 = .ok (.iaload, 1) := by decide +kernel
theorem dX11_shareToPower_25 : decode cX11_shareToPower 25 = .ok (.aload_n 0, 1) := by decide +kernel
theorem dX11_shareToPower_26 : decode cX11_shareToPower 26 = .ok (.getfield 95, 3) := by decide +kernel
theorem dX11_shareToPower_29 : decode cX11_shareToPower 29 = .ok (.iload 4, 2) := by decide +kernel
theorem dX11_shareToPower_31 : decode cX11_shareToPower 31 = .ok (.iaload, 1) := by decide +kernel
theorem dX11_shareToPower_32 : decode cX11_shareToPower 32 = .ok (.imul, 1) := by decide +kernel
theorem dX11_shareToPower_33 : decode cX11_shareToPower 33 = .ok (.iadd, 1) := by decide +kernel
theorem dX11_shareToPower_34 : decode cX11_shareToPower 34 = .ok (.istore_n 3, 1) := by decide +kernel
theorem dX11_shareToPower_35 : decode cX11_shareToPower 35 = .ok (.iinc 4 1, 3) := by decide +kernel
theorem dX11_shareToPower_38 : decode cX11_shareToPower 38 = .ok (.goto (-28), 3) := by decide +kernel
theorem dX11_shareToPower_41 : decode cX11_shareToPower 41 = .ok (.aload_n 0, 1) := by decide +kernel
theorem dX11_shareToPower_42 : decode cX11_shareToPower 42 = .ok (.getfield 88, 3) := by decide +kernel
theorem dX11_shareToPower_45 : decode cX11_shareToPower 45 = .ok (.ldc_w 384, 3) := by decide +kernel
theorem dX11_shareToPower_48 : decode cX11_shareToPower 48 = .ok (.invokevirtual 371, 3) := by decide +kernel
theorem dX11_shareToPower_51 : decode cX11_shareToPower 51 = .ok (.aload_n 0, 1) := by decide +kernel
theorem dX11_shareToPower_52 : decode cX11_shareToPower 52 = .ok (.getfield 88, 3) := by decide +kernel
theorem dX11_shareToPower_55 : decode cX11_shareToPower 55 = .ok (.iload_n 3, 1) := by decide +kernel
theorem dX11_shareToPower_56 : decode cX11_shareToPower 56 = .ok (.iload_n 1, 1) := by decide +kernel
theorem dX11_shareToPower_57 : decode cX11_shareToPower 57 = .ok (.invokevirtual 377, 3) := by decide +kernel
theorem dX11_shareToPower_60 : decode cX11_shareToPower 60 = .ok (.iconst 0, 1) := by decide +kernel
theorem dX11_shareToPower_61 : decode cX11_shareToPower 61 = .ok (.istore 4, 2) := by decide +kernel
theorem dX11_shareToPower_63 : decode cX11_shareToPower 63 = .ok (.ldc_w 384, 3) := by decide +kernel
theorem dX11_shareToPower_66 : decode cX11_shareToPower 66 = .ok (.istore 5, 2) := by decide +kernel
theorem dX11_shareToPower_68 : decode cX11_shareToPower 68 = .ok (.iconst 0, 1) := by decide +kernel
theorem dX11_shareToPower_69 : decode cX11_shareToPower 69 = .ok (.istore 6, 2) := by decide +kernel
theorem dX11_shareToPower_71 : decode cX11_shareToPower 71 = .ok (.iload 6, 2) := by decide +kernel
theorem dX11_shareToPower_73 : decode cX11_shareToPower 73 = .ok (.bipush 32, 2) := by decide +kernel
theorem dX11_shareToPower_75 : decode cX11_shareToPower 75 = .ok (.if_icmp .ge 74, 3) := by decide +kernel
theorem dX11_shareToPower_78 : decode cX11_shareToPower 78 = .ok (.iload 4, 2) := by decide +kernel
theorem dX11_shareToPower_80 : decode cX11_shareToPower 80 = .ok (.iload 5, 2) := by decide +kernel
theorem dX11_shareToPower_82 : decode cX11_shareToPower 82 = .ok (.if_icmp .ge 67, 3) := by decide +kernel
theorem dX11_shareToPower_85 : decode cX11_shareToPower 85 = .ok (.iload 4, 2) := by decide +kernel
theorem dX11_shareToPower_87 : decode cX11_shareToPower 87 = .ok (.iload 5, 2) := by decide +kernel
theorem dX11_shareToPower_89 : decode cX11_shareToPower 89 = .ok (.iadd, 1) := by decide +kernel
theorem dX11_shareToPower_90 : decode cX11_shareToPower 90 = .ok (.iconst 1, 1) := by decide +kernel
theorem dX11_shareToPower_91 : decode cX11_shareToPower 91 = .ok (.iadd, 1) := by decide +kernel
theorem dX11_shareToPower_92 : decode cX11_shareToPower 92 = .ok (.iconst 2, 1) := by decide +kernel
theorem dX11_shareToPower_93 : decode cX11_shareToPower 93 = .ok (.idiv, 1) := by decide +kernel
theorem dX11_shareToPower_94 : decode cX11_shareToPower 94 = .ok (.istore 7, 2) := by decide +kernel
theorem dX11_shareToPower_96 : decode cX11_shareToPower 96 = .ok (.aload_n 0, 1) := by decide +kernel
theorem dX11_shareToPower_97 : decode cX11_shareToPower 97 = .ok (.getfield 92, 3) := by decide +kernel
theorem dX11_shareToPower_100 : decode cX11_shareToPower 100 = .ok (.iload 7, 2) := by decide +kernel
theorem dX11_shareToPower_102 : decode cX11_shareToPower 102 = .ok (.invokevirtual 371, 3) := by decide +kernel
theorem dX11_shareToPower_105 : decode cX11_shareToPower 105 = .ok (.aload_n 0, 1) := by decide +kernel
theorem dX11_shareToPower_106 : decode cX11_shareToPower 106 = .ok (.getfield 92, 3) := by decide +kernel
theorem dX11_shareToPower_109 : decode cX11_shareToPower 109 = .ok (.iload_n 2, 1) := by decide +kernel
theorem dX11_shareToPower_110 : decode cX11_shareToPower 110 = .ok (.iload_n 2, 1) := by decide +kernel
theorem dX11_shareToPower_111 : decode cX11_shareToPower 111 = .ok (.imul, 1) := by decide +kernel
theorem dX11_shareToPower_112 : decode cX11_shareToPower 112 = .ok (.iload_n 1, 1) := by decide +kernel
theorem dX11_shareToPower_113 : decode cX11_shareToPower 113 = .ok (.invokevirtual 377, 3) := by decide +kernel
theorem dX11_shareToPower_116 : decode cX11_shareToPower 116 = .ok (.aload_n 0, 1) := by decide +kernel
theorem dX11_shareToPower_117 : decode cX11_shareToPower 117 = .ok (.getfield 92, 3) := by decide +kernel
theorem dX11_shareToPower_120 : decode cX11_shareToPower 120 = .ok (.aload_n 0, 1) := by decide +kernel
theorem dX11_shareToPower_121 : decode cX11_shareToPower 121 = .ok (.getfield 88, 3) := by decide +kernel
theorem dX11_shareToPower_124 : decode cX11_shareToPower 124 = .ok (.invokevirtual 380, 3) := by decide +kernel
theorem dX11_shareToPower_127 : decode cX11_shareToPower 127 = .ok (.ifCond .gt 10, 3) := by decide +kernel
theorem dX11_shareToPower_130 : decode cX11_shareToPower 130 = .ok (.iload 7, 2) := by decide +kernel
theorem dX11_shareToPower_132 : decode cX11_shareToPower 132 = .ok (.istore 4, 2) := by decide +kernel
theorem dX11_shareToPower_134 : decode cX11_shareToPower 134 = .ok (.goto 9, 3) := by decide +kernel
theorem dX11_shareToPower_137 : decode cX11_shareToPower 137 = .ok (.iload 7, 2) := by decide +kernel
theorem dX11_shareToPower_139 : decode cX11_shareToPower 139 = .ok (.iconst 1, 1) := by decide +kernel
theorem dX11_shareToPower_140 : decode cX11_shareToPower 140 = .ok (.isub, 1) := by decide +kernel
theorem dX11_shareToPower_141 : decode cX11_shareToPower 141 = .ok (.istore 5, 2) := by decide +kernel
theorem dX11_shareToPower_143 : decode cX11_shareToPower 143 = .ok (.iinc 6 1, 3) := by decide +kernel
theorem dX11_shareToPower_146 : decode cX11_shareToPower 146 = .ok (.goto (-75), 3) := by decide +kernel
theorem dX11_shareToPower_149 : decode cX11_shareToPower 149 = .ok (.iload 4, 2) := by decide +kernel
theorem dX11_shareToPower_151 : decode cX11_shareToPower 151 = .ok (.i2l, 1) := by decide +kernel
theorem dX11_shareToPower_152 : decode cX11_shareToPower 152 = .ok (.lreturn, 1) := by decide +kernel
def w_X11_shareToPower_149 (post : Int64 → sI → sJ → Prop) (x4 : Int32) (I : sI) (J : sJ) : Prop :=
  post (Int32.toInt64 x4) I J
set_option maxHeartbeats 4000000 in
set_option maxRecDepth 100000 in
theorem t_X11_shareToPower_149 {X : sX} {post : Int64 → sI → sJ → Prop} (h : sOK X cX11_shareToPower RX11 8 2 49) (hr : sRt X (some .long) (sPl post)) {x4 : Int32} {I : sI} {J : sJ} (hw : w_X11_shareToPower_149 post x4 I J) : sG X 8 149 [(4, .int x4)] [] I J := by
  unfold w_X11_shareToPower_149 at hw
  refine g_iload h 0 rfl dX11_shareToPower_149 ?_
  refine g_i2l h dX11_shareToPower_151 ?_
  exact g_lret h hr dX11_shareToPower_152 hw
def w_X11_shareToPower_143 (post : Int64 → sI → sJ → Prop) (k71 : Int32 → Int32 → Int32 → Int32 → Int32 → sI → sJ → Prop) (x1 : Int32) (x2 : Int32) (x4 : Int32) (x5 : Int32) (x6 : Int32) (I : sI) (J : sJ) : Prop :=
  (∀ v6_143 : Int32, v6_143 = x6 + 1 → k71 x1 x2 x4 x5 v6_143 I J)
set_option maxHeartbeats 4000000 in
set_option maxRecDepth 100000 in
theorem t_X11_shareToPower_143 {X : sX} {post : Int64 → sI → sJ → Prop} (h : sOK X cX11_shareToPower RX11 8 2 49) (hr : sRt X (some .long) (sPl post)) {k71 : Int32 → Int32 → Int32 → Int32 → Int32 → sI → sJ → Prop} (hk71 : ∀ (x1 : Int32) (x2 : Int32) (x4 : Int32) (x5 : Int32) (x6 : Int32) (I : sI) (J : sJ), k71 x1 x2 x4 x5 x6 I J → sG X 8 71 [(0, .ref 0), (1, .int x1), (2, .int x2), (4, .int x4), (5, .int x5), (6, .int x6)] [] I J) {x1 : Int32} {x2 : Int32} {x4 : Int32} {x5 : Int32} {x6 : Int32} {I : sI} {J : sJ} (hw : w_X11_shareToPower_143 post k71 x1 x2 x4 x5 x6 I J) : sG X 8 143 [(0, .ref 0), (1, .int x1), (2, .int x2), (4, .int x4), (5, .int x5), (6, .int x6)] [] I J := by
  unfold w_X11_shareToPower_143 at hw
  obtain ⟨v6_143, ev6_143⟩ : ∃ z : Int32, z = x6 + 1 := ⟨_, rfl⟩
  replace hw := hw v6_143 ev6_143
  refine g_iinc (v := v6_143) (lo2 := [(6, .int v6_143), (0, .ref 0), (1, .int x1), (2, .int x2), (4, .int x4), (5, .int x5)]) h 5 rfl (by rw [ev6_143]; rfl) (by decide) rfl dX11_shareToPower_143 ?_
  refine g_goto (tgt := 71) h (by decide) dX11_shareToPower_146 ?_
  exact g_sub [1, 2, 3, 4, 5, 0] rfl (hk71 _ _ _ _ _ _ _ hw)
def w_X11_shareToPower_71_s (post : Int64 → sI → sJ → Prop) (k71 : Int32 → Int32 → Int32 → Int32 → Int32 → sI → sJ → Prop) (x1 : Int32) (x2 : Int32) (x4 : Int32) (x5 : Int32) (x6 : Int32) (I : sI) (J : sJ) : Prop :=
  ((32 ≤ x6 → w_X11_shareToPower_149 post x4 I J) ∧ (¬ 32 ≤ x6 → ((x5 ≤ x4 → w_X11_shareToPower_149 post x4 I J) ∧ (¬ x5 ≤ x4 → (∀ v7_94 : Int32, v7_94 = ((x4 + x5) + 1) / 2 → w_X0_become 245 v7_94 I J (fun (I_102 : sI) (J_102 : sJ) => (w_X0_timesPower 245 (x2 * x2) x1 I_102 J_102 (fun (I_113 : sI) (J_113 : sJ) => (w_X0_against 245 243 I_113 J_113 (fun (r_124 : Int32) (I_124 : sI) (J_124 : sJ) => (((0 < r_124 → (∀ v5_141 : Int32, v5_141 = v7_94 - 1 → w_X11_shareToPower_143 post k71 x1 x2 x4 v5_141 x6 I_124 J_124)) ∧ (¬ 0 < r_124 → w_X11_shareToPower_143 post k71 x1 x2 v7_94 x5 x6 I_124 J_124)))))))))))))
def w_X11_shareToPower_71_n (post : Int64 → sI → sJ → Prop) : Nat → Int32 → Int32 → Int32 → Int32 → Int32 → sI → sJ → Prop
  | 0 => fun _ _ _ _ _ _ _ => False
  | n + 1 => fun x1 x2 x4 x5 x6 I J => w_X11_shareToPower_71_s post (w_X11_shareToPower_71_n post n) x1 x2 x4 x5 x6 I J
def w_X11_shareToPower_71 (post : Int64 → sI → sJ → Prop) (x1 : Int32) (x2 : Int32) (x4 : Int32) (x5 : Int32) (x6 : Int32) (I : sI) (J : sJ) : Prop := ∃ n, w_X11_shareToPower_71_n post n x1 x2 x4 x5 x6 I J
set_option maxHeartbeats 4000000 in
set_option maxRecDepth 100000 in
theorem t_X11_shareToPower_71_s {X : sX} {post : Int64 → sI → sJ → Prop} (h : sOK X cX11_shareToPower RX11 8 2 49) (hr : sRt X (some .long) (sPl post)) {k71 : Int32 → Int32 → Int32 → Int32 → Int32 → sI → sJ → Prop} (hk71 : ∀ (x1 : Int32) (x2 : Int32) (x4 : Int32) (x5 : Int32) (x6 : Int32) (I : sI) (J : sJ), k71 x1 x2 x4 x5 x6 I J → sG X 8 71 [(0, .ref 0), (1, .int x1), (2, .int x2), (4, .int x4), (5, .int x5), (6, .int x6)] [] I J) {x1 : Int32} {x2 : Int32} {x4 : Int32} {x5 : Int32} {x6 : Int32} {I : sI} {J : sJ} (hw : w_X11_shareToPower_71_s post k71 x1 x2 x4 x5 x6 I J) : sG X 8 71 [(0, .ref 0), (1, .int x1), (2, .int x2), (4, .int x4), (5, .int x5), (6, .int x6)] [] I J := by
  unfold w_X11_shareToPower_71_s at hw
  refine g_iload h 5 rfl dX11_shareToPower_71 ?_
  refine g_bipush (v := 32) h (by decide) dX11_shareToPower_73 ?_
  refine g_icmp_ge (tgt := 149) h (by decide) dX11_shareToPower_75 (fun q75 => ?_) (fun q75 => ?_)
  · replace hw := hw.1 q75
    exact g_sub [3] rfl (t_X11_shareToPower_149 h hr hw)
  · replace hw := hw.2 q75
    refine g_iload h 3 rfl dX11_shareToPower_78 ?_
    refine g_iload h 4 rfl dX11_shareToPower_80 ?_
    refine g_icmp_ge (tgt := 149) h (by decide) dX11_shareToPower_82 (fun q82 => ?_) (fun q82 => ?_)
    · replace hw := hw.1 q82
      exact g_sub [3] rfl (t_X11_shareToPower_149 h hr hw)
    · replace hw := hw.2 q82
      refine g_iload h 3 rfl dX11_shareToPower_85 ?_
      refine g_iload h 4 rfl dX11_shareToPower_87 ?_
      refine g_iadd h dX11_shareToPower_89 ?_
      refine g_iconst (v := 1) h (by decide) dX11_shareToPower_90 ?_
      refine g_iadd h dX11_shareToPower_91 ?_
      refine g_iconst (v := 2) h (by decide) dX11_shareToPower_92 ?_
      refine g_idiv h (by decide) dX11_shareToPower_93 ?_
      refine g_ni (fun v7_94 ev7_94 => ?_)
      replace hw := hw v7_94 ev7_94
      refine g_istore (lo2 := [(7, .int v7_94), (0, .ref 0), (1, .int x1), (2, .int x2), (4, .int x4), (5, .int x5), (6, .int x6)]) h (by decide) rfl dX11_shareToPower_94 ?_
      refine g_aload_n h rfl 1 rfl dX11_shareToPower_96 ?_
      refine g_get h is_0 fl_X11_92 fr_0_13 dX11_shareToPower_97 ?_
      refine g_iload h 0 rfl dX11_shareToPower_100 ?_
      refine g_callV [.int v7_94] h (c_X0_become X is_245 hw) sPv_v mw_X0_become lk_X11_371 is_245 rfl rfl ⟨by decide, by decide⟩ (Nat.le_of_ble_eq_true rfl) dX11_shareToPower_102 (sPv_k (fun I_102 J_102 hw => ?_))
      refine g_aload_n h rfl 1 rfl dX11_shareToPower_105 ?_
      refine g_get h is_0 fl_X11_92 fr_0_13 dX11_shareToPower_106 ?_
      refine g_iload_n h rfl 3 rfl dX11_shareToPower_109 ?_
      refine g_iload_n h rfl 3 rfl dX11_shareToPower_110 ?_
      refine g_imul h dX11_shareToPower_111 ?_
      refine g_iload_n h rfl 2 rfl dX11_shareToPower_112 ?_
      refine g_callV [.int (x2 * x2), .int x1] h (c_X0_timesPower X is_245 hw) sPv_v mw_X0_timesPower lk_X11_377 is_245 rfl rfl ⟨by decide, by decide⟩ (Nat.le_of_ble_eq_true rfl) dX11_shareToPower_113 (sPv_k (fun I_113 J_113 hw => ?_))
      refine g_aload_n h rfl 1 rfl dX11_shareToPower_116 ?_
      refine g_get h is_0 fl_X11_92 fr_0_13 dX11_shareToPower_117 ?_
      refine g_aload_n h rfl 1 rfl dX11_shareToPower_120 ?_
      refine g_get h is_0 fl_X11_88 fr_0_12 dX11_shareToPower_121 ?_
      refine g_callV [.ref 243] h (c_X0_against X is_245 is_243 hw) sPi_v mw_X0_against lk_X11_380 is_245 rfl rfl ⟨by decide, by decide⟩ (Nat.le_of_ble_eq_true rfl) dX11_shareToPower_124 (sPi_k (fun r_124 I_124 J_124 hw => ?_))
      refine g_if_gt (tgt := 137) h (by decide) dX11_shareToPower_127 (fun q127 => ?_) (fun q127 => ?_)
      · replace hw := hw.1 q127
        refine g_iload h 0 rfl dX11_shareToPower_137 ?_
        refine g_iconst (v := 1) h (by decide) dX11_shareToPower_139 ?_
        refine g_isub h dX11_shareToPower_140 ?_
        refine g_ni (fun v5_141 ev5_141 => ?_)
        replace hw := hw v5_141 ev5_141
        refine g_istore (lo2 := [(5, .int v5_141), (7, .int v7_94), (0, .ref 0), (1, .int x1), (2, .int x2), (4, .int x4), (6, .int x6)]) h (by decide) rfl dX11_shareToPower_141 ?_
        exact g_sub [2, 3, 4, 5, 0, 6] rfl (t_X11_shareToPower_143 h hr hk71 hw)
      · replace hw := hw.2 q127
        refine g_iload h 0 rfl dX11_shareToPower_130 ?_
        refine g_istore (lo2 := [(4, .int v7_94), (7, .int v7_94), (0, .ref 0), (1, .int x1), (2, .int x2), (5, .int x5), (6, .int x6)]) h (by decide) rfl dX11_shareToPower_132 ?_
        refine g_goto (tgt := 143) h (by decide) dX11_shareToPower_134 ?_
        exact g_sub [2, 3, 4, 0, 5, 6] rfl (t_X11_shareToPower_143 h hr hk71 hw)
theorem t_X11_shareToPower_71 {X : sX} {post : Int64 → sI → sJ → Prop} (h : sOK X cX11_shareToPower RX11 8 2 49) (hr : sRt X (some .long) (sPl post)) {x1 : Int32} {x2 : Int32} {x4 : Int32} {x5 : Int32} {x6 : Int32} {I : sI} {J : sJ} (hw : w_X11_shareToPower_71 post x1 x2 x4 x5 x6 I J) : sG X 8 71 [(0, .ref 0), (1, .int x1), (2, .int x2), (4, .int x4), (5, .int x5), (6, .int x6)] [] I J := by
  obtain ⟨n, hw⟩ := hw
  induction n generalizing x1 x2 x4 x5 x6 I J with
  | zero => exact hw.elim
  | succ n ih => exact t_X11_shareToPower_71_s h hr (fun _ _ _ _ _ _ _ q => ih q) hw
def w_X11_shareToPower_10_s (post : Int64 → sI → sJ → Prop) (k10 : Int32 → Int32 → Int32 → Int32 → sI → sJ → Prop) (x1 : Int32) (x2 : Int32) (x3 : Int32) (x4 : Int32) (I : sI) (J : sJ) : Prop :=
  ((12 ≤ x4 → w_X0_become 243 1000000 I J (fun (I_48 : sI) (J_48 : sJ) => (w_X0_timesPower 243 x3 x1 I_48 J_48 (fun (I_57 : sI) (J_57 : sJ) => (w_X11_shareToPower_71 post x1 x2 0 1000000 0 I_57 J_57))))) ∧ (¬ 12 ≤ x4 → (vp_in x4 13 ∧ (vp_in x4 13 ∧ (∀ v3_34 : Int32, v3_34 = x3 + ((I 247 (Int32.toNatClampNeg x4)) * (I 247 (Int32.toNatClampNeg x4))) → (∀ v4_35 : Int32, v4_35 = x4 + 1 → k10 x1 x2 v3_34 v4_35 I J))))))
def w_X11_shareToPower_10_n (post : Int64 → sI → sJ → Prop) : Nat → Int32 → Int32 → Int32 → Int32 → sI → sJ → Prop
  | 0 => fun _ _ _ _ _ _ => False
  | n + 1 => fun x1 x2 x3 x4 I J => w_X11_shareToPower_10_s post (w_X11_shareToPower_10_n post n) x1 x2 x3 x4 I J
def w_X11_shareToPower_10 (post : Int64 → sI → sJ → Prop) (x1 : Int32) (x2 : Int32) (x3 : Int32) (x4 : Int32) (I : sI) (J : sJ) : Prop := ∃ n, w_X11_shareToPower_10_n post n x1 x2 x3 x4 I J
set_option maxHeartbeats 4000000 in
set_option maxRecDepth 100000 in
theorem t_X11_shareToPower_10_s {X : sX} {post : Int64 → sI → sJ → Prop} (h : sOK X cX11_shareToPower RX11 8 2 49) (hr : sRt X (some .long) (sPl post)) {k10 : Int32 → Int32 → Int32 → Int32 → sI → sJ → Prop} (hk10 : ∀ (x1 : Int32) (x2 : Int32) (x3 : Int32) (x4 : Int32) (I : sI) (J : sJ), k10 x1 x2 x3 x4 I J → sG X 8 10 [(0, .ref 0), (1, .int x1), (2, .int x2), (3, .int x3), (4, .int x4)] [] I J) {x1 : Int32} {x2 : Int32} {x3 : Int32} {x4 : Int32} {I : sI} {J : sJ} (hw : w_X11_shareToPower_10_s post k10 x1 x2 x3 x4 I J) : sG X 8 10 [(0, .ref 0), (1, .int x1), (2, .int x2), (3, .int x3), (4, .int x4)] [] I J := by
  unfold w_X11_shareToPower_10_s at hw
  refine g_iload h 4 rfl dX11_shareToPower_10 ?_
  refine g_bipush (v := 12) h (by decide) dX11_shareToPower_12 ?_
  refine g_icmp_ge (tgt := 41) h (by decide) dX11_shareToPower_14 (fun q14 => ?_) (fun q14 => ?_)
  · replace hw := hw.1 q14
    refine g_aload_n h rfl 0 rfl dX11_shareToPower_41 ?_
    refine g_get h is_0 fl_X11_88 fr_0_12 dX11_shareToPower_42 ?_
    refine g_ldcw h lc_X11_384 dX11_shareToPower_45 ?_
    refine g_callV [.int 1000000] h (c_X0_become X is_243 hw) sPv_v mw_X0_become lk_X11_371 is_243 rfl rfl ⟨by decide, by decide⟩ (Nat.le_of_ble_eq_true rfl) dX11_shareToPower_48 (sPv_k (fun I_48 J_48 hw => ?_))
    refine g_aload_n h rfl 0 rfl dX11_shareToPower_51 ?_
    refine g_get h is_0 fl_X11_88 fr_0_12 dX11_shareToPower_52 ?_
    refine g_iload_n h rfl 3 rfl dX11_shareToPower_55 ?_
    refine g_iload_n h rfl 1 rfl dX11_shareToPower_56 ?_
    refine g_callV [.int x3, .int x1] h (c_X0_timesPower X is_243 hw) sPv_v mw_X0_timesPower lk_X11_377 is_243 rfl rfl ⟨by decide, by decide⟩ (Nat.le_of_ble_eq_true rfl) dX11_shareToPower_57 (sPv_k (fun I_57 J_57 hw => ?_))
    refine g_iconst (v := 0) h (by decide) dX11_shareToPower_60 ?_
    refine g_istore (lo2 := [(4, .int 0), (0, .ref 0), (1, .int x1), (2, .int x2), (3, .int x3)]) h (by decide) rfl dX11_shareToPower_61 ?_
    refine g_ldcw h lc_X11_384 dX11_shareToPower_63 ?_
    refine g_istore (lo2 := [(5, .int 1000000), (4, .int 0), (0, .ref 0), (1, .int x1), (2, .int x2), (3, .int x3)]) h (by decide) rfl dX11_shareToPower_66 ?_
    refine g_iconst (v := 0) h (by decide) dX11_shareToPower_68 ?_
    refine g_istore (lo2 := [(6, .int 0), (5, .int 1000000), (4, .int 0), (0, .ref 0), (1, .int x1), (2, .int x2), (3, .int x3)]) h (by decide) rfl dX11_shareToPower_69 ?_
    exact g_sub [3, 4, 5, 2, 1, 0] rfl (t_X11_shareToPower_71 h hr hw)
  · replace hw := hw.2 q14
    refine g_iload_n h rfl 3 rfl dX11_shareToPower_17 ?_
    refine g_aload_n h rfl 0 rfl dX11_shareToPower_18 ?_
    refine g_get h is_0 fl_X11_95 fr_0_14 dX11_shareToPower_19 ?_
    refine g_iload h 4 rfl dX11_shareToPower_22 ?_
    obtain ⟨hi24, hw⟩ := hw
    refine g_iald h ar_247 hi24 dX11_shareToPower_24 ?_
    refine g_aload_n h rfl 0 rfl dX11_shareToPower_25 ?_
    refine g_get h is_0 fl_X11_95 fr_0_14 dX11_shareToPower_26 ?_
    refine g_iload h 4 rfl dX11_shareToPower_29 ?_
    obtain ⟨hi31, hw⟩ := hw
    refine g_iald h ar_247 hi31 dX11_shareToPower_31 ?_
    refine g_imul h dX11_shareToPower_32 ?_
    refine g_iadd h dX11_shareToPower_33 ?_
    refine g_ni (fun v3_34 ev3_34 => ?_)
    replace hw := hw v3_34 ev3_34
    refine g_istore_n (lo2 := [(3, .int v3_34), (0, .ref 0), (1, .int x1), (2, .int x2), (4, .int x4)]) h rfl (by decide) rfl dX11_shareToPower_34 ?_
    obtain ⟨v4_35, ev4_35⟩ : ∃ z : Int32, z = x4 + 1 := ⟨_, rfl⟩
    replace hw := hw v4_35 ev4_35
    refine g_iinc (v := v4_35) (lo2 := [(4, .int v4_35), (3, .int v3_34), (0, .ref 0), (1, .int x1), (2, .int x2)]) h 4 rfl (by rw [ev4_35]; rfl) (by decide) rfl dX11_shareToPower_35 ?_
    refine g_goto (tgt := 10) h (by decide) dX11_shareToPower_38 ?_
    exact g_sub [2, 3, 4, 1, 0] rfl (hk10 _ _ _ _ _ _ hw)
theorem t_X11_shareToPower_10 {X : sX} {post : Int64 → sI → sJ → Prop} (h : sOK X cX11_shareToPower RX11 8 2 49) (hr : sRt X (some .long) (sPl post)) {x1 : Int32} {x2 : Int32} {x3 : Int32} {x4 : Int32} {I : sI} {J : sJ} (hw : w_X11_shareToPower_10 post x1 x2 x3 x4 I J) : sG X 8 10 [(0, .ref 0), (1, .int x1), (2, .int x2), (3, .int x3), (4, .int x4)] [] I J := by
  obtain ⟨n, hw⟩ := hw
  induction n generalizing x1 x2 x3 x4 I J with
  | zero => exact hw.elim
  | succ n ih => exact t_X11_shareToPower_10_s h hr (fun _ _ _ _ _ _ q => ih q) hw
def w_X11_shareToPower (a1 : Int32) (I : sI) (J : sJ) (post : Int64 → sI → sJ → Prop) : Prop :=
  w_X11_seenSigns I J (fun (r_1 : Int32) (I_1 : sI) (J_1 : sJ) => (w_X11_shareToPower_10 post a1 r_1 0 0 I_1 J_1))
set_option maxHeartbeats 4000000 in
set_option maxRecDepth 100000 in
theorem t_X11_shareToPower {X : sX} {a1 : Int32} {I : sI} {J : sJ} {post : Int64 → sI → sJ → Prop} (h : sOK X cX11_shareToPower RX11 8 2 49) (hr : sRt X (some .long) (sPl post)) (hw : w_X11_shareToPower a1 I J post) : sG X 8 0 [(0, .ref 0), (1, .int a1)] [] I J := by
  unfold w_X11_shareToPower at hw
  refine g_aload_n h rfl 0 rfl dX11_shareToPower_0 ?_
  refine g_callV [] h (c_X11_seenSigns X hw) sPi_v mw_X11_seenSigns lk_X11_347 is_0 rfl rfl ⟨by decide, by decide⟩ (Nat.le_of_ble_eq_true rfl) dX11_shareToPower_1 (sPi_k (fun r_1 I_1 J_1 hw => ?_))
  refine g_istore_n (lo2 := [(2, .int r_1), (0, .ref 0), (1, .int a1)]) h rfl (by decide) rfl dX11_shareToPower_4 ?_
  refine g_iconst (v := 0) h (by decide) dX11_shareToPower_5 ?_
  refine g_istore_n (lo2 := [(3, .int 0), (2, .int r_1), (0, .ref 0), (1, .int a1)]) h rfl (by decide) rfl dX11_shareToPower_6 ?_
  refine g_iconst (v := 0) h (by decide) dX11_shareToPower_7 ?_
  refine g_istore (lo2 := [(4, .int 0), (3, .int 0), (2, .int r_1), (0, .ref 0), (1, .int a1)]) h (by decide) rfl dX11_shareToPower_8 ?_
  exact g_sub [3, 4, 2, 1, 0] rfl (t_X11_shareToPower_10 h hr hw)
theorem c_X11_shareToPower (X : sX) {a1 : Int32} {I : sI} {J : sJ} {post : Int64 → sI → sJ → Prop} (hw : w_X11_shareToPower a1 I J post) : sCall X yX11_shareToPower cX11_shareToPower 8 (some .long) 2 49 [.ref 0, .int a1] I J (sPl post) := sCall_of (by decide +kernel) (Nat.le_of_ble_eq_true rfl) (fun X h hr => t_X11_shareToPower h hr hw)
theorem dX11_repeat_0 : decode cX11_repeat 0 = .ok (.aload_n 0, 1) := by decide +kernel
theorem dX11_repeat_1 : decode cX11_repeat 1 = .ok (.getfield 19, 3) := by decide +kernel
theorem dX11_repeat_4 : decode cX11_repeat 4 = .ok (.getfield 117, 3) := by decide +kernel
theorem dX11_repeat_7 : decode cX11_repeat 7 = .ok (.astore_n 1, 1) := by decide +kernel
theorem dX11_repeat_8 : decode cX11_repeat 8 = .ok (.aload_n 1, 1) := by decide +kernel
theorem dX11_repeat_9 : decode cX11_repeat 9 = .ok (.getfield 131, 3) := by decide +kernel
theorem dX11_repeat_12 : decode cX11_repeat 12 = .ok (.ifCond .ne 5, 3) := by decide +kernel
theorem dX11_repeat_15 : decode cX11_repeat 15 = .ok (.iconst (-1), 1) := by decide +kernel
theorem dX11_repeat_16 : decode cX11_repeat 16 = .ok (.ireturn, 1) := by decide +kernel
theorem dX11_repeat_17 : decode cX11_repeat 17 = .ok (.aload_n 1, 1) := by decide +kernel
theorem dX11_repeat_18 : decode cX11_repeat 18 = .ok (.aload_n 0, 1) := by decide +kernel
theorem dX11_repeat_19 : decode cX11_repeat 19 = .ok (.getfield 95, 3) := by decide +kernel
theorem dX11_repeat_22 : decode cX11_repeat 22 = .ok (.invokevirtual 333, 3) := by decide +kernel
theorem dX11_repeat_25 : decode cX11_repeat 25 = .ok (.iconst 0, 1) := by decide +kernel
theorem dX11_repeat_26 : decode cX11_repeat 26 = .ok (.istore_n 2, 1) := by decide +kernel
theorem dX11_repeat_27 : decode cX11_repeat 27 = .ok (.lconst 0, 1) := by decide +kernel
theorem dX11_repeat_28 : decode cX11_repeat 28 = .ok (.lstore_n 3, 1) := by decide +kernel
theorem dX11_repeat_29 : decode cX11_repeat 29 = .ok (.iconst 1, 1) := by decide +kernel
theorem dX11_repeat_30 : decode cX11_repeat 30 = .ok (.istore 5, 2) := by decide +kernel
theorem dX11_repeat_32 : decode cX11_repeat 32 = .ok (.iload 5, 2) := by decide +kernel
theorem dX11_repeat_34 : decode cX11_repeat 34 = .ok (.bipush 6, 2) := by decide +kernel
theorem dX11_repeat_36 : decode cX11_repeat 36 = .ok (.if_icmp .gt 129, 3) := by decide +kernel
theorem dX11_repeat_39 : decode cX11_repeat 39 = .ok (.iconst 0, 1) := by decide +kernel
theorem dX11_repeat_40 : decode cX11_repeat 40 = .ok (.istore 6, 2) := by decide +kernel
theorem dX11_repeat_42 : decode cX11_repeat 42 = .ok (.iconst 0, 1) := by decide +kernel
theorem dX11_repeat_43 : decode cX11_repeat 43 = .ok (.istore 7, 2) := by decide +kernel
theorem dX11_repeat_45 : decode cX11_repeat 45 = .ok (.iload 7, 2) := by decide +kernel
theorem dX11_repeat_47 : decode cX11_repeat 47 = .ok (.aload_n 1, 1) := by decide +kernel
theorem dX11_repeat_48 : decode cX11_repeat 48 = .ok (.getfield 131, 3) := by decide +kernel
theorem dX11_repeat_51 : decode cX11_repeat 51 = .ok (.if_icmp .ge 86, 3) := by decide +kernel
theorem dX11_repeat_54 : decode cX11_repeat 54 = .ok (.iload 7, 2) := by decide +kernel
theorem dX11_repeat_56 : decode cX11_repeat 56 = .ok (.iconst 1, 1) := by decide +kernel
theorem dX11_repeat_57 : decode cX11_repeat 57 = .ok (.iadd, 1) := by decide +kernel
theorem dX11_repeat_58 : decode cX11_repeat 58 = .ok (.istore 8, 2) := by decide +kernel
theorem dX11_repeat_60 : decode cX11_repeat 60 = .ok (.iload 8, 2) := by decide +kernel
theorem dX11_repeat_62 : decode cX11_repeat 62 = .ok (.aload_n 1, 1) := by decide +kernel
theorem dX11_repeat_63 : decode cX11_repeat 63 = .ok (.getfield 131, 3) := by decide +kernel
theorem dX11_repeat_66 : decode cX11_repeat 66 = .ok (.if_icmp .ge 65, 3) := by decide +kernel
theorem dX11_repeat_69 : decode cX11_repeat 69 = .ok (.aload_n 1, 1) := by decide +kernel
theorem dX11_repeat_70 : decode cX11_repeat 70 = .ok (.iload 7, 2) := by decide +kernel
theorem dX11_repeat_72 : decode cX11_repeat 72 = .ok (.iload 5, 2) := by decide +kernel
theorem dX11_repeat_74 : decode cX11_repeat 74 = .ok (.invokevirtual 350, 3) := by decide +kernel
theorem dX11_repeat_77 : decode cX11_repeat 77 = .ok (.ifCond .eq 48, 3) := by decide +kernel
theorem dX11_repeat_80 : decode cX11_repeat 80 = .ok (.aload_n 1, 1) := by decide +kernel
theorem dX11_repeat_81 : decode cX11_repeat 81 = .ok (.iload 8, 2) := by decide +kernel
theorem dX11_repeat_83 : decode cX11_repeat 83 = .ok (.iload 5, 2) := by decide +kernel
theorem dX11_repeat_85 : decode cX11_repeat 85 = .ok (.invokevirtual 350, 3) := by decide +kernel
theorem dX11_repeat_88 : decode cX11_repeat 88 = .ok (.ifCond .eq 37, 3) := by decide +kernel
theorem dX11_repeat_91 : decode cX11_repeat 91 = .ok (.iinc 6 1, 3) := by decide +kernel
theorem dX11_repeat_94 : decode cX11_repeat 94 = .ok (.iload_n 2, 1) := by decide +kernel
theorem dX11_repeat_95 : decode cX11_repeat 95 = .ok (.aload_n 1, 1) := by decide +kernel
theorem dX11_repeat_96 : decode cX11_repeat 96 = .ok (.aload_n 1, 1) := by decide +kernel
theorem dX11_repeat_97 : decode cX11_repeat 97 = .ok (.getfield 353, 3) := by decide +kernel
theorem dX11_repeat_100 : decode cX11_repeat 100 = .ok (.iload 7, 2) := by decide +kernel
theorem dX11_repeat_102 : decode cX11_repeat 102 = .ok (.iaload, 1) := by decide +kernel
theorem dX11_repeat_103 : decode cX11_repeat 103 = .ok (.aload_n 1, 1) := by decide +kernel
theorem dX11_repeat_104 : decode cX11_repeat 104 = .ok (.getfield 353, 3) := by decide +kernel
theorem dX11_repeat_107 : decode cX11_repeat 107 = .ok (.iload 8, 2) := by decide +kernel
theorem dX11_repeat_109 : decode cX11_repeat 109 = .ok (.iaload, 1) := by decide +kernel
theorem dX11_repeat_110 : decode cX11_repeat 110 = .ok (.iload 5, 2) := by decide +kernel
theorem dX11_repeat_112 : decode cX11_repeat 112 = .ok (.invokevirtual 356, 3) := by decide +kernel
theorem dX11_repeat_115 : decode cX11_repeat 115 = .ok (.ifCond .eq 7, 3) := by decide +kernel
theorem dX11_repeat_118 : decode cX11_repeat 118 = .ok (.iconst 1, 1) := by decide +kernel
theorem dX11_repeat_119 : decode cX11_repeat 119 = .ok (.goto 4, 3) := by decide +kernel
theorem dX11_repeat_122 : decode cX11_repeat 122 = .ok (.iconst 0, 1) := by decide +kernel
theorem dX11_repeat_123 : decode cX11_repeat 123 = .ok (.iadd, 1) := by decide +kernel
theorem dX11_repeat_124 : decode cX11_repeat 124 = .ok (.istore_n 2, 1) := by decide +kernel
theorem dX11_repeat_125 : decode cX11_repeat 125 = .ok (.iinc 8 1, 3) := by decide +kernel
theorem dX11_repeat_128 : decode cX11_repeat 128 = .ok (.goto (-68), 3) := by decide +kernel
theorem dX11_repeat_131 : decode cX11_repeat 131 = .ok (.iinc 7 1, 3) := by decide +kernel
theorem dX11_repeat_134 : decode cX11_repeat 134 = .ok (.goto (-89), 3) := by decide +kernel
theorem dX11_repeat_137 : decode cX11_repeat 137 = .ok (.lload_n 3, 1) := by decide +kernel
theorem dX11_repeat_138 : decode cX11_repeat 138 = .ok (.iload 6, 2) := by decide +kernel
theorem dX11_repeat_140 : decode cX11_repeat 140 = .ok (.ifCond .le 16, 3) := by decide +kernel
theorem dX11_repeat_143 : decode cX11_repeat 143 = .ok (.iload 6, 2) := by decide +kernel
theorem dX11_repeat_145 : decode cX11_repeat 145 = .ok (.i2l, 1) := by decide +kernel
theorem dX11_repeat_146 : decode cX11_repeat 146 = .ok (.aload_n 0, 1) := by decide +kernel
theorem dX11_repeat_147 : decode cX11_repeat 147 = .ok (.iload 5, 2) := by decide +kernel
theorem dX11_repeat_149 : decode cX11_repeat 149 = .ok (.invokevirtual 360, 3) := by decide +kernel
theorem dX11_repeat_152 : decode cX11_repeat 152 = .ok (.lmul, 1) := by decide +kernel
theorem dX11_repeat_153 : decode cX11_repeat 153 = .ok (.goto 4, 3) := by decide +kernel
theorem dX11_repeat_156 : decode cX11_repeat 156 = .ok (.lconst 0, 1) := by decide +kernel
theorem dX11_repeat_157 : decode cX11_repeat 157 = .ok (.ladd, 1) := by decide +kernel
theorem dX11_repeat_158 : decode cX11_repeat 158 = .ok (.lstore_n 3, 1) := by decide +kernel
theorem dX11_repeat_159 : decode cX11_repeat 159 = .ok (.iinc 5 1, 3) := by decide +kernel
theorem dX11_repeat_162 : decode cX11_repeat 162 = .ok (.goto (-130), 3) := by decide +kernel
theorem dX11_repeat_165 : decode cX11_repeat 165 = .ok (.aload_n 0, 1) := by decide +kernel
theorem dX11_repeat_166 : decode cX11_repeat 166 = .ok (.getfield 41, 3) := by decide +kernel
theorem dX11_repeat_169 : decode cX11_repeat 169 = .ok (.lload_n 3, 1) := by decide +kernel
theorem dX11_repeat_170 : decode cX11_repeat 170 = .ok (.invokevirtual 256, 3) := by decide +kernel
theorem dX11_repeat_173 : decode cX11_repeat 173 = .ok (.iload_n 2, 1) := by decide +kernel
theorem dX11_repeat_174 : decode cX11_repeat 174 = .ok (.ireturn, 1) := by decide +kernel
def w_X11_repeat_157 (post : Int32 → sI → sJ → Prop) (k32 : Int32 → Int64 → Int32 → sI → sJ → Prop) (x2 : Int32) (x5 : Int32) (s0 : Int64) (s1 : Int64) (I : sI) (J : sJ) : Prop :=
  (∀ v3_158 : Int64, v3_158 = s1 + s0 → (∀ v5_159 : Int32, v5_159 = x5 + 1 → k32 x2 v3_158 v5_159 I J))
set_option maxHeartbeats 4000000 in
set_option maxRecDepth 100000 in
theorem t_X11_repeat_157 {X : sX} {post : Int32 → sI → sJ → Prop} (h : sOK X cX11_repeat RX11 9 3 76) (hr : sRt X (some .int) (sPi post)) {k32 : Int32 → Int64 → Int32 → sI → sJ → Prop} (hk32 : ∀ (x2 : Int32) (x3 : Int64) (x5 : Int32) (I : sI) (J : sJ), k32 x2 x3 x5 I J → sG X 9 32 [(0, .ref 0), (1, .ref 4), (2, .int x2), (3, .long x3), (5, .int x5)] [] I J) {x2 : Int32} {x5 : Int32} {s0 : Int64} {s1 : Int64} {I : sI} {J : sJ} (hw : w_X11_repeat_157 post k32 x2 x5 s0 s1 I J) : sG X 9 157 [(0, .ref 0), (1, .ref 4), (2, .int x2), (5, .int x5)] [.long s0, .long s1] I J := by
  unfold w_X11_repeat_157 at hw
  refine g_ladd h dX11_repeat_157 ?_
  refine g_nl (fun v3_158 ev3_158 => ?_)
  replace hw := hw v3_158 ev3_158
  refine g_lstore_n (lo2 := [(3, .long v3_158), (0, .ref 0), (1, .ref 4), (2, .int x2), (5, .int x5)]) h rfl (by decide) rfl dX11_repeat_158 ?_
  obtain ⟨v5_159, ev5_159⟩ : ∃ z : Int32, z = x5 + 1 := ⟨_, rfl⟩
  replace hw := hw v5_159 ev5_159
  refine g_iinc (v := v5_159) (lo2 := [(5, .int v5_159), (3, .long v3_158), (0, .ref 0), (1, .ref 4), (2, .int x2)]) h 4 rfl (by rw [ev5_159]; rfl) (by decide) rfl dX11_repeat_159 ?_
  refine g_goto (tgt := 32) h (by decide) dX11_repeat_162 ?_
  exact g_sub [2, 3, 4, 1, 0] rfl (hk32 _ _ _ _ _ hw)
def w_X11_repeat_125 (post : Int32 → sI → sJ → Prop) (k32 : Int32 → Int64 → Int32 → sI → sJ → Prop) (k45 : Int32 → Int64 → Int32 → Int32 → Int32 → sI → sJ → Prop) (k60 : Int32 → Int64 → Int32 → Int32 → Int32 → Int32 → sI → sJ → Prop) (x2 : Int32) (x3 : Int64) (x5 : Int32) (x6 : Int32) (x7 : Int32) (x8 : Int32) (I : sI) (J : sJ) : Prop :=
  (∀ v8_125 : Int32, v8_125 = x8 + 1 → k60 x2 x3 x5 x6 x7 v8_125 I J)
set_option maxHeartbeats 4000000 in
set_option maxRecDepth 100000 in
theorem t_X11_repeat_125 {X : sX} {post : Int32 → sI → sJ → Prop} (h : sOK X cX11_repeat RX11 9 3 76) (hr : sRt X (some .int) (sPi post)) {k32 : Int32 → Int64 → Int32 → sI → sJ → Prop} (hk32 : ∀ (x2 : Int32) (x3 : Int64) (x5 : Int32) (I : sI) (J : sJ), k32 x2 x3 x5 I J → sG X 9 32 [(0, .ref 0), (1, .ref 4), (2, .int x2), (3, .long x3), (5, .int x5)] [] I J) {k45 : Int32 → Int64 → Int32 → Int32 → Int32 → sI → sJ → Prop} (hk45 : ∀ (x2 : Int32) (x3 : Int64) (x5 : Int32) (x6 : Int32) (x7 : Int32) (I : sI) (J : sJ), k45 x2 x3 x5 x6 x7 I J → sG X 9 45 [(0, .ref 0), (1, .ref 4), (2, .int x2), (3, .long x3), (5, .int x5), (6, .int x6), (7, .int x7)] [] I J) {k60 : Int32 → Int64 → Int32 → Int32 → Int32 → Int32 → sI → sJ → Prop} (hk60 : ∀ (x2 : Int32) (x3 : Int64) (x5 : Int32) (x6 : Int32) (x7 : Int32) (x8 : Int32) (I : sI) (J : sJ), k60 x2 x3 x5 x6 x7 x8 I J → sG X 9 60 [(0, .ref 0), (1, .ref 4), (2, .int x2), (3, .long x3), (5, .int x5), (6, .int x6), (7, .int x7), (8, .int x8)] [] I J) {x2 : Int32} {x3 : Int64} {x5 : Int32} {x6 : Int32} {x7 : Int32} {x8 : Int32} {I : sI} {J : sJ} (hw : w_X11_repeat_125 post k32 k45 k60 x2 x3 x5 x6 x7 x8 I J) : sG X 9 125 [(0, .ref 0), (1, .ref 4), (2, .int x2), (3, .long x3), (5, .int x5), (6, .int x6), (7, .int x7), (8, .int x8)] [] I J := by
  unfold w_X11_repeat_125 at hw
  obtain ⟨v8_125, ev8_125⟩ : ∃ z : Int32, z = x8 + 1 := ⟨_, rfl⟩
  replace hw := hw v8_125 ev8_125
  refine g_iinc (v := v8_125) (lo2 := [(8, .int v8_125), (0, .ref 0), (1, .ref 4), (2, .int x2), (3, .long x3), (5, .int x5), (6, .int x6), (7, .int x7)]) h 7 rfl (by rw [ev8_125]; rfl) (by decide) rfl dX11_repeat_125 ?_
  refine g_goto (tgt := 60) h (by decide) dX11_repeat_128 ?_
  exact g_sub [1, 2, 3, 4, 5, 6, 7, 0] rfl (hk60 _ _ _ _ _ _ _ _ hw)
def w_X11_repeat_123 (post : Int32 → sI → sJ → Prop) (k32 : Int32 → Int64 → Int32 → sI → sJ → Prop) (k45 : Int32 → Int64 → Int32 → Int32 → Int32 → sI → sJ → Prop) (k60 : Int32 → Int64 → Int32 → Int32 → Int32 → Int32 → sI → sJ → Prop) (x3 : Int64) (x5 : Int32) (x6 : Int32) (x7 : Int32) (x8 : Int32) (s0 : Int32) (s1 : Int32) (I : sI) (J : sJ) : Prop :=
  (∀ v2_124 : Int32, v2_124 = s1 + s0 → w_X11_repeat_125 post k32 k45 k60 v2_124 x3 x5 x6 x7 x8 I J)
set_option maxHeartbeats 4000000 in
set_option maxRecDepth 100000 in
theorem t_X11_repeat_123 {X : sX} {post : Int32 → sI → sJ → Prop} (h : sOK X cX11_repeat RX11 9 3 76) (hr : sRt X (some .int) (sPi post)) {k32 : Int32 → Int64 → Int32 → sI → sJ → Prop} (hk32 : ∀ (x2 : Int32) (x3 : Int64) (x5 : Int32) (I : sI) (J : sJ), k32 x2 x3 x5 I J → sG X 9 32 [(0, .ref 0), (1, .ref 4), (2, .int x2), (3, .long x3), (5, .int x5)] [] I J) {k45 : Int32 → Int64 → Int32 → Int32 → Int32 → sI → sJ → Prop} (hk45 : ∀ (x2 : Int32) (x3 : Int64) (x5 : Int32) (x6 : Int32) (x7 : Int32) (I : sI) (J : sJ), k45 x2 x3 x5 x6 x7 I J → sG X 9 45 [(0, .ref 0), (1, .ref 4), (2, .int x2), (3, .long x3), (5, .int x5), (6, .int x6), (7, .int x7)] [] I J) {k60 : Int32 → Int64 → Int32 → Int32 → Int32 → Int32 → sI → sJ → Prop} (hk60 : ∀ (x2 : Int32) (x3 : Int64) (x5 : Int32) (x6 : Int32) (x7 : Int32) (x8 : Int32) (I : sI) (J : sJ), k60 x2 x3 x5 x6 x7 x8 I J → sG X 9 60 [(0, .ref 0), (1, .ref 4), (2, .int x2), (3, .long x3), (5, .int x5), (6, .int x6), (7, .int x7), (8, .int x8)] [] I J) {x3 : Int64} {x5 : Int32} {x6 : Int32} {x7 : Int32} {x8 : Int32} {s0 : Int32} {s1 : Int32} {I : sI} {J : sJ} (hw : w_X11_repeat_123 post k32 k45 k60 x3 x5 x6 x7 x8 s0 s1 I J) : sG X 9 123 [(0, .ref 0), (1, .ref 4), (3, .long x3), (5, .int x5), (6, .int x6), (7, .int x7), (8, .int x8)] [.int s0, .int s1] I J := by
  unfold w_X11_repeat_123 at hw
  refine g_iadd h dX11_repeat_123 ?_
  refine g_ni (fun v2_124 ev2_124 => ?_)
  replace hw := hw v2_124 ev2_124
  refine g_istore_n (lo2 := [(2, .int v2_124), (0, .ref 0), (1, .ref 4), (3, .long x3), (5, .int x5), (6, .int x6), (7, .int x7), (8, .int x8)]) h rfl (by decide) rfl dX11_repeat_124 ?_
  exact g_sub [1, 2, 0, 3, 4, 5, 6, 7] rfl (t_X11_repeat_125 h hr hk32 hk45 hk60 hw)
def w_X11_repeat_60_s (post : Int32 → sI → sJ → Prop) (k32 : Int32 → Int64 → Int32 → sI → sJ → Prop) (k45 : Int32 → Int64 → Int32 → Int32 → Int32 → sI → sJ → Prop) (k60 : Int32 → Int64 → Int32 → Int32 → Int32 → Int32 → sI → sJ → Prop) (x2 : Int32) (x3 : Int64) (x5 : Int32) (x6 : Int32) (x7 : Int32) (x8 : Int32) (I : sI) (J : sJ) : Prop :=
  (((I 4 3) ≤ x8 → (∀ v7_131 : Int32, v7_131 = x7 + 1 → k45 x2 x3 x5 x6 v7_131 I J)) ∧ (¬ (I 4 3) ≤ x8 → w_X2_clear 4 x7 x5 I J (fun (r_74 : Int32) (I_74 : sI) (J_74 : sJ) => (((r_74 = 0 → w_X11_repeat_125 post k32 k45 k60 x2 x3 x5 x6 x7 x8 I_74 J_74) ∧ (¬ r_74 = 0 → w_X2_clear 4 x8 x5 I_74 J_74 (fun (r_85 : Int32) (I_85 : sI) (J_85 : sJ) => (((r_85 = 0 → w_X11_repeat_125 post k32 k45 k60 x2 x3 x5 x6 x7 x8 I_85 J_85) ∧ (¬ r_85 = 0 → (∀ v6_91 : Int32, v6_91 = x6 + 1 → (vp_in x7 13 ∧ (vp_in x8 13 ∧ w_X2_sameSigns 4 (I_85 7 (Int32.toNatClampNeg x7)) (I_85 7 (Int32.toNatClampNeg x8)) x5 I_85 J_85 (fun (r_112 : Int32) (I_112 : sI) (J_112 : sJ) => (((r_112 = 0 → w_X11_repeat_123 post k32 k45 k60 x3 x5 v6_91 x7 x8 0 x2 I_112 J_112) ∧ (¬ r_112 = 0 → w_X11_repeat_123 post k32 k45 k60 x3 x5 v6_91 x7 x8 1 x2 I_112 J_112)))))))))))))))))
def w_X11_repeat_60_n (post : Int32 → sI → sJ → Prop) (k32 : Int32 → Int64 → Int32 → sI → sJ → Prop) (k45 : Int32 → Int64 → Int32 → Int32 → Int32 → sI → sJ → Prop) : Nat → Int32 → Int64 → Int32 → Int32 → Int32 → Int32 → sI → sJ → Prop
  | 0 => fun _ _ _ _ _ _ _ _ => False
  | n + 1 => fun x2 x3 x5 x6 x7 x8 I J => w_X11_repeat_60_s post k32 k45 (w_X11_repeat_60_n post k32 k45 n) x2 x3 x5 x6 x7 x8 I J
def w_X11_repeat_60 (post : Int32 → sI → sJ → Prop) (k32 : Int32 → Int64 → Int32 → sI → sJ → Prop) (k45 : Int32 → Int64 → Int32 → Int32 → Int32 → sI → sJ → Prop) (x2 : Int32) (x3 : Int64) (x5 : Int32) (x6 : Int32) (x7 : Int32) (x8 : Int32) (I : sI) (J : sJ) : Prop := ∃ n, w_X11_repeat_60_n post k32 k45 n x2 x3 x5 x6 x7 x8 I J
set_option maxHeartbeats 4000000 in
set_option maxRecDepth 100000 in
theorem t_X11_repeat_60_s {X : sX} {post : Int32 → sI → sJ → Prop} (h : sOK X cX11_repeat RX11 9 3 76) (hr : sRt X (some .int) (sPi post)) {k32 : Int32 → Int64 → Int32 → sI → sJ → Prop} (hk32 : ∀ (x2 : Int32) (x3 : Int64) (x5 : Int32) (I : sI) (J : sJ), k32 x2 x3 x5 I J → sG X 9 32 [(0, .ref 0), (1, .ref 4), (2, .int x2), (3, .long x3), (5, .int x5)] [] I J) {k45 : Int32 → Int64 → Int32 → Int32 → Int32 → sI → sJ → Prop} (hk45 : ∀ (x2 : Int32) (x3 : Int64) (x5 : Int32) (x6 : Int32) (x7 : Int32) (I : sI) (J : sJ), k45 x2 x3 x5 x6 x7 I J → sG X 9 45 [(0, .ref 0), (1, .ref 4), (2, .int x2), (3, .long x3), (5, .int x5), (6, .int x6), (7, .int x7)] [] I J) {k60 : Int32 → Int64 → Int32 → Int32 → Int32 → Int32 → sI → sJ → Prop} (hk60 : ∀ (x2 : Int32) (x3 : Int64) (x5 : Int32) (x6 : Int32) (x7 : Int32) (x8 : Int32) (I : sI) (J : sJ), k60 x2 x3 x5 x6 x7 x8 I J → sG X 9 60 [(0, .ref 0), (1, .ref 4), (2, .int x2), (3, .long x3), (5, .int x5), (6, .int x6), (7, .int x7), (8, .int x8)] [] I J) {x2 : Int32} {x3 : Int64} {x5 : Int32} {x6 : Int32} {x7 : Int32} {x8 : Int32} {I : sI} {J : sJ} (hw : w_X11_repeat_60_s post k32 k45 k60 x2 x3 x5 x6 x7 x8 I J) : sG X 9 60 [(0, .ref 0), (1, .ref 4), (2, .int x2), (3, .long x3), (5, .int x5), (6, .int x6), (7, .int x7), (8, .int x8)] [] I J := by
  unfold w_X11_repeat_60_s at hw
  refine g_iload h 7 rfl dX11_repeat_60 ?_
  refine g_aload_n h rfl 1 rfl dX11_repeat_62 ?_
  refine g_get h is_4 fl_X11_131 rfl dX11_repeat_63 ?_
  refine g_icmp_ge (tgt := 131) h (by decide) dX11_repeat_66 (fun q66 => ?_) (fun q66 => ?_)
  · replace hw := hw.1 q66
    obtain ⟨v7_131, ev7_131⟩ : ∃ z : Int32, z = x7 + 1 := ⟨_, rfl⟩
    replace hw := hw v7_131 ev7_131
    refine g_iinc (v := v7_131) (lo2 := [(7, .int v7_131), (0, .ref 0), (1, .ref 4), (2, .int x2), (3, .long x3), (5, .int x5), (6, .int x6), (8, .int x8)]) h 6 rfl (by rw [ev7_131]; rfl) (by decide) rfl dX11_repeat_131 ?_
    refine g_goto (tgt := 45) h (by decide) dX11_repeat_134 ?_
    exact g_sub [1, 2, 3, 4, 5, 6, 0] rfl (hk45 _ _ _ _ _ _ _ hw)
  · replace hw := hw.2 q66
    refine g_aload_n h rfl 1 rfl dX11_repeat_69 ?_
    refine g_iload h 6 rfl dX11_repeat_70 ?_
    refine g_iload h 4 rfl dX11_repeat_72 ?_
    refine g_callV [.int x7, .int x5] h (c_X2_clear X is_4 hw) sPi_v mw_X2_clear lk_X11_350 is_4 rfl rfl ⟨by decide, by decide⟩ (Nat.le_of_ble_eq_true rfl) dX11_repeat_74 (sPi_k (fun r_74 I_74 J_74 hw => ?_))
    refine g_if_eq (tgt := 125) h (by decide) dX11_repeat_77 (fun q77 => ?_) (fun q77 => ?_)
    · replace hw := hw.1 q77
      exact g_sub [0, 1, 2, 3, 4, 5, 6, 7] rfl (t_X11_repeat_125 h hr hk32 hk45 hk60 hw)
    · replace hw := hw.2 q77
      refine g_aload_n h rfl 1 rfl dX11_repeat_80 ?_
      refine g_iload h 7 rfl dX11_repeat_81 ?_
      refine g_iload h 4 rfl dX11_repeat_83 ?_
      refine g_callV [.int x8, .int x5] h (c_X2_clear X is_4 hw) sPi_v mw_X2_clear lk_X11_350 is_4 rfl rfl ⟨by decide, by decide⟩ (Nat.le_of_ble_eq_true rfl) dX11_repeat_85 (sPi_k (fun r_85 I_85 J_85 hw => ?_))
      refine g_if_eq (tgt := 125) h (by decide) dX11_repeat_88 (fun q88 => ?_) (fun q88 => ?_)
      · replace hw := hw.1 q88
        exact g_sub [0, 1, 2, 3, 4, 5, 6, 7] rfl (t_X11_repeat_125 h hr hk32 hk45 hk60 hw)
      · replace hw := hw.2 q88
        obtain ⟨v6_91, ev6_91⟩ : ∃ z : Int32, z = x6 + 1 := ⟨_, rfl⟩
        replace hw := hw v6_91 ev6_91
        refine g_iinc (v := v6_91) (lo2 := [(6, .int v6_91), (0, .ref 0), (1, .ref 4), (2, .int x2), (3, .long x3), (5, .int x5), (7, .int x7), (8, .int x8)]) h 5 rfl (by rw [ev6_91]; rfl) (by decide) rfl dX11_repeat_91 ?_
        refine g_iload_n h rfl 3 rfl dX11_repeat_94 ?_
        refine g_aload_n h rfl 2 rfl dX11_repeat_95 ?_
        refine g_aload_n h rfl 2 rfl dX11_repeat_96 ?_
        refine g_get h is_4 fl_X11_353 fr_4_2 dX11_repeat_97 ?_
        refine g_iload h 6 rfl dX11_repeat_100 ?_
        obtain ⟨hi102, hw⟩ := hw
        refine g_iald h ar_7 hi102 dX11_repeat_102 ?_
        refine g_aload_n h rfl 2 rfl dX11_repeat_103 ?_
        refine g_get h is_4 fl_X11_353 fr_4_2 dX11_repeat_104 ?_
        refine g_iload h 7 rfl dX11_repeat_107 ?_
        obtain ⟨hi109, hw⟩ := hw
        refine g_iald h ar_7 hi109 dX11_repeat_109 ?_
        refine g_iload h 5 rfl dX11_repeat_110 ?_
        refine g_callV [.int (I_85 7 (Int32.toNatClampNeg x7)), .int (I_85 7 (Int32.toNatClampNeg x8)), .int x5] h (c_X2_sameSigns X is_4 hw) sPi_v mw_X2_sameSigns lk_X11_356 is_4 rfl rfl ⟨by decide, by decide⟩ (Nat.le_of_ble_eq_true rfl) dX11_repeat_112 (sPi_k (fun r_112 I_112 J_112 hw => ?_))
        refine g_if_eq (tgt := 122) h (by decide) dX11_repeat_115 (fun q115 => ?_) (fun q115 => ?_)
        · replace hw := hw.1 q115
          refine g_iconst (v := 0) h (by decide) dX11_repeat_122 ?_
          exact g_sub [1, 2, 4, 5, 0, 6, 7] rfl (t_X11_repeat_123 h hr hk32 hk45 hk60 hw)
        · replace hw := hw.2 q115
          refine g_iconst (v := 1) h (by decide) dX11_repeat_118 ?_
          refine g_goto (tgt := 123) h (by decide) dX11_repeat_119 ?_
          exact g_sub [1, 2, 4, 5, 0, 6, 7] rfl (t_X11_repeat_123 h hr hk32 hk45 hk60 hw)
theorem t_X11_repeat_60 {X : sX} {post : Int32 → sI → sJ → Prop} (h : sOK X cX11_repeat RX11 9 3 76) (hr : sRt X (some .int) (sPi post)) {k32 : Int32 → Int64 → Int32 → sI → sJ → Prop} (hk32 : ∀ (x2 : Int32) (x3 : Int64) (x5 : Int32) (I : sI) (J : sJ), k32 x2 x3 x5 I J → sG X 9 32 [(0, .ref 0), (1, .ref 4), (2, .int x2), (3, .long x3), (5, .int x5)] [] I J) {k45 : Int32 → Int64 → Int32 → Int32 → Int32 → sI → sJ → Prop} (hk45 : ∀ (x2 : Int32) (x3 : Int64) (x5 : Int32) (x6 : Int32) (x7 : Int32) (I : sI) (J : sJ), k45 x2 x3 x5 x6 x7 I J → sG X 9 45 [(0, .ref 0), (1, .ref 4), (2, .int x2), (3, .long x3), (5, .int x5), (6, .int x6), (7, .int x7)] [] I J) {x2 : Int32} {x3 : Int64} {x5 : Int32} {x6 : Int32} {x7 : Int32} {x8 : Int32} {I : sI} {J : sJ} (hw : w_X11_repeat_60 post k32 k45 x2 x3 x5 x6 x7 x8 I J) : sG X 9 60 [(0, .ref 0), (1, .ref 4), (2, .int x2), (3, .long x3), (5, .int x5), (6, .int x6), (7, .int x7), (8, .int x8)] [] I J := by
  obtain ⟨n, hw⟩ := hw
  induction n generalizing x2 x3 x5 x6 x7 x8 I J with
  | zero => exact hw.elim
  | succ n ih => exact t_X11_repeat_60_s h hr hk32 hk45 (fun _ _ _ _ _ _ _ _ q => ih q) hw
def w_X11_repeat_45_s (post : Int32 → sI → sJ → Prop) (k32 : Int32 → Int64 → Int32 → sI → sJ → Prop) (k45 : Int32 → Int64 → Int32 → Int32 → Int32 → sI → sJ → Prop) (x2 : Int32) (x3 : Int64) (x5 : Int32) (x6 : Int32) (x7 : Int32) (I : sI) (J : sJ) : Prop :=
  (((I 4 3) ≤ x7 → ((x6 ≤ 0 → w_X11_repeat_157 post k32 x2 x5 0 x3 I J) ∧ (¬ x6 ≤ 0 → w_X11_shareToPower x5 I J (fun (r_149 : Int64) (I_149 : sI) (J_149 : sJ) => (w_X11_repeat_157 post k32 x2 x5 ((Int32.toInt64 x6) * r_149) x3 I_149 J_149))))) ∧ (¬ (I 4 3) ≤ x7 → (∀ v8_58 : Int32, v8_58 = x7 + 1 → w_X11_repeat_60 post k32 k45 x2 x3 x5 x6 x7 v8_58 I J)))
def w_X11_repeat_45_n (post : Int32 → sI → sJ → Prop) (k32 : Int32 → Int64 → Int32 → sI → sJ → Prop) : Nat → Int32 → Int64 → Int32 → Int32 → Int32 → sI → sJ → Prop
  | 0 => fun _ _ _ _ _ _ _ => False
  | n + 1 => fun x2 x3 x5 x6 x7 I J => w_X11_repeat_45_s post k32 (w_X11_repeat_45_n post k32 n) x2 x3 x5 x6 x7 I J
def w_X11_repeat_45 (post : Int32 → sI → sJ → Prop) (k32 : Int32 → Int64 → Int32 → sI → sJ → Prop) (x2 : Int32) (x3 : Int64) (x5 : Int32) (x6 : Int32) (x7 : Int32) (I : sI) (J : sJ) : Prop := ∃ n, w_X11_repeat_45_n post k32 n x2 x3 x5 x6 x7 I J
set_option maxHeartbeats 4000000 in
set_option maxRecDepth 100000 in
theorem t_X11_repeat_45_s {X : sX} {post : Int32 → sI → sJ → Prop} (h : sOK X cX11_repeat RX11 9 3 76) (hr : sRt X (some .int) (sPi post)) {k32 : Int32 → Int64 → Int32 → sI → sJ → Prop} (hk32 : ∀ (x2 : Int32) (x3 : Int64) (x5 : Int32) (I : sI) (J : sJ), k32 x2 x3 x5 I J → sG X 9 32 [(0, .ref 0), (1, .ref 4), (2, .int x2), (3, .long x3), (5, .int x5)] [] I J) {k45 : Int32 → Int64 → Int32 → Int32 → Int32 → sI → sJ → Prop} (hk45 : ∀ (x2 : Int32) (x3 : Int64) (x5 : Int32) (x6 : Int32) (x7 : Int32) (I : sI) (J : sJ), k45 x2 x3 x5 x6 x7 I J → sG X 9 45 [(0, .ref 0), (1, .ref 4), (2, .int x2), (3, .long x3), (5, .int x5), (6, .int x6), (7, .int x7)] [] I J) {x2 : Int32} {x3 : Int64} {x5 : Int32} {x6 : Int32} {x7 : Int32} {I : sI} {J : sJ} (hw : w_X11_repeat_45_s post k32 k45 x2 x3 x5 x6 x7 I J) : sG X 9 45 [(0, .ref 0), (1, .ref 4), (2, .int x2), (3, .long x3), (5, .int x5), (6, .int x6), (7, .int x7)] [] I J := by
  unfold w_X11_repeat_45_s at hw
  refine g_iload h 6 rfl dX11_repeat_45 ?_
  refine g_aload_n h rfl 1 rfl dX11_repeat_47 ?_
  refine g_get h is_4 fl_X11_131 rfl dX11_repeat_48 ?_
  refine g_icmp_ge (tgt := 137) h (by decide) dX11_repeat_51 (fun q51 => ?_) (fun q51 => ?_)
  · replace hw := hw.1 q51
    refine g_lload_n h rfl 3 rfl dX11_repeat_137 ?_
    refine g_iload h 5 rfl dX11_repeat_138 ?_
    refine g_if_le (tgt := 156) h (by decide) dX11_repeat_140 (fun q140 => ?_) (fun q140 => ?_)
    · replace hw := hw.1 q140
      refine g_lconst (v := 0) h (by decide) dX11_repeat_156 ?_
      exact g_sub [0, 1, 2, 4] rfl (t_X11_repeat_157 h hr hk32 hw)
    · replace hw := hw.2 q140
      refine g_iload h 5 rfl dX11_repeat_143 ?_
      refine g_i2l h dX11_repeat_145 ?_
      refine g_aload_n h rfl 0 rfl dX11_repeat_146 ?_
      refine g_iload h 4 rfl dX11_repeat_147 ?_
      refine g_callV [.int x5] h (c_X11_shareToPower X hw) sPl_v mw_X11_shareToPower lk_X11_360 is_0 rfl rfl ⟨by decide, by decide⟩ (Nat.le_of_ble_eq_true rfl) dX11_repeat_149 (sPl_k (fun r_149 I_149 J_149 hw => ?_))
      refine g_lmul h dX11_repeat_152 ?_
      refine g_goto (tgt := 157) h (by decide) dX11_repeat_153 ?_
      exact g_sub [0, 1, 2, 4] rfl (t_X11_repeat_157 h hr hk32 hw)
  · replace hw := hw.2 q51
    refine g_iload h 6 rfl dX11_repeat_54 ?_
    refine g_iconst (v := 1) h (by decide) dX11_repeat_56 ?_
    refine g_iadd h dX11_repeat_57 ?_
    refine g_ni (fun v8_58 ev8_58 => ?_)
    replace hw := hw v8_58 ev8_58
    refine g_istore (lo2 := [(8, .int v8_58), (0, .ref 0), (1, .ref 4), (2, .int x2), (3, .long x3), (5, .int x5), (6, .int x6), (7, .int x7)]) h (by decide) rfl dX11_repeat_58 ?_
    exact g_sub [1, 2, 3, 4, 5, 6, 7, 0] rfl (t_X11_repeat_60 h hr hk32 hk45 hw)
theorem t_X11_repeat_45 {X : sX} {post : Int32 → sI → sJ → Prop} (h : sOK X cX11_repeat RX11 9 3 76) (hr : sRt X (some .int) (sPi post)) {k32 : Int32 → Int64 → Int32 → sI → sJ → Prop} (hk32 : ∀ (x2 : Int32) (x3 : Int64) (x5 : Int32) (I : sI) (J : sJ), k32 x2 x3 x5 I J → sG X 9 32 [(0, .ref 0), (1, .ref 4), (2, .int x2), (3, .long x3), (5, .int x5)] [] I J) {x2 : Int32} {x3 : Int64} {x5 : Int32} {x6 : Int32} {x7 : Int32} {I : sI} {J : sJ} (hw : w_X11_repeat_45 post k32 x2 x3 x5 x6 x7 I J) : sG X 9 45 [(0, .ref 0), (1, .ref 4), (2, .int x2), (3, .long x3), (5, .int x5), (6, .int x6), (7, .int x7)] [] I J := by
  obtain ⟨n, hw⟩ := hw
  induction n generalizing x2 x3 x5 x6 x7 I J with
  | zero => exact hw.elim
  | succ n ih => exact t_X11_repeat_45_s h hr hk32 (fun _ _ _ _ _ _ _ q => ih q) hw
def w_X11_repeat_32_s (post : Int32 → sI → sJ → Prop) (k32 : Int32 → Int64 → Int32 → sI → sJ → Prop) (x2 : Int32) (x3 : Int64) (x5 : Int32) (I : sI) (J : sJ) : Prop :=
  ((6 < x5 → w_X6_tell 134 x3 I J (fun (I_170 : sI) (J_170 : sJ) => (post x2 I_170 J_170))) ∧ (¬ 6 < x5 → w_X11_repeat_45 post k32 x2 x3 x5 0 0 I J))
def w_X11_repeat_32_n (post : Int32 → sI → sJ → Prop) : Nat → Int32 → Int64 → Int32 → sI → sJ → Prop
  | 0 => fun _ _ _ _ _ => False
  | n + 1 => fun x2 x3 x5 I J => w_X11_repeat_32_s post (w_X11_repeat_32_n post n) x2 x3 x5 I J
def w_X11_repeat_32 (post : Int32 → sI → sJ → Prop) (x2 : Int32) (x3 : Int64) (x5 : Int32) (I : sI) (J : sJ) : Prop := ∃ n, w_X11_repeat_32_n post n x2 x3 x5 I J
set_option maxHeartbeats 4000000 in
set_option maxRecDepth 100000 in
theorem t_X11_repeat_32_s {X : sX} {post : Int32 → sI → sJ → Prop} (h : sOK X cX11_repeat RX11 9 3 76) (hr : sRt X (some .int) (sPi post)) {k32 : Int32 → Int64 → Int32 → sI → sJ → Prop} (hk32 : ∀ (x2 : Int32) (x3 : Int64) (x5 : Int32) (I : sI) (J : sJ), k32 x2 x3 x5 I J → sG X 9 32 [(0, .ref 0), (1, .ref 4), (2, .int x2), (3, .long x3), (5, .int x5)] [] I J) {x2 : Int32} {x3 : Int64} {x5 : Int32} {I : sI} {J : sJ} (hw : w_X11_repeat_32_s post k32 x2 x3 x5 I J) : sG X 9 32 [(0, .ref 0), (1, .ref 4), (2, .int x2), (3, .long x3), (5, .int x5)] [] I J := by
  unfold w_X11_repeat_32_s at hw
  refine g_iload h 4 rfl dX11_repeat_32 ?_
  refine g_bipush (v := 6) h (by decide) dX11_repeat_34 ?_
  refine g_icmp_gt (tgt := 165) h (by decide) dX11_repeat_36 (fun q36 => ?_) (fun q36 => ?_)
  · replace hw := hw.1 q36
    refine g_aload_n h rfl 0 rfl dX11_repeat_165 ?_
    refine g_get h is_0 fl_X11_41 fr_0_5 dX11_repeat_166 ?_
    refine g_lload_n h rfl 3 rfl dX11_repeat_169 ?_
    refine g_callV [.long x3] h (c_X6_tell X is_134 hw) sPv_v mw_X6_tell lk_X11_256 is_134 rfl rfl ⟨by decide, by decide⟩ (Nat.le_of_ble_eq_true rfl) dX11_repeat_170 (sPv_k (fun I_170 J_170 hw => ?_))
    refine g_iload_n h rfl 2 rfl dX11_repeat_173 ?_
    exact g_iret h hr dX11_repeat_174 hw
  · replace hw := hw.2 q36
    refine g_iconst (v := 0) h (by decide) dX11_repeat_39 ?_
    refine g_istore (lo2 := [(6, .int 0), (0, .ref 0), (1, .ref 4), (2, .int x2), (3, .long x3), (5, .int x5)]) h (by decide) rfl dX11_repeat_40 ?_
    refine g_iconst (v := 0) h (by decide) dX11_repeat_42 ?_
    refine g_istore (lo2 := [(7, .int 0), (6, .int 0), (0, .ref 0), (1, .ref 4), (2, .int x2), (3, .long x3), (5, .int x5)]) h (by decide) rfl dX11_repeat_43 ?_
    exact g_sub [2, 3, 4, 5, 6, 1, 0] rfl (t_X11_repeat_45 h hr hk32 hw)
theorem t_X11_repeat_32 {X : sX} {post : Int32 → sI → sJ → Prop} (h : sOK X cX11_repeat RX11 9 3 76) (hr : sRt X (some .int) (sPi post)) {x2 : Int32} {x3 : Int64} {x5 : Int32} {I : sI} {J : sJ} (hw : w_X11_repeat_32 post x2 x3 x5 I J) : sG X 9 32 [(0, .ref 0), (1, .ref 4), (2, .int x2), (3, .long x3), (5, .int x5)] [] I J := by
  obtain ⟨n, hw⟩ := hw
  induction n generalizing x2 x3 x5 I J with
  | zero => exact hw.elim
  | succ n ih => exact t_X11_repeat_32_s h hr (fun _ _ _ _ _ q => ih q) hw
def w_X11_repeat (I : sI) (J : sJ) (post : Int32 → sI → sJ → Prop) : Prop :=
  ((¬ (I 4 3) = 0 → w_X2_countKinds 4 I J (fun (I_22 : sI) (J_22 : sJ) => (w_X11_repeat_32 post 0 0 1 I_22 J_22))) ∧ ((I 4 3) = 0 → post (-1) I J))
set_option maxHeartbeats 4000000 in
set_option maxRecDepth 100000 in
theorem t_X11_repeat {X : sX} {I : sI} {J : sJ} {post : Int32 → sI → sJ → Prop} (h : sOK X cX11_repeat RX11 9 3 76) (hr : sRt X (some .int) (sPi post)) (hw : w_X11_repeat I J post) : sG X 9 0 [(0, .ref 0)] [] I J := by
  unfold w_X11_repeat at hw
  refine g_aload_n h rfl 0 rfl dX11_repeat_0 ?_
  refine g_get h is_0 fl_X11_19 fr_0_1 dX11_repeat_1 ?_
  refine g_get h is_3 fl_X11_117 fr_3_0 dX11_repeat_4 ?_
  refine g_astore_n (lo2 := [(1, .ref 4), (0, .ref 0)]) h rfl (by decide) rfl dX11_repeat_7 ?_
  refine g_aload_n h rfl 0 rfl dX11_repeat_8 ?_
  refine g_get h is_4 fl_X11_131 rfl dX11_repeat_9 ?_
  refine g_if_ne (tgt := 17) h (by decide) dX11_repeat_12 (fun q12 => ?_) (fun q12 => ?_)
  · replace hw := hw.1 q12
    refine g_aload_n h rfl 0 rfl dX11_repeat_17 ?_
    refine g_aload_n h rfl 1 rfl dX11_repeat_18 ?_
    refine g_get h is_0 fl_X11_95 fr_0_14 dX11_repeat_19 ?_
    refine g_callV [.ref 247] h (c_X2_countKinds X is_4 hw) sPv_v mw_X2_countKinds lk_X11_333 is_4 rfl rfl ⟨by decide, by decide⟩ (Nat.le_of_ble_eq_true rfl) dX11_repeat_22 (sPv_k (fun I_22 J_22 hw => ?_))
    refine g_iconst (v := 0) h (by decide) dX11_repeat_25 ?_
    refine g_istore_n (lo2 := [(2, .int 0), (1, .ref 4), (0, .ref 0)]) h rfl (by decide) rfl dX11_repeat_26 ?_
    refine g_lconst (v := 0) h (by decide) dX11_repeat_27 ?_
    refine g_lstore_n (lo2 := [(3, .long 0), (2, .int 0), (1, .ref 4), (0, .ref 0)]) h rfl (by decide) rfl dX11_repeat_28 ?_
    refine g_iconst (v := 1) h (by decide) dX11_repeat_29 ?_
    refine g_istore (lo2 := [(5, .int 1), (3, .long 0), (2, .int 0), (1, .ref 4), (0, .ref 0)]) h (by decide) rfl dX11_repeat_30 ?_
    exact g_sub [4, 3, 2, 1, 0] rfl (t_X11_repeat_32 h hr hw)
  · replace hw := hw.2 q12
    refine g_iconst (v := (-1)) h (by decide) dX11_repeat_15 ?_
    exact g_iret h hr dX11_repeat_16 hw
theorem c_X11_repeat (X : sX) {I : sI} {J : sJ} {post : Int32 → sI → sJ → Prop} (hw : w_X11_repeat I J post) : sCall X yX11_repeat cX11_repeat 9 (some .int) 3 76 [.ref 0] I J (sPi post) := sCall_of (by decide +kernel) (Nat.le_of_ble_eq_true rfl) (fun X h hr => t_X11_repeat h hr hw)
theorem dX11_rhymes_0 : decode cX11_rhymes 0 = .ok (.aload_n 0, 1) := by decide +kernel
theorem dX11_rhymes_1 : decode cX11_rhymes 1 = .ok (.getfield 19, 3) := by decide +kernel
theorem dX11_rhymes_4 : decode cX11_rhymes 4 = .ok (.getfield 117, 3) := by decide +kernel
theorem dX11_rhymes_7 : decode cX11_rhymes 7 = .ok (.astore 5, 2) := by decide +kernel
theorem dX11_rhymes_9 : decode cX11_rhymes 9 = .ok (.iload_n 3, 1) := by decide +kernel
theorem dX11_rhymes_10 : decode cX11_rhymes 10 = .ok (.ifCond .ne 18, 3) := by decide +kernel
theorem dX11_rhymes_13 : decode cX11_rhymes 13 = .ok (.aload 5, 2) := by decide +kernel
theorem dX11_rhymes_15 : decode cX11_rhymes 15 = .ok (.getfield 353, 3) := by decide +kernel
theorem dX11_rhymes_18 : decode cX11_rhymes 18 = .ok (.iload_n 1, 1) := by decide +kernel
theorem dX11_rhymes_19 : decode cX11_rhymes 19 = .ok (.iconst 1, 1) := by decide +kernel
theorem dX11_rhymes_20 : decode cX11_rhymes 20 = .ok (.iadd, 1) := by decide +kernel
theorem dX11_rhymes_21 : decode cX11_rhymes 21 = .ok (.iaload, 1) := by decide +kernel
theorem dX11_rhymes_22 : decode cX11_rhymes 22 = .ok (.iload 4, 2) := by decide +kernel
theorem dX11_rhymes_24 : decode cX11_rhymes 24 = .ok (.isub, 1) := by decide +kernel
theorem dX11_rhymes_25 : decode cX11_rhymes 25 = .ok (.goto 10, 3) := by decide +kernel
theorem dX11_rhymes_28 : decode cX11_rhymes 28 = .ok (.aload 5, 2) := by decide +kernel
theorem dX11_rhymes_30 : decode cX11_rhymes 30 = .ok (.getfield 353, 3) := by decide +kernel
theorem dX11_rhymes_33 : decode cX11_rhymes 33 = .ok (.iload_n 1, 1) := by decide +kernel
theorem dX11_rhymes_34 : decode cX11_rhymes 34 = .ok (.iaload, 1) := by decide +kernel
theorem dX11_rhymes_35 : decode cX11_rhymes 35 = .ok (.istore 6, 2) := by decide +kernel
theorem dX11_rhymes_37 : decode cX11_rhymes 37 = .ok (.iload_n 3, 1) := by decide +kernel
theorem dX11_rhymes_38 : decode cX11_rhymes 38 = .ok (.ifCond .ne 18, 3) := by decide +kernel
theorem dX11_rhymes_41 : decode cX11_rhymes 41 = .ok (.aload 5, 2) := by decide +kernel
theorem dX11_rhymes_43 : decode cX11_rhymes 43 = .ok (.getfield 353, 3) := by decide +kernel
theorem dX11_rhymes_46 : decode cX11_rhymes 46 = .ok (.iload_n 2, 1) := by decide +kernel
theorem dX11_rhymes_47 : decode cX11_rhymes 47 = .ok (.iconst 1, 1) := by decide +kernel
theorem dX11_rhymes_48 : decode cX11_rhymes 48 = .ok (.iadd, 1) := by decide +kernel
theorem dX11_rhymes_49 : decode cX11_rhymes 49 = .ok (.iaload, 1) := by decide +kernel
theorem dX11_rhymes_50 : decode cX11_rhymes 50 = .ok (.iload 4, 2) := by decide +kernel
theorem dX11_rhymes_52 : decode cX11_rhymes 52 = .ok (.isub, 1) := by decide +kernel
theorem dX11_rhymes_53 : decode cX11_rhymes 53 = .ok (.goto 10, 3) := by decide +kernel
theorem dX11_rhymes_56 : decode cX11_rhymes 56 = .ok (.aload 5, 2) := by decide +kernel
theorem dX11_rhymes_58 : decode cX11_rhymes 58 = .ok (.getfield 353, 3) := by decide +kernel
theorem dX11_rhymes_61 : decode cX11_rhymes 61 = .ok (.iload_n 2, 1) := by decide +kernel
theorem dX11_rhymes_62 : decode cX11_rhymes 62 = .ok (.iaload, 1) := by decide +kernel
theorem dX11_rhymes_63 : decode cX11_rhymes 63 = .ok (.istore 7, 2) := by decide +kernel
theorem dX11_rhymes_65 : decode cX11_rhymes 65 = .ok (.aload 5, 2) := by decide +kernel
theorem dX11_rhymes_67 : decode cX11_rhymes 67 = .ok (.iload 6, 2) := by decide +kernel
theorem dX11_rhymes_69 : decode cX11_rhymes 69 = .ok (.iload 7, 2) := by decide +kernel
theorem dX11_rhymes_71 : decode cX11_rhymes 71 = .ok (.iload 4, 2) := by decide +kernel
theorem dX11_rhymes_73 : decode cX11_rhymes 73 = .ok (.invokevirtual 356, 3) := by decide +kernel
theorem dX11_rhymes_76 : decode cX11_rhymes 76 = .ok (.ireturn, 1) := by decide +kernel
def w_X11_rhymes_63 (post : Int32 → sI → sJ → Prop) (x4 : Int32) (x6 : Int32) (s0 : Int32) (I : sI) (J : sJ) : Prop :=
  w_X2_sameSigns 4 x6 s0 x4 I J (fun (r_73 : Int32) (I_73 : sI) (J_73 : sJ) => ((sZ r_73 ∧ post r_73 I_73 J_73)))
set_option maxHeartbeats 4000000 in
set_option maxRecDepth 100000 in
theorem t_X11_rhymes_63 {X : sX} {post : Int32 → sI → sJ → Prop} (h : sOK X cX11_rhymes RX11 8 1 24) (hr : sRt X (some .boolean) (sPi post)) {x4 : Int32} {x6 : Int32} {s0 : Int32} {I : sI} {J : sJ} (hw : w_X11_rhymes_63 post x4 x6 s0 I J) : sG X 8 63 [(4, .int x4), (5, .ref 4), (6, .int x6)] [.int s0] I J := by
  unfold w_X11_rhymes_63 at hw
  refine g_istore (lo2 := [(7, .int s0), (4, .int x4), (5, .ref 4), (6, .int x6)]) h (by decide) rfl dX11_rhymes_63 ?_
  refine g_aload h 2 rfl dX11_rhymes_65 ?_
  refine g_iload h 3 rfl dX11_rhymes_67 ?_
  refine g_iload h 0 rfl dX11_rhymes_69 ?_
  refine g_iload h 1 rfl dX11_rhymes_71 ?_
  refine g_callV [.int x6, .int s0, .int x4] h (c_X2_sameSigns X is_4 hw) sPi_v mw_X2_sameSigns lk_X11_356 is_4 rfl rfl ⟨by decide, by decide⟩ (Nat.le_of_ble_eq_true rfl) dX11_rhymes_73 (sPi_k (fun r_73 I_73 J_73 hw => ?_))
  exact g_zret h hr hw.1 dX11_rhymes_76 hw.2
def w_X11_rhymes_35 (post : Int32 → sI → sJ → Prop) (x2 : Int32) (x3 : Int32) (x4 : Int32) (s0 : Int32) (I : sI) (J : sJ) : Prop :=
  ((¬ x3 = 0 → (vp_in x2 13 ∧ w_X11_rhymes_63 post x4 s0 (I 7 (Int32.toNatClampNeg x2)) I J)) ∧ (x3 = 0 → (vp_in (x2 + 1) 13 ∧ w_X11_rhymes_63 post x4 s0 ((I 7 (Int32.toNatClampNeg (x2 + 1))) - x4) I J)))
set_option maxHeartbeats 4000000 in
set_option maxRecDepth 100000 in
theorem t_X11_rhymes_35 {X : sX} {post : Int32 → sI → sJ → Prop} (h : sOK X cX11_rhymes RX11 8 1 24) (hr : sRt X (some .boolean) (sPi post)) {x2 : Int32} {x3 : Int32} {x4 : Int32} {s0 : Int32} {I : sI} {J : sJ} (hw : w_X11_rhymes_35 post x2 x3 x4 s0 I J) : sG X 8 35 [(2, .int x2), (3, .int x3), (4, .int x4), (5, .ref 4)] [.int s0] I J := by
  unfold w_X11_rhymes_35 at hw
  refine g_istore (lo2 := [(6, .int s0), (2, .int x2), (3, .int x3), (4, .int x4), (5, .ref 4)]) h (by decide) rfl dX11_rhymes_35 ?_
  refine g_iload_n h rfl 2 rfl dX11_rhymes_37 ?_
  refine g_if_ne (tgt := 56) h (by decide) dX11_rhymes_38 (fun q38 => ?_) (fun q38 => ?_)
  · replace hw := hw.1 q38
    refine g_aload h 4 rfl dX11_rhymes_56 ?_
    refine g_get h is_4 fl_X11_353 fr_4_2 dX11_rhymes_58 ?_
    refine g_iload_n h rfl 1 rfl dX11_rhymes_61 ?_
    obtain ⟨hi62, hw⟩ := hw
    refine g_iald h ar_7 hi62 dX11_rhymes_62 ?_
    exact g_sub [3, 4, 0] rfl (t_X11_rhymes_63 h hr hw)
  · replace hw := hw.2 q38
    refine g_aload h 4 rfl dX11_rhymes_41 ?_
    refine g_get h is_4 fl_X11_353 fr_4_2 dX11_rhymes_43 ?_
    refine g_iload_n h rfl 1 rfl dX11_rhymes_46 ?_
    refine g_iconst (v := 1) h (by decide) dX11_rhymes_47 ?_
    refine g_iadd h dX11_rhymes_48 ?_
    obtain ⟨hi49, hw⟩ := hw
    refine g_iald h ar_7 hi49 dX11_rhymes_49 ?_
    refine g_iload h 3 rfl dX11_rhymes_50 ?_
    refine g_isub h dX11_rhymes_52 ?_
    refine g_goto (tgt := 63) h (by decide) dX11_rhymes_53 ?_
    exact g_sub [3, 4, 0] rfl (t_X11_rhymes_63 h hr hw)
def w_X11_rhymes (a1 : Int32) (a2 : Int32) (a3 : Int32) (a4 : Int32) (I : sI) (J : sJ) (post : Int32 → sI → sJ → Prop) : Prop :=
  ((¬ a3 = 0 → (vp_in a1 13 ∧ w_X11_rhymes_35 post a2 a3 a4 (I 7 (Int32.toNatClampNeg a1)) I J)) ∧ (a3 = 0 → (vp_in (a1 + 1) 13 ∧ w_X11_rhymes_35 post a2 a3 a4 ((I 7 (Int32.toNatClampNeg (a1 + 1))) - a4) I J)))
set_option maxHeartbeats 4000000 in
set_option maxRecDepth 100000 in
theorem t_X11_rhymes {X : sX} {a1 : Int32} {a2 : Int32} {a3 : Int32} {a4 : Int32} {I : sI} {J : sJ} {post : Int32 → sI → sJ → Prop} (h : sOK X cX11_rhymes RX11 8 1 24) (hr : sRt X (some .boolean) (sPi post)) (hw : w_X11_rhymes a1 a2 a3 a4 I J post) : sG X 8 0 [(0, .ref 0), (1, .int a1), (2, .int a2), (3, .int a3), (4, .int a4)] [] I J := by
  unfold w_X11_rhymes at hw
  refine g_aload_n h rfl 0 rfl dX11_rhymes_0 ?_
  refine g_get h is_0 fl_X11_19 fr_0_1 dX11_rhymes_1 ?_
  refine g_get h is_3 fl_X11_117 fr_3_0 dX11_rhymes_4 ?_
  refine g_astore (lo2 := [(5, .ref 4), (0, .ref 0), (1, .int a1), (2, .int a2), (3, .int a3), (4, .int a4)]) h (by decide) rfl dX11_rhymes_7 ?_
  refine g_iload_n h rfl 4 rfl dX11_rhymes_9 ?_
  refine g_if_ne (tgt := 28) h (by decide) dX11_rhymes_10 (fun q10 => ?_) (fun q10 => ?_)
  · replace hw := hw.1 q10
    refine g_aload h 0 rfl dX11_rhymes_28 ?_
    refine g_get h is_4 fl_X11_353 fr_4_2 dX11_rhymes_30 ?_
    refine g_iload_n h rfl 2 rfl dX11_rhymes_33 ?_
    obtain ⟨hi34, hw⟩ := hw
    refine g_iald h ar_7 hi34 dX11_rhymes_34 ?_
    exact g_sub [3, 4, 5, 0] rfl (t_X11_rhymes_35 h hr hw)
  · replace hw := hw.2 q10
    refine g_aload h 0 rfl dX11_rhymes_13 ?_
    refine g_get h is_4 fl_X11_353 fr_4_2 dX11_rhymes_15 ?_
    refine g_iload_n h rfl 2 rfl dX11_rhymes_18 ?_
    refine g_iconst (v := 1) h (by decide) dX11_rhymes_19 ?_
    refine g_iadd h dX11_rhymes_20 ?_
    obtain ⟨hi21, hw⟩ := hw
    refine g_iald h ar_7 hi21 dX11_rhymes_21 ?_
    refine g_iload h 5 rfl dX11_rhymes_22 ?_
    refine g_isub h dX11_rhymes_24 ?_
    refine g_goto (tgt := 35) h (by decide) dX11_rhymes_25 ?_
    exact g_sub [3, 4, 5, 0] rfl (t_X11_rhymes_35 h hr hw)
theorem c_X11_rhymes (X : sX) {a1 : Int32} {a2 : Int32} {a3 : Int32} {a4 : Int32} {I : sI} {J : sJ} {post : Int32 → sI → sJ → Prop} (hw : w_X11_rhymes a1 a2 a3 a4 I J post) : sCall X yX11_rhymes cX11_rhymes 8 (some .boolean) 1 24 [.ref 0, .int a1, .int a2, .int a3, .int a4] I J (sPi post) := sCall_of (by decide +kernel) (Nat.le_of_ble_eq_true rfl) (fun X h hr => t_X11_rhymes h hr hw)
