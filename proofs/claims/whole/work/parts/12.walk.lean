theorem dX7_faultAsWord_0 : decode cX7_faultAsWord 0 = .ok (.aload_n 0, 1) := by decide +kernel
theorem dX7_faultAsWord_1 : decode cX7_faultAsWord 1 = .ok (.getfield 15, 3) := by decide +kernel
theorem dX7_faultAsWord_4 : decode cX7_faultAsWord 4 = .ok (.bipush 6, 2) := by decide +kernel
theorem dX7_faultAsWord_6 : decode cX7_faultAsWord 6 = .ok (.invokestatic 19, 3) := by decide +kernel
theorem dX7_faultAsWord_9 : decode cX7_faultAsWord 9 = .ok (.istore_n 1, 1) := by decide +kernel
theorem dX7_faultAsWord_10 : decode cX7_faultAsWord 10 = .ok (.iconst 0, 1) := by decide +kernel
theorem dX7_faultAsWord_11 : decode cX7_faultAsWord 11 = .ok (.istore_n 2, 1) := by decide +kernel
theorem dX7_faultAsWord_12 : decode cX7_faultAsWord 12 = .ok (.iload_n 2, 1) := by decide +kernel
theorem dX7_faultAsWord_13 : decode cX7_faultAsWord 13 = .ok (.iload_n 1, 1) := by decide +kernel
theorem dX7_faultAsWord_14 : decode cX7_faultAsWord 14 = .ok (.if_icmp .ge 33, 3) := by decide +kernel
theorem dX7_faultAsWord_17 : decode cX7_faultAsWord 17 = .ok (.aload_n 0, 1) := by decide +kernel
theorem dX7_faultAsWord_18 : decode cX7_faultAsWord 18 = .ok (.getfield 9, 3) := by decide +kernel
theorem dX7_faultAsWord_21 : decode cX7_faultAsWord 21 = .ok (.iload_n 2, 1) := by decide +kernel
theorem dX7_faultAsWord_22 : decode cX7_faultAsWord 22 = .ok (.iaload, 1) := by decide +kernel
theorem dX7_faultAsWord_23 : decode cX7_faultAsWord 23 = .ok (.bipush 65, 2) := by decide +kernel
theorem dX7_faultAsWord_25 : decode cX7_faultAsWord 25 = .ok (.if_icmp .lt 14, 3) := by decide +kernel
theorem dX7_faultAsWord_28 : decode cX7_faultAsWord 28 = .ok (.aload_n 0, 1) := by decide +kernel
theorem dX7_faultAsWord_29 : decode cX7_faultAsWord 29 = .ok (.getfield 9, 3) := by decide +kernel
theorem dX7_faultAsWord_32 : decode cX7_faultAsWord 32 = .ok (.iload_n 2, 1) := by decide +kernel
theorem dX7_faultAsWord_33 : decode cX7_faultAsWord 33 = .ok (.iaload, 1) := by decide +kernel
theorem dX7_faultAsWord_34 : decode cX7_faultAsWord 34 = .ok (.bipush 73, 2) := by decide +kernel
theorem dX7_faultAsWord_36 : decode cX7_faultAsWord 36 = .ok (.if_icmp .lt 5, 3) := by decide +kernel
theorem dX7_faultAsWord_39 : decode cX7_faultAsWord 39 = .ok (.iload_n 2, 1) := by decide +kernel
theorem dX7_faultAsWord_40 : decode cX7_faultAsWord 40 = .ok (.ireturn, 1) := by decide +kernel
theorem dX7_faultAsWord_41 : decode cX7_faultAsWord 41 = .ok (.iinc 2 1, 3) := by decide +kernel
theorem dX7_faultAsWord_44 : decode cX7_faultAsWord 44 = .ok (.goto (-32), 3) := by decide +kernel
theorem dX7_faultAsWord_47 : decode cX7_faultAsWord 47 = .ok (.aload_n 0, 1) := by decide +kernel
theorem dX7_faultAsWord_48 : decode cX7_faultAsWord 48 = .ok (.getfield 15, 3) := by decide +kernel
theorem dX7_faultAsWord_51 : decode cX7_faultAsWord 51 = .ok (.iload_n 1, 1) := by decide +kernel
theorem dX7_faultAsWord_52 : decode cX7_faultAsWord 52 = .ok (.if_icmp .gt 10, 3) := by decide +kernel
theorem dX7_faultAsWord_55 : decode cX7_faultAsWord 55 = .ok (.aload_n 0, 1) := by decide +kernel
theorem dX7_faultAsWord_56 : decode cX7_faultAsWord 56 = .ok (.getfield 15, 3) := by decide +kernel
theorem dX7_faultAsWord_59 : decode cX7_faultAsWord 59 = .ok (.ifCond .ne 7, 3) := by decide +kernel
theorem dX7_faultAsWord_62 : decode cX7_faultAsWord 62 = .ok (.iload_n 1, 1) := by decide +kernel
theorem dX7_faultAsWord_63 : decode cX7_faultAsWord 63 = .ok (.goto 4, 3) := by decide +kernel
theorem dX7_faultAsWord_66 : decode cX7_faultAsWord 66 = .ok (.iconst (-1), 1) := by decide +kernel
theorem dX7_faultAsWord_67 : decode cX7_faultAsWord 67 = .ok (.ireturn, 1) := by decide +kernel
def w_X7_faultAsWord_62 (post : Int32 → sI → sJ → Prop) (x1 : Int32) (I : sI) (J : sJ) : Prop :=
  post x1 I J
set_option maxHeartbeats 4000000 in
set_option maxRecDepth 100000 in
theorem t_X7_faultAsWord_62 {X : sX} {post : Int32 → sI → sJ → Prop} (h : sOK X cX7_faultAsWord RX7 3 1 21) (hr : sRt X (some .int) (sPi post)) {x1 : Int32} {I : sI} {J : sJ} (hw : w_X7_faultAsWord_62 post x1 I J) : sG X 3 62 [(1, .int x1)] [] I J := by
  unfold w_X7_faultAsWord_62 at hw
  refine g_iload_n h rfl 0 rfl dX7_faultAsWord_62 ?_
  refine g_goto (tgt := 67) h (by decide) dX7_faultAsWord_63 ?_
  exact g_iret h hr dX7_faultAsWord_67 hw
def w_X7_faultAsWord_12_s (post : Int32 → sI → sJ → Prop) (k12 : Int32 → Int32 → sI → sJ → Prop) (x1 : Int32) (x2 : Int32) (I : sI) (J : sJ) : Prop :=
  ((x1 ≤ x2 → ((x1 < (I 1 1) → w_X7_faultAsWord_62 post x1 I J) ∧ (¬ x1 < (I 1 1) → ((¬ (I 1 1) = 0 → post (-1) I J) ∧ ((I 1 1) = 0 → w_X7_faultAsWord_62 post x1 I J))))) ∧ (¬ x1 ≤ x2 → (vp_in x2 80 ∧ (((I 2 (Int32.toNatClampNeg x2)) < 65 → post x2 I J) ∧ (¬ (I 2 (Int32.toNatClampNeg x2)) < 65 → (vp_in x2 80 ∧ (((I 2 (Int32.toNatClampNeg x2)) < 73 → (∀ v2_41 : Int32, v2_41 = x2 + 1 → k12 x1 v2_41 I J)) ∧ (¬ (I 2 (Int32.toNatClampNeg x2)) < 73 → post x2 I J))))))))
def w_X7_faultAsWord_12_n (post : Int32 → sI → sJ → Prop) : Nat → Int32 → Int32 → sI → sJ → Prop
  | 0 => fun _ _ _ _ => False
  | n + 1 => fun x1 x2 I J => w_X7_faultAsWord_12_s post (w_X7_faultAsWord_12_n post n) x1 x2 I J
def w_X7_faultAsWord_12 (post : Int32 → sI → sJ → Prop) (x1 : Int32) (x2 : Int32) (I : sI) (J : sJ) : Prop := ∃ n, w_X7_faultAsWord_12_n post n x1 x2 I J
set_option maxHeartbeats 4000000 in
set_option maxRecDepth 100000 in
theorem t_X7_faultAsWord_12_s {X : sX} {post : Int32 → sI → sJ → Prop} (h : sOK X cX7_faultAsWord RX7 3 1 21) (hr : sRt X (some .int) (sPi post)) {k12 : Int32 → Int32 → sI → sJ → Prop} (hk12 : ∀ (x1 : Int32) (x2 : Int32) (I : sI) (J : sJ), k12 x1 x2 I J → sG X 3 12 [(0, .ref 1), (1, .int x1), (2, .int x2)] [] I J) {x1 : Int32} {x2 : Int32} {I : sI} {J : sJ} (hw : w_X7_faultAsWord_12_s post k12 x1 x2 I J) : sG X 3 12 [(0, .ref 1), (1, .int x1), (2, .int x2)] [] I J := by
  unfold w_X7_faultAsWord_12_s at hw
  refine g_iload_n h rfl 2 rfl dX7_faultAsWord_12 ?_
  refine g_iload_n h rfl 1 rfl dX7_faultAsWord_13 ?_
  refine g_icmp_ge (tgt := 47) h (by decide) dX7_faultAsWord_14 (fun q14 => ?_) (fun q14 => ?_)
  · replace hw := hw.1 q14
    refine g_aload_n h rfl 0 rfl dX7_faultAsWord_47 ?_
    refine g_get h is_1 fl_X7_15 rfl dX7_faultAsWord_48 ?_
    refine g_iload_n h rfl 1 rfl dX7_faultAsWord_51 ?_
    refine g_icmp_gt (tgt := 62) h (by decide) dX7_faultAsWord_52 (fun q52 => ?_) (fun q52 => ?_)
    · replace hw := hw.1 q52
      exact g_sub [1] rfl (t_X7_faultAsWord_62 h hr hw)
    · replace hw := hw.2 q52
      refine g_aload_n h rfl 0 rfl dX7_faultAsWord_55 ?_
      refine g_get h is_1 fl_X7_15 rfl dX7_faultAsWord_56 ?_
      refine g_if_ne (tgt := 66) h (by decide) dX7_faultAsWord_59 (fun q59 => ?_) (fun q59 => ?_)
      · replace hw := hw.1 q59
        refine g_iconst (v := (-1)) h (by decide) dX7_faultAsWord_66 ?_
        exact g_iret h hr dX7_faultAsWord_67 hw
      · replace hw := hw.2 q59
        exact g_sub [1] rfl (t_X7_faultAsWord_62 h hr hw)
  · replace hw := hw.2 q14
    refine g_aload_n h rfl 0 rfl dX7_faultAsWord_17 ?_
    refine g_get h is_1 fl_X7_9 fr_1_0 dX7_faultAsWord_18 ?_
    refine g_iload_n h rfl 2 rfl dX7_faultAsWord_21 ?_
    obtain ⟨hi22, hw⟩ := hw
    refine g_iald h ar_2 hi22 dX7_faultAsWord_22 ?_
    refine g_bipush (v := 65) h (by decide) dX7_faultAsWord_23 ?_
    refine g_icmp_lt (tgt := 39) h (by decide) dX7_faultAsWord_25 (fun q25 => ?_) (fun q25 => ?_)
    · replace hw := hw.1 q25
      refine g_iload_n h rfl 2 rfl dX7_faultAsWord_39 ?_
      exact g_iret h hr dX7_faultAsWord_40 hw
    · replace hw := hw.2 q25
      refine g_aload_n h rfl 0 rfl dX7_faultAsWord_28 ?_
      refine g_get h is_1 fl_X7_9 fr_1_0 dX7_faultAsWord_29 ?_
      refine g_iload_n h rfl 2 rfl dX7_faultAsWord_32 ?_
      obtain ⟨hi33, hw⟩ := hw
      refine g_iald h ar_2 hi33 dX7_faultAsWord_33 ?_
      refine g_bipush (v := 73) h (by decide) dX7_faultAsWord_34 ?_
      refine g_icmp_lt (tgt := 41) h (by decide) dX7_faultAsWord_36 (fun q36 => ?_) (fun q36 => ?_)
      · replace hw := hw.1 q36
        obtain ⟨v2_41, ev2_41⟩ : ∃ z : Int32, z = x2 + 1 := ⟨_, rfl⟩
        replace hw := hw v2_41 ev2_41
        refine g_iinc (v := v2_41) (lo2 := [(2, .int v2_41), (0, .ref 1), (1, .int x1)]) h 2 rfl (by rw [ev2_41]; rfl) (by decide) rfl dX7_faultAsWord_41 ?_
        refine g_goto (tgt := 12) h (by decide) dX7_faultAsWord_44 ?_
        exact g_sub [1, 2, 0] rfl (hk12 _ _ _ _ hw)
      · replace hw := hw.2 q36
        refine g_iload_n h rfl 2 rfl dX7_faultAsWord_39 ?_
        exact g_iret h hr dX7_faultAsWord_40 hw
theorem t_X7_faultAsWord_12 {X : sX} {post : Int32 → sI → sJ → Prop} (h : sOK X cX7_faultAsWord RX7 3 1 21) (hr : sRt X (some .int) (sPi post)) {x1 : Int32} {x2 : Int32} {I : sI} {J : sJ} (hw : w_X7_faultAsWord_12 post x1 x2 I J) : sG X 3 12 [(0, .ref 1), (1, .int x1), (2, .int x2)] [] I J := by
  obtain ⟨n, hw⟩ := hw
  induction n generalizing x1 x2 I J with
  | zero => exact hw.elim
  | succ n ih => exact t_X7_faultAsWord_12_s h hr (fun _ _ _ _ q => ih q) hw
def w_X7_faultAsWord (I : sI) (J : sJ) (post : Int32 → sI → sJ → Prop) : Prop :=
  w_J9_min_7cf53 (I 1 1) 6 I J (fun (r_6 : Int32) (I_6 : sI) (J_6 : sJ) => (w_X7_faultAsWord_12 post r_6 0 I_6 J_6))
set_option maxHeartbeats 4000000 in
set_option maxRecDepth 100000 in
theorem t_X7_faultAsWord {X : sX} {I : sI} {J : sJ} {post : Int32 → sI → sJ → Prop} (h : sOK X cX7_faultAsWord RX7 3 1 21) (hr : sRt X (some .int) (sPi post)) (hw : w_X7_faultAsWord I J post) : sG X 3 0 [(0, .ref 1)] [] I J := by
  unfold w_X7_faultAsWord at hw
  refine g_aload_n h rfl 0 rfl dX7_faultAsWord_0 ?_
  refine g_get h is_1 fl_X7_15 rfl dX7_faultAsWord_1 ?_
  refine g_bipush (v := 6) h (by decide) dX7_faultAsWord_4 ?_
  refine g_callS [.int (I 1 1), .int 6] h (c_J9_min_7cf53 X hw) sPi_v mw_J9_min_7cf53 lk_X7_19 rfl ⟨by decide, by decide⟩ (Nat.le_of_ble_eq_true rfl) dX7_faultAsWord_6 (sPi_k (fun r_6 I_6 J_6 hw => ?_))
  refine g_istore_n (lo2 := [(1, .int r_6), (0, .ref 1)]) h rfl (by decide) rfl dX7_faultAsWord_9 ?_
  refine g_iconst (v := 0) h (by decide) dX7_faultAsWord_10 ?_
  refine g_istore_n (lo2 := [(2, .int 0), (1, .int r_6), (0, .ref 1)]) h rfl (by decide) rfl dX7_faultAsWord_11 ?_
  exact g_sub [2, 1, 0] rfl (t_X7_faultAsWord_12 h hr hw)
theorem c_X7_faultAsWord (X : sX) {I : sI} {J : sJ} {post : Int32 → sI → sJ → Prop} (hw : w_X7_faultAsWord I J post) : sCall X yX7_faultAsWord cX7_faultAsWord 3 (some .int) 1 21 [.ref 1] I J (sPi post) := sCall_of (by decide +kernel) (Nat.le_of_ble_eq_true rfl) (fun X h hr => t_X7_faultAsWord h hr hw)
theorem dX7_fitsLaxness_0 : decode cX7_fitsLaxness 0 = .ok (.iload_n 0, 1) := by decide +kernel
theorem dX7_fitsLaxness_1 : decode cX7_fitsLaxness 1 = .ok (.tableswitch 107 0 4 #[35, 47, 65, 77, 95], 35) := by decide +kernel
theorem dX7_fitsLaxness_36 : decode cX7_fitsLaxness 36 = .ok (.iload_n 1, 1) := by decide +kernel
theorem dX7_fitsLaxness_37 : decode cX7_fitsLaxness 37 = .ok (.bipush 104, 2) := by decide +kernel
theorem dX7_fitsLaxness_39 : decode cX7_fitsLaxness 39 = .ok (.if_icmp .ne 7, 3) := by decide +kernel
theorem dX7_fitsLaxness_42 : decode cX7_fitsLaxness 42 = .ok (.iconst 1, 1) := by decide +kernel
theorem dX7_fitsLaxness_43 : decode cX7_fitsLaxness 43 = .ok (.goto 4, 3) := by decide +kernel
theorem dX7_fitsLaxness_46 : decode cX7_fitsLaxness 46 = .ok (.iconst 0, 1) := by decide +kernel
theorem dX7_fitsLaxness_47 : decode cX7_fitsLaxness 47 = .ok (.ireturn, 1) := by decide +kernel
theorem dX7_fitsLaxness_48 : decode cX7_fitsLaxness 48 = .ok (.iload_n 1, 1) := by decide +kernel
theorem dX7_fitsLaxness_49 : decode cX7_fitsLaxness 49 = .ok (.bipush 49, 2) := by decide +kernel
theorem dX7_fitsLaxness_51 : decode cX7_fitsLaxness 51 = .ok (.if_icmp .lt 13, 3) := by decide +kernel
theorem dX7_fitsLaxness_54 : decode cX7_fitsLaxness 54 = .ok (.iload_n 1, 1) := by decide +kernel
theorem dX7_fitsLaxness_55 : decode cX7_fitsLaxness 55 = .ok (.bipush 52, 2) := by decide +kernel
theorem dX7_fitsLaxness_57 : decode cX7_fitsLaxness 57 = .ok (.if_icmp .ge 7, 3) := by decide +kernel
theorem dX7_fitsLaxness_60 : decode cX7_fitsLaxness 60 = .ok (.iconst 1, 1) := by decide +kernel
theorem dX7_fitsLaxness_61 : decode cX7_fitsLaxness 61 = .ok (.goto 4, 3) := by decide +kernel
theorem dX7_fitsLaxness_64 : decode cX7_fitsLaxness 64 = .ok (.iconst 0, 1) := by decide +kernel
theorem dX7_fitsLaxness_65 : decode cX7_fitsLaxness 65 = .ok (.ireturn, 1) := by decide +kernel
theorem dX7_fitsLaxness_66 : decode cX7_fitsLaxness 66 = .ok (.iload_n 1, 1) := by decide +kernel
theorem dX7_fitsLaxness_67 : decode cX7_fitsLaxness 67 = .ok (.bipush 100, 2) := by decide +kernel
theorem dX7_fitsLaxness_69 : decode cX7_fitsLaxness 69 = .ok (.if_icmp .ne 7, 3) := by decide +kernel
theorem dX7_fitsLaxness_72 : decode cX7_fitsLaxness 72 = .ok (.iconst 1, 1) := by decide +kernel
theorem dX7_fitsLaxness_73 : decode cX7_fitsLaxness 73 = .ok (.goto 4, 3) := by decide +kernel
theorem dX7_fitsLaxness_76 : decode cX7_fitsLaxness 76 = .ok (.iconst 0, 1) := by decide +kernel
theorem dX7_fitsLaxness_77 : decode cX7_fitsLaxness 77 = .ok (.ireturn, 1) := by decide +kernel
theorem dX7_fitsLaxness_78 : decode cX7_fitsLaxness 78 = .ok (.iload_n 1, 1) := by decide +kernel
theorem dX7_fitsLaxness_79 : decode cX7_fitsLaxness 79 = .ok (.bipush 48, 2) := by decide +kernel
theorem dX7_fitsLaxness_81 : decode cX7_fitsLaxness 81 = .ok (.if_icmp .lt 13, 3) := by decide +kernel
theorem dX7_fitsLaxness_84 : decode cX7_fitsLaxness 84 = .ok (.iload_n 1, 1) := by decide +kernel
theorem dX7_fitsLaxness_85 : decode cX7_fitsLaxness 85 = .ok (.bipush 50, 2) := by decide +kernel
theorem dX7_fitsLaxness_87 : decode cX7_fitsLaxness 87 = .ok (.if_icmp .gt 7, 3) := by decide +kernel
theorem dX7_fitsLaxness_90 : decode cX7_fitsLaxness 90 = .ok (.iconst 1, 1) := by decide +kernel
theorem dX7_fitsLaxness_91 : decode cX7_fitsLaxness 91 = .ok (.goto 4, 3) := by decide +kernel
theorem dX7_fitsLaxness_94 : decode cX7_fitsLaxness 94 = .ok (.iconst 0, 1) := by decide +kernel
theorem dX7_fitsLaxness_95 : decode cX7_fitsLaxness 95 = .ok (.ireturn, 1) := by decide +kernel
theorem dX7_fitsLaxness_96 : decode cX7_fitsLaxness 96 = .ok (.iload_n 1, 1) := by decide +kernel
theorem dX7_fitsLaxness_97 : decode cX7_fitsLaxness 97 = .ok (.bipush 98, 2) := by decide +kernel
theorem dX7_fitsLaxness_99 : decode cX7_fitsLaxness 99 = .ok (.if_icmp .ne 7, 3) := by decide +kernel
theorem dX7_fitsLaxness_102 : decode cX7_fitsLaxness 102 = .ok (.iconst 1, 1) := by decide +kernel
theorem dX7_fitsLaxness_103 : decode cX7_fitsLaxness 103 = .ok (.goto 4, 3) := by decide +kernel
theorem dX7_fitsLaxness_106 : decode cX7_fitsLaxness 106 = .ok (.iconst 0, 1) := by decide +kernel
theorem dX7_fitsLaxness_107 : decode cX7_fitsLaxness 107 = .ok (.ireturn, 1) := by decide +kernel
theorem dX7_fitsLaxness_108 : decode cX7_fitsLaxness 108 = .ok (.iconst 0, 1) := by decide +kernel
theorem dX7_fitsLaxness_109 : decode cX7_fitsLaxness 109 = .ok (.ireturn, 1) := by decide +kernel
def w_X7_fitsLaxness (a0 : Int32) (a1 : Int32) (I : sI) (J : sJ) (post : Int32 → sI → sJ → Prop) : Prop :=
  ((a0 = 0 → ((¬ a1 = 104 → post 0 I J) ∧ (a1 = 104 → post 1 I J))) ∧ (a0 = 1 → ((a1 < 49 → post 0 I J) ∧ (¬ a1 < 49 → ((52 ≤ a1 → post 0 I J) ∧ (¬ 52 ≤ a1 → post 1 I J))))) ∧ (a0 = 2 → ((¬ a1 = 100 → post 0 I J) ∧ (a1 = 100 → post 1 I J))) ∧ (a0 = 3 → ((a1 < 48 → post 0 I J) ∧ (¬ a1 < 48 → ((50 < a1 → post 0 I J) ∧ (¬ 50 < a1 → post 1 I J))))) ∧ (a0 = 4 → ((¬ a1 = 98 → post 0 I J) ∧ (a1 = 98 → post 1 I J))) ∧ (¬ a0 = 0 ∧ ¬ a0 = 1 ∧ ¬ a0 = 2 ∧ ¬ a0 = 3 ∧ ¬ a0 = 4 → post 0 I J))
set_option maxHeartbeats 4000000 in
set_option maxRecDepth 100000 in
theorem t_X7_fitsLaxness {X : sX} {a0 : Int32} {a1 : Int32} {I : sI} {J : sJ} {post : Int32 → sI → sJ → Prop} (h : sOK X cX7_fitsLaxness RX7 2 0 0) (hr : sRt X (some .boolean) (sPi post)) (hw : w_X7_fitsLaxness a0 a1 I J post) : sG X 2 0 [(0, .int a0), (1, .int a1)] [] I J := by
  unfold w_X7_fitsLaxness at hw
  refine g_iload_n h rfl 0 rfl dX7_fitsLaxness_0 ?_
  by_cases q1_0 : a0 = 0
  · replace hw := hw.1 q1_0
    refine g_tabIn (tgt := 36) h dX7_fitsLaxness_1 (by rw [q1_0]; decide) (by rw [q1_0]; decide) (off := 35) (by rw [q1_0]; rfl) (by decide) ?_
    refine g_iload_n h rfl 1 rfl dX7_fitsLaxness_36 ?_
    refine g_bipush (v := 104) h (by decide) dX7_fitsLaxness_37 ?_
    refine g_icmp_ne (tgt := 46) h (by decide) dX7_fitsLaxness_39 (fun q39 => ?_) (fun q39 => ?_)
    · replace hw := hw.1 q39
      refine g_iconst (v := 0) h (by decide) dX7_fitsLaxness_46 ?_
      exact g_zret h hr (Or.inl rfl) dX7_fitsLaxness_47 hw
    · replace hw := hw.2 q39
      refine g_iconst (v := 1) h (by decide) dX7_fitsLaxness_42 ?_
      refine g_goto (tgt := 47) h (by decide) dX7_fitsLaxness_43 ?_
      exact g_zret h hr (Or.inr rfl) dX7_fitsLaxness_47 hw
  replace hw := hw.2
  by_cases q1_1 : a0 = 1
  · replace hw := hw.1 q1_1
    refine g_tabIn (tgt := 48) h dX7_fitsLaxness_1 (by rw [q1_1]; decide) (by rw [q1_1]; decide) (off := 47) (by rw [q1_1]; rfl) (by decide) ?_
    refine g_iload_n h rfl 1 rfl dX7_fitsLaxness_48 ?_
    refine g_bipush (v := 49) h (by decide) dX7_fitsLaxness_49 ?_
    refine g_icmp_lt (tgt := 64) h (by decide) dX7_fitsLaxness_51 (fun q51 => ?_) (fun q51 => ?_)
    · replace hw := hw.1 q51
      refine g_iconst (v := 0) h (by decide) dX7_fitsLaxness_64 ?_
      exact g_zret h hr (Or.inl rfl) dX7_fitsLaxness_65 hw
    · replace hw := hw.2 q51
      refine g_iload_n h rfl 1 rfl dX7_fitsLaxness_54 ?_
      refine g_bipush (v := 52) h (by decide) dX7_fitsLaxness_55 ?_
      refine g_icmp_ge (tgt := 64) h (by decide) dX7_fitsLaxness_57 (fun q57 => ?_) (fun q57 => ?_)
      · replace hw := hw.1 q57
        refine g_iconst (v := 0) h (by decide) dX7_fitsLaxness_64 ?_
        exact g_zret h hr (Or.inl rfl) dX7_fitsLaxness_65 hw
      · replace hw := hw.2 q57
        refine g_iconst (v := 1) h (by decide) dX7_fitsLaxness_60 ?_
        refine g_goto (tgt := 65) h (by decide) dX7_fitsLaxness_61 ?_
        exact g_zret h hr (Or.inr rfl) dX7_fitsLaxness_65 hw
  replace hw := hw.2
  by_cases q1_2 : a0 = 2
  · replace hw := hw.1 q1_2
    refine g_tabIn (tgt := 66) h dX7_fitsLaxness_1 (by rw [q1_2]; decide) (by rw [q1_2]; decide) (off := 65) (by rw [q1_2]; rfl) (by decide) ?_
    refine g_iload_n h rfl 1 rfl dX7_fitsLaxness_66 ?_
    refine g_bipush (v := 100) h (by decide) dX7_fitsLaxness_67 ?_
    refine g_icmp_ne (tgt := 76) h (by decide) dX7_fitsLaxness_69 (fun q69 => ?_) (fun q69 => ?_)
    · replace hw := hw.1 q69
      refine g_iconst (v := 0) h (by decide) dX7_fitsLaxness_76 ?_
      exact g_zret h hr (Or.inl rfl) dX7_fitsLaxness_77 hw
    · replace hw := hw.2 q69
      refine g_iconst (v := 1) h (by decide) dX7_fitsLaxness_72 ?_
      refine g_goto (tgt := 77) h (by decide) dX7_fitsLaxness_73 ?_
      exact g_zret h hr (Or.inr rfl) dX7_fitsLaxness_77 hw
  replace hw := hw.2
  by_cases q1_3 : a0 = 3
  · replace hw := hw.1 q1_3
    refine g_tabIn (tgt := 78) h dX7_fitsLaxness_1 (by rw [q1_3]; decide) (by rw [q1_3]; decide) (off := 77) (by rw [q1_3]; rfl) (by decide) ?_
    refine g_iload_n h rfl 1 rfl dX7_fitsLaxness_78 ?_
    refine g_bipush (v := 48) h (by decide) dX7_fitsLaxness_79 ?_
    refine g_icmp_lt (tgt := 94) h (by decide) dX7_fitsLaxness_81 (fun q81 => ?_) (fun q81 => ?_)
    · replace hw := hw.1 q81
      refine g_iconst (v := 0) h (by decide) dX7_fitsLaxness_94 ?_
      exact g_zret h hr (Or.inl rfl) dX7_fitsLaxness_95 hw
    · replace hw := hw.2 q81
      refine g_iload_n h rfl 1 rfl dX7_fitsLaxness_84 ?_
      refine g_bipush (v := 50) h (by decide) dX7_fitsLaxness_85 ?_
      refine g_icmp_gt (tgt := 94) h (by decide) dX7_fitsLaxness_87 (fun q87 => ?_) (fun q87 => ?_)
      · replace hw := hw.1 q87
        refine g_iconst (v := 0) h (by decide) dX7_fitsLaxness_94 ?_
        exact g_zret h hr (Or.inl rfl) dX7_fitsLaxness_95 hw
      · replace hw := hw.2 q87
        refine g_iconst (v := 1) h (by decide) dX7_fitsLaxness_90 ?_
        refine g_goto (tgt := 95) h (by decide) dX7_fitsLaxness_91 ?_
        exact g_zret h hr (Or.inr rfl) dX7_fitsLaxness_95 hw
  replace hw := hw.2
  by_cases q1_4 : a0 = 4
  · replace hw := hw.1 q1_4
    refine g_tabIn (tgt := 96) h dX7_fitsLaxness_1 (by rw [q1_4]; decide) (by rw [q1_4]; decide) (off := 95) (by rw [q1_4]; rfl) (by decide) ?_
    refine g_iload_n h rfl 1 rfl dX7_fitsLaxness_96 ?_
    refine g_bipush (v := 98) h (by decide) dX7_fitsLaxness_97 ?_
    refine g_icmp_ne (tgt := 106) h (by decide) dX7_fitsLaxness_99 (fun q99 => ?_) (fun q99 => ?_)
    · replace hw := hw.1 q99
      refine g_iconst (v := 0) h (by decide) dX7_fitsLaxness_106 ?_
      exact g_zret h hr (Or.inl rfl) dX7_fitsLaxness_107 hw
    · replace hw := hw.2 q99
      refine g_iconst (v := 1) h (by decide) dX7_fitsLaxness_102 ?_
      refine g_goto (tgt := 107) h (by decide) dX7_fitsLaxness_103 ?_
      exact g_zret h hr (Or.inr rfl) dX7_fitsLaxness_107 hw
  replace hw := hw.2
  replace hw := hw ⟨q1_0, q1_1, q1_2, q1_3, q1_4⟩
  have hout : (a0).toInt < 0 ∨ 4 < (a0).toInt := by
    refine Classical.byContradiction fun hc => ?_
    rcases (show (a0).toInt = 0 ∨ (a0).toInt = 1 ∨ (a0).toInt = 2 ∨ (a0).toInt = 3 ∨ (a0).toInt = 4 by omega) with z | z | z | z | z
    · exact q1_0 (Int32.toInt_inj.mp z)
    · exact q1_1 (Int32.toInt_inj.mp z)
    · exact q1_2 (Int32.toInt_inj.mp z)
    · exact q1_3 (Int32.toInt_inj.mp z)
    · exact q1_4 (Int32.toInt_inj.mp z)
  refine g_tabOut (tgt := 108) h dX7_fitsLaxness_1 hout (by decide) ?_
  refine g_iconst (v := 0) h (by decide) dX7_fitsLaxness_108 ?_
  exact g_zret h hr (Or.inl rfl) dX7_fitsLaxness_109 hw
theorem c_X7_fitsLaxness (X : sX) {a0 : Int32} {a1 : Int32} {I : sI} {J : sJ} {post : Int32 → sI → sJ → Prop} (hw : w_X7_fitsLaxness a0 a1 I J post) : sCall X yX7_fitsLaxness cX7_fitsLaxness 2 (some .boolean) 0 0 [.int a0, .int a1] I J (sPi post) := sCall_of (by decide +kernel) (Nat.le_of_ble_eq_true rfl) (fun X h hr => t_X7_fitsLaxness h hr hw)
theorem dX7_faultAsLaxness_0 : decode cX7_faultAsLaxness 0 = .ok (.iconst 0, 1) := by decide +kernel
theorem dX7_faultAsLaxness_1 : decode cX7_faultAsLaxness 1 = .ok (.istore_n 1, 1) := by decide +kernel
theorem dX7_faultAsLaxness_2 : decode cX7_faultAsLaxness 2 = .ok (.iload_n 1, 1) := by decide +kernel
theorem dX7_faultAsLaxness_3 : decode cX7_faultAsLaxness 3 = .ok (.aload_n 0, 1) := by decide +kernel
theorem dX7_faultAsLaxness_4 : decode cX7_faultAsLaxness 4 = .ok (.getfield 15, 3) := by decide +kernel
theorem dX7_faultAsLaxness_7 : decode cX7_faultAsLaxness 7 = .ok (.if_icmp .ge 24, 3) := by decide +kernel
theorem dX7_faultAsLaxness_10 : decode cX7_faultAsLaxness 10 = .ok (.iload_n 1, 1) := by decide +kernel
theorem dX7_faultAsLaxness_11 : decode cX7_faultAsLaxness 11 = .ok (.aload_n 0, 1) := by decide +kernel
theorem dX7_faultAsLaxness_12 : decode cX7_faultAsLaxness 12 = .ok (.getfield 9, 3) := by decide +kernel
theorem dX7_faultAsLaxness_15 : decode cX7_faultAsLaxness 15 = .ok (.iload_n 1, 1) := by decide +kernel
theorem dX7_faultAsLaxness_16 : decode cX7_faultAsLaxness 16 = .ok (.iaload, 1) := by decide +kernel
theorem dX7_faultAsLaxness_17 : decode cX7_faultAsLaxness 17 = .ok (.invokestatic 29, 3) := by decide +kernel
theorem dX7_faultAsLaxness_20 : decode cX7_faultAsLaxness 20 = .ok (.ifCond .ne 5, 3) := by decide +kernel
theorem dX7_faultAsLaxness_23 : decode cX7_faultAsLaxness 23 = .ok (.iload_n 1, 1) := by decide +kernel
theorem dX7_faultAsLaxness_24 : decode cX7_faultAsLaxness 24 = .ok (.ireturn, 1) := by decide +kernel
theorem dX7_faultAsLaxness_25 : decode cX7_faultAsLaxness 25 = .ok (.iinc 1 1, 3) := by decide +kernel
theorem dX7_faultAsLaxness_28 : decode cX7_faultAsLaxness 28 = .ok (.goto (-26), 3) := by decide +kernel
theorem dX7_faultAsLaxness_31 : decode cX7_faultAsLaxness 31 = .ok (.aload_n 0, 1) := by decide +kernel
theorem dX7_faultAsLaxness_32 : decode cX7_faultAsLaxness 32 = .ok (.getfield 15, 3) := by decide +kernel
theorem dX7_faultAsLaxness_35 : decode cX7_faultAsLaxness 35 = .ok (.iconst 4, 1) := by decide +kernel
theorem dX7_faultAsLaxness_36 : decode cX7_faultAsLaxness 36 = .ok (.if_icmp .ge 10, 3) := by decide +kernel
theorem dX7_faultAsLaxness_39 : decode cX7_faultAsLaxness 39 = .ok (.aload_n 0, 1) := by decide +kernel
theorem dX7_faultAsLaxness_40 : decode cX7_faultAsLaxness 40 = .ok (.getfield 15, 3) := by decide +kernel
theorem dX7_faultAsLaxness_43 : decode cX7_faultAsLaxness 43 = .ok (.goto 4, 3) := by decide +kernel
theorem dX7_faultAsLaxness_46 : decode cX7_faultAsLaxness 46 = .ok (.iconst (-1), 1) := by decide +kernel
theorem dX7_faultAsLaxness_47 : decode cX7_faultAsLaxness 47 = .ok (.ireturn, 1) := by decide +kernel
def w_X7_faultAsLaxness_2_s (post : Int32 → sI → sJ → Prop) (k2 : Int32 → sI → sJ → Prop) (x1 : Int32) (I : sI) (J : sJ) : Prop :=
  (((I 1 1) ≤ x1 → ((4 ≤ (I 1 1) → post (-1) I J) ∧ (¬ 4 ≤ (I 1 1) → post (I 1 1) I J))) ∧ (¬ (I 1 1) ≤ x1 → (vp_in x1 80 ∧ w_X7_fitsLaxness x1 (I 2 (Int32.toNatClampNeg x1)) I J (fun (r_17 : Int32) (I_17 : sI) (J_17 : sJ) => (((¬ r_17 = 0 → (∀ v1_25 : Int32, v1_25 = x1 + 1 → k2 v1_25 I_17 J_17)) ∧ (r_17 = 0 → post x1 I_17 J_17)))))))
def w_X7_faultAsLaxness_2_n (post : Int32 → sI → sJ → Prop) : Nat → Int32 → sI → sJ → Prop
  | 0 => fun _ _ _ => False
  | n + 1 => fun x1 I J => w_X7_faultAsLaxness_2_s post (w_X7_faultAsLaxness_2_n post n) x1 I J
def w_X7_faultAsLaxness_2 (post : Int32 → sI → sJ → Prop) (x1 : Int32) (I : sI) (J : sJ) : Prop := ∃ n, w_X7_faultAsLaxness_2_n post n x1 I J
set_option maxHeartbeats 4000000 in
set_option maxRecDepth 100000 in
theorem t_X7_faultAsLaxness_2_s {X : sX} {post : Int32 → sI → sJ → Prop} (h : sOK X cX7_faultAsLaxness RX7 2 1 21) (hr : sRt X (some .int) (sPi post)) {k2 : Int32 → sI → sJ → Prop} (hk2 : ∀ (x1 : Int32) (I : sI) (J : sJ), k2 x1 I J → sG X 2 2 [(0, .ref 1), (1, .int x1)] [] I J) {x1 : Int32} {I : sI} {J : sJ} (hw : w_X7_faultAsLaxness_2_s post k2 x1 I J) : sG X 2 2 [(0, .ref 1), (1, .int x1)] [] I J := by
  unfold w_X7_faultAsLaxness_2_s at hw
  refine g_iload_n h rfl 1 rfl dX7_faultAsLaxness_2 ?_
  refine g_aload_n h rfl 0 rfl dX7_faultAsLaxness_3 ?_
  refine g_get h is_1 fl_X7_15 rfl dX7_faultAsLaxness_4 ?_
  refine g_icmp_ge (tgt := 31) h (by decide) dX7_faultAsLaxness_7 (fun q7 => ?_) (fun q7 => ?_)
  · replace hw := hw.1 q7
    refine g_aload_n h rfl 0 rfl dX7_faultAsLaxness_31 ?_
    refine g_get h is_1 fl_X7_15 rfl dX7_faultAsLaxness_32 ?_
    refine g_iconst (v := 4) h (by decide) dX7_faultAsLaxness_35 ?_
    refine g_icmp_ge (tgt := 46) h (by decide) dX7_faultAsLaxness_36 (fun q36 => ?_) (fun q36 => ?_)
    · replace hw := hw.1 q36
      refine g_iconst (v := (-1)) h (by decide) dX7_faultAsLaxness_46 ?_
      exact g_iret h hr dX7_faultAsLaxness_47 hw
    · replace hw := hw.2 q36
      refine g_aload_n h rfl 0 rfl dX7_faultAsLaxness_39 ?_
      refine g_get h is_1 fl_X7_15 rfl dX7_faultAsLaxness_40 ?_
      refine g_goto (tgt := 47) h (by decide) dX7_faultAsLaxness_43 ?_
      exact g_iret h hr dX7_faultAsLaxness_47 hw
  · replace hw := hw.2 q7
    refine g_iload_n h rfl 1 rfl dX7_faultAsLaxness_10 ?_
    refine g_aload_n h rfl 0 rfl dX7_faultAsLaxness_11 ?_
    refine g_get h is_1 fl_X7_9 fr_1_0 dX7_faultAsLaxness_12 ?_
    refine g_iload_n h rfl 1 rfl dX7_faultAsLaxness_15 ?_
    obtain ⟨hi16, hw⟩ := hw
    refine g_iald h ar_2 hi16 dX7_faultAsLaxness_16 ?_
    refine g_callS [.int x1, .int (I 2 (Int32.toNatClampNeg x1))] h (c_X7_fitsLaxness X hw) sPi_v mw_X7_fitsLaxness lk_X7_29 rfl ⟨by decide, by decide⟩ (Nat.le_of_ble_eq_true rfl) dX7_faultAsLaxness_17 (sPi_k (fun r_17 I_17 J_17 hw => ?_))
    refine g_if_ne (tgt := 25) h (by decide) dX7_faultAsLaxness_20 (fun q20 => ?_) (fun q20 => ?_)
    · replace hw := hw.1 q20
      obtain ⟨v1_25, ev1_25⟩ : ∃ z : Int32, z = x1 + 1 := ⟨_, rfl⟩
      replace hw := hw v1_25 ev1_25
      refine g_iinc (v := v1_25) (lo2 := [(1, .int v1_25), (0, .ref 1)]) h 1 rfl (by rw [ev1_25]; rfl) (by decide) rfl dX7_faultAsLaxness_25 ?_
      refine g_goto (tgt := 2) h (by decide) dX7_faultAsLaxness_28 ?_
      exact g_sub [1, 0] rfl (hk2 _ _ _ hw)
    · replace hw := hw.2 q20
      refine g_iload_n h rfl 1 rfl dX7_faultAsLaxness_23 ?_
      exact g_iret h hr dX7_faultAsLaxness_24 hw
theorem t_X7_faultAsLaxness_2 {X : sX} {post : Int32 → sI → sJ → Prop} (h : sOK X cX7_faultAsLaxness RX7 2 1 21) (hr : sRt X (some .int) (sPi post)) {x1 : Int32} {I : sI} {J : sJ} (hw : w_X7_faultAsLaxness_2 post x1 I J) : sG X 2 2 [(0, .ref 1), (1, .int x1)] [] I J := by
  obtain ⟨n, hw⟩ := hw
  induction n generalizing x1 I J with
  | zero => exact hw.elim
  | succ n ih => exact t_X7_faultAsLaxness_2_s h hr (fun _ _ _ q => ih q) hw
def w_X7_faultAsLaxness (I : sI) (J : sJ) (post : Int32 → sI → sJ → Prop) : Prop :=
  w_X7_faultAsLaxness_2 post 0 I J
set_option maxHeartbeats 4000000 in
set_option maxRecDepth 100000 in
theorem t_X7_faultAsLaxness {X : sX} {I : sI} {J : sJ} {post : Int32 → sI → sJ → Prop} (h : sOK X cX7_faultAsLaxness RX7 2 1 21) (hr : sRt X (some .int) (sPi post)) (hw : w_X7_faultAsLaxness I J post) : sG X 2 0 [(0, .ref 1)] [] I J := by
  unfold w_X7_faultAsLaxness at hw
  refine g_iconst (v := 0) h (by decide) dX7_faultAsLaxness_0 ?_
  refine g_istore_n (lo2 := [(1, .int 0), (0, .ref 1)]) h rfl (by decide) rfl dX7_faultAsLaxness_1 ?_
  exact g_sub [1, 0] rfl (t_X7_faultAsLaxness_2 h hr hw)
theorem c_X7_faultAsLaxness (X : sX) {I : sI} {J : sJ} {post : Int32 → sI → sJ → Prop} (hw : w_X7_faultAsLaxness I J post) : sCall X yX7_faultAsLaxness cX7_faultAsLaxness 2 (some .int) 1 21 [.ref 1] I J (sPi post) := sCall_of (by decide +kernel) (Nat.le_of_ble_eq_true rfl) (fun X h hr => t_X7_faultAsLaxness h hr hw)
theorem dX8_take_0 : decode cX8_take 0 = .ok (.aload_n 0, 1) := by decide +kernel
theorem dX8_take_1 : decode cX8_take 1 = .ok (.getfield 12, 3) := by decide +kernel
theorem dX8_take_4 : decode cX8_take 4 = .ok (.aload_n 1, 1) := by decide +kernel
theorem dX8_take_5 : decode cX8_take 5 = .ok (.getfield 12, 3) := by decide +kernel
theorem dX8_take_8 : decode cX8_take 8 = .ok (.invokevirtual 40, 3) := by decide +kernel
theorem dX8_take_11 : decode cX8_take 11 = .ok (.aload_n 0, 1) := by decide +kernel
theorem dX8_take_12 : decode cX8_take 12 = .ok (.getfield 21, 3) := by decide +kernel
theorem dX8_take_15 : decode cX8_take 15 = .ok (.aload_n 1, 1) := by decide +kernel
theorem dX8_take_16 : decode cX8_take 16 = .ok (.getfield 21, 3) := by decide +kernel
theorem dX8_take_19 : decode cX8_take 19 = .ok (.invokevirtual 44, 3) := by decide +kernel
theorem dX8_take_22 : decode cX8_take 22 = .ok (.aload_n 0, 1) := by decide +kernel
theorem dX8_take_23 : decode cX8_take 23 = .ok (.aload_n 1, 1) := by decide +kernel
theorem dX8_take_24 : decode cX8_take 24 = .ok (.getfield 29, 3) := by decide +kernel
theorem dX8_take_27 : decode cX8_take 27 = .ok (.putfield 29, 3) := by decide +kernel
theorem dX8_take_30 : decode cX8_take 30 = .ok (.aload_n 0, 1) := by decide +kernel
theorem dX8_take_31 : decode cX8_take 31 = .ok (.aload_n 1, 1) := by decide +kernel
theorem dX8_take_32 : decode cX8_take 32 = .ok (.getfield 33, 3) := by decide +kernel
theorem dX8_take_35 : decode cX8_take 35 = .ok (.putfield 33, 3) := by decide +kernel
theorem dX8_take_38 : decode cX8_take 38 = .ok (.aload_n 0, 1) := by decide +kernel
theorem dX8_take_39 : decode cX8_take 39 = .ok (.aload_n 1, 1) := by decide +kernel
theorem dX8_take_40 : decode cX8_take 40 = .ok (.getfield 36, 3) := by decide +kernel
theorem dX8_take_43 : decode cX8_take 43 = .ok (.putfield 36, 3) := by decide +kernel
theorem dX8_take_46 : decode cX8_take 46 = .ok (.iconst 0, 1) := by decide +kernel
theorem dX8_take_47 : decode cX8_take 47 = .ok (.istore_n 2, 1) := by decide +kernel
theorem dX8_take_48 : decode cX8_take 48 = .ok (.iload_n 2, 1) := by decide +kernel
theorem dX8_take_49 : decode cX8_take 49 = .ok (.bipush 12, 2) := by decide +kernel
theorem dX8_take_51 : decode cX8_take 51 = .ok (.if_icmp .ge 21, 3) := by decide +kernel
theorem dX8_take_54 : decode cX8_take 54 = .ok (.aload_n 0, 1) := by decide +kernel
theorem dX8_take_55 : decode cX8_take 55 = .ok (.getfield 25, 3) := by decide +kernel
theorem dX8_take_58 : decode cX8_take 58 = .ok (.iload_n 2, 1) := by decide +kernel
theorem dX8_take_59 : decode cX8_take 59 = .ok (.aload_n 1, 1) := by decide +kernel
theorem dX8_take_60 : decode cX8_take 60 = .ok (.getfield 25, 3) := by decide +kernel
theorem dX8_take_63 : decode cX8_take 63 = .ok (.iload_n 2, 1) := by decide +kernel
theorem dX8_take_64 : decode cX8_take 64 = .ok (.iaload, 1) := by decide +kernel
theorem dX8_take_65 : decode cX8_take 65 = .ok (.iastore, 1) := by decide +kernel
theorem dX8_take_66 : decode cX8_take 66 = .ok (.iinc 2 1, 3) := by decide +kernel
theorem dX8_take_69 : decode cX8_take 69 = .ok (.goto (-21), 3) := by decide +kernel
theorem dX8_take_72 : decode cX8_take 72 = .ok (.return_, 1) := by decide +kernel
def w_X8_take_48_s (h0 : Nat) (h1 : Nat) (post : sI → sJ → Prop) (k48 : Int32 → sI → sJ → Prop) (x2 : Int32) (I : sI) (J : sJ) : Prop :=
  ((12 ≤ x2 → post I J) ∧ (¬ 12 ≤ x2 → (vp_in x2 12 ∧ (vp_in x2 12 ∧ (∀ I_65 : sI, I_65 = sUI I (sR h0 2) (Int32.toNatClampNeg x2) (I (sR h1 2) (Int32.toNatClampNeg x2)) → (∀ v2_66 : Int32, v2_66 = x2 + 1 → k48 v2_66 I_65 J))))))
def w_X8_take_48_n (h0 : Nat) (h1 : Nat) (post : sI → sJ → Prop) : Nat → Int32 → sI → sJ → Prop
  | 0 => fun _ _ _ => False
  | n + 1 => fun x2 I J => w_X8_take_48_s h0 h1 post (w_X8_take_48_n h0 h1 post n) x2 I J
def w_X8_take_48 (h0 : Nat) (h1 : Nat) (post : sI → sJ → Prop) (x2 : Int32) (I : sI) (J : sJ) : Prop := ∃ n, w_X8_take_48_n h0 h1 post n x2 I J
set_option maxHeartbeats 4000000 in
set_option maxRecDepth 100000 in
theorem t_X8_take_48_s {X : sX} {h0 : Nat} {h1 : Nat} (ph0 : sIs h0 8) (ph1 : sIs h1 8) {post : sI → sJ → Prop} (h : sOK X cX8_take RX8 3 1 22) (hr : sRt X none (sPv post)) {k48 : Int32 → sI → sJ → Prop} (hk48 : ∀ (x2 : Int32) (I : sI) (J : sJ), k48 x2 I J → sG X 3 48 [(0, .ref h0), (1, .ref h1), (2, .int x2)] [] I J) {x2 : Int32} {I : sI} {J : sJ} (hw : w_X8_take_48_s h0 h1 post k48 x2 I J) : sG X 3 48 [(0, .ref h0), (1, .ref h1), (2, .int x2)] [] I J := by
  unfold w_X8_take_48_s at hw
  refine g_iload_n h rfl 2 rfl dX8_take_48 ?_
  refine g_bipush (v := 12) h (by decide) dX8_take_49 ?_
  refine g_icmp_ge (tgt := 72) h (by decide) dX8_take_51 (fun q51 => ?_) (fun q51 => ?_)
  · replace hw := hw.1 q51
    exact g_vret h hr dX8_take_72 hw
  · replace hw := hw.2 q51
    refine g_aload_n h rfl 0 rfl dX8_take_54 ?_
    refine g_get h ph0 fl_X8_25 rfl dX8_take_55 ?_
    refine g_iload_n h rfl 2 rfl dX8_take_58 ?_
    refine g_aload_n h rfl 1 rfl dX8_take_59 ?_
    refine g_get h ph1 fl_X8_25 rfl dX8_take_60 ?_
    refine g_iload_n h rfl 2 rfl dX8_take_63 ?_
    obtain ⟨hi64, hw⟩ := hw
    refine g_iald h (arF_8_2 ph1) hi64 dX8_take_64 ?_
    obtain ⟨hi65, hw⟩ := hw
    refine g_iast h (arF_8_2 ph0) hi65 dX8_take_65 ?_
    refine g_nI (fun I_65 eI_65 => ?_)
    replace hw := hw I_65 eI_65
    obtain ⟨v2_66, ev2_66⟩ : ∃ z : Int32, z = x2 + 1 := ⟨_, rfl⟩
    replace hw := hw v2_66 ev2_66
    refine g_iinc (v := v2_66) (lo2 := [(2, .int v2_66), (0, .ref h0), (1, .ref h1)]) h 2 rfl (by rw [ev2_66]; rfl) (by decide) rfl dX8_take_66 ?_
    refine g_goto (tgt := 48) h (by decide) dX8_take_69 ?_
    exact g_sub [1, 2, 0] rfl (hk48 _ _ _ hw)
theorem t_X8_take_48 {X : sX} {h0 : Nat} {h1 : Nat} (ph0 : sIs h0 8) (ph1 : sIs h1 8) {post : sI → sJ → Prop} (h : sOK X cX8_take RX8 3 1 22) (hr : sRt X none (sPv post)) {x2 : Int32} {I : sI} {J : sJ} (hw : w_X8_take_48 h0 h1 post x2 I J) : sG X 3 48 [(0, .ref h0), (1, .ref h1), (2, .int x2)] [] I J := by
  obtain ⟨n, hw⟩ := hw
  induction n generalizing x2 I J with
  | zero => exact hw.elim
  | succ n ih => exact t_X8_take_48_s ph0 ph1 h hr (fun _ _ _ q => ih q) hw
def w_X8_take (h0 : Nat) (h1 : Nat) (I : sI) (J : sJ) (post : sI → sJ → Prop) : Prop :=
  w_X2_take (sR h0 0) (sR h1 0) I J (fun (I_8 : sI) (J_8 : sJ) => (w_X4_take (sR h0 1) (sR h1 1) I_8 J_8 (fun (I_19 : sI) (J_19 : sJ) => ((∀ I_27 : sI, I_27 = sUI I_19 h0 3 (I_19 h1 3) → (∀ I_35 : sI, I_35 = sUI I_27 h0 4 (I_27 h1 4) → (sZ (I_35 h1 5) ∧ (∀ I_43 : sI, I_43 = sUI I_35 h0 5 (I_35 h1 5) → w_X8_take_48 h0 h1 post 0 I_43 J_19))))))))
set_option maxHeartbeats 4000000 in
set_option maxRecDepth 100000 in
theorem t_X8_take {X : sX} {h0 : Nat} {h1 : Nat} (ph0 : sIs h0 8) (ph1 : sIs h1 8) {I : sI} {J : sJ} {post : sI → sJ → Prop} (h : sOK X cX8_take RX8 3 1 22) (hr : sRt X none (sPv post)) (hw : w_X8_take h0 h1 I J post) : sG X 3 0 [(0, .ref h0), (1, .ref h1)] [] I J := by
  unfold w_X8_take at hw
  refine g_aload_n h rfl 0 rfl dX8_take_0 ?_
  refine g_get h ph0 fl_X8_12 rfl dX8_take_1 ?_
  refine g_aload_n h rfl 1 rfl dX8_take_4 ?_
  refine g_get h ph1 fl_X8_12 rfl dX8_take_5 ?_
  refine g_callV [.ref (sR h1 0)] h (c_X2_take X (isF_8_0 ph0) (isF_8_0 ph1) hw) sPv_v mw_X2_take lk_X8_40 (isF_8_0 ph0) rfl rfl ⟨by decide, by decide⟩ (Nat.le_of_ble_eq_true rfl) dX8_take_8 (sPv_k (fun I_8 J_8 hw => ?_))
  refine g_aload_n h rfl 0 rfl dX8_take_11 ?_
  refine g_get h ph0 fl_X8_21 rfl dX8_take_12 ?_
  refine g_aload_n h rfl 1 rfl dX8_take_15 ?_
  refine g_get h ph1 fl_X8_21 rfl dX8_take_16 ?_
  refine g_callV [.ref (sR h1 1)] h (c_X4_take X (isF_8_1 ph0) (isF_8_1 ph1) hw) sPv_v mw_X4_take lk_X8_44 (isF_8_1 ph0) rfl rfl ⟨by decide, by decide⟩ (Nat.le_of_ble_eq_true rfl) dX8_take_19 (sPv_k (fun I_19 J_19 hw => ?_))
  refine g_aload_n h rfl 0 rfl dX8_take_22 ?_
  refine g_aload_n h rfl 1 rfl dX8_take_23 ?_
  refine g_get h ph1 fl_X8_29 rfl dX8_take_24 ?_
  refine g_putI h ph0 fl_X8_29 rfl rfl dX8_take_27 ?_
  refine g_nI (fun I_27 eI_27 => ?_)
  replace hw := hw I_27 eI_27
  refine g_aload_n h rfl 0 rfl dX8_take_30 ?_
  refine g_aload_n h rfl 1 rfl dX8_take_31 ?_
  refine g_get h ph1 fl_X8_33 rfl dX8_take_32 ?_
  refine g_putI h ph0 fl_X8_33 rfl rfl dX8_take_35 ?_
  refine g_nI (fun I_35 eI_35 => ?_)
  replace hw := hw I_35 eI_35
  refine g_aload_n h rfl 0 rfl dX8_take_38 ?_
  refine g_aload_n h rfl 1 rfl dX8_take_39 ?_
  refine g_get h ph1 fl_X8_36 rfl dX8_take_40 ?_
  obtain ⟨hz43, hw⟩ := hw
  refine g_putZ h ph0 fl_X8_36 rfl rfl hz43 dX8_take_43 ?_
  refine g_nI (fun I_43 eI_43 => ?_)
  replace hw := hw I_43 eI_43
  refine g_iconst (v := 0) h (by decide) dX8_take_46 ?_
  refine g_istore_n (lo2 := [(2, .int 0), (0, .ref h0), (1, .ref h1)]) h rfl (by decide) rfl dX8_take_47 ?_
  exact g_sub [1, 2, 0] rfl (t_X8_take_48 ph0 ph1 h hr hw)
theorem c_X8_take (X : sX) {h0 : Nat} {h1 : Nat} (ph0 : sIs h0 8) (ph1 : sIs h1 8) {I : sI} {J : sJ} {post : sI → sJ → Prop} (hw : w_X8_take h0 h1 I J post) : sCall X yX8_take cX8_take 3 none 1 22 [.ref h0, .ref h1] I J (sPv post) := sCall_of (by decide +kernel) (Nat.le_of_ble_eq_true rfl) (fun X h hr => t_X8_take ph0 ph1 h hr hw)
theorem dX9_isWord_0 : decode cX9_isWord 0 = .ok (.aload_n 0, 1) := by decide +kernel
theorem dX9_isWord_1 : decode cX9_isWord 1 = .ok (.getfield 16, 3) := by decide +kernel
theorem dX9_isWord_4 : decode cX9_isWord 4 = .ok (.iload_n 1, 1) := by decide +kernel
theorem dX9_isWord_5 : decode cX9_isWord 5 = .ok (.iaload, 1) := by decide +kernel
theorem dX9_isWord_6 : decode cX9_isWord 6 = .ok (.aload_n 2, 1) := by decide +kernel
theorem dX9_isWord_7 : decode cX9_isWord 7 = .ok (.getfield 28, 3) := by decide +kernel
theorem dX9_isWord_10 : decode cX9_isWord 10 = .ok (.if_icmp .eq 5, 3) := by decide +kernel
theorem dX9_isWord_13 : decode cX9_isWord 13 = .ok (.iconst 0, 1) := by decide +kernel
theorem dX9_isWord_14 : decode cX9_isWord 14 = .ok (.ireturn, 1) := by decide +kernel
theorem dX9_isWord_15 : decode cX9_isWord 15 = .ok (.iconst 0, 1) := by decide +kernel
theorem dX9_isWord_16 : decode cX9_isWord 16 = .ok (.istore_n 3, 1) := by decide +kernel
theorem dX9_isWord_17 : decode cX9_isWord 17 = .ok (.iload_n 3, 1) := by decide +kernel
theorem dX9_isWord_18 : decode cX9_isWord 18 = .ok (.aload_n 0, 1) := by decide +kernel
theorem dX9_isWord_19 : decode cX9_isWord 19 = .ok (.getfield 16, 3) := by decide +kernel
theorem dX9_isWord_22 : decode cX9_isWord 22 = .ok (.iload_n 1, 1) := by decide +kernel
theorem dX9_isWord_23 : decode cX9_isWord 23 = .ok (.iaload, 1) := by decide +kernel
theorem dX9_isWord_24 : decode cX9_isWord 24 = .ok (.if_icmp .ge 31, 3) := by decide +kernel
theorem dX9_isWord_27 : decode cX9_isWord 27 = .ok (.aload_n 0, 1) := by decide +kernel
theorem dX9_isWord_28 : decode cX9_isWord 28 = .ok (.getfield 11, 3) := by decide +kernel
theorem dX9_isWord_31 : decode cX9_isWord 31 = .ok (.iload_n 1, 1) := by decide +kernel
theorem dX9_isWord_32 : decode cX9_isWord 32 = .ok (.aaload, 1) := by decide +kernel
theorem dX9_isWord_33 : decode cX9_isWord 33 = .ok (.iload_n 3, 1) := by decide +kernel
theorem dX9_isWord_34 : decode cX9_isWord 34 = .ok (.iaload, 1) := by decide +kernel
theorem dX9_isWord_35 : decode cX9_isWord 35 = .ok (.aload_n 2, 1) := by decide +kernel
theorem dX9_isWord_36 : decode cX9_isWord 36 = .ok (.getfield 31, 3) := by decide +kernel
theorem dX9_isWord_39 : decode cX9_isWord 39 = .ok (.iload_n 3, 1) := by decide +kernel
theorem dX9_isWord_40 : decode cX9_isWord 40 = .ok (.iaload, 1) := by decide +kernel
theorem dX9_isWord_41 : decode cX9_isWord 41 = .ok (.bipush 65, 2) := by decide +kernel
theorem dX9_isWord_43 : decode cX9_isWord 43 = .ok (.isub, 1) := by decide +kernel
theorem dX9_isWord_44 : decode cX9_isWord 44 = .ok (.if_icmp .eq 5, 3) := by decide +kernel
theorem dX9_isWord_47 : decode cX9_isWord 47 = .ok (.iconst 0, 1) := by decide +kernel
theorem dX9_isWord_48 : decode cX9_isWord 48 = .ok (.ireturn, 1) := by decide +kernel
theorem dX9_isWord_49 : decode cX9_isWord 49 = .ok (.iinc 3 1, 3) := by decide +kernel
theorem dX9_isWord_52 : decode cX9_isWord 52 = .ok (.goto (-35), 3) := by decide +kernel
theorem dX9_isWord_55 : decode cX9_isWord 55 = .ok (.iconst 1, 1) := by decide +kernel
theorem dX9_isWord_56 : decode cX9_isWord 56 = .ok (.ireturn, 1) := by decide +kernel
def w_X9_isWord_17_s (h0 : Nat) (post : Int32 → sI → sJ → Prop) (k17 : Int32 → Int32 → sI → sJ → Prop) (x1 : Int32) (x3 : Int32) (I : sI) (J : sJ) : Prop :=
  (vp_in x1 20 ∧ (((I (sR h0 1) (Int32.toNatClampNeg x1)) ≤ x3 → post 1 I J) ∧ (¬ (I (sR h0 1) (Int32.toNatClampNeg x1)) ≤ x3 → (vp_in x1 20 ∧ (vp_in x3 6 ∧ (vp_in x3 80 ∧ (((I (sR (sR h0 0) (Int32.toNatClampNeg x1)) (Int32.toNatClampNeg x3)) = ((I 2 (Int32.toNatClampNeg x3)) - 65) → (∀ v3_49 : Int32, v3_49 = x3 + 1 → k17 x1 v3_49 I J)) ∧ (¬ (I (sR (sR h0 0) (Int32.toNatClampNeg x1)) (Int32.toNatClampNeg x3)) = ((I 2 (Int32.toNatClampNeg x3)) - 65) → post 0 I J))))))))
def w_X9_isWord_17_n (h0 : Nat) (post : Int32 → sI → sJ → Prop) : Nat → Int32 → Int32 → sI → sJ → Prop
  | 0 => fun _ _ _ _ => False
  | n + 1 => fun x1 x3 I J => w_X9_isWord_17_s h0 post (w_X9_isWord_17_n h0 post n) x1 x3 I J
def w_X9_isWord_17 (h0 : Nat) (post : Int32 → sI → sJ → Prop) (x1 : Int32) (x3 : Int32) (I : sI) (J : sJ) : Prop := ∃ n, w_X9_isWord_17_n h0 post n x1 x3 I J
set_option maxHeartbeats 4000000 in
set_option maxRecDepth 100000 in
theorem t_X9_isWord_17_s {X : sX} {h0 : Nat} (ph0 : sIs h0 9) {post : Int32 → sI → sJ → Prop} (h : sOK X cX9_isWord RX9 4 0 0) (hr : sRt X (some .boolean) (sPi post)) {k17 : Int32 → Int32 → sI → sJ → Prop} (hk17 : ∀ (x1 : Int32) (x3 : Int32) (I : sI) (J : sJ), k17 x1 x3 I J → sG X 4 17 [(0, .ref h0), (1, .int x1), (2, .ref 1), (3, .int x3)] [] I J) {x1 : Int32} {x3 : Int32} {I : sI} {J : sJ} (hw : w_X9_isWord_17_s h0 post k17 x1 x3 I J) : sG X 4 17 [(0, .ref h0), (1, .int x1), (2, .ref 1), (3, .int x3)] [] I J := by
  unfold w_X9_isWord_17_s at hw
  refine g_iload_n h rfl 3 rfl dX9_isWord_17 ?_
  refine g_aload_n h rfl 0 rfl dX9_isWord_18 ?_
  refine g_get h ph0 fl_X9_16 rfl dX9_isWord_19 ?_
  refine g_iload_n h rfl 1 rfl dX9_isWord_22 ?_
  obtain ⟨hi23, hw⟩ := hw
  refine g_iald h (arF_9_1 ph0) hi23 dX9_isWord_23 ?_
  refine g_icmp_ge (tgt := 55) h (by decide) dX9_isWord_24 (fun q24 => ?_) (fun q24 => ?_)
  · replace hw := hw.1 q24
    refine g_iconst (v := 1) h (by decide) dX9_isWord_55 ?_
    exact g_zret h hr (Or.inr rfl) dX9_isWord_56 hw
  · replace hw := hw.2 q24
    refine g_aload_n h rfl 0 rfl dX9_isWord_27 ?_
    refine g_get h ph0 fl_X9_11 rfl dX9_isWord_28 ?_
    refine g_iload_n h rfl 1 rfl dX9_isWord_31 ?_
    obtain ⟨hi32, hw⟩ := hw
    refine g_aald (t := 2) h (arF_9_0 ph0) (by decide) hi32 dX9_isWord_32 ?_
    refine g_iload_n h rfl 3 rfl dX9_isWord_33 ?_
    obtain ⟨hi34, hw⟩ := hw
    refine g_iald h (el_6_20 (arF_9_0 ph0) hi32) hi34 dX9_isWord_34 ?_
    refine g_aload_n h rfl 2 rfl dX9_isWord_35 ?_
    refine g_get h is_1 fl_X9_31 fr_1_0 dX9_isWord_36 ?_
    refine g_iload_n h rfl 3 rfl dX9_isWord_39 ?_
    obtain ⟨hi40, hw⟩ := hw
    refine g_iald h ar_2 hi40 dX9_isWord_40 ?_
    refine g_bipush (v := 65) h (by decide) dX9_isWord_41 ?_
    refine g_isub h dX9_isWord_43 ?_
    refine g_icmp_eq (tgt := 49) h (by decide) dX9_isWord_44 (fun q44 => ?_) (fun q44 => ?_)
    · replace hw := hw.1 q44
      obtain ⟨v3_49, ev3_49⟩ : ∃ z : Int32, z = x3 + 1 := ⟨_, rfl⟩
      replace hw := hw v3_49 ev3_49
      refine g_iinc (v := v3_49) (lo2 := [(3, .int v3_49), (0, .ref h0), (1, .int x1), (2, .ref 1)]) h 3 rfl (by rw [ev3_49]; rfl) (by decide) rfl dX9_isWord_49 ?_
      refine g_goto (tgt := 17) h (by decide) dX9_isWord_52 ?_
      exact g_sub [1, 2, 3, 0] rfl (hk17 _ _ _ _ hw)
    · replace hw := hw.2 q44
      refine g_iconst (v := 0) h (by decide) dX9_isWord_47 ?_
      exact g_zret h hr (Or.inl rfl) dX9_isWord_48 hw
theorem t_X9_isWord_17 {X : sX} {h0 : Nat} (ph0 : sIs h0 9) {post : Int32 → sI → sJ → Prop} (h : sOK X cX9_isWord RX9 4 0 0) (hr : sRt X (some .boolean) (sPi post)) {x1 : Int32} {x3 : Int32} {I : sI} {J : sJ} (hw : w_X9_isWord_17 h0 post x1 x3 I J) : sG X 4 17 [(0, .ref h0), (1, .int x1), (2, .ref 1), (3, .int x3)] [] I J := by
  obtain ⟨n, hw⟩ := hw
  induction n generalizing x1 x3 I J with
  | zero => exact hw.elim
  | succ n ih => exact t_X9_isWord_17_s ph0 h hr (fun _ _ _ _ q => ih q) hw
def w_X9_isWord (h0 : Nat) (a1 : Int32) (I : sI) (J : sJ) (post : Int32 → sI → sJ → Prop) : Prop :=
  (vp_in a1 20 ∧ (((I (sR h0 1) (Int32.toNatClampNeg a1)) = (I 1 1) → w_X9_isWord_17 h0 post a1 0 I J) ∧ (¬ (I (sR h0 1) (Int32.toNatClampNeg a1)) = (I 1 1) → post 0 I J)))
set_option maxHeartbeats 4000000 in
set_option maxRecDepth 100000 in
theorem t_X9_isWord {X : sX} {h0 : Nat} {a1 : Int32} (ph0 : sIs h0 9) {I : sI} {J : sJ} {post : Int32 → sI → sJ → Prop} (h : sOK X cX9_isWord RX9 4 0 0) (hr : sRt X (some .boolean) (sPi post)) (hw : w_X9_isWord h0 a1 I J post) : sG X 4 0 [(0, .ref h0), (1, .int a1), (2, .ref 1)] [] I J := by
  unfold w_X9_isWord at hw
  refine g_aload_n h rfl 0 rfl dX9_isWord_0 ?_
  refine g_get h ph0 fl_X9_16 rfl dX9_isWord_1 ?_
  refine g_iload_n h rfl 1 rfl dX9_isWord_4 ?_
  obtain ⟨hi5, hw⟩ := hw
  refine g_iald h (arF_9_1 ph0) hi5 dX9_isWord_5 ?_
  refine g_aload_n h rfl 2 rfl dX9_isWord_6 ?_
  refine g_get h is_1 fl_X9_28 rfl dX9_isWord_7 ?_
  refine g_icmp_eq (tgt := 15) h (by decide) dX9_isWord_10 (fun q10 => ?_) (fun q10 => ?_)
  · replace hw := hw.1 q10
    refine g_iconst (v := 0) h (by decide) dX9_isWord_15 ?_
    refine g_istore_n (lo2 := [(3, .int 0), (0, .ref h0), (1, .int a1), (2, .ref 1)]) h rfl (by decide) rfl dX9_isWord_16 ?_
    exact g_sub [1, 2, 3, 0] rfl (t_X9_isWord_17 ph0 h hr hw)
  · replace hw := hw.2 q10
    refine g_iconst (v := 0) h (by decide) dX9_isWord_13 ?_
    exact g_zret h hr (Or.inl rfl) dX9_isWord_14 hw
theorem c_X9_isWord (X : sX) {h0 : Nat} {a1 : Int32} (ph0 : sIs h0 9) {I : sI} {J : sJ} {post : Int32 → sI → sJ → Prop} (hw : w_X9_isWord h0 a1 I J post) : sCall X yX9_isWord cX9_isWord 4 (some .boolean) 0 0 [.ref h0, .int a1, .ref 1] I J (sPi post) := sCall_of (by decide +kernel) (Nat.le_of_ble_eq_true rfl) (fun X h hr => t_X9_isWord ph0 h hr hw)
theorem dX9_has_0 : decode cX9_has 0 = .ok (.iconst 0, 1) := by decide +kernel
theorem dX9_has_1 : decode cX9_has 1 = .ok (.istore_n 2, 1) := by decide +kernel
theorem dX9_has_2 : decode cX9_has 2 = .ok (.iload_n 2, 1) := by decide +kernel
theorem dX9_has_3 : decode cX9_has 3 = .ok (.aload_n 0, 1) := by decide +kernel
theorem dX9_has_4 : decode cX9_has 4 = .ok (.getfield 20, 3) := by decide +kernel
theorem dX9_has_7 : decode cX9_has 7 = .ok (.if_icmp .ge 20, 3) := by decide +kernel
theorem dX9_has_10 : decode cX9_has 10 = .ok (.aload_n 0, 1) := by decide +kernel
theorem dX9_has_11 : decode cX9_has 11 = .ok (.iload_n 2, 1) := by decide +kernel
theorem dX9_has_12 : decode cX9_has 12 = .ok (.aload_n 1, 1) := by decide +kernel
theorem dX9_has_13 : decode cX9_has 13 = .ok (.invokevirtual 24, 3) := by decide +kernel
theorem dX9_has_16 : decode cX9_has 16 = .ok (.ifCond .eq 5, 3) := by decide +kernel
theorem dX9_has_19 : decode cX9_has 19 = .ok (.iconst 1, 1) := by decide +kernel
theorem dX9_has_20 : decode cX9_has 20 = .ok (.ireturn, 1) := by decide +kernel
theorem dX9_has_21 : decode cX9_has 21 = .ok (.iinc 2 1, 3) := by decide +kernel
theorem dX9_has_24 : decode cX9_has 24 = .ok (.goto (-22), 3) := by decide +kernel
theorem dX9_has_27 : decode cX9_has 27 = .ok (.iconst 0, 1) := by decide +kernel
theorem dX9_has_28 : decode cX9_has 28 = .ok (.ireturn, 1) := by decide +kernel
def w_X9_has_2_s (h0 : Nat) (post : Int32 → sI → sJ → Prop) (k2 : Int32 → sI → sJ → Prop) (x2 : Int32) (I : sI) (J : sJ) : Prop :=
  (((I h0 2) ≤ x2 → post 0 I J) ∧ (¬ (I h0 2) ≤ x2 → w_X9_isWord h0 x2 I J (fun (r_13 : Int32) (I_13 : sI) (J_13 : sJ) => (((r_13 = 0 → (∀ v2_21 : Int32, v2_21 = x2 + 1 → k2 v2_21 I_13 J_13)) ∧ (¬ r_13 = 0 → post 1 I_13 J_13))))))
def w_X9_has_2_n (h0 : Nat) (post : Int32 → sI → sJ → Prop) : Nat → Int32 → sI → sJ → Prop
  | 0 => fun _ _ _ => False
  | n + 1 => fun x2 I J => w_X9_has_2_s h0 post (w_X9_has_2_n h0 post n) x2 I J
def w_X9_has_2 (h0 : Nat) (post : Int32 → sI → sJ → Prop) (x2 : Int32) (I : sI) (J : sJ) : Prop := ∃ n, w_X9_has_2_n h0 post n x2 I J
set_option maxHeartbeats 4000000 in
set_option maxRecDepth 100000 in
theorem t_X9_has_2_s {X : sX} {h0 : Nat} (ph0 : sIs h0 9) {post : Int32 → sI → sJ → Prop} (h : sOK X cX9_has RX9 3 1 23) (hr : sRt X (some .boolean) (sPi post)) {k2 : Int32 → sI → sJ → Prop} (hk2 : ∀ (x2 : Int32) (I : sI) (J : sJ), k2 x2 I J → sG X 3 2 [(0, .ref h0), (1, .ref 1), (2, .int x2)] [] I J) {x2 : Int32} {I : sI} {J : sJ} (hw : w_X9_has_2_s h0 post k2 x2 I J) : sG X 3 2 [(0, .ref h0), (1, .ref 1), (2, .int x2)] [] I J := by
  unfold w_X9_has_2_s at hw
  refine g_iload_n h rfl 2 rfl dX9_has_2 ?_
  refine g_aload_n h rfl 0 rfl dX9_has_3 ?_
  refine g_get h ph0 fl_X9_20 rfl dX9_has_4 ?_
  refine g_icmp_ge (tgt := 27) h (by decide) dX9_has_7 (fun q7 => ?_) (fun q7 => ?_)
  · replace hw := hw.1 q7
    refine g_iconst (v := 0) h (by decide) dX9_has_27 ?_
    exact g_zret h hr (Or.inl rfl) dX9_has_28 hw
  · replace hw := hw.2 q7
    refine g_aload_n h rfl 0 rfl dX9_has_10 ?_
    refine g_iload_n h rfl 2 rfl dX9_has_11 ?_
    refine g_aload_n h rfl 1 rfl dX9_has_12 ?_
    refine g_callV [.int x2, .ref 1] h (c_X9_isWord X ph0 hw) sPi_v mw_X9_isWord lk_X9_24 ph0 rfl rfl ⟨by decide, by decide⟩ (Nat.le_of_ble_eq_true rfl) dX9_has_13 (sPi_k (fun r_13 I_13 J_13 hw => ?_))
    refine g_if_eq (tgt := 21) h (by decide) dX9_has_16 (fun q16 => ?_) (fun q16 => ?_)
    · replace hw := hw.1 q16
      obtain ⟨v2_21, ev2_21⟩ : ∃ z : Int32, z = x2 + 1 := ⟨_, rfl⟩
      replace hw := hw v2_21 ev2_21
      refine g_iinc (v := v2_21) (lo2 := [(2, .int v2_21), (0, .ref h0), (1, .ref 1)]) h 2 rfl (by rw [ev2_21]; rfl) (by decide) rfl dX9_has_21 ?_
      refine g_goto (tgt := 2) h (by decide) dX9_has_24 ?_
      exact g_sub [1, 2, 0] rfl (hk2 _ _ _ hw)
    · replace hw := hw.2 q16
      refine g_iconst (v := 1) h (by decide) dX9_has_19 ?_
      exact g_zret h hr (Or.inr rfl) dX9_has_20 hw
theorem t_X9_has_2 {X : sX} {h0 : Nat} (ph0 : sIs h0 9) {post : Int32 → sI → sJ → Prop} (h : sOK X cX9_has RX9 3 1 23) (hr : sRt X (some .boolean) (sPi post)) {x2 : Int32} {I : sI} {J : sJ} (hw : w_X9_has_2 h0 post x2 I J) : sG X 3 2 [(0, .ref h0), (1, .ref 1), (2, .int x2)] [] I J := by
  obtain ⟨n, hw⟩ := hw
  induction n generalizing x2 I J with
  | zero => exact hw.elim
  | succ n ih => exact t_X9_has_2_s ph0 h hr (fun _ _ _ q => ih q) hw
def w_X9_has (h0 : Nat) (I : sI) (J : sJ) (post : Int32 → sI → sJ → Prop) : Prop :=
  w_X9_has_2 h0 post 0 I J
set_option maxHeartbeats 4000000 in
set_option maxRecDepth 100000 in
theorem t_X9_has {X : sX} {h0 : Nat} (ph0 : sIs h0 9) {I : sI} {J : sJ} {post : Int32 → sI → sJ → Prop} (h : sOK X cX9_has RX9 3 1 23) (hr : sRt X (some .boolean) (sPi post)) (hw : w_X9_has h0 I J post) : sG X 3 0 [(0, .ref h0), (1, .ref 1)] [] I J := by
  unfold w_X9_has at hw
  refine g_iconst (v := 0) h (by decide) dX9_has_0 ?_
  refine g_istore_n (lo2 := [(2, .int 0), (0, .ref h0), (1, .ref 1)]) h rfl (by decide) rfl dX9_has_1 ?_
  exact g_sub [1, 2, 0] rfl (t_X9_has_2 ph0 h hr hw)
theorem c_X9_has (X : sX) {h0 : Nat} (ph0 : sIs h0 9) {I : sI} {J : sJ} {post : Int32 → sI → sJ → Prop} (hw : w_X9_has h0 I J post) : sCall X yX9_has cX9_has 3 (some .boolean) 1 23 [.ref h0, .ref 1] I J (sPi post) := sCall_of (by decide +kernel) (Nat.le_of_ble_eq_true rfl) (fun X h hr => t_X9_has ph0 h hr hw)
theorem dX9_add_0 : decode cX9_add 0 = .ok (.iconst 0, 1) := by decide +kernel
theorem dX9_add_1 : decode cX9_add 1 = .ok (.istore_n 2, 1) := by decide +kernel
theorem dX9_add_2 : decode cX9_add 2 = .ok (.iload_n 2, 1) := by decide +kernel
theorem dX9_add_3 : decode cX9_add 3 = .ok (.aload_n 1, 1) := by decide +kernel
theorem dX9_add_4 : decode cX9_add 4 = .ok (.getfield 28, 3) := by decide +kernel
theorem dX9_add_7 : decode cX9_add 7 = .ok (.if_icmp .ge 29, 3) := by decide +kernel
theorem dX9_add_10 : decode cX9_add 10 = .ok (.aload_n 0, 1) := by decide +kernel
theorem dX9_add_11 : decode cX9_add 11 = .ok (.getfield 11, 3) := by decide +kernel
theorem dX9_add_14 : decode cX9_add 14 = .ok (.aload_n 0, 1) := by decide +kernel
theorem dX9_add_15 : decode cX9_add 15 = .ok (.getfield 20, 3) := by decide +kernel
theorem dX9_add_18 : decode cX9_add 18 = .ok (.aaload, 1) := by decide +kernel
theorem dX9_add_19 : decode cX9_add 19 = .ok (.iload_n 2, 1) := by decide +kernel
theorem dX9_add_20 : decode cX9_add 20 = .ok (.aload_n 1, 1) := by decide +kernel
theorem dX9_add_21 : decode cX9_add 21 = .ok (.getfield 31, 3) := by decide +kernel
theorem dX9_add_24 : decode cX9_add 24 = .ok (.iload_n 2, 1) := by decide +kernel
theorem dX9_add_25 : decode cX9_add 25 = .ok (.iaload, 1) := by decide +kernel
theorem dX9_add_26 : decode cX9_add 26 = .ok (.bipush 65, 2) := by decide +kernel
theorem dX9_add_28 : decode cX9_add 28 = .ok (.isub, 1) := by decide +kernel
theorem dX9_add_29 : decode cX9_add 29 = .ok (.iastore, 1) := by decide +kernel
theorem dX9_add_30 : decode cX9_add 30 = .ok (.iinc 2 1, 3) := by decide +kernel
theorem dX9_add_33 : decode cX9_add 33 = .ok (.goto (-31), 3) := by decide +kernel
theorem dX9_add_36 : decode cX9_add 36 = .ok (.aload_n 0, 1) := by decide +kernel
theorem dX9_add_37 : decode cX9_add 37 = .ok (.getfield 16, 3) := by decide +kernel
theorem dX9_add_40 : decode cX9_add 40 = .ok (.aload_n 0, 1) := by decide +kernel
theorem dX9_add_41 : decode cX9_add 41 = .ok (.getfield 20, 3) := by decide +kernel
theorem dX9_add_44 : decode cX9_add 44 = .ok (.aload_n 1, 1) := by decide +kernel
theorem dX9_add_45 : decode cX9_add 45 = .ok (.getfield 28, 3) := by decide +kernel
theorem dX9_add_48 : decode cX9_add 48 = .ok (.iastore, 1) := by decide +kernel
theorem dX9_add_49 : decode cX9_add 49 = .ok (.aload_n 0, 1) := by decide +kernel
theorem dX9_add_50 : decode cX9_add 50 = .ok (.dup, 1) := by decide +kernel
theorem dX9_add_51 : decode cX9_add 51 = .ok (.getfield 20, 3) := by decide +kernel
theorem dX9_add_54 : decode cX9_add 54 = .ok (.iconst 1, 1) := by decide +kernel
theorem dX9_add_55 : decode cX9_add 55 = .ok (.iadd, 1) := by decide +kernel
theorem dX9_add_56 : decode cX9_add 56 = .ok (.putfield 20, 3) := by decide +kernel
theorem dX9_add_59 : decode cX9_add 59 = .ok (.aload_n 0, 1) := by decide +kernel
theorem dX9_add_60 : decode cX9_add 60 = .ok (.getfield 20, 3) := by decide +kernel
theorem dX9_add_63 : decode cX9_add 63 = .ok (.iconst 1, 1) := by decide +kernel
theorem dX9_add_64 : decode cX9_add 64 = .ok (.isub, 1) := by decide +kernel
theorem dX9_add_65 : decode cX9_add 65 = .ok (.ireturn, 1) := by decide +kernel
def w_X9_add_2_s (h0 : Nat) (post : Int32 → sI → sJ → Prop) (k2 : Int32 → sI → sJ → Prop) (x2 : Int32) (I : sI) (J : sJ) : Prop :=
  (((I 1 1) ≤ x2 → (vp_in (I h0 2) 20 ∧ (∀ I_48 : sI, I_48 = sUI I (sR h0 1) (Int32.toNatClampNeg (I h0 2)) (I 1 1) → (∀ I_56 : sI, I_56 = sUI I_48 h0 2 ((I_48 h0 2) + 1) → post ((I_56 h0 2) - 1) I_56 J)))) ∧ (¬ (I 1 1) ≤ x2 → (vp_in (I h0 2) 20 ∧ (vp_in x2 80 ∧ (vp_in x2 6 ∧ (∀ I_29 : sI, I_29 = sUI I (sR (sR h0 0) (Int32.toNatClampNeg (I h0 2))) (Int32.toNatClampNeg x2) ((I 2 (Int32.toNatClampNeg x2)) - 65) → (∀ v2_30 : Int32, v2_30 = x2 + 1 → k2 v2_30 I_29 J)))))))
def w_X9_add_2_n (h0 : Nat) (post : Int32 → sI → sJ → Prop) : Nat → Int32 → sI → sJ → Prop
  | 0 => fun _ _ _ => False
  | n + 1 => fun x2 I J => w_X9_add_2_s h0 post (w_X9_add_2_n h0 post n) x2 I J
def w_X9_add_2 (h0 : Nat) (post : Int32 → sI → sJ → Prop) (x2 : Int32) (I : sI) (J : sJ) : Prop := ∃ n, w_X9_add_2_n h0 post n x2 I J
set_option maxHeartbeats 4000000 in
set_option maxRecDepth 100000 in
theorem t_X9_add_2_s {X : sX} {h0 : Nat} (ph0 : sIs h0 9) {post : Int32 → sI → sJ → Prop} (h : sOK X cX9_add RX9 3 0 0) (hr : sRt X (some .int) (sPi post)) {k2 : Int32 → sI → sJ → Prop} (hk2 : ∀ (x2 : Int32) (I : sI) (J : sJ), k2 x2 I J → sG X 3 2 [(0, .ref h0), (1, .ref 1), (2, .int x2)] [] I J) {x2 : Int32} {I : sI} {J : sJ} (hw : w_X9_add_2_s h0 post k2 x2 I J) : sG X 3 2 [(0, .ref h0), (1, .ref 1), (2, .int x2)] [] I J := by
  unfold w_X9_add_2_s at hw
  refine g_iload_n h rfl 2 rfl dX9_add_2 ?_
  refine g_aload_n h rfl 1 rfl dX9_add_3 ?_
  refine g_get h is_1 fl_X9_28 rfl dX9_add_4 ?_
  refine g_icmp_ge (tgt := 36) h (by decide) dX9_add_7 (fun q7 => ?_) (fun q7 => ?_)
  · replace hw := hw.1 q7
    refine g_aload_n h rfl 0 rfl dX9_add_36 ?_
    refine g_get h ph0 fl_X9_16 rfl dX9_add_37 ?_
    refine g_aload_n h rfl 0 rfl dX9_add_40 ?_
    refine g_get h ph0 fl_X9_20 rfl dX9_add_41 ?_
    refine g_aload_n h rfl 1 rfl dX9_add_44 ?_
    refine g_get h is_1 fl_X9_28 rfl dX9_add_45 ?_
    obtain ⟨hi48, hw⟩ := hw
    refine g_iast h (arF_9_1 ph0) hi48 dX9_add_48 ?_
    refine g_nI (fun I_48 eI_48 => ?_)
    replace hw := hw I_48 eI_48
    refine g_aload_n h rfl 0 rfl dX9_add_49 ?_
    refine g_dup h rfl dX9_add_50 ?_
    refine g_get h ph0 fl_X9_20 rfl dX9_add_51 ?_
    refine g_iconst (v := 1) h (by decide) dX9_add_54 ?_
    refine g_iadd h dX9_add_55 ?_
    refine g_putI h ph0 fl_X9_20 rfl rfl dX9_add_56 ?_
    refine g_nI (fun I_56 eI_56 => ?_)
    replace hw := hw I_56 eI_56
    refine g_aload_n h rfl 0 rfl dX9_add_59 ?_
    refine g_get h ph0 fl_X9_20 rfl dX9_add_60 ?_
    refine g_iconst (v := 1) h (by decide) dX9_add_63 ?_
    refine g_isub h dX9_add_64 ?_
    exact g_iret h hr dX9_add_65 hw
  · replace hw := hw.2 q7
    refine g_aload_n h rfl 0 rfl dX9_add_10 ?_
    refine g_get h ph0 fl_X9_11 rfl dX9_add_11 ?_
    refine g_aload_n h rfl 0 rfl dX9_add_14 ?_
    refine g_get h ph0 fl_X9_20 rfl dX9_add_15 ?_
    obtain ⟨hi18, hw⟩ := hw
    refine g_aald (t := 2) h (arF_9_0 ph0) (by decide) hi18 dX9_add_18 ?_
    refine g_iload_n h rfl 2 rfl dX9_add_19 ?_
    refine g_aload_n h rfl 1 rfl dX9_add_20 ?_
    refine g_get h is_1 fl_X9_31 fr_1_0 dX9_add_21 ?_
    refine g_iload_n h rfl 2 rfl dX9_add_24 ?_
    obtain ⟨hi25, hw⟩ := hw
    refine g_iald h ar_2 hi25 dX9_add_25 ?_
    refine g_bipush (v := 65) h (by decide) dX9_add_26 ?_
    refine g_isub h dX9_add_28 ?_
    obtain ⟨hi29, hw⟩ := hw
    refine g_iast h (el_6_20 (arF_9_0 ph0) hi18) hi29 dX9_add_29 ?_
    refine g_nI (fun I_29 eI_29 => ?_)
    replace hw := hw I_29 eI_29
    obtain ⟨v2_30, ev2_30⟩ : ∃ z : Int32, z = x2 + 1 := ⟨_, rfl⟩
    replace hw := hw v2_30 ev2_30
    refine g_iinc (v := v2_30) (lo2 := [(2, .int v2_30), (0, .ref h0), (1, .ref 1)]) h 2 rfl (by rw [ev2_30]; rfl) (by decide) rfl dX9_add_30 ?_
    refine g_goto (tgt := 2) h (by decide) dX9_add_33 ?_
    exact g_sub [1, 2, 0] rfl (hk2 _ _ _ hw)
theorem t_X9_add_2 {X : sX} {h0 : Nat} (ph0 : sIs h0 9) {post : Int32 → sI → sJ → Prop} (h : sOK X cX9_add RX9 3 0 0) (hr : sRt X (some .int) (sPi post)) {x2 : Int32} {I : sI} {J : sJ} (hw : w_X9_add_2 h0 post x2 I J) : sG X 3 2 [(0, .ref h0), (1, .ref 1), (2, .int x2)] [] I J := by
  obtain ⟨n, hw⟩ := hw
  induction n generalizing x2 I J with
  | zero => exact hw.elim
  | succ n ih => exact t_X9_add_2_s ph0 h hr (fun _ _ _ q => ih q) hw
def w_X9_add (h0 : Nat) (I : sI) (J : sJ) (post : Int32 → sI → sJ → Prop) : Prop :=
  w_X9_add_2 h0 post 0 I J
set_option maxHeartbeats 4000000 in
set_option maxRecDepth 100000 in
theorem t_X9_add {X : sX} {h0 : Nat} (ph0 : sIs h0 9) {I : sI} {J : sJ} {post : Int32 → sI → sJ → Prop} (h : sOK X cX9_add RX9 3 0 0) (hr : sRt X (some .int) (sPi post)) (hw : w_X9_add h0 I J post) : sG X 3 0 [(0, .ref h0), (1, .ref 1)] [] I J := by
  unfold w_X9_add at hw
  refine g_iconst (v := 0) h (by decide) dX9_add_0 ?_
  refine g_istore_n (lo2 := [(2, .int 0), (0, .ref h0), (1, .ref 1)]) h rfl (by decide) rfl dX9_add_1 ?_
  exact g_sub [1, 2, 0] rfl (t_X9_add_2 ph0 h hr hw)
theorem c_X9_add (X : sX) {h0 : Nat} (ph0 : sIs h0 9) {I : sI} {J : sJ} {post : Int32 → sI → sJ → Prop} (hw : w_X9_add h0 I J post) : sCall X yX9_add cX9_add 3 (some .int) 0 0 [.ref h0, .ref 1] I J (sPi post) := sCall_of (by decide +kernel) (Nat.le_of_ble_eq_true rfl) (fun X h hr => t_X9_add ph0 h hr hw)
theorem dX10_open_0 : decode cX10_open 0 = .ok (.aload_n 0, 1) := by decide +kernel
theorem dX10_open_1 : decode cX10_open 1 = .ok (.iconst 0, 1) := by decide +kernel
theorem dX10_open_2 : decode cX10_open 2 = .ok (.putfield 32, 3) := by decide +kernel
theorem dX10_open_5 : decode cX10_open 5 = .ok (.aload_n 0, 1) := by decide +kernel
theorem dX10_open_6 : decode cX10_open 6 = .ok (.lconst 0, 1) := by decide +kernel
theorem dX10_open_7 : decode cX10_open 7 = .ok (.putfield 36, 3) := by decide +kernel
theorem dX10_open_10 : decode cX10_open 10 = .ok (.aload_n 0, 1) := by decide +kernel
theorem dX10_open_11 : decode cX10_open 11 = .ok (.bipush 7, 2) := by decide +kernel
theorem dX10_open_13 : decode cX10_open 13 = .ok (.iload_n 1, 1) := by decide +kernel
theorem dX10_open_14 : decode cX10_open 14 = .ok (.isub, 1) := by decide +kernel
theorem dX10_open_15 : decode cX10_open 15 = .ok (.ldc 40, 2) := by decide +kernel
theorem dX10_open_17 : decode cX10_open 17 = .ok (.imul, 1) := by decide +kernel
theorem dX10_open_18 : decode cX10_open 18 = .ok (.putfield 41, 3) := by decide +kernel
theorem dX10_open_21 : decode cX10_open 21 = .ok (.aload_n 0, 1) := by decide +kernel
theorem dX10_open_22 : decode cX10_open 22 = .ok (.iload_n 2, 1) := by decide +kernel
theorem dX10_open_23 : decode cX10_open 23 = .ok (.putfield 44, 3) := by decide +kernel
theorem dX10_open_26 : decode cX10_open 26 = .ok (.aload_n 0, 1) := by decide +kernel
theorem dX10_open_27 : decode cX10_open 27 = .ok (.iload_n 3, 1) := by decide +kernel
theorem dX10_open_28 : decode cX10_open 28 = .ok (.putfield 47, 3) := by decide +kernel
theorem dX10_open_31 : decode cX10_open 31 = .ok (.return_, 1) := by decide +kernel
def w_X10_open (a1 : Int32) (a2 : Int32) (a3 : Int32) (I : sI) (J : sJ) (post : sI → sJ → Prop) : Prop :=
  (∀ I_2 : sI, I_2 = sUI I 142 5 0 → (∀ J_7 : sJ, J_7 = sUJ J 142 6 0 → (∀ I_18 : sI, I_18 = sUI I_2 142 7 ((7 - a1) * 286331153) → (∀ I_23 : sI, I_23 = sUI I_18 142 8 a2 → (sZ a3 ∧ (∀ I_28 : sI, I_28 = sUI I_23 142 9 a3 → post I_28 J_7))))))
set_option maxHeartbeats 4000000 in
set_option maxRecDepth 100000 in
theorem t_X10_open {X : sX} {a1 : Int32} {a2 : Int32} {a3 : Int32} {I : sI} {J : sJ} {post : sI → sJ → Prop} (h : sOK X cX10_open RX10 4 0 0) (hr : sRt X none (sPv post)) (hw : w_X10_open a1 a2 a3 I J post) : sG X 4 0 [(0, .ref 142), (1, .int a1), (2, .int a2), (3, .int a3)] [] I J := by
  unfold w_X10_open at hw
  refine g_aload_n h rfl 0 rfl dX10_open_0 ?_
  refine g_iconst (v := 0) h (by decide) dX10_open_1 ?_
  refine g_putI h is_142 fl_X10_32 rfl rfl dX10_open_2 ?_
  refine g_nI (fun I_2 eI_2 => ?_)
  replace hw := hw I_2 eI_2
  refine g_aload_n h rfl 0 rfl dX10_open_5 ?_
  refine g_lconst (v := 0) h (by decide) dX10_open_6 ?_
  refine g_putJ h is_142 fl_X10_36 rfl rfl dX10_open_7 ?_
  refine g_nJ (fun J_7 eJ_7 => ?_)
  replace hw := hw J_7 eJ_7
  refine g_aload_n h rfl 0 rfl dX10_open_10 ?_
  refine g_bipush (v := 7) h (by decide) dX10_open_11 ?_
  refine g_iload_n h rfl 1 rfl dX10_open_13 ?_
  refine g_isub h dX10_open_14 ?_
  refine g_ldc h lc_X10_40 dX10_open_15 ?_
  refine g_imul h dX10_open_17 ?_
  refine g_putI h is_142 fl_X10_41 rfl rfl dX10_open_18 ?_
  refine g_nI (fun I_18 eI_18 => ?_)
  replace hw := hw I_18 eI_18
  refine g_aload_n h rfl 0 rfl dX10_open_21 ?_
  refine g_iload_n h rfl 2 rfl dX10_open_22 ?_
  refine g_putI h is_142 fl_X10_44 rfl rfl dX10_open_23 ?_
  refine g_nI (fun I_23 eI_23 => ?_)
  replace hw := hw I_23 eI_23
  refine g_aload_n h rfl 0 rfl dX10_open_26 ?_
  refine g_iload_n h rfl 3 rfl dX10_open_27 ?_
  obtain ⟨hz28, hw⟩ := hw
  refine g_putZ h is_142 fl_X10_47 rfl rfl hz28 dX10_open_28 ?_
  refine g_nI (fun I_28 eI_28 => ?_)
  replace hw := hw I_28 eI_28
  exact g_vret h hr dX10_open_31 hw
theorem c_X10_open (X : sX) {a1 : Int32} {a2 : Int32} {a3 : Int32} {I : sI} {J : sJ} {post : sI → sJ → Prop} (hw : w_X10_open a1 a2 a3 I J post) : sCall X yX10_open cX10_open 4 none 0 0 [.ref 142, .int a1, .int a2, .int a3] I J (sPv post) := sCall_of (by decide +kernel) (Nat.le_of_ble_eq_true rfl) (fun X h hr => t_X10_open h hr hw)
theorem dX10_maskOf_0 : decode cX10_maskOf 0 = .ok (.lconst 0, 1) := by decide +kernel
theorem dX10_maskOf_1 : decode cX10_maskOf 1 = .ok (.lstore_n 2, 1) := by decide +kernel
theorem dX10_maskOf_2 : decode cX10_maskOf 2 = .ok (.aload_n 0, 1) := by decide +kernel
theorem dX10_maskOf_3 : decode cX10_maskOf 3 = .ok (.getfield 73, 3) := by decide +kernel
theorem dX10_maskOf_6 : decode cX10_maskOf 6 = .ok (.iload_n 1, 1) := by decide +kernel
theorem dX10_maskOf_7 : decode cX10_maskOf 7 = .ok (.iaload, 1) := by decide +kernel
theorem dX10_maskOf_8 : decode cX10_maskOf 8 = .ok (.istore 4, 2) := by decide +kernel
theorem dX10_maskOf_10 : decode cX10_maskOf 10 = .ok (.iload 4, 2) := by decide +kernel
theorem dX10_maskOf_12 : decode cX10_maskOf 12 = .ok (.aload_n 0, 1) := by decide +kernel
theorem dX10_maskOf_13 : decode cX10_maskOf 13 = .ok (.getfield 73, 3) := by decide +kernel
theorem dX10_maskOf_16 : decode cX10_maskOf 16 = .ok (.iload_n 1, 1) := by decide +kernel
theorem dX10_maskOf_17 : decode cX10_maskOf 17 = .ok (.iconst 1, 1) := by decide +kernel
theorem dX10_maskOf_18 : decode cX10_maskOf 18 = .ok (.iadd, 1) := by decide +kernel
theorem dX10_maskOf_19 : decode cX10_maskOf 19 = .ok (.iaload, 1) := by decide +kernel
theorem dX10_maskOf_20 : decode cX10_maskOf 20 = .ok (.if_icmp .ge 42, 3) := by decide +kernel
theorem dX10_maskOf_23 : decode cX10_maskOf 23 = .ok (.lload_n 2, 1) := by decide +kernel
theorem dX10_maskOf_24 : decode cX10_maskOf 24 = .ok (.aload_n 0, 1) := by decide +kernel
theorem dX10_maskOf_25 : decode cX10_maskOf 25 = .ok (.getfield 76, 3) := by decide +kernel
theorem dX10_maskOf_28 : decode cX10_maskOf 28 = .ok (.iload 4, 2) := by decide +kernel
theorem dX10_maskOf_30 : decode cX10_maskOf 30 = .ok (.iaload, 1) := by decide +kernel
theorem dX10_maskOf_31 : decode cX10_maskOf 31 = .ok (.bipush 12, 2) := by decide +kernel
theorem dX10_maskOf_33 : decode cX10_maskOf 33 = .ok (.if_icmp .ne 7, 3) := by decide +kernel
theorem dX10_maskOf_36 : decode cX10_maskOf 36 = .ok (.lconst 0, 1) := by decide +kernel
theorem dX10_maskOf_37 : decode cX10_maskOf 37 = .ok (.goto 17, 3) := by decide +kernel
theorem dX10_maskOf_40 : decode cX10_maskOf 40 = .ok (.ldc2_w 79, 3) := by decide +kernel
theorem dX10_maskOf_43 : decode cX10_maskOf 43 = .ok (.aload_n 0, 1) := by decide +kernel
theorem dX10_maskOf_44 : decode cX10_maskOf 44 = .ok (.getfield 76, 3) := by decide +kernel
theorem dX10_maskOf_47 : decode cX10_maskOf 47 = .ok (.iload 4, 2) := by decide +kernel
theorem dX10_maskOf_49 : decode cX10_maskOf 49 = .ok (.iaload, 1) := by decide +kernel
theorem dX10_maskOf_50 : decode cX10_maskOf 50 = .ok (.invokestatic 81, 3) := by decide +kernel
theorem dX10_maskOf_53 : decode cX10_maskOf 53 = .ok (.lshl, 1) := by decide +kernel
theorem dX10_maskOf_54 : decode cX10_maskOf 54 = .ok (.lor, 1) := by decide +kernel
theorem dX10_maskOf_55 : decode cX10_maskOf 55 = .ok (.lstore_n 2, 1) := by decide +kernel
theorem dX10_maskOf_56 : decode cX10_maskOf 56 = .ok (.iinc 4 1, 3) := by decide +kernel
theorem dX10_maskOf_59 : decode cX10_maskOf 59 = .ok (.goto (-49), 3) := by decide +kernel
theorem dX10_maskOf_62 : decode cX10_maskOf 62 = .ok (.lload_n 2, 1) := by decide +kernel
theorem dX10_maskOf_63 : decode cX10_maskOf 63 = .ok (.lreturn, 1) := by decide +kernel
def w_X10_maskOf_54 (h0 : Nat) (post : Int64 → sI → sJ → Prop) (k10 : Int32 → Int64 → Int32 → sI → sJ → Prop) (x1 : Int32) (x4 : Int32) (s0 : Int64) (s1 : Int64) (I : sI) (J : sJ) : Prop :=
  (∀ v2_55 : Int64, v2_55 = s1 ||| s0 → (∀ v4_56 : Int32, v4_56 = x4 + 1 → k10 x1 v2_55 v4_56 I J))
set_option maxHeartbeats 4000000 in
set_option maxRecDepth 100000 in
theorem t_X10_maskOf_54 {X : sX} {h0 : Nat} (ph0 : sIs h0 2) {post : Int64 → sI → sJ → Prop} (h : sOK X cX10_maskOf RX10 5 1 20) (hr : sRt X (some .long) (sPl post)) {k10 : Int32 → Int64 → Int32 → sI → sJ → Prop} (hk10 : ∀ (x1 : Int32) (x2 : Int64) (x4 : Int32) (I : sI) (J : sJ), k10 x1 x2 x4 I J → sG X 5 10 [(0, .ref h0), (1, .int x1), (2, .long x2), (4, .int x4)] [] I J) {x1 : Int32} {x4 : Int32} {s0 : Int64} {s1 : Int64} {I : sI} {J : sJ} (hw : w_X10_maskOf_54 h0 post k10 x1 x4 s0 s1 I J) : sG X 5 54 [(0, .ref h0), (1, .int x1), (4, .int x4)] [.long s0, .long s1] I J := by
  unfold w_X10_maskOf_54 at hw
  refine g_lor h dX10_maskOf_54 ?_
  refine g_nl (fun v2_55 ev2_55 => ?_)
  replace hw := hw v2_55 ev2_55
  refine g_lstore_n (lo2 := [(2, .long v2_55), (0, .ref h0), (1, .int x1), (4, .int x4)]) h rfl (by decide) rfl dX10_maskOf_55 ?_
  obtain ⟨v4_56, ev4_56⟩ : ∃ z : Int32, z = x4 + 1 := ⟨_, rfl⟩
  replace hw := hw v4_56 ev4_56
  refine g_iinc (v := v4_56) (lo2 := [(4, .int v4_56), (2, .long v2_55), (0, .ref h0), (1, .int x1)]) h 3 rfl (by rw [ev4_56]; rfl) (by decide) rfl dX10_maskOf_56 ?_
  refine g_goto (tgt := 10) h (by decide) dX10_maskOf_59 ?_
  exact g_sub [2, 3, 1, 0] rfl (hk10 _ _ _ _ _ hw)
def w_X10_maskOf_10_s (h0 : Nat) (post : Int64 → sI → sJ → Prop) (k10 : Int32 → Int64 → Int32 → sI → sJ → Prop) (x1 : Int32) (x2 : Int64) (x4 : Int32) (I : sI) (J : sJ) : Prop :=
  (vp_in (x1 + 1) 13 ∧ (((I (sR h0 2) (Int32.toNatClampNeg (x1 + 1))) ≤ x4 → post x2 I J) ∧ (¬ (I (sR h0 2) (Int32.toNatClampNeg (x1 + 1))) ≤ x4 → (vp_in x4 60 ∧ ((¬ (I (sR h0 0) (Int32.toNatClampNeg x4)) = 12 → (vp_in x4 60 ∧ w_X11_shiftOf (I (sR h0 0) (Int32.toNatClampNeg x4)) I J (fun (r_50 : Int32) (I_50 : sI) (J_50 : sJ) => (w_X10_maskOf_54 h0 post k10 x1 x4 (15 <<< (Int32.toInt64 r_50 &&& 63)) x2 I_50 J_50)))) ∧ ((I (sR h0 0) (Int32.toNatClampNeg x4)) = 12 → w_X10_maskOf_54 h0 post k10 x1 x4 0 x2 I J))))))
def w_X10_maskOf_10_n (h0 : Nat) (post : Int64 → sI → sJ → Prop) : Nat → Int32 → Int64 → Int32 → sI → sJ → Prop
  | 0 => fun _ _ _ _ _ => False
  | n + 1 => fun x1 x2 x4 I J => w_X10_maskOf_10_s h0 post (w_X10_maskOf_10_n h0 post n) x1 x2 x4 I J
def w_X10_maskOf_10 (h0 : Nat) (post : Int64 → sI → sJ → Prop) (x1 : Int32) (x2 : Int64) (x4 : Int32) (I : sI) (J : sJ) : Prop := ∃ n, w_X10_maskOf_10_n h0 post n x1 x2 x4 I J
set_option maxHeartbeats 4000000 in
set_option maxRecDepth 100000 in
theorem t_X10_maskOf_10_s {X : sX} {h0 : Nat} (ph0 : sIs h0 2) {post : Int64 → sI → sJ → Prop} (h : sOK X cX10_maskOf RX10 5 1 20) (hr : sRt X (some .long) (sPl post)) {k10 : Int32 → Int64 → Int32 → sI → sJ → Prop} (hk10 : ∀ (x1 : Int32) (x2 : Int64) (x4 : Int32) (I : sI) (J : sJ), k10 x1 x2 x4 I J → sG X 5 10 [(0, .ref h0), (1, .int x1), (2, .long x2), (4, .int x4)] [] I J) {x1 : Int32} {x2 : Int64} {x4 : Int32} {I : sI} {J : sJ} (hw : w_X10_maskOf_10_s h0 post k10 x1 x2 x4 I J) : sG X 5 10 [(0, .ref h0), (1, .int x1), (2, .long x2), (4, .int x4)] [] I J := by
  unfold w_X10_maskOf_10_s at hw
  refine g_iload h 3 rfl dX10_maskOf_10 ?_
  refine g_aload_n h rfl 0 rfl dX10_maskOf_12 ?_
  refine g_get h ph0 fl_X10_73 rfl dX10_maskOf_13 ?_
  refine g_iload_n h rfl 1 rfl dX10_maskOf_16 ?_
  refine g_iconst (v := 1) h (by decide) dX10_maskOf_17 ?_
  refine g_iadd h dX10_maskOf_18 ?_
  obtain ⟨hi19, hw⟩ := hw
  refine g_iald h (arF_2_2 ph0) hi19 dX10_maskOf_19 ?_
  refine g_icmp_ge (tgt := 62) h (by decide) dX10_maskOf_20 (fun q20 => ?_) (fun q20 => ?_)
  · replace hw := hw.1 q20
    refine g_lload_n h rfl 2 rfl dX10_maskOf_62 ?_
    exact g_lret h hr dX10_maskOf_63 hw
  · replace hw := hw.2 q20
    refine g_lload_n h rfl 2 rfl dX10_maskOf_23 ?_
    refine g_aload_n h rfl 0 rfl dX10_maskOf_24 ?_
    refine g_get h ph0 fl_X10_76 rfl dX10_maskOf_25 ?_
    refine g_iload h 3 rfl dX10_maskOf_28 ?_
    obtain ⟨hi30, hw⟩ := hw
    refine g_iald h (arF_2_0 ph0) hi30 dX10_maskOf_30 ?_
    refine g_bipush (v := 12) h (by decide) dX10_maskOf_31 ?_
    refine g_icmp_ne (tgt := 40) h (by decide) dX10_maskOf_33 (fun q33 => ?_) (fun q33 => ?_)
    · replace hw := hw.1 q33
      refine g_ldc2 h lc_X10_79 dX10_maskOf_40 ?_
      refine g_aload_n h rfl 0 rfl dX10_maskOf_43 ?_
      refine g_get h ph0 fl_X10_76 rfl dX10_maskOf_44 ?_
      refine g_iload h 3 rfl dX10_maskOf_47 ?_
      obtain ⟨hi49, hw⟩ := hw
      refine g_iald h (arF_2_0 ph0) hi49 dX10_maskOf_49 ?_
      refine g_callN RX11 [.int (I (sR h0 0) (Int32.toNatClampNeg x4))] h (c_X11_shiftOf X hw) sPi_v mw_X11_shiftOf (fun _ z => z.1) rfl ⟨by decide, by decide⟩ (Nat.le_of_ble_eq_true rfl) dX10_maskOf_50 (sPi_k (fun r_50 I_50 J_50 hw => ?_))
      refine g_lshl h dX10_maskOf_53 ?_
      exact g_sub [0, 1, 3] rfl (t_X10_maskOf_54 ph0 h hr hk10 hw)
    · replace hw := hw.2 q33
      refine g_lconst (v := 0) h (by decide) dX10_maskOf_36 ?_
      refine g_goto (tgt := 54) h (by decide) dX10_maskOf_37 ?_
      exact g_sub [0, 1, 3] rfl (t_X10_maskOf_54 ph0 h hr hk10 hw)
theorem t_X10_maskOf_10 {X : sX} {h0 : Nat} (ph0 : sIs h0 2) {post : Int64 → sI → sJ → Prop} (h : sOK X cX10_maskOf RX10 5 1 20) (hr : sRt X (some .long) (sPl post)) {x1 : Int32} {x2 : Int64} {x4 : Int32} {I : sI} {J : sJ} (hw : w_X10_maskOf_10 h0 post x1 x2 x4 I J) : sG X 5 10 [(0, .ref h0), (1, .int x1), (2, .long x2), (4, .int x4)] [] I J := by
  obtain ⟨n, hw⟩ := hw
  induction n generalizing x1 x2 x4 I J with
  | zero => exact hw.elim
  | succ n ih => exact t_X10_maskOf_10_s ph0 h hr (fun _ _ _ _ _ q => ih q) hw
def w_X10_maskOf (h0 : Nat) (a1 : Int32) (I : sI) (J : sJ) (post : Int64 → sI → sJ → Prop) : Prop :=
  (vp_in a1 13 ∧ (∀ v4_8 : Int32, v4_8 = I (sR h0 2) (Int32.toNatClampNeg a1) → w_X10_maskOf_10 h0 post a1 0 v4_8 I J))
set_option maxHeartbeats 4000000 in
set_option maxRecDepth 100000 in
theorem t_X10_maskOf {X : sX} {h0 : Nat} {a1 : Int32} (ph0 : sIs h0 2) {I : sI} {J : sJ} {post : Int64 → sI → sJ → Prop} (h : sOK X cX10_maskOf RX10 5 1 20) (hr : sRt X (some .long) (sPl post)) (hw : w_X10_maskOf h0 a1 I J post) : sG X 5 0 [(0, .ref h0), (1, .int a1)] [] I J := by
  unfold w_X10_maskOf at hw
  refine g_lconst (v := 0) h (by decide) dX10_maskOf_0 ?_
  refine g_lstore_n (lo2 := [(2, .long 0), (0, .ref h0), (1, .int a1)]) h rfl (by decide) rfl dX10_maskOf_1 ?_
  refine g_aload_n h rfl 1 rfl dX10_maskOf_2 ?_
  refine g_get h ph0 fl_X10_73 rfl dX10_maskOf_3 ?_
  refine g_iload_n h rfl 2 rfl dX10_maskOf_6 ?_
  obtain ⟨hi7, hw⟩ := hw
  refine g_iald h (arF_2_2 ph0) hi7 dX10_maskOf_7 ?_
  refine g_ni (fun v4_8 ev4_8 => ?_)
  replace hw := hw v4_8 ev4_8
  refine g_istore (lo2 := [(4, .int v4_8), (2, .long 0), (0, .ref h0), (1, .int a1)]) h (by decide) rfl dX10_maskOf_8 ?_
  exact g_sub [2, 3, 1, 0] rfl (t_X10_maskOf_10 ph0 h hr hw)
theorem c_X10_maskOf (X : sX) {h0 : Nat} {a1 : Int32} (ph0 : sIs h0 2) {I : sI} {J : sJ} {post : Int64 → sI → sJ → Prop} (hw : w_X10_maskOf h0 a1 I J post) : sCall X yX10_maskOf cX10_maskOf 5 (some .long) 1 20 [.ref h0, .int a1] I J (sPl post) := sCall_of (by decide +kernel) (Nat.le_of_ble_eq_true rfl) (fun X h hr => t_X10_maskOf ph0 h hr hw)
theorem dX10_spelt_0 : decode cX10_spelt 0 = .ok (.aload_n 1, 1) := by decide +kernel
theorem dX10_spelt_1 : decode cX10_spelt 1 = .ok (.iload_n 2, 1) := by decide +kernel
theorem dX10_spelt_2 : decode cX10_spelt 2 = .ok (.invokevirtual 85, 3) := by decide +kernel
theorem dX10_spelt_5 : decode cX10_spelt 5 = .ok (.istore 5, 2) := by decide +kernel
theorem dX10_spelt_7 : decode cX10_spelt 7 = .ok (.aload_n 3, 1) := by decide +kernel
theorem dX10_spelt_8 : decode cX10_spelt 8 = .ok (.getfield 88, 3) := by decide +kernel
theorem dX10_spelt_11 : decode cX10_spelt 11 = .ok (.iload 4, 2) := by decide +kernel
theorem dX10_spelt_13 : decode cX10_spelt 13 = .ok (.iaload, 1) := by decide +kernel
theorem dX10_spelt_14 : decode cX10_spelt 14 = .ok (.iload 5, 2) := by decide +kernel
theorem dX10_spelt_16 : decode cX10_spelt 16 = .ok (.if_icmp .lt 20, 3) := by decide +kernel
theorem dX10_spelt_19 : decode cX10_spelt 19 = .ok (.aload_n 3, 1) := by decide +kernel
theorem dX10_spelt_20 : decode cX10_spelt 20 = .ok (.getfield 88, 3) := by decide +kernel
theorem dX10_spelt_23 : decode cX10_spelt 23 = .ok (.iload 4, 2) := by decide +kernel
theorem dX10_spelt_25 : decode cX10_spelt 25 = .ok (.iaload, 1) := by decide +kernel
theorem dX10_spelt_26 : decode cX10_spelt 26 = .ok (.iload 5, 2) := by decide +kernel
theorem dX10_spelt_28 : decode cX10_spelt 28 = .ok (.aload_n 0, 1) := by decide +kernel
theorem dX10_spelt_29 : decode cX10_spelt 29 = .ok (.getfield 44, 3) := by decide +kernel
theorem dX10_spelt_32 : decode cX10_spelt 32 = .ok (.iadd, 1) := by decide +kernel
theorem dX10_spelt_33 : decode cX10_spelt 33 = .ok (.if_icmp .le 7, 3) := by decide +kernel
theorem dX10_spelt_36 : decode cX10_spelt 36 = .ok (.ldc2_w 67, 3) := by decide +kernel
theorem dX10_spelt_39 : decode cX10_spelt 39 = .ok (.lreturn, 1) := by decide +kernel
theorem dX10_spelt_40 : decode cX10_spelt 40 = .ok (.lconst 0, 1) := by decide +kernel
theorem dX10_spelt_41 : decode cX10_spelt 41 = .ok (.lstore 6, 2) := by decide +kernel
theorem dX10_spelt_43 : decode cX10_spelt 43 = .ok (.iconst 0, 1) := by decide +kernel
theorem dX10_spelt_44 : decode cX10_spelt 44 = .ok (.istore 8, 2) := by decide +kernel
theorem dX10_spelt_46 : decode cX10_spelt 46 = .ok (.iload 8, 2) := by decide +kernel
theorem dX10_spelt_48 : decode cX10_spelt 48 = .ok (.iload 5, 2) := by decide +kernel
theorem dX10_spelt_50 : decode cX10_spelt 50 = .ok (.if_icmp .ge 112, 3) := by decide +kernel
theorem dX10_spelt_53 : decode cX10_spelt 53 = .ok (.aload_n 1, 1) := by decide +kernel
theorem dX10_spelt_54 : decode cX10_spelt 54 = .ok (.getfield 76, 3) := by decide +kernel
theorem dX10_spelt_57 : decode cX10_spelt 57 = .ok (.aload_n 0, 1) := by decide +kernel
theorem dX10_spelt_58 : decode cX10_spelt 58 = .ok (.getfield 47, 3) := by decide +kernel
theorem dX10_spelt_61 : decode cX10_spelt 61 = .ok (.ifCond .eq 19, 3) := by decide +kernel
theorem dX10_spelt_64 : decode cX10_spelt 64 = .ok (.aload_n 1, 1) := by decide +kernel
theorem dX10_spelt_65 : decode cX10_spelt 65 = .ok (.getfield 73, 3) := by decide +kernel
theorem dX10_spelt_68 : decode cX10_spelt 68 = .ok (.iload_n 2, 1) := by decide +kernel
theorem dX10_spelt_69 : decode cX10_spelt 69 = .ok (.iconst 1, 1) := by decide +kernel
theorem dX10_spelt_70 : decode cX10_spelt 70 = .ok (.iadd, 1) := by decide +kernel
theorem dX10_spelt_71 : decode cX10_spelt 71 = .ok (.iaload, 1) := by decide +kernel
theorem dX10_spelt_72 : decode cX10_spelt 72 = .ok (.iconst 1, 1) := by decide +kernel
theorem dX10_spelt_73 : decode cX10_spelt 73 = .ok (.isub, 1) := by decide +kernel
theorem dX10_spelt_74 : decode cX10_spelt 74 = .ok (.iload 8, 2) := by decide +kernel
theorem dX10_spelt_76 : decode cX10_spelt 76 = .ok (.isub, 1) := by decide +kernel
theorem dX10_spelt_77 : decode cX10_spelt 77 = .ok (.goto 12, 3) := by decide +kernel
theorem dX10_spelt_80 : decode cX10_spelt 80 = .ok (.aload_n 1, 1) := by decide +kernel
theorem dX10_spelt_81 : decode cX10_spelt 81 = .ok (.getfield 73, 3) := by decide +kernel
theorem dX10_spelt_84 : decode cX10_spelt 84 = .ok (.iload_n 2, 1) := by decide +kernel
theorem dX10_spelt_85 : decode cX10_spelt 85 = .ok (.iaload, 1) := by decide +kernel
theorem dX10_spelt_86 : decode cX10_spelt 86 = .ok (.iload 8, 2) := by decide +kernel
theorem dX10_spelt_88 : decode cX10_spelt 88 = .ok (.iadd, 1) := by decide +kernel
theorem dX10_spelt_89 : decode cX10_spelt 89 = .ok (.iaload, 1) := by decide +kernel
theorem dX10_spelt_90 : decode cX10_spelt 90 = .ok (.istore 9, 2) := by decide +kernel
theorem dX10_spelt_92 : decode cX10_spelt 92 = .ok (.iload 9, 2) := by decide +kernel
theorem dX10_spelt_94 : decode cX10_spelt 94 = .ok (.bipush 12, 2) := by decide +kernel
theorem dX10_spelt_96 : decode cX10_spelt 96 = .ok (.if_icmp .ne 6, 3) := by decide +kernel
theorem dX10_spelt_99 : decode cX10_spelt 99 = .ok (.goto 57, 3) := by decide +kernel
theorem dX10_spelt_102 : decode cX10_spelt 102 = .ok (.aload_n 3, 1) := by decide +kernel
theorem dX10_spelt_103 : decode cX10_spelt 103 = .ok (.getfield 91, 3) := by decide +kernel
theorem dX10_spelt_106 : decode cX10_spelt 106 = .ok (.iload 4, 2) := by decide +kernel
theorem dX10_spelt_108 : decode cX10_spelt 108 = .ok (.aaload, 1) := by decide +kernel
theorem dX10_spelt_109 : decode cX10_spelt 109 = .ok (.iload 8, 2) := by decide +kernel
theorem dX10_spelt_111 : decode cX10_spelt 111 = .ok (.iaload, 1) := by decide +kernel
theorem dX10_spelt_112 : decode cX10_spelt 112 = .ok (.istore 10, 2) := by decide +kernel
theorem dX10_spelt_114 : decode cX10_spelt 114 = .ok (.lload 6, 2) := by decide +kernel
theorem dX10_spelt_116 : decode cX10_spelt 116 = .ok (.iload 9, 2) := by decide +kernel
theorem dX10_spelt_118 : decode cX10_spelt 118 = .ok (.invokestatic 94, 3) := by decide +kernel
theorem dX10_spelt_121 : decode cX10_spelt 121 = .ok (.istore 11, 2) := by decide +kernel
theorem dX10_spelt_123 : decode cX10_spelt 123 = .ok (.iload 11, 2) := by decide +kernel
theorem dX10_spelt_125 : decode cX10_spelt 125 = .ok (.iconst (-1), 1) := by decide +kernel
theorem dX10_spelt_126 : decode cX10_spelt 126 = .ok (.if_icmp .eq 14, 3) := by decide +kernel
theorem dX10_spelt_129 : decode cX10_spelt 129 = .ok (.iload 11, 2) := by decide +kernel
theorem dX10_spelt_131 : decode cX10_spelt 131 = .ok (.iload 10, 2) := by decide +kernel
theorem dX10_spelt_133 : decode cX10_spelt 133 = .ok (.if_icmp .eq 7, 3) := by decide +kernel
theorem dX10_spelt_136 : decode cX10_spelt 136 = .ok (.ldc2_w 67, 3) := by decide +kernel
theorem dX10_spelt_139 : decode cX10_spelt 139 = .ok (.lreturn, 1) := by decide +kernel
theorem dX10_spelt_140 : decode cX10_spelt 140 = .ok (.lload 6, 2) := by decide +kernel
theorem dX10_spelt_142 : decode cX10_spelt 142 = .ok (.iload 10, 2) := by decide +kernel
theorem dX10_spelt_144 : decode cX10_spelt 144 = .ok (.iconst 1, 1) := by decide +kernel
theorem dX10_spelt_145 : decode cX10_spelt 145 = .ok (.iadd, 1) := by decide +kernel
theorem dX10_spelt_146 : decode cX10_spelt 146 = .ok (.i2l, 1) := by decide +kernel
theorem dX10_spelt_147 : decode cX10_spelt 147 = .ok (.iload 9, 2) := by decide +kernel
theorem dX10_spelt_149 : decode cX10_spelt 149 = .ok (.invokestatic 81, 3) := by decide +kernel
theorem dX10_spelt_152 : decode cX10_spelt 152 = .ok (.lshl, 1) := by decide +kernel
theorem dX10_spelt_153 : decode cX10_spelt 153 = .ok (.lor, 1) := by decide +kernel
theorem dX10_spelt_154 : decode cX10_spelt 154 = .ok (.lstore 6, 2) := by decide +kernel
theorem dX10_spelt_156 : decode cX10_spelt 156 = .ok (.iinc 8 1, 3) := by decide +kernel
theorem dX10_spelt_159 : decode cX10_spelt 159 = .ok (.goto (-113), 3) := by decide +kernel
theorem dX10_spelt_162 : decode cX10_spelt 162 = .ok (.lload 6, 2) := by decide +kernel
theorem dX10_spelt_164 : decode cX10_spelt 164 = .ok (.lreturn, 1) := by decide +kernel
def w_X10_spelt_36 (h1 : Nat) (h3 : Nat) (post : Int64 → sI → sJ → Prop) (I : sI) (J : sJ) : Prop :=
  post (-1) I J
set_option maxHeartbeats 4000000 in
set_option maxRecDepth 100000 in
theorem t_X10_spelt_36 {X : sX} {h1 : Nat} {h3 : Nat} (ph1 : sIs h1 2) (ph3 : sIs h3 9) {post : Int64 → sI → sJ → Prop} (h : sOK X cX10_spelt RX10 12 2 42) (hr : sRt X (some .long) (sPl post)) {I : sI} {J : sJ} (hw : w_X10_spelt_36 h1 h3 post I J) : sG X 12 36 [] [] I J := by
  unfold w_X10_spelt_36 at hw
  refine g_ldc2 h lc_X10_67 dX10_spelt_36 ?_
  exact g_lret h hr dX10_spelt_39 hw
def w_X10_spelt_156 (h1 : Nat) (h3 : Nat) (post : Int64 → sI → sJ → Prop) (k46 : Int32 → Int32 → Int32 → Int64 → Int32 → sI → sJ → Prop) (x2 : Int32) (x4 : Int32) (x5 : Int32) (x6 : Int64) (x8 : Int32) (I : sI) (J : sJ) : Prop :=
  (∀ v8_156 : Int32, v8_156 = x8 + 1 → k46 x2 x4 x5 x6 v8_156 I J)
set_option maxHeartbeats 4000000 in
set_option maxRecDepth 100000 in
theorem t_X10_spelt_156 {X : sX} {h1 : Nat} {h3 : Nat} (ph1 : sIs h1 2) (ph3 : sIs h3 9) {post : Int64 → sI → sJ → Prop} (h : sOK X cX10_spelt RX10 12 2 42) (hr : sRt X (some .long) (sPl post)) {k46 : Int32 → Int32 → Int32 → Int64 → Int32 → sI → sJ → Prop} (hk46 : ∀ (x2 : Int32) (x4 : Int32) (x5 : Int32) (x6 : Int64) (x8 : Int32) (I : sI) (J : sJ), k46 x2 x4 x5 x6 x8 I J → sG X 12 46 [(0, .ref 142), (1, .ref h1), (2, .int x2), (3, .ref h3), (4, .int x4), (5, .int x5), (6, .long x6), (8, .int x8)] [] I J) {x2 : Int32} {x4 : Int32} {x5 : Int32} {x6 : Int64} {x8 : Int32} {I : sI} {J : sJ} (hw : w_X10_spelt_156 h1 h3 post k46 x2 x4 x5 x6 x8 I J) : sG X 12 156 [(0, .ref 142), (1, .ref h1), (2, .int x2), (3, .ref h3), (4, .int x4), (5, .int x5), (6, .long x6), (8, .int x8)] [] I J := by
  unfold w_X10_spelt_156 at hw
  obtain ⟨v8_156, ev8_156⟩ : ∃ z : Int32, z = x8 + 1 := ⟨_, rfl⟩
  replace hw := hw v8_156 ev8_156
  refine g_iinc (v := v8_156) (lo2 := [(8, .int v8_156), (0, .ref 142), (1, .ref h1), (2, .int x2), (3, .ref h3), (4, .int x4), (5, .int x5), (6, .long x6)]) h 7 rfl (by rw [ev8_156]; rfl) (by decide) rfl dX10_spelt_156 ?_
  refine g_goto (tgt := 46) h (by decide) dX10_spelt_159 ?_
  exact g_sub [1, 2, 3, 4, 5, 6, 7, 0] rfl (hk46 _ _ _ _ _ _ _ hw)
def w_X10_spelt_140 (h1 : Nat) (h3 : Nat) (post : Int64 → sI → sJ → Prop) (k46 : Int32 → Int32 → Int32 → Int64 → Int32 → sI → sJ → Prop) (x2 : Int32) (x4 : Int32) (x5 : Int32) (x6 : Int64) (x8 : Int32) (x9 : Int32) (x10 : Int32) (I : sI) (J : sJ) : Prop :=
  w_X11_shiftOf x9 I J (fun (r_149 : Int32) (I_149 : sI) (J_149 : sJ) => ((∀ v6_154 : Int64, v6_154 = x6 ||| ((Int32.toInt64 (x10 + 1)) <<< (Int32.toInt64 r_149 &&& 63)) → w_X10_spelt_156 h1 h3 post k46 x2 x4 x5 v6_154 x8 I_149 J_149)))
set_option maxHeartbeats 4000000 in
set_option maxRecDepth 100000 in
theorem t_X10_spelt_140 {X : sX} {h1 : Nat} {h3 : Nat} (ph1 : sIs h1 2) (ph3 : sIs h3 9) {post : Int64 → sI → sJ → Prop} (h : sOK X cX10_spelt RX10 12 2 42) (hr : sRt X (some .long) (sPl post)) {k46 : Int32 → Int32 → Int32 → Int64 → Int32 → sI → sJ → Prop} (hk46 : ∀ (x2 : Int32) (x4 : Int32) (x5 : Int32) (x6 : Int64) (x8 : Int32) (I : sI) (J : sJ), k46 x2 x4 x5 x6 x8 I J → sG X 12 46 [(0, .ref 142), (1, .ref h1), (2, .int x2), (3, .ref h3), (4, .int x4), (5, .int x5), (6, .long x6), (8, .int x8)] [] I J) {x2 : Int32} {x4 : Int32} {x5 : Int32} {x6 : Int64} {x8 : Int32} {x9 : Int32} {x10 : Int32} {I : sI} {J : sJ} (hw : w_X10_spelt_140 h1 h3 post k46 x2 x4 x5 x6 x8 x9 x10 I J) : sG X 12 140 [(0, .ref 142), (1, .ref h1), (2, .int x2), (3, .ref h3), (4, .int x4), (5, .int x5), (6, .long x6), (8, .int x8), (9, .int x9), (10, .int x10)] [] I J := by
  unfold w_X10_spelt_140 at hw
  refine g_lload h 6 rfl dX10_spelt_140 ?_
  refine g_iload h 9 rfl dX10_spelt_142 ?_
  refine g_iconst (v := 1) h (by decide) dX10_spelt_144 ?_
  refine g_iadd h dX10_spelt_145 ?_
  refine g_i2l h dX10_spelt_146 ?_
  refine g_iload h 8 rfl dX10_spelt_147 ?_
  refine g_callN RX11 [.int x9] h (c_X11_shiftOf X hw) sPi_v mw_X11_shiftOf (fun _ z => z.1) rfl ⟨by decide, by decide⟩ (Nat.le_of_ble_eq_true rfl) dX10_spelt_149 (sPi_k (fun r_149 I_149 J_149 hw => ?_))
  refine g_lshl h dX10_spelt_152 ?_
  refine g_lor h dX10_spelt_153 ?_
  refine g_nl (fun v6_154 ev6_154 => ?_)
  replace hw := hw v6_154 ev6_154
  refine g_lstore (lo2 := [(6, .long v6_154), (0, .ref 142), (1, .ref h1), (2, .int x2), (3, .ref h3), (4, .int x4), (5, .int x5), (8, .int x8), (9, .int x9), (10, .int x10)]) h (by decide) rfl dX10_spelt_154 ?_
  exact g_sub [1, 2, 3, 4, 5, 6, 0, 7] rfl (t_X10_spelt_156 ph1 ph3 h hr hk46 hw)
def w_X10_spelt_89 (h1 : Nat) (h3 : Nat) (post : Int64 → sI → sJ → Prop) (k46 : Int32 → Int32 → Int32 → Int64 → Int32 → sI → sJ → Prop) (x2 : Int32) (x4 : Int32) (x5 : Int32) (x6 : Int64) (x8 : Int32) (s0 : Int32) (I : sI) (J : sJ) : Prop :=
  (vp_in s0 60 ∧ (∀ v9_90 : Int32, v9_90 = I (sR h1 0) (Int32.toNatClampNeg s0) → ((¬ v9_90 = 12 → (vp_in x4 20 ∧ (vp_in x8 6 ∧ (∀ v10_112 : Int32, v10_112 = I (sR (sR h3 0) (Int32.toNatClampNeg x4)) (Int32.toNatClampNeg x8) → w_X11_letterIn x6 v9_90 I J (fun (r_118 : Int32) (I_118 : sI) (J_118 : sJ) => (((r_118 = (-1) → w_X10_spelt_140 h1 h3 post k46 x2 x4 x5 x6 x8 v9_90 v10_112 I_118 J_118) ∧ (¬ r_118 = (-1) → ((r_118 = v10_112 → w_X10_spelt_140 h1 h3 post k46 x2 x4 x5 x6 x8 v9_90 v10_112 I_118 J_118) ∧ (¬ r_118 = v10_112 → post (-1) I_118 J_118)))))))))) ∧ (v9_90 = 12 → w_X10_spelt_156 h1 h3 post k46 x2 x4 x5 x6 x8 I J))))
set_option maxHeartbeats 4000000 in
set_option maxRecDepth 100000 in
theorem t_X10_spelt_89 {X : sX} {h1 : Nat} {h3 : Nat} (ph1 : sIs h1 2) (ph3 : sIs h3 9) {post : Int64 → sI → sJ → Prop} (h : sOK X cX10_spelt RX10 12 2 42) (hr : sRt X (some .long) (sPl post)) {k46 : Int32 → Int32 → Int32 → Int64 → Int32 → sI → sJ → Prop} (hk46 : ∀ (x2 : Int32) (x4 : Int32) (x5 : Int32) (x6 : Int64) (x8 : Int32) (I : sI) (J : sJ), k46 x2 x4 x5 x6 x8 I J → sG X 12 46 [(0, .ref 142), (1, .ref h1), (2, .int x2), (3, .ref h3), (4, .int x4), (5, .int x5), (6, .long x6), (8, .int x8)] [] I J) {x2 : Int32} {x4 : Int32} {x5 : Int32} {x6 : Int64} {x8 : Int32} {s0 : Int32} {I : sI} {J : sJ} (hw : w_X10_spelt_89 h1 h3 post k46 x2 x4 x5 x6 x8 s0 I J) : sG X 12 89 [(0, .ref 142), (1, .ref h1), (2, .int x2), (3, .ref h3), (4, .int x4), (5, .int x5), (6, .long x6), (8, .int x8)] [.int s0, .ref (sR h1 0)] I J := by
  unfold w_X10_spelt_89 at hw
  obtain ⟨hi89, hw⟩ := hw
  refine g_iald h (arF_2_0 ph1) hi89 dX10_spelt_89 ?_
  refine g_ni (fun v9_90 ev9_90 => ?_)
  replace hw := hw v9_90 ev9_90
  refine g_istore (lo2 := [(9, .int v9_90), (0, .ref 142), (1, .ref h1), (2, .int x2), (3, .ref h3), (4, .int x4), (5, .int x5), (6, .long x6), (8, .int x8)]) h (by decide) rfl dX10_spelt_90 ?_
  refine g_iload h 0 rfl dX10_spelt_92 ?_
  refine g_bipush (v := 12) h (by decide) dX10_spelt_94 ?_
  refine g_icmp_ne (tgt := 102) h (by decide) dX10_spelt_96 (fun q96 => ?_) (fun q96 => ?_)
  · replace hw := hw.1 q96
    refine g_aload_n h rfl 4 rfl dX10_spelt_102 ?_
    refine g_get h ph3 fl_X10_91 rfl dX10_spelt_103 ?_
    refine g_iload h 5 rfl dX10_spelt_106 ?_
    obtain ⟨hi108, hw⟩ := hw
    refine g_aald (t := 2) h (arF_9_0 ph3) (by decide) hi108 dX10_spelt_108 ?_
    refine g_iload h 8 rfl dX10_spelt_109 ?_
    obtain ⟨hi111, hw⟩ := hw
    refine g_iald h (el_6_20 (arF_9_0 ph3) hi108) hi111 dX10_spelt_111 ?_
    refine g_ni (fun v10_112 ev10_112 => ?_)
    replace hw := hw v10_112 ev10_112
    refine g_istore (lo2 := [(10, .int v10_112), (9, .int v9_90), (0, .ref 142), (1, .ref h1), (2, .int x2), (3, .ref h3), (4, .int x4), (5, .int x5), (6, .long x6), (8, .int x8)]) h (by decide) rfl dX10_spelt_112 ?_
    refine g_lload h 8 rfl dX10_spelt_114 ?_
    refine g_iload h 1 rfl dX10_spelt_116 ?_
    refine g_callN RX11 [.long x6, .int v9_90] h (c_X11_letterIn X hw) sPi_v mw_X11_letterIn (fun _ z => z.2.1) rfl ⟨by decide, by decide⟩ (Nat.le_of_ble_eq_true rfl) dX10_spelt_118 (sPi_k (fun r_118 I_118 J_118 hw => ?_))
    refine g_istore (lo2 := [(11, .int r_118), (10, .int v10_112), (9, .int v9_90), (0, .ref 142), (1, .ref h1), (2, .int x2), (3, .ref h3), (4, .int x4), (5, .int x5), (6, .long x6), (8, .int x8)]) h (by decide) rfl dX10_spelt_121 ?_
    refine g_iload h 0 rfl dX10_spelt_123 ?_
    refine g_iconst (v := (-1)) h (by decide) dX10_spelt_125 ?_
    refine g_icmp_eq (tgt := 140) h (by decide) dX10_spelt_126 (fun q126 => ?_) (fun q126 => ?_)
    · replace hw := hw.1 q126
      exact g_sub [3, 4, 5, 6, 7, 8, 9, 10, 2, 1] rfl (t_X10_spelt_140 ph1 ph3 h hr hk46 hw)
    · replace hw := hw.2 q126
      refine g_iload h 0 rfl dX10_spelt_129 ?_
      refine g_iload h 1 rfl dX10_spelt_131 ?_
      refine g_icmp_eq (tgt := 140) h (by decide) dX10_spelt_133 (fun q133 => ?_) (fun q133 => ?_)
      · replace hw := hw.1 q133
        exact g_sub [3, 4, 5, 6, 7, 8, 9, 10, 2, 1] rfl (t_X10_spelt_140 ph1 ph3 h hr hk46 hw)
      · replace hw := hw.2 q133
        refine g_ldc2 h lc_X10_67 dX10_spelt_136 ?_
        exact g_lret h hr dX10_spelt_139 hw
  · replace hw := hw.2 q96
    refine g_goto (tgt := 156) h (by decide) dX10_spelt_99 ?_
    exact g_sub [1, 2, 3, 4, 5, 6, 7, 8] rfl (t_X10_spelt_156 ph1 ph3 h hr hk46 hw)
def w_X10_spelt_46_s (h1 : Nat) (h3 : Nat) (post : Int64 → sI → sJ → Prop) (k46 : Int32 → Int32 → Int32 → Int64 → Int32 → sI → sJ → Prop) (x2 : Int32) (x4 : Int32) (x5 : Int32) (x6 : Int64) (x8 : Int32) (I : sI) (J : sJ) : Prop :=
  ((x5 ≤ x8 → post x6 I J) ∧ (¬ x5 ≤ x8 → (((I 142 9) = 0 → (vp_in x2 13 ∧ w_X10_spelt_89 h1 h3 post k46 x2 x4 x5 x6 x8 ((I (sR h1 2) (Int32.toNatClampNeg x2)) + x8) I J)) ∧ (¬ (I 142 9) = 0 → (vp_in (x2 + 1) 13 ∧ w_X10_spelt_89 h1 h3 post k46 x2 x4 x5 x6 x8 (((I (sR h1 2) (Int32.toNatClampNeg (x2 + 1))) - 1) - x8) I J)))))
def w_X10_spelt_46_n (h1 : Nat) (h3 : Nat) (post : Int64 → sI → sJ → Prop) : Nat → Int32 → Int32 → Int32 → Int64 → Int32 → sI → sJ → Prop
  | 0 => fun _ _ _ _ _ _ _ => False
  | n + 1 => fun x2 x4 x5 x6 x8 I J => w_X10_spelt_46_s h1 h3 post (w_X10_spelt_46_n h1 h3 post n) x2 x4 x5 x6 x8 I J
def w_X10_spelt_46 (h1 : Nat) (h3 : Nat) (post : Int64 → sI → sJ → Prop) (x2 : Int32) (x4 : Int32) (x5 : Int32) (x6 : Int64) (x8 : Int32) (I : sI) (J : sJ) : Prop := ∃ n, w_X10_spelt_46_n h1 h3 post n x2 x4 x5 x6 x8 I J
set_option maxHeartbeats 4000000 in
set_option maxRecDepth 100000 in
theorem t_X10_spelt_46_s {X : sX} {h1 : Nat} {h3 : Nat} (ph1 : sIs h1 2) (ph3 : sIs h3 9) {post : Int64 → sI → sJ → Prop} (h : sOK X cX10_spelt RX10 12 2 42) (hr : sRt X (some .long) (sPl post)) {k46 : Int32 → Int32 → Int32 → Int64 → Int32 → sI → sJ → Prop} (hk46 : ∀ (x2 : Int32) (x4 : Int32) (x5 : Int32) (x6 : Int64) (x8 : Int32) (I : sI) (J : sJ), k46 x2 x4 x5 x6 x8 I J → sG X 12 46 [(0, .ref 142), (1, .ref h1), (2, .int x2), (3, .ref h3), (4, .int x4), (5, .int x5), (6, .long x6), (8, .int x8)] [] I J) {x2 : Int32} {x4 : Int32} {x5 : Int32} {x6 : Int64} {x8 : Int32} {I : sI} {J : sJ} (hw : w_X10_spelt_46_s h1 h3 post k46 x2 x4 x5 x6 x8 I J) : sG X 12 46 [(0, .ref 142), (1, .ref h1), (2, .int x2), (3, .ref h3), (4, .int x4), (5, .int x5), (6, .long x6), (8, .int x8)] [] I J := by
  unfold w_X10_spelt_46_s at hw
  refine g_iload h 7 rfl dX10_spelt_46 ?_
  refine g_iload h 5 rfl dX10_spelt_48 ?_
  refine g_icmp_ge (tgt := 162) h (by decide) dX10_spelt_50 (fun q50 => ?_) (fun q50 => ?_)
  · replace hw := hw.1 q50
    refine g_lload h 6 rfl dX10_spelt_162 ?_
    exact g_lret h hr dX10_spelt_164 hw
  · replace hw := hw.2 q50
    refine g_aload_n h rfl 1 rfl dX10_spelt_53 ?_
    refine g_get h ph1 fl_X10_76 rfl dX10_spelt_54 ?_
    refine g_aload_n h rfl 0 rfl dX10_spelt_57 ?_
    refine g_get h is_142 fl_X10_47 rfl dX10_spelt_58 ?_
    refine g_if_eq (tgt := 80) h (by decide) dX10_spelt_61 (fun q61 => ?_) (fun q61 => ?_)
    · replace hw := hw.1 q61
      refine g_aload_n h rfl 1 rfl dX10_spelt_80 ?_
      refine g_get h ph1 fl_X10_73 rfl dX10_spelt_81 ?_
      refine g_iload_n h rfl 2 rfl dX10_spelt_84 ?_
      obtain ⟨hi85, hw⟩ := hw
      refine g_iald h (arF_2_2 ph1) hi85 dX10_spelt_85 ?_
      refine g_iload h 7 rfl dX10_spelt_86 ?_
      refine g_iadd h dX10_spelt_88 ?_
      exact g_sub [0, 1, 2, 3, 4, 5, 6, 7] rfl (t_X10_spelt_89 ph1 ph3 h hr hk46 hw)
    · replace hw := hw.2 q61
      refine g_aload_n h rfl 1 rfl dX10_spelt_64 ?_
      refine g_get h ph1 fl_X10_73 rfl dX10_spelt_65 ?_
      refine g_iload_n h rfl 2 rfl dX10_spelt_68 ?_
      refine g_iconst (v := 1) h (by decide) dX10_spelt_69 ?_
      refine g_iadd h dX10_spelt_70 ?_
      obtain ⟨hi71, hw⟩ := hw
      refine g_iald h (arF_2_2 ph1) hi71 dX10_spelt_71 ?_
      refine g_iconst (v := 1) h (by decide) dX10_spelt_72 ?_
      refine g_isub h dX10_spelt_73 ?_
      refine g_iload h 7 rfl dX10_spelt_74 ?_
      refine g_isub h dX10_spelt_76 ?_
      refine g_goto (tgt := 89) h (by decide) dX10_spelt_77 ?_
      exact g_sub [0, 1, 2, 3, 4, 5, 6, 7] rfl (t_X10_spelt_89 ph1 ph3 h hr hk46 hw)
theorem t_X10_spelt_46 {X : sX} {h1 : Nat} {h3 : Nat} (ph1 : sIs h1 2) (ph3 : sIs h3 9) {post : Int64 → sI → sJ → Prop} (h : sOK X cX10_spelt RX10 12 2 42) (hr : sRt X (some .long) (sPl post)) {x2 : Int32} {x4 : Int32} {x5 : Int32} {x6 : Int64} {x8 : Int32} {I : sI} {J : sJ} (hw : w_X10_spelt_46 h1 h3 post x2 x4 x5 x6 x8 I J) : sG X 12 46 [(0, .ref 142), (1, .ref h1), (2, .int x2), (3, .ref h3), (4, .int x4), (5, .int x5), (6, .long x6), (8, .int x8)] [] I J := by
  obtain ⟨n, hw⟩ := hw
  induction n generalizing x2 x4 x5 x6 x8 I J with
  | zero => exact hw.elim
  | succ n ih => exact t_X10_spelt_46_s ph1 ph3 h hr (fun _ _ _ _ _ _ _ q => ih q) hw
def w_X10_spelt (h1 : Nat) (a2 : Int32) (h3 : Nat) (a4 : Int32) (I : sI) (J : sJ) (post : Int64 → sI → sJ → Prop) : Prop :=
  w_X2_lengthOf h1 a2 I J (fun (r_2 : Int32) (I_2 : sI) (J_2 : sJ) => ((vp_in a4 20 ∧ (((I_2 (sR h3 1) (Int32.toNatClampNeg a4)) < r_2 → w_X10_spelt_36 h1 h3 post I_2 J_2) ∧ (¬ (I_2 (sR h3 1) (Int32.toNatClampNeg a4)) < r_2 → (vp_in a4 20 ∧ (((I_2 (sR h3 1) (Int32.toNatClampNeg a4)) ≤ (r_2 + (I_2 142 8)) → w_X10_spelt_46 h1 h3 post a2 a4 r_2 0 0 I_2 J_2) ∧ (¬ (I_2 (sR h3 1) (Int32.toNatClampNeg a4)) ≤ (r_2 + (I_2 142 8)) → w_X10_spelt_36 h1 h3 post I_2 J_2))))))))
set_option maxHeartbeats 4000000 in
set_option maxRecDepth 100000 in
theorem t_X10_spelt {X : sX} {h1 : Nat} {a2 : Int32} {h3 : Nat} {a4 : Int32} (ph1 : sIs h1 2) (ph3 : sIs h3 9) {I : sI} {J : sJ} {post : Int64 → sI → sJ → Prop} (h : sOK X cX10_spelt RX10 12 2 42) (hr : sRt X (some .long) (sPl post)) (hw : w_X10_spelt h1 a2 h3 a4 I J post) : sG X 12 0 [(0, .ref 142), (1, .ref h1), (2, .int a2), (3, .ref h3), (4, .int a4)] [] I J := by
  unfold w_X10_spelt at hw
  refine g_aload_n h rfl 1 rfl dX10_spelt_0 ?_
  refine g_iload_n h rfl 2 rfl dX10_spelt_1 ?_
  refine g_callV [.int a2] h (c_X2_lengthOf X ph1 hw) sPi_v mw_X2_lengthOf lk_X10_85 ph1 rfl rfl ⟨by decide, by decide⟩ (Nat.le_of_ble_eq_true rfl) dX10_spelt_2 (sPi_k (fun r_2 I_2 J_2 hw => ?_))
  refine g_istore (lo2 := [(5, .int r_2), (0, .ref 142), (1, .ref h1), (2, .int a2), (3, .ref h3), (4, .int a4)]) h (by decide) rfl dX10_spelt_5 ?_
  refine g_aload_n h rfl 4 rfl dX10_spelt_7 ?_
  refine g_get h ph3 fl_X10_88 rfl dX10_spelt_8 ?_
  refine g_iload h 5 rfl dX10_spelt_11 ?_
  obtain ⟨hi13, hw⟩ := hw
  refine g_iald h (arF_9_1 ph3) hi13 dX10_spelt_13 ?_
  refine g_iload h 0 rfl dX10_spelt_14 ?_
  refine g_icmp_lt (tgt := 36) h (by decide) dX10_spelt_16 (fun q16 => ?_) (fun q16 => ?_)
  · replace hw := hw.1 q16
    exact g_sub [] rfl (t_X10_spelt_36 ph1 ph3 h hr hw)
  · replace hw := hw.2 q16
    refine g_aload_n h rfl 4 rfl dX10_spelt_19 ?_
    refine g_get h ph3 fl_X10_88 rfl dX10_spelt_20 ?_
    refine g_iload h 5 rfl dX10_spelt_23 ?_
    obtain ⟨hi25, hw⟩ := hw
    refine g_iald h (arF_9_1 ph3) hi25 dX10_spelt_25 ?_
    refine g_iload h 0 rfl dX10_spelt_26 ?_
    refine g_aload_n h rfl 1 rfl dX10_spelt_28 ?_
    refine g_get h is_142 fl_X10_44 rfl dX10_spelt_29 ?_
    refine g_iadd h dX10_spelt_32 ?_
    refine g_icmp_le (tgt := 40) h (by decide) dX10_spelt_33 (fun q33 => ?_) (fun q33 => ?_)
    · replace hw := hw.1 q33
      refine g_lconst (v := 0) h (by decide) dX10_spelt_40 ?_
      refine g_lstore (lo2 := [(6, .long 0), (5, .int r_2), (0, .ref 142), (1, .ref h1), (2, .int a2), (3, .ref h3), (4, .int a4)]) h (by decide) rfl dX10_spelt_41 ?_
      refine g_iconst (v := 0) h (by decide) dX10_spelt_43 ?_
      refine g_istore (lo2 := [(8, .int 0), (6, .long 0), (5, .int r_2), (0, .ref 142), (1, .ref h1), (2, .int a2), (3, .ref h3), (4, .int a4)]) h (by decide) rfl dX10_spelt_44 ?_
      exact g_sub [3, 4, 5, 6, 7, 2, 1, 0] rfl (t_X10_spelt_46 ph1 ph3 h hr hw)
    · replace hw := hw.2 q33
      exact g_sub [] rfl (t_X10_spelt_36 ph1 ph3 h hr hw)
theorem c_X10_spelt (X : sX) {h1 : Nat} {a2 : Int32} {h3 : Nat} {a4 : Int32} (ph1 : sIs h1 2) (ph3 : sIs h3 9) {I : sI} {J : sJ} {post : Int64 → sI → sJ → Prop} (hw : w_X10_spelt h1 a2 h3 a4 I J post) : sCall X yX10_spelt cX10_spelt 12 (some .long) 2 42 [.ref 142, .ref h1, .int a2, .ref h3, .int a4] I J (sPl post) := sCall_of (by decide +kernel) (Nat.le_of_ble_eq_true rfl) (fun X h hr => t_X10_spelt ph1 ph3 h hr hw)
theorem dX10_letterSums_0 : decode cX10_letterSums 0 = .ok (.iconst 0, 1) := by decide +kernel
theorem dX10_letterSums_1 : decode cX10_letterSums 1 = .ok (.istore_n 2, 1) := by decide +kernel
theorem dX10_letterSums_2 : decode cX10_letterSums 2 = .ok (.iconst 0, 1) := by decide +kernel
theorem dX10_letterSums_3 : decode cX10_letterSums 3 = .ok (.istore_n 3, 1) := by decide +kernel
theorem dX10_letterSums_4 : decode cX10_letterSums 4 = .ok (.iload_n 3, 1) := by decide +kernel
theorem dX10_letterSums_5 : decode cX10_letterSums 5 = .ok (.bipush 12, 2) := by decide +kernel
theorem dX10_letterSums_7 : decode cX10_letterSums 7 = .ok (.if_icmp .ge 35, 3) := by decide +kernel
theorem dX10_letterSums_10 : decode cX10_letterSums 10 = .ok (.lload_n 0, 1) := by decide +kernel
theorem dX10_letterSums_11 : decode cX10_letterSums 11 = .ok (.iload_n 3, 1) := by decide +kernel
theorem dX10_letterSums_12 : decode cX10_letterSums 12 = .ok (.invokestatic 94, 3) := by decide +kernel
theorem dX10_letterSums_15 : decode cX10_letterSums 15 = .ok (.istore 4, 2) := by decide +kernel
theorem dX10_letterSums_17 : decode cX10_letterSums 17 = .ok (.iload_n 2, 1) := by decide +kernel
theorem dX10_letterSums_18 : decode cX10_letterSums 18 = .ok (.iload 4, 2) := by decide +kernel
theorem dX10_letterSums_20 : decode cX10_letterSums 20 = .ok (.iconst (-1), 1) := by decide +kernel
theorem dX10_letterSums_21 : decode cX10_letterSums 21 = .ok (.if_icmp .ne 7, 3) := by decide +kernel
theorem dX10_letterSums_24 : decode cX10_letterSums 24 = .ok (.iconst 0, 1) := by decide +kernel
theorem dX10_letterSums_25 : decode cX10_letterSums 25 = .ok (.goto 9, 3) := by decide +kernel
theorem dX10_letterSums_28 : decode cX10_letterSums 28 = .ok (.iconst 1, 1) := by decide +kernel
theorem dX10_letterSums_29 : decode cX10_letterSums 29 = .ok (.iconst 4, 1) := by decide +kernel
theorem dX10_letterSums_30 : decode cX10_letterSums 30 = .ok (.iload 4, 2) := by decide +kernel
theorem dX10_letterSums_32 : decode cX10_letterSums 32 = .ok (.imul, 1) := by decide +kernel
theorem dX10_letterSums_33 : decode cX10_letterSums 33 = .ok (.ishl, 1) := by decide +kernel
theorem dX10_letterSums_34 : decode cX10_letterSums 34 = .ok (.iadd, 1) := by decide +kernel
theorem dX10_letterSums_35 : decode cX10_letterSums 35 = .ok (.istore_n 2, 1) := by decide +kernel
theorem dX10_letterSums_36 : decode cX10_letterSums 36 = .ok (.iinc 3 1, 3) := by decide +kernel
theorem dX10_letterSums_39 : decode cX10_letterSums 39 = .ok (.goto (-35), 3) := by decide +kernel
theorem dX10_letterSums_42 : decode cX10_letterSums 42 = .ok (.iload_n 2, 1) := by decide +kernel
theorem dX10_letterSums_43 : decode cX10_letterSums 43 = .ok (.ireturn, 1) := by decide +kernel
def w_X10_letterSums_34 (post : Int32 → sI → sJ → Prop) (k4 : Int64 → Int32 → Int32 → sI → sJ → Prop) (x0 : Int64) (x3 : Int32) (s0 : Int32) (s1 : Int32) (I : sI) (J : sJ) : Prop :=
  (∀ v2_35 : Int32, v2_35 = s1 + s0 → (∀ v3_36 : Int32, v3_36 = x3 + 1 → k4 x0 v2_35 v3_36 I J))
set_option maxHeartbeats 4000000 in
set_option maxRecDepth 100000 in
theorem t_X10_letterSums_34 {X : sX} {post : Int32 → sI → sJ → Prop} (h : sOK X cX10_letterSums RX10 5 2 42) (hr : sRt X (some .int) (sPi post)) {k4 : Int64 → Int32 → Int32 → sI → sJ → Prop} (hk4 : ∀ (x0 : Int64) (x2 : Int32) (x3 : Int32) (I : sI) (J : sJ), k4 x0 x2 x3 I J → sG X 5 4 [(0, .long x0), (2, .int x2), (3, .int x3)] [] I J) {x0 : Int64} {x3 : Int32} {s0 : Int32} {s1 : Int32} {I : sI} {J : sJ} (hw : w_X10_letterSums_34 post k4 x0 x3 s0 s1 I J) : sG X 5 34 [(0, .long x0), (3, .int x3)] [.int s0, .int s1] I J := by
  unfold w_X10_letterSums_34 at hw
  refine g_iadd h dX10_letterSums_34 ?_
  refine g_ni (fun v2_35 ev2_35 => ?_)
  replace hw := hw v2_35 ev2_35
  refine g_istore_n (lo2 := [(2, .int v2_35), (0, .long x0), (3, .int x3)]) h rfl (by decide) rfl dX10_letterSums_35 ?_
  obtain ⟨v3_36, ev3_36⟩ : ∃ z : Int32, z = x3 + 1 := ⟨_, rfl⟩
  replace hw := hw v3_36 ev3_36
  refine g_iinc (v := v3_36) (lo2 := [(3, .int v3_36), (2, .int v2_35), (0, .long x0)]) h 2 rfl (by rw [ev3_36]; rfl) (by decide) rfl dX10_letterSums_36 ?_
  refine g_goto (tgt := 4) h (by decide) dX10_letterSums_39 ?_
  exact g_sub [2, 1, 0] rfl (hk4 _ _ _ _ _ hw)
def w_X10_letterSums_4_s (post : Int32 → sI → sJ → Prop) (k4 : Int64 → Int32 → Int32 → sI → sJ → Prop) (x0 : Int64) (x2 : Int32) (x3 : Int32) (I : sI) (J : sJ) : Prop :=
  ((12 ≤ x3 → post x2 I J) ∧ (¬ 12 ≤ x3 → w_X11_letterIn x0 x3 I J (fun (r_12 : Int32) (I_12 : sI) (J_12 : sJ) => (((¬ r_12 = (-1) → w_X10_letterSums_34 post k4 x0 x3 (1 <<< ((4 * r_12) &&& 31)) x2 I_12 J_12) ∧ (r_12 = (-1) → w_X10_letterSums_34 post k4 x0 x3 0 x2 I_12 J_12))))))
def w_X10_letterSums_4_n (post : Int32 → sI → sJ → Prop) : Nat → Int64 → Int32 → Int32 → sI → sJ → Prop
  | 0 => fun _ _ _ _ _ => False
  | n + 1 => fun x0 x2 x3 I J => w_X10_letterSums_4_s post (w_X10_letterSums_4_n post n) x0 x2 x3 I J
def w_X10_letterSums_4 (post : Int32 → sI → sJ → Prop) (x0 : Int64) (x2 : Int32) (x3 : Int32) (I : sI) (J : sJ) : Prop := ∃ n, w_X10_letterSums_4_n post n x0 x2 x3 I J
set_option maxHeartbeats 4000000 in
set_option maxRecDepth 100000 in
theorem t_X10_letterSums_4_s {X : sX} {post : Int32 → sI → sJ → Prop} (h : sOK X cX10_letterSums RX10 5 2 42) (hr : sRt X (some .int) (sPi post)) {k4 : Int64 → Int32 → Int32 → sI → sJ → Prop} (hk4 : ∀ (x0 : Int64) (x2 : Int32) (x3 : Int32) (I : sI) (J : sJ), k4 x0 x2 x3 I J → sG X 5 4 [(0, .long x0), (2, .int x2), (3, .int x3)] [] I J) {x0 : Int64} {x2 : Int32} {x3 : Int32} {I : sI} {J : sJ} (hw : w_X10_letterSums_4_s post k4 x0 x2 x3 I J) : sG X 5 4 [(0, .long x0), (2, .int x2), (3, .int x3)] [] I J := by
  unfold w_X10_letterSums_4_s at hw
  refine g_iload_n h rfl 2 rfl dX10_letterSums_4 ?_
  refine g_bipush (v := 12) h (by decide) dX10_letterSums_5 ?_
  refine g_icmp_ge (tgt := 42) h (by decide) dX10_letterSums_7 (fun q7 => ?_) (fun q7 => ?_)
  · replace hw := hw.1 q7
    refine g_iload_n h rfl 1 rfl dX10_letterSums_42 ?_
    exact g_iret h hr dX10_letterSums_43 hw
  · replace hw := hw.2 q7
    refine g_lload_n h rfl 0 rfl dX10_letterSums_10 ?_
    refine g_iload_n h rfl 2 rfl dX10_letterSums_11 ?_
    refine g_callN RX11 [.long x0, .int x3] h (c_X11_letterIn X hw) sPi_v mw_X11_letterIn (fun _ z => z.2.1) rfl ⟨by decide, by decide⟩ (Nat.le_of_ble_eq_true rfl) dX10_letterSums_12 (sPi_k (fun r_12 I_12 J_12 hw => ?_))
    refine g_istore (lo2 := [(4, .int r_12), (0, .long x0), (2, .int x2), (3, .int x3)]) h (by decide) rfl dX10_letterSums_15 ?_
    refine g_iload_n h rfl 2 rfl dX10_letterSums_17 ?_
    refine g_iload h 0 rfl dX10_letterSums_18 ?_
    refine g_iconst (v := (-1)) h (by decide) dX10_letterSums_20 ?_
    refine g_icmp_ne (tgt := 28) h (by decide) dX10_letterSums_21 (fun q21 => ?_) (fun q21 => ?_)
    · replace hw := hw.1 q21
      refine g_iconst (v := 1) h (by decide) dX10_letterSums_28 ?_
      refine g_iconst (v := 4) h (by decide) dX10_letterSums_29 ?_
      refine g_iload h 0 rfl dX10_letterSums_30 ?_
      refine g_imul h dX10_letterSums_32 ?_
      refine g_ishl h dX10_letterSums_33 ?_
      exact g_sub [1, 3] rfl (t_X10_letterSums_34 h hr hk4 hw)
    · replace hw := hw.2 q21
      refine g_iconst (v := 0) h (by decide) dX10_letterSums_24 ?_
      refine g_goto (tgt := 34) h (by decide) dX10_letterSums_25 ?_
      exact g_sub [1, 3] rfl (t_X10_letterSums_34 h hr hk4 hw)
theorem t_X10_letterSums_4 {X : sX} {post : Int32 → sI → sJ → Prop} (h : sOK X cX10_letterSums RX10 5 2 42) (hr : sRt X (some .int) (sPi post)) {x0 : Int64} {x2 : Int32} {x3 : Int32} {I : sI} {J : sJ} (hw : w_X10_letterSums_4 post x0 x2 x3 I J) : sG X 5 4 [(0, .long x0), (2, .int x2), (3, .int x3)] [] I J := by
  obtain ⟨n, hw⟩ := hw
  induction n generalizing x0 x2 x3 I J with
  | zero => exact hw.elim
  | succ n ih => exact t_X10_letterSums_4_s h hr (fun _ _ _ _ _ q => ih q) hw
def w_X10_letterSums (a0 : Int64) (I : sI) (J : sJ) (post : Int32 → sI → sJ → Prop) : Prop :=
  w_X10_letterSums_4 post a0 0 0 I J
set_option maxHeartbeats 4000000 in
set_option maxRecDepth 100000 in
theorem t_X10_letterSums {X : sX} {a0 : Int64} {I : sI} {J : sJ} {post : Int32 → sI → sJ → Prop} (h : sOK X cX10_letterSums RX10 5 2 42) (hr : sRt X (some .int) (sPi post)) (hw : w_X10_letterSums a0 I J post) : sG X 5 0 [(0, .long a0)] [] I J := by
  unfold w_X10_letterSums at hw
  refine g_iconst (v := 0) h (by decide) dX10_letterSums_0 ?_
  refine g_istore_n (lo2 := [(2, .int 0), (0, .long a0)]) h rfl (by decide) rfl dX10_letterSums_1 ?_
  refine g_iconst (v := 0) h (by decide) dX10_letterSums_2 ?_
  refine g_istore_n (lo2 := [(3, .int 0), (2, .int 0), (0, .long a0)]) h rfl (by decide) rfl dX10_letterSums_3 ?_
  exact g_sub [2, 1, 0] rfl (t_X10_letterSums_4 h hr hw)
theorem c_X10_letterSums (X : sX) {a0 : Int64} {I : sI} {J : sJ} {post : Int32 → sI → sJ → Prop} (hw : w_X10_letterSums a0 I J post) : sCall X yX10_letterSums cX10_letterSums 5 (some .int) 2 42 [.long a0] I J (sPi post) := sCall_of (by decide +kernel) (Nat.le_of_ble_eq_true rfl) (fun X h hr => t_X10_letterSums h hr hw)
theorem dX10_addWay_0 : decode cX10_addWay 0 = .ok (.lload_n 1, 1) := by decide +kernel
theorem dX10_addWay_1 : decode cX10_addWay 1 = .ok (.aload_n 0, 1) := by decide +kernel
theorem dX10_addWay_2 : decode cX10_addWay 2 = .ok (.getfield 36, 3) := by decide +kernel
theorem dX10_addWay_5 : decode cX10_addWay 5 = .ok (.ldc2_w 67, 3) := by decide +kernel
theorem dX10_addWay_8 : decode cX10_addWay 8 = .ok (.lxor, 1) := by decide +kernel
theorem dX10_addWay_9 : decode cX10_addWay 9 = .ok (.land, 1) := by decide +kernel
theorem dX10_addWay_10 : decode cX10_addWay 10 = .ok (.invokestatic 98, 3) := by decide +kernel
theorem dX10_addWay_13 : decode cX10_addWay 13 = .ok (.istore 4, 2) := by decide +kernel
theorem dX10_addWay_15 : decode cX10_addWay 15 = .ok (.aload_n 0, 1) := by decide +kernel
theorem dX10_addWay_16 : decode cX10_addWay 16 = .ok (.iload 4, 2) := by decide +kernel
theorem dX10_addWay_18 : decode cX10_addWay 18 = .ok (.invokevirtual 102, 3) := by decide +kernel
theorem dX10_addWay_21 : decode cX10_addWay 21 = .ok (.ifCond .eq 4, 3) := by decide +kernel
theorem dX10_addWay_24 : decode cX10_addWay 24 = .ok (.return_, 1) := by decide +kernel
theorem dX10_addWay_25 : decode cX10_addWay 25 = .ok (.iconst 0, 1) := by decide +kernel
theorem dX10_addWay_26 : decode cX10_addWay 26 = .ok (.istore 5, 2) := by decide +kernel
theorem dX10_addWay_28 : decode cX10_addWay 28 = .ok (.iload 5, 2) := by decide +kernel
theorem dX10_addWay_30 : decode cX10_addWay 30 = .ok (.aload_n 0, 1) := by decide +kernel
theorem dX10_addWay_31 : decode cX10_addWay 31 = .ok (.getfield 24, 3) := by decide +kernel
theorem dX10_addWay_34 : decode cX10_addWay 34 = .ok (.aload_n 0, 1) := by decide +kernel
theorem dX10_addWay_35 : decode cX10_addWay 35 = .ok (.getfield 32, 3) := by decide +kernel
theorem dX10_addWay_38 : decode cX10_addWay 38 = .ok (.iaload, 1) := by decide +kernel
theorem dX10_addWay_39 : decode cX10_addWay 39 = .ok (.if_icmp .ge 26, 3) := by decide +kernel
theorem dX10_addWay_42 : decode cX10_addWay 42 = .ok (.aload_n 0, 1) := by decide +kernel
theorem dX10_addWay_43 : decode cX10_addWay 43 = .ok (.getfield 11, 3) := by decide +kernel
theorem dX10_addWay_46 : decode cX10_addWay 46 = .ok (.aload_n 0, 1) := by decide +kernel
theorem dX10_addWay_47 : decode cX10_addWay 47 = .ok (.getfield 32, 3) := by decide +kernel
theorem dX10_addWay_50 : decode cX10_addWay 50 = .ok (.aaload, 1) := by decide +kernel
theorem dX10_addWay_51 : decode cX10_addWay 51 = .ok (.iload 5, 2) := by decide +kernel
theorem dX10_addWay_53 : decode cX10_addWay 53 = .ok (.laload, 1) := by decide +kernel
theorem dX10_addWay_54 : decode cX10_addWay 54 = .ok (.lload_n 1, 1) := by decide +kernel
theorem dX10_addWay_55 : decode cX10_addWay 55 = .ok (.lcmp, 1) := by decide +kernel
theorem dX10_addWay_56 : decode cX10_addWay 56 = .ok (.ifCond .eq 9, 3) := by decide +kernel
theorem dX10_addWay_59 : decode cX10_addWay 59 = .ok (.iinc 5 1, 3) := by decide +kernel
theorem dX10_addWay_62 : decode cX10_addWay 62 = .ok (.goto (-34), 3) := by decide +kernel
theorem dX10_addWay_65 : decode cX10_addWay 65 = .ok (.iload 5, 2) := by decide +kernel
theorem dX10_addWay_67 : decode cX10_addWay 67 = .ok (.aload_n 0, 1) := by decide +kernel
theorem dX10_addWay_68 : decode cX10_addWay 68 = .ok (.getfield 24, 3) := by decide +kernel
theorem dX10_addWay_71 : decode cX10_addWay 71 = .ok (.aload_n 0, 1) := by decide +kernel
theorem dX10_addWay_72 : decode cX10_addWay 72 = .ok (.getfield 32, 3) := by decide +kernel
theorem dX10_addWay_75 : decode cX10_addWay 75 = .ok (.iaload, 1) := by decide +kernel
theorem dX10_addWay_76 : decode cX10_addWay 76 = .ok (.if_icmp .ne 56, 3) := by decide +kernel
theorem dX10_addWay_79 : decode cX10_addWay 79 = .ok (.aload_n 0, 1) := by decide +kernel
theorem dX10_addWay_80 : decode cX10_addWay 80 = .ok (.getfield 11, 3) := by decide +kernel
theorem dX10_addWay_83 : decode cX10_addWay 83 = .ok (.aload_n 0, 1) := by decide +kernel
theorem dX10_addWay_84 : decode cX10_addWay 84 = .ok (.getfield 32, 3) := by decide +kernel
theorem dX10_addWay_87 : decode cX10_addWay 87 = .ok (.aaload, 1) := by decide +kernel
theorem dX10_addWay_88 : decode cX10_addWay 88 = .ok (.iload 5, 2) := by decide +kernel
theorem dX10_addWay_90 : decode cX10_addWay 90 = .ok (.lload_n 1, 1) := by decide +kernel
theorem dX10_addWay_91 : decode cX10_addWay 91 = .ok (.lastore, 1) := by decide +kernel
theorem dX10_addWay_92 : decode cX10_addWay 92 = .ok (.aload_n 0, 1) := by decide +kernel
theorem dX10_addWay_93 : decode cX10_addWay 93 = .ok (.getfield 18, 3) := by decide +kernel
theorem dX10_addWay_96 : decode cX10_addWay 96 = .ok (.aload_n 0, 1) := by decide +kernel
theorem dX10_addWay_97 : decode cX10_addWay 97 = .ok (.getfield 32, 3) := by decide +kernel
theorem dX10_addWay_100 : decode cX10_addWay 100 = .ok (.aaload, 1) := by decide +kernel
theorem dX10_addWay_101 : decode cX10_addWay 101 = .ok (.iload 5, 2) := by decide +kernel
theorem dX10_addWay_103 : decode cX10_addWay 103 = .ok (.iload 4, 2) := by decide +kernel
theorem dX10_addWay_105 : decode cX10_addWay 105 = .ok (.iastore, 1) := by decide +kernel
theorem dX10_addWay_106 : decode cX10_addWay 106 = .ok (.aload_n 0, 1) := by decide +kernel
theorem dX10_addWay_107 : decode cX10_addWay 107 = .ok (.getfield 21, 3) := by decide +kernel
theorem dX10_addWay_110 : decode cX10_addWay 110 = .ok (.aload_n 0, 1) := by decide +kernel
theorem dX10_addWay_111 : decode cX10_addWay 111 = .ok (.getfield 32, 3) := by decide +kernel
theorem dX10_addWay_114 : decode cX10_addWay 114 = .ok (.aaload, 1) := by decide +kernel
theorem dX10_addWay_115 : decode cX10_addWay 115 = .ok (.iload 5, 2) := by decide +kernel
theorem dX10_addWay_117 : decode cX10_addWay 117 = .ok (.iconst 0, 1) := by decide +kernel
theorem dX10_addWay_118 : decode cX10_addWay 118 = .ok (.iastore, 1) := by decide +kernel
theorem dX10_addWay_119 : decode cX10_addWay 119 = .ok (.aload_n 0, 1) := by decide +kernel
theorem dX10_addWay_120 : decode cX10_addWay 120 = .ok (.getfield 24, 3) := by decide +kernel
theorem dX10_addWay_123 : decode cX10_addWay 123 = .ok (.aload_n 0, 1) := by decide +kernel
theorem dX10_addWay_124 : decode cX10_addWay 124 = .ok (.getfield 32, 3) := by decide +kernel
theorem dX10_addWay_127 : decode cX10_addWay 127 = .ok (.dup2, 1) := by decide +kernel
theorem dX10_addWay_128 : decode cX10_addWay 128 = .ok (.iaload, 1) := by decide +kernel
theorem dX10_addWay_129 : decode cX10_addWay 129 = .ok (.iconst 1, 1) := by decide +kernel
theorem dX10_addWay_130 : decode cX10_addWay 130 = .ok (.iadd, 1) := by decide +kernel
theorem dX10_addWay_131 : decode cX10_addWay 131 = .ok (.iastore, 1) := by decide +kernel
theorem dX10_addWay_132 : decode cX10_addWay 132 = .ok (.aload_n 0, 1) := by decide +kernel
theorem dX10_addWay_133 : decode cX10_addWay 133 = .ok (.getfield 21, 3) := by decide +kernel
theorem dX10_addWay_136 : decode cX10_addWay 136 = .ok (.aload_n 0, 1) := by decide +kernel
theorem dX10_addWay_137 : decode cX10_addWay 137 = .ok (.getfield 32, 3) := by decide +kernel
theorem dX10_addWay_140 : decode cX10_addWay 140 = .ok (.aaload, 1) := by decide +kernel
theorem dX10_addWay_141 : decode cX10_addWay 141 = .ok (.iload 5, 2) := by decide +kernel
theorem dX10_addWay_143 : decode cX10_addWay 143 = .ok (.dup2, 1) := by decide +kernel
theorem dX10_addWay_144 : decode cX10_addWay 144 = .ok (.iaload, 1) := by decide +kernel
theorem dX10_addWay_145 : decode cX10_addWay 145 = .ok (.iconst 1, 1) := by decide +kernel
theorem dX10_addWay_146 : decode cX10_addWay 146 = .ok (.iload_n 3, 1) := by decide +kernel
theorem dX10_addWay_147 : decode cX10_addWay 147 = .ok (.ishl, 1) := by decide +kernel
theorem dX10_addWay_148 : decode cX10_addWay 148 = .ok (.ior, 1) := by decide +kernel
theorem dX10_addWay_149 : decode cX10_addWay 149 = .ok (.iastore, 1) := by decide +kernel
theorem dX10_addWay_150 : decode cX10_addWay 150 = .ok (.return_, 1) := by decide +kernel
def w_X10_addWay_132 (post : sI → sJ → Prop) (x3 : Int32) (x5 : Int32) (I : sI) (J : sJ) : Prop :=
  (vp_in (I 142 5) 24 ∧ (vp_in x5 20 ∧ (vp_in x5 20 ∧ (∀ I_149 : sI, I_149 = sUI I (sR 193 (Int32.toNatClampNeg (I 142 5))) (Int32.toNatClampNeg x5) ((I (sR 193 (Int32.toNatClampNeg (I 142 5))) (Int32.toNatClampNeg x5)) ||| (1 <<< (x3 &&& 31))) → post I_149 J))))
set_option maxHeartbeats 4000000 in
set_option maxRecDepth 100000 in
theorem t_X10_addWay_132 {X : sX} {post : sI → sJ → Prop} (h : sOK X cX10_addWay RX10 6 3 66) (hr : sRt X none (sPv post)) {x3 : Int32} {x5 : Int32} {I : sI} {J : sJ} (hw : w_X10_addWay_132 post x3 x5 I J) : sG X 6 132 [(0, .ref 142), (3, .int x3), (5, .int x5)] [] I J := by
  unfold w_X10_addWay_132 at hw
  refine g_aload_n h rfl 0 rfl dX10_addWay_132 ?_
  refine g_get h is_142 fl_X10_21 fr_142_2 dX10_addWay_133 ?_
  refine g_aload_n h rfl 0 rfl dX10_addWay_136 ?_
  refine g_get h is_142 fl_X10_32 rfl dX10_addWay_137 ?_
  obtain ⟨hi140, hw⟩ := hw
  refine g_aald (t := 2) h ar_193 (by decide) hi140 dX10_addWay_140 ?_
  refine g_iload h 2 rfl dX10_addWay_141 ?_
  refine g_dup2 h rfl rfl dX10_addWay_143 ?_
  obtain ⟨hi144, hw⟩ := hw
  refine g_iald h (el_6_24 ar_193 hi140) hi144 dX10_addWay_144 ?_
  refine g_iconst (v := 1) h (by decide) dX10_addWay_145 ?_
  refine g_iload_n h rfl 1 rfl dX10_addWay_146 ?_
  refine g_ishl h dX10_addWay_147 ?_
  refine g_ior h dX10_addWay_148 ?_
  obtain ⟨hi149, hw⟩ := hw
  refine g_iast h (el_6_24 ar_193 hi140) hi149 dX10_addWay_149 ?_
  refine g_nI (fun I_149 eI_149 => ?_)
  replace hw := hw I_149 eI_149
  exact g_vret h hr dX10_addWay_150 hw
def w_X10_addWay_65 (post : sI → sJ → Prop) (x1 : Int64) (x3 : Int32) (x4 : Int32) (x5 : Int32) (I : sI) (J : sJ) : Prop :=
  (vp_in (I 142 5) 24 ∧ ((¬ x5 = (I 218 (Int32.toNatClampNeg (I 142 5))) → w_X10_addWay_132 post x3 x5 I J) ∧ (x5 = (I 218 (Int32.toNatClampNeg (I 142 5))) → (vp_in (I 142 5) 24 ∧ (vp_in x5 20 ∧ (∀ J_91 : sJ, J_91 = sUJ J (sR 143 (Int32.toNatClampNeg (I 142 5))) (Int32.toNatClampNeg x5) x1 → (vp_in (I 142 5) 24 ∧ (vp_in x5 20 ∧ (∀ I_105 : sI, I_105 = sUI I (sR 168 (Int32.toNatClampNeg (I 142 5))) (Int32.toNatClampNeg x5) x4 → (vp_in (I_105 142 5) 24 ∧ (vp_in x5 20 ∧ (∀ I_118 : sI, I_118 = sUI I_105 (sR 193 (Int32.toNatClampNeg (I_105 142 5))) (Int32.toNatClampNeg x5) 0 → (vp_in (I_118 142 5) 24 ∧ (vp_in (I_118 142 5) 24 ∧ (∀ I_131 : sI, I_131 = sUI I_118 218 (Int32.toNatClampNeg (I_118 142 5)) ((I_118 218 (Int32.toNatClampNeg (I_118 142 5))) + 1) → w_X10_addWay_132 post x3 x5 I_131 J_91)))))))))))))))
set_option maxHeartbeats 4000000 in
set_option maxRecDepth 100000 in
theorem t_X10_addWay_65 {X : sX} {post : sI → sJ → Prop} (h : sOK X cX10_addWay RX10 6 3 66) (hr : sRt X none (sPv post)) {x1 : Int64} {x3 : Int32} {x4 : Int32} {x5 : Int32} {I : sI} {J : sJ} (hw : w_X10_addWay_65 post x1 x3 x4 x5 I J) : sG X 6 65 [(0, .ref 142), (1, .long x1), (3, .int x3), (4, .int x4), (5, .int x5)] [] I J := by
  unfold w_X10_addWay_65 at hw
  refine g_iload h 4 rfl dX10_addWay_65 ?_
  refine g_aload_n h rfl 0 rfl dX10_addWay_67 ?_
  refine g_get h is_142 fl_X10_24 fr_142_3 dX10_addWay_68 ?_
  refine g_aload_n h rfl 0 rfl dX10_addWay_71 ?_
  refine g_get h is_142 fl_X10_32 rfl dX10_addWay_72 ?_
  obtain ⟨hi75, hw⟩ := hw
  refine g_iald h ar_218 hi75 dX10_addWay_75 ?_
  refine g_icmp_ne (tgt := 132) h (by decide) dX10_addWay_76 (fun q76 => ?_) (fun q76 => ?_)
  · replace hw := hw.1 q76
    exact g_sub [0, 2, 4] rfl (t_X10_addWay_132 h hr hw)
  · replace hw := hw.2 q76
    refine g_aload_n h rfl 0 rfl dX10_addWay_79 ?_
    refine g_get h is_142 fl_X10_11 fr_142_0 dX10_addWay_80 ?_
    refine g_aload_n h rfl 0 rfl dX10_addWay_83 ?_
    refine g_get h is_142 fl_X10_32 rfl dX10_addWay_84 ?_
    obtain ⟨hi87, hw⟩ := hw
    refine g_aald (t := 3) h ar_143 (by decide) hi87 dX10_addWay_87 ?_
    refine g_iload h 4 rfl dX10_addWay_88 ?_
    refine g_lload_n h rfl 1 rfl dX10_addWay_90 ?_
    obtain ⟨hi91, hw⟩ := hw
    refine g_last h (el_7_24 ar_143 hi87) hi91 dX10_addWay_91 ?_
    refine g_nJ (fun J_91 eJ_91 => ?_)
    replace hw := hw J_91 eJ_91
    refine g_aload_n h rfl 0 rfl dX10_addWay_92 ?_
    refine g_get h is_142 fl_X10_18 fr_142_1 dX10_addWay_93 ?_
    refine g_aload_n h rfl 0 rfl dX10_addWay_96 ?_
    refine g_get h is_142 fl_X10_32 rfl dX10_addWay_97 ?_
    obtain ⟨hi100, hw⟩ := hw
    refine g_aald (t := 2) h ar_168 (by decide) hi100 dX10_addWay_100 ?_
    refine g_iload h 4 rfl dX10_addWay_101 ?_
    refine g_iload h 3 rfl dX10_addWay_103 ?_
    obtain ⟨hi105, hw⟩ := hw
    refine g_iast h (el_6_24 ar_168 hi100) hi105 dX10_addWay_105 ?_
    refine g_nI (fun I_105 eI_105 => ?_)
    replace hw := hw I_105 eI_105
    refine g_aload_n h rfl 0 rfl dX10_addWay_106 ?_
    refine g_get h is_142 fl_X10_21 fr_142_2 dX10_addWay_107 ?_
    refine g_aload_n h rfl 0 rfl dX10_addWay_110 ?_
    refine g_get h is_142 fl_X10_32 rfl dX10_addWay_111 ?_
    obtain ⟨hi114, hw⟩ := hw
    refine g_aald (t := 2) h ar_193 (by decide) hi114 dX10_addWay_114 ?_
    refine g_iload h 4 rfl dX10_addWay_115 ?_
    refine g_iconst (v := 0) h (by decide) dX10_addWay_117 ?_
    obtain ⟨hi118, hw⟩ := hw
    refine g_iast h (el_6_24 ar_193 hi114) hi118 dX10_addWay_118 ?_
    refine g_nI (fun I_118 eI_118 => ?_)
    replace hw := hw I_118 eI_118
    refine g_aload_n h rfl 0 rfl dX10_addWay_119 ?_
    refine g_get h is_142 fl_X10_24 fr_142_3 dX10_addWay_120 ?_
    refine g_aload_n h rfl 0 rfl dX10_addWay_123 ?_
    refine g_get h is_142 fl_X10_32 rfl dX10_addWay_124 ?_
    refine g_dup2 h rfl rfl dX10_addWay_127 ?_
    obtain ⟨hi128, hw⟩ := hw
    refine g_iald h ar_218 hi128 dX10_addWay_128 ?_
    refine g_iconst (v := 1) h (by decide) dX10_addWay_129 ?_
    refine g_iadd h dX10_addWay_130 ?_
    obtain ⟨hi131, hw⟩ := hw
    refine g_iast h ar_218 hi131 dX10_addWay_131 ?_
    refine g_nI (fun I_131 eI_131 => ?_)
    replace hw := hw I_131 eI_131
    exact g_sub [0, 2, 4] rfl (t_X10_addWay_132 h hr hw)
def w_X10_addWay_28_s (post : sI → sJ → Prop) (k28 : Int64 → Int32 → Int32 → Int32 → sI → sJ → Prop) (x1 : Int64) (x3 : Int32) (x4 : Int32) (x5 : Int32) (I : sI) (J : sJ) : Prop :=
  (vp_in (I 142 5) 24 ∧ (((I 218 (Int32.toNatClampNeg (I 142 5))) ≤ x5 → w_X10_addWay_65 post x1 x3 x4 x5 I J) ∧ (¬ (I 218 (Int32.toNatClampNeg (I 142 5))) ≤ x5 → (vp_in (I 142 5) 24 ∧ (vp_in x5 20 ∧ (((lg_cmp (J (sR 143 (Int32.toNatClampNeg (I 142 5))) (Int32.toNatClampNeg x5)) x1) = 0 → w_X10_addWay_65 post x1 x3 x4 x5 I J) ∧ (¬ (lg_cmp (J (sR 143 (Int32.toNatClampNeg (I 142 5))) (Int32.toNatClampNeg x5)) x1) = 0 → (∀ v5_59 : Int32, v5_59 = x5 + 1 → k28 x1 x3 x4 v5_59 I J))))))))
def w_X10_addWay_28_n (post : sI → sJ → Prop) : Nat → Int64 → Int32 → Int32 → Int32 → sI → sJ → Prop
  | 0 => fun _ _ _ _ _ _ => False
  | n + 1 => fun x1 x3 x4 x5 I J => w_X10_addWay_28_s post (w_X10_addWay_28_n post n) x1 x3 x4 x5 I J
def w_X10_addWay_28 (post : sI → sJ → Prop) (x1 : Int64) (x3 : Int32) (x4 : Int32) (x5 : Int32) (I : sI) (J : sJ) : Prop := ∃ n, w_X10_addWay_28_n post n x1 x3 x4 x5 I J
set_option maxHeartbeats 4000000 in
set_option maxRecDepth 100000 in
theorem t_X10_addWay_28_s {X : sX} {post : sI → sJ → Prop} (h : sOK X cX10_addWay RX10 6 3 66) (hr : sRt X none (sPv post)) {k28 : Int64 → Int32 → Int32 → Int32 → sI → sJ → Prop} (hk28 : ∀ (x1 : Int64) (x3 : Int32) (x4 : Int32) (x5 : Int32) (I : sI) (J : sJ), k28 x1 x3 x4 x5 I J → sG X 6 28 [(0, .ref 142), (1, .long x1), (3, .int x3), (4, .int x4), (5, .int x5)] [] I J) {x1 : Int64} {x3 : Int32} {x4 : Int32} {x5 : Int32} {I : sI} {J : sJ} (hw : w_X10_addWay_28_s post k28 x1 x3 x4 x5 I J) : sG X 6 28 [(0, .ref 142), (1, .long x1), (3, .int x3), (4, .int x4), (5, .int x5)] [] I J := by
  unfold w_X10_addWay_28_s at hw
  refine g_iload h 4 rfl dX10_addWay_28 ?_
  refine g_aload_n h rfl 0 rfl dX10_addWay_30 ?_
  refine g_get h is_142 fl_X10_24 fr_142_3 dX10_addWay_31 ?_
  refine g_aload_n h rfl 0 rfl dX10_addWay_34 ?_
  refine g_get h is_142 fl_X10_32 rfl dX10_addWay_35 ?_
  obtain ⟨hi38, hw⟩ := hw
  refine g_iald h ar_218 hi38 dX10_addWay_38 ?_
  refine g_icmp_ge (tgt := 65) h (by decide) dX10_addWay_39 (fun q39 => ?_) (fun q39 => ?_)
  · replace hw := hw.1 q39
    exact g_sub [0, 1, 2, 3, 4] rfl (t_X10_addWay_65 h hr hw)
  · replace hw := hw.2 q39
    refine g_aload_n h rfl 0 rfl dX10_addWay_42 ?_
    refine g_get h is_142 fl_X10_11 fr_142_0 dX10_addWay_43 ?_
    refine g_aload_n h rfl 0 rfl dX10_addWay_46 ?_
    refine g_get h is_142 fl_X10_32 rfl dX10_addWay_47 ?_
    obtain ⟨hi50, hw⟩ := hw
    refine g_aald (t := 3) h ar_143 (by decide) hi50 dX10_addWay_50 ?_
    refine g_iload h 4 rfl dX10_addWay_51 ?_
    obtain ⟨hi53, hw⟩ := hw
    refine g_lald h (el_7_24 ar_143 hi50) hi53 dX10_addWay_53 ?_
    refine g_lload_n h rfl 1 rfl dX10_addWay_54 ?_
    refine g_lcmp h dX10_addWay_55 ?_
    refine g_if_eq (tgt := 65) h (by decide) dX10_addWay_56 (fun q56 => ?_) (fun q56 => ?_)
    · replace hw := hw.1 q56
      exact g_sub [0, 1, 2, 3, 4] rfl (t_X10_addWay_65 h hr hw)
    · replace hw := hw.2 q56
      obtain ⟨v5_59, ev5_59⟩ : ∃ z : Int32, z = x5 + 1 := ⟨_, rfl⟩
      replace hw := hw v5_59 ev5_59
      refine g_iinc (v := v5_59) (lo2 := [(5, .int v5_59), (0, .ref 142), (1, .long x1), (3, .int x3), (4, .int x4)]) h 4 rfl (by rw [ev5_59]; rfl) (by decide) rfl dX10_addWay_59 ?_
      refine g_goto (tgt := 28) h (by decide) dX10_addWay_62 ?_
      exact g_sub [1, 2, 3, 4, 0] rfl (hk28 _ _ _ _ _ _ hw)
theorem t_X10_addWay_28 {X : sX} {post : sI → sJ → Prop} (h : sOK X cX10_addWay RX10 6 3 66) (hr : sRt X none (sPv post)) {x1 : Int64} {x3 : Int32} {x4 : Int32} {x5 : Int32} {I : sI} {J : sJ} (hw : w_X10_addWay_28 post x1 x3 x4 x5 I J) : sG X 6 28 [(0, .ref 142), (1, .long x1), (3, .int x3), (4, .int x4), (5, .int x5)] [] I J := by
  obtain ⟨n, hw⟩ := hw
  induction n generalizing x1 x3 x4 x5 I J with
  | zero => exact hw.elim
  | succ n ih => exact t_X10_addWay_28_s h hr (fun _ _ _ _ _ _ q => ih q) hw
def w_X10_addWay (a1 : Int64) (a3 : Int32) (I : sI) (J : sJ) (post : sI → sJ → Prop) : Prop :=
  w_X10_letterSums (a1 &&& ((J 142 6) ^^^ (-1))) I J (fun (r_10 : Int32) (I_10 : sI) (J_10 : sJ) => (w_X10_crowded r_10 I_10 J_10 (fun (r_18 : Int32) (I_18 : sI) (J_18 : sJ) => (((r_18 = 0 → w_X10_addWay_28 post a1 a3 r_10 0 I_18 J_18) ∧ (¬ r_18 = 0 → post I_18 J_18))))))
set_option maxHeartbeats 4000000 in
set_option maxRecDepth 100000 in
theorem t_X10_addWay {X : sX} {a1 : Int64} {a3 : Int32} {I : sI} {J : sJ} {post : sI → sJ → Prop} (h : sOK X cX10_addWay RX10 6 3 66) (hr : sRt X none (sPv post)) (hw : w_X10_addWay a1 a3 I J post) : sG X 6 0 [(0, .ref 142), (1, .long a1), (3, .int a3)] [] I J := by
  unfold w_X10_addWay at hw
  refine g_lload_n h rfl 1 rfl dX10_addWay_0 ?_
  refine g_aload_n h rfl 0 rfl dX10_addWay_1 ?_
  refine g_get h is_142 fl_X10_36 rfl dX10_addWay_2 ?_
  refine g_ldc2 h lc_X10_67 dX10_addWay_5 ?_
  refine g_lxor h dX10_addWay_8 ?_
  refine g_land h dX10_addWay_9 ?_
  refine g_callS [.long (a1 &&& ((J 142 6) ^^^ (-1)))] h (c_X10_letterSums X hw) sPi_v mw_X10_letterSums lk_X10_98 rfl ⟨by decide, by decide⟩ (Nat.le_of_ble_eq_true rfl) dX10_addWay_10 (sPi_k (fun r_10 I_10 J_10 hw => ?_))
  refine g_istore (lo2 := [(4, .int r_10), (0, .ref 142), (1, .long a1), (3, .int a3)]) h (by decide) rfl dX10_addWay_13 ?_
  refine g_aload_n h rfl 1 rfl dX10_addWay_15 ?_
  refine g_iload h 0 rfl dX10_addWay_16 ?_
  refine g_callV [.int r_10] h (c_X10_crowded X hw) sPi_v mw_X10_crowded lk_X10_102 is_142 rfl rfl ⟨by decide, by decide⟩ (Nat.le_of_ble_eq_true rfl) dX10_addWay_18 (sPi_k (fun r_18 I_18 J_18 hw => ?_))
  refine g_if_eq (tgt := 25) h (by decide) dX10_addWay_21 (fun q21 => ?_) (fun q21 => ?_)
  · replace hw := hw.1 q21
    refine g_iconst (v := 0) h (by decide) dX10_addWay_25 ?_
    refine g_istore (lo2 := [(5, .int 0), (4, .int r_10), (0, .ref 142), (1, .long a1), (3, .int a3)]) h (by decide) rfl dX10_addWay_26 ?_
    exact g_sub [2, 3, 4, 1, 0] rfl (t_X10_addWay_28 h hr hw)
  · replace hw := hw.2 q21
    exact g_vret h hr dX10_addWay_24 hw
theorem c_X10_addWay (X : sX) {a1 : Int64} {a3 : Int32} {I : sI} {J : sJ} {post : sI → sJ → Prop} (hw : w_X10_addWay a1 a3 I J post) : sCall X yX10_addWay cX10_addWay 6 none 3 66 [.ref 142, .long a1, .int a3] I J (sPv post) := sCall_of (by decide +kernel) (Nat.le_of_ble_eq_true rfl) (fun X h hr => t_X10_addWay h hr hw)
theorem dX10_add_0 : decode cX10_add 0 = .ok (.iconst 0, 1) := by decide +kernel
theorem dX10_add_1 : decode cX10_add 1 = .ok (.istore_n 3, 1) := by decide +kernel
theorem dX10_add_2 : decode cX10_add 2 = .ok (.iload_n 3, 1) := by decide +kernel
theorem dX10_add_3 : decode cX10_add 3 = .ok (.aload_n 1, 1) := by decide +kernel
theorem dX10_add_4 : decode cX10_add 4 = .ok (.getfield 51, 3) := by decide +kernel
theorem dX10_add_7 : decode cX10_add 7 = .ok (.if_icmp .ge 118, 3) := by decide +kernel
theorem dX10_add_10 : decode cX10_add 10 = .ok (.aload_n 0, 1) := by decide +kernel
theorem dX10_add_11 : decode cX10_add 11 = .ok (.getfield 32, 3) := by decide +kernel
theorem dX10_add_14 : decode cX10_add 14 = .ok (.bipush 24, 2) := by decide +kernel
theorem dX10_add_16 : decode cX10_add 16 = .ok (.if_icmp .ge 109, 3) := by decide +kernel
theorem dX10_add_19 : decode cX10_add 19 = .ok (.aload_n 1, 1) := by decide +kernel
theorem dX10_add_20 : decode cX10_add 20 = .ok (.iload_n 3, 1) := by decide +kernel
theorem dX10_add_21 : decode cX10_add 21 = .ok (.invokestatic 56, 3) := by decide +kernel
theorem dX10_add_24 : decode cX10_add 24 = .ok (.lstore 4, 2) := by decide +kernel
theorem dX10_add_26 : decode cX10_add 26 = .ok (.aload_n 0, 1) := by decide +kernel
theorem dX10_add_27 : decode cX10_add 27 = .ok (.getfield 24, 3) := by decide +kernel
theorem dX10_add_30 : decode cX10_add 30 = .ok (.aload_n 0, 1) := by decide +kernel
theorem dX10_add_31 : decode cX10_add 31 = .ok (.getfield 32, 3) := by decide +kernel
theorem dX10_add_34 : decode cX10_add 34 = .ok (.iconst 0, 1) := by decide +kernel
theorem dX10_add_35 : decode cX10_add 35 = .ok (.iastore, 1) := by decide +kernel
theorem dX10_add_36 : decode cX10_add 36 = .ok (.aload_n 0, 1) := by decide +kernel
theorem dX10_add_37 : decode cX10_add 37 = .ok (.getfield 28, 3) := by decide +kernel
theorem dX10_add_40 : decode cX10_add 40 = .ok (.aload_n 0, 1) := by decide +kernel
theorem dX10_add_41 : decode cX10_add 41 = .ok (.getfield 32, 3) := by decide +kernel
theorem dX10_add_44 : decode cX10_add 44 = .ok (.lload 4, 2) := by decide +kernel
theorem dX10_add_46 : decode cX10_add 46 = .ok (.aload_n 0, 1) := by decide +kernel
theorem dX10_add_47 : decode cX10_add 47 = .ok (.getfield 36, 3) := by decide +kernel
theorem dX10_add_50 : decode cX10_add 50 = .ok (.land, 1) := by decide +kernel
theorem dX10_add_51 : decode cX10_add 51 = .ok (.lastore, 1) := by decide +kernel
theorem dX10_add_52 : decode cX10_add 52 = .ok (.iconst 0, 1) := by decide +kernel
theorem dX10_add_53 : decode cX10_add 53 = .ok (.istore 6, 2) := by decide +kernel
theorem dX10_add_55 : decode cX10_add 55 = .ok (.iload 6, 2) := by decide +kernel
theorem dX10_add_57 : decode cX10_add 57 = .ok (.aload_n 2, 1) := by decide +kernel
theorem dX10_add_58 : decode cX10_add 58 = .ok (.getfield 60, 3) := by decide +kernel
theorem dX10_add_61 : decode cX10_add 61 = .ok (.if_icmp .ge 37, 3) := by decide +kernel
theorem dX10_add_64 : decode cX10_add 64 = .ok (.aload_n 0, 1) := by decide +kernel
theorem dX10_add_65 : decode cX10_add 65 = .ok (.aload_n 1, 1) := by decide +kernel
theorem dX10_add_66 : decode cX10_add 66 = .ok (.iload_n 3, 1) := by decide +kernel
theorem dX10_add_67 : decode cX10_add 67 = .ok (.aload_n 2, 1) := by decide +kernel
theorem dX10_add_68 : decode cX10_add 68 = .ok (.iload 6, 2) := by decide +kernel
theorem dX10_add_70 : decode cX10_add 70 = .ok (.invokevirtual 63, 3) := by decide +kernel
theorem dX10_add_73 : decode cX10_add 73 = .ok (.lstore 7, 2) := by decide +kernel
theorem dX10_add_75 : decode cX10_add 75 = .ok (.lload 7, 2) := by decide +kernel
theorem dX10_add_77 : decode cX10_add 77 = .ok (.ldc2_w 67, 3) := by decide +kernel
theorem dX10_add_80 : decode cX10_add 80 = .ok (.lcmp, 1) := by decide +kernel
theorem dX10_add_81 : decode cX10_add 81 = .ok (.ifCond .eq 11, 3) := by decide +kernel
theorem dX10_add_84 : decode cX10_add 84 = .ok (.aload_n 0, 1) := by decide +kernel
theorem dX10_add_85 : decode cX10_add 85 = .ok (.lload 7, 2) := by decide +kernel
theorem dX10_add_87 : decode cX10_add 87 = .ok (.iload 6, 2) := by decide +kernel
theorem dX10_add_89 : decode cX10_add 89 = .ok (.invokevirtual 69, 3) := by decide +kernel
theorem dX10_add_92 : decode cX10_add 92 = .ok (.iinc 6 1, 3) := by decide +kernel
theorem dX10_add_95 : decode cX10_add 95 = .ok (.goto (-40), 3) := by decide +kernel
theorem dX10_add_98 : decode cX10_add 98 = .ok (.aload_n 0, 1) := by decide +kernel
theorem dX10_add_99 : decode cX10_add 99 = .ok (.dup, 1) := by decide +kernel
theorem dX10_add_100 : decode cX10_add 100 = .ok (.getfield 36, 3) := by decide +kernel
theorem dX10_add_103 : decode cX10_add 103 = .ok (.lload 4, 2) := by decide +kernel
theorem dX10_add_105 : decode cX10_add 105 = .ok (.lor, 1) := by decide +kernel
theorem dX10_add_106 : decode cX10_add 106 = .ok (.putfield 36, 3) := by decide +kernel
theorem dX10_add_109 : decode cX10_add 109 = .ok (.aload_n 0, 1) := by decide +kernel
theorem dX10_add_110 : decode cX10_add 110 = .ok (.dup, 1) := by decide +kernel
theorem dX10_add_111 : decode cX10_add 111 = .ok (.getfield 32, 3) := by decide +kernel
theorem dX10_add_114 : decode cX10_add 114 = .ok (.iconst 1, 1) := by decide +kernel
theorem dX10_add_115 : decode cX10_add 115 = .ok (.iadd, 1) := by decide +kernel
theorem dX10_add_116 : decode cX10_add 116 = .ok (.putfield 32, 3) := by decide +kernel
theorem dX10_add_119 : decode cX10_add 119 = .ok (.iinc 3 1, 3) := by decide +kernel
theorem dX10_add_122 : decode cX10_add 122 = .ok (.goto (-120), 3) := by decide +kernel
theorem dX10_add_125 : decode cX10_add 125 = .ok (.return_, 1) := by decide +kernel
def w_X10_add_92 (h1 : Nat) (h2 : Nat) (post : sI → sJ → Prop) (k2 : Int32 → sI → sJ → Prop) (k55 : Int32 → Int64 → Int32 → sI → sJ → Prop) (x3 : Int32) (x4 : Int64) (x6 : Int32) (I : sI) (J : sJ) : Prop :=
  (∀ v6_92 : Int32, v6_92 = x6 + 1 → k55 x3 x4 v6_92 I J)
set_option maxHeartbeats 4000000 in
set_option maxRecDepth 100000 in
theorem t_X10_add_92 {X : sX} {h1 : Nat} {h2 : Nat} (ph1 : sIs h1 2) (ph2 : sIs h2 9) {post : sI → sJ → Prop} (h : sOK X cX10_add RX10 9 4 91) (hr : sRt X none (sPv post)) {k2 : Int32 → sI → sJ → Prop} (hk2 : ∀ (x3 : Int32) (I : sI) (J : sJ), k2 x3 I J → sG X 9 2 [(0, .ref 142), (1, .ref h1), (2, .ref h2), (3, .int x3)] [] I J) {k55 : Int32 → Int64 → Int32 → sI → sJ → Prop} (hk55 : ∀ (x3 : Int32) (x4 : Int64) (x6 : Int32) (I : sI) (J : sJ), k55 x3 x4 x6 I J → sG X 9 55 [(0, .ref 142), (1, .ref h1), (2, .ref h2), (3, .int x3), (4, .long x4), (6, .int x6)] [] I J) {x3 : Int32} {x4 : Int64} {x6 : Int32} {I : sI} {J : sJ} (hw : w_X10_add_92 h1 h2 post k2 k55 x3 x4 x6 I J) : sG X 9 92 [(0, .ref 142), (1, .ref h1), (2, .ref h2), (3, .int x3), (4, .long x4), (6, .int x6)] [] I J := by
  unfold w_X10_add_92 at hw
  obtain ⟨v6_92, ev6_92⟩ : ∃ z : Int32, z = x6 + 1 := ⟨_, rfl⟩
  replace hw := hw v6_92 ev6_92
  refine g_iinc (v := v6_92) (lo2 := [(6, .int v6_92), (0, .ref 142), (1, .ref h1), (2, .ref h2), (3, .int x3), (4, .long x4)]) h 5 rfl (by rw [ev6_92]; rfl) (by decide) rfl dX10_add_92 ?_
  refine g_goto (tgt := 55) h (by decide) dX10_add_95 ?_
  exact g_sub [1, 2, 3, 4, 5, 0] rfl (hk55 _ _ _ _ _ hw)
def w_X10_add_55_s (h1 : Nat) (h2 : Nat) (post : sI → sJ → Prop) (k2 : Int32 → sI → sJ → Prop) (k55 : Int32 → Int64 → Int32 → sI → sJ → Prop) (x3 : Int32) (x4 : Int64) (x6 : Int32) (I : sI) (J : sJ) : Prop :=
  (((I h2 2) ≤ x6 → (∀ J_106 : sJ, J_106 = sUJ J 142 6 ((J 142 6) ||| x4) → (∀ I_116 : sI, I_116 = sUI I 142 5 ((I 142 5) + 1) → (∀ v3_119 : Int32, v3_119 = x3 + 1 → k2 v3_119 I_116 J_106)))) ∧ (¬ (I h2 2) ≤ x6 → w_X10_spelt h1 x3 h2 x6 I J (fun (r_70 : Int64) (I_70 : sI) (J_70 : sJ) => ((((lg_cmp r_70 (-1)) = 0 → w_X10_add_92 h1 h2 post k2 k55 x3 x4 x6 I_70 J_70) ∧ (¬ (lg_cmp r_70 (-1)) = 0 → w_X10_addWay r_70 x6 I_70 J_70 (fun (I_89 : sI) (J_89 : sJ) => (w_X10_add_92 h1 h2 post k2 k55 x3 x4 x6 I_89 J_89))))))))
def w_X10_add_55_n (h1 : Nat) (h2 : Nat) (post : sI → sJ → Prop) (k2 : Int32 → sI → sJ → Prop) : Nat → Int32 → Int64 → Int32 → sI → sJ → Prop
  | 0 => fun _ _ _ _ _ => False
  | n + 1 => fun x3 x4 x6 I J => w_X10_add_55_s h1 h2 post k2 (w_X10_add_55_n h1 h2 post k2 n) x3 x4 x6 I J
def w_X10_add_55 (h1 : Nat) (h2 : Nat) (post : sI → sJ → Prop) (k2 : Int32 → sI → sJ → Prop) (x3 : Int32) (x4 : Int64) (x6 : Int32) (I : sI) (J : sJ) : Prop := ∃ n, w_X10_add_55_n h1 h2 post k2 n x3 x4 x6 I J
set_option maxHeartbeats 4000000 in
set_option maxRecDepth 100000 in
theorem t_X10_add_55_s {X : sX} {h1 : Nat} {h2 : Nat} (ph1 : sIs h1 2) (ph2 : sIs h2 9) {post : sI → sJ → Prop} (h : sOK X cX10_add RX10 9 4 91) (hr : sRt X none (sPv post)) {k2 : Int32 → sI → sJ → Prop} (hk2 : ∀ (x3 : Int32) (I : sI) (J : sJ), k2 x3 I J → sG X 9 2 [(0, .ref 142), (1, .ref h1), (2, .ref h2), (3, .int x3)] [] I J) {k55 : Int32 → Int64 → Int32 → sI → sJ → Prop} (hk55 : ∀ (x3 : Int32) (x4 : Int64) (x6 : Int32) (I : sI) (J : sJ), k55 x3 x4 x6 I J → sG X 9 55 [(0, .ref 142), (1, .ref h1), (2, .ref h2), (3, .int x3), (4, .long x4), (6, .int x6)] [] I J) {x3 : Int32} {x4 : Int64} {x6 : Int32} {I : sI} {J : sJ} (hw : w_X10_add_55_s h1 h2 post k2 k55 x3 x4 x6 I J) : sG X 9 55 [(0, .ref 142), (1, .ref h1), (2, .ref h2), (3, .int x3), (4, .long x4), (6, .int x6)] [] I J := by
  unfold w_X10_add_55_s at hw
  refine g_iload h 5 rfl dX10_add_55 ?_
  refine g_aload_n h rfl 2 rfl dX10_add_57 ?_
  refine g_get h ph2 fl_X10_60 rfl dX10_add_58 ?_
  refine g_icmp_ge (tgt := 98) h (by decide) dX10_add_61 (fun q61 => ?_) (fun q61 => ?_)
  · replace hw := hw.1 q61
    refine g_aload_n h rfl 0 rfl dX10_add_98 ?_
    refine g_dup h rfl dX10_add_99 ?_
    refine g_get h is_142 fl_X10_36 rfl dX10_add_100 ?_
    refine g_lload h 4 rfl dX10_add_103 ?_
    refine g_lor h dX10_add_105 ?_
    refine g_putJ h is_142 fl_X10_36 rfl rfl dX10_add_106 ?_
    refine g_nJ (fun J_106 eJ_106 => ?_)
    replace hw := hw J_106 eJ_106
    refine g_aload_n h rfl 0 rfl dX10_add_109 ?_
    refine g_dup h rfl dX10_add_110 ?_
    refine g_get h is_142 fl_X10_32 rfl dX10_add_111 ?_
    refine g_iconst (v := 1) h (by decide) dX10_add_114 ?_
    refine g_iadd h dX10_add_115 ?_
    refine g_putI h is_142 fl_X10_32 rfl rfl dX10_add_116 ?_
    refine g_nI (fun I_116 eI_116 => ?_)
    replace hw := hw I_116 eI_116
    obtain ⟨v3_119, ev3_119⟩ : ∃ z : Int32, z = x3 + 1 := ⟨_, rfl⟩
    replace hw := hw v3_119 ev3_119
    refine g_iinc (v := v3_119) (lo2 := [(3, .int v3_119), (0, .ref 142), (1, .ref h1), (2, .ref h2), (4, .long x4), (6, .int x6)]) h 3 rfl (by rw [ev3_119]; rfl) (by decide) rfl dX10_add_119 ?_
    refine g_goto (tgt := 2) h (by decide) dX10_add_122 ?_
    exact g_sub [1, 2, 3, 0] rfl (hk2 _ _ _ hw)
  · replace hw := hw.2 q61
    refine g_aload_n h rfl 0 rfl dX10_add_64 ?_
    refine g_aload_n h rfl 1 rfl dX10_add_65 ?_
    refine g_iload_n h rfl 3 rfl dX10_add_66 ?_
    refine g_aload_n h rfl 2 rfl dX10_add_67 ?_
    refine g_iload h 5 rfl dX10_add_68 ?_
    refine g_callV [.ref h1, .int x3, .ref h2, .int x6] h (c_X10_spelt X ph1 ph2 hw) sPl_v mw_X10_spelt lk_X10_63 is_142 rfl rfl ⟨by decide, by decide⟩ (Nat.le_of_ble_eq_true rfl) dX10_add_70 (sPl_k (fun r_70 I_70 J_70 hw => ?_))
    refine g_lstore (lo2 := [(7, .long r_70), (0, .ref 142), (1, .ref h1), (2, .ref h2), (3, .int x3), (4, .long x4), (6, .int x6)]) h (by decide) rfl dX10_add_73 ?_
    refine g_lload h 0 rfl dX10_add_75 ?_
    refine g_ldc2 h lc_X10_67 dX10_add_77 ?_
    refine g_lcmp h dX10_add_80 ?_
    refine g_if_eq (tgt := 92) h (by decide) dX10_add_81 (fun q81 => ?_) (fun q81 => ?_)
    · replace hw := hw.1 q81
      exact g_sub [1, 2, 3, 4, 5, 6] rfl (t_X10_add_92 ph1 ph2 h hr hk2 hk55 hw)
    · replace hw := hw.2 q81
      refine g_aload_n h rfl 1 rfl dX10_add_84 ?_
      refine g_lload h 0 rfl dX10_add_85 ?_
      refine g_iload h 6 rfl dX10_add_87 ?_
      refine g_callV [.long r_70, .int x6] h (c_X10_addWay X hw) sPv_v mw_X10_addWay lk_X10_69 is_142 rfl rfl ⟨by decide, by decide⟩ (Nat.le_of_ble_eq_true rfl) dX10_add_89 (sPv_k (fun I_89 J_89 hw => ?_))
      exact g_sub [1, 2, 3, 4, 5, 6] rfl (t_X10_add_92 ph1 ph2 h hr hk2 hk55 hw)
theorem t_X10_add_55 {X : sX} {h1 : Nat} {h2 : Nat} (ph1 : sIs h1 2) (ph2 : sIs h2 9) {post : sI → sJ → Prop} (h : sOK X cX10_add RX10 9 4 91) (hr : sRt X none (sPv post)) {k2 : Int32 → sI → sJ → Prop} (hk2 : ∀ (x3 : Int32) (I : sI) (J : sJ), k2 x3 I J → sG X 9 2 [(0, .ref 142), (1, .ref h1), (2, .ref h2), (3, .int x3)] [] I J) {x3 : Int32} {x4 : Int64} {x6 : Int32} {I : sI} {J : sJ} (hw : w_X10_add_55 h1 h2 post k2 x3 x4 x6 I J) : sG X 9 55 [(0, .ref 142), (1, .ref h1), (2, .ref h2), (3, .int x3), (4, .long x4), (6, .int x6)] [] I J := by
  obtain ⟨n, hw⟩ := hw
  induction n generalizing x3 x4 x6 I J with
  | zero => exact hw.elim
  | succ n ih => exact t_X10_add_55_s ph1 ph2 h hr hk2 (fun _ _ _ _ _ q => ih q) hw
def w_X10_add_2_s (h1 : Nat) (h2 : Nat) (post : sI → sJ → Prop) (k2 : Int32 → sI → sJ → Prop) (x3 : Int32) (I : sI) (J : sJ) : Prop :=
  (((I h1 3) ≤ x3 → post I J) ∧ (¬ (I h1 3) ≤ x3 → ((24 ≤ (I 142 5) → post I J) ∧ (¬ 24 ≤ (I 142 5) → w_X10_maskOf h1 x3 I J (fun (r_21 : Int64) (I_21 : sI) (J_21 : sJ) => ((vp_in (I_21 142 5) 24 ∧ (∀ I_35 : sI, I_35 = sUI I_21 218 (Int32.toNatClampNeg (I_21 142 5)) 0 → (vp_in (I_35 142 5) 24 ∧ (∀ J_51 : sJ, J_51 = sUJ J_21 219 (Int32.toNatClampNeg (I_35 142 5)) (r_21 &&& (J_21 142 6)) → w_X10_add_55 h1 h2 post k2 x3 r_21 0 I_35 J_51))))))))))
def w_X10_add_2_n (h1 : Nat) (h2 : Nat) (post : sI → sJ → Prop) : Nat → Int32 → sI → sJ → Prop
  | 0 => fun _ _ _ => False
  | n + 1 => fun x3 I J => w_X10_add_2_s h1 h2 post (w_X10_add_2_n h1 h2 post n) x3 I J
def w_X10_add_2 (h1 : Nat) (h2 : Nat) (post : sI → sJ → Prop) (x3 : Int32) (I : sI) (J : sJ) : Prop := ∃ n, w_X10_add_2_n h1 h2 post n x3 I J
set_option maxHeartbeats 4000000 in
set_option maxRecDepth 100000 in
theorem t_X10_add_2_s {X : sX} {h1 : Nat} {h2 : Nat} (ph1 : sIs h1 2) (ph2 : sIs h2 9) {post : sI → sJ → Prop} (h : sOK X cX10_add RX10 9 4 91) (hr : sRt X none (sPv post)) {k2 : Int32 → sI → sJ → Prop} (hk2 : ∀ (x3 : Int32) (I : sI) (J : sJ), k2 x3 I J → sG X 9 2 [(0, .ref 142), (1, .ref h1), (2, .ref h2), (3, .int x3)] [] I J) {x3 : Int32} {I : sI} {J : sJ} (hw : w_X10_add_2_s h1 h2 post k2 x3 I J) : sG X 9 2 [(0, .ref 142), (1, .ref h1), (2, .ref h2), (3, .int x3)] [] I J := by
  unfold w_X10_add_2_s at hw
  refine g_iload_n h rfl 3 rfl dX10_add_2 ?_
  refine g_aload_n h rfl 1 rfl dX10_add_3 ?_
  refine g_get h ph1 fl_X10_51 rfl dX10_add_4 ?_
  refine g_icmp_ge (tgt := 125) h (by decide) dX10_add_7 (fun q7 => ?_) (fun q7 => ?_)
  · replace hw := hw.1 q7
    exact g_vret h hr dX10_add_125 hw
  · replace hw := hw.2 q7
    refine g_aload_n h rfl 0 rfl dX10_add_10 ?_
    refine g_get h is_142 fl_X10_32 rfl dX10_add_11 ?_
    refine g_bipush (v := 24) h (by decide) dX10_add_14 ?_
    refine g_icmp_ge (tgt := 125) h (by decide) dX10_add_16 (fun q16 => ?_) (fun q16 => ?_)
    · replace hw := hw.1 q16
      exact g_vret h hr dX10_add_125 hw
    · replace hw := hw.2 q16
      refine g_aload_n h rfl 1 rfl dX10_add_19 ?_
      refine g_iload_n h rfl 3 rfl dX10_add_20 ?_
      refine g_callS [.ref h1, .int x3] h (c_X10_maskOf X ph1 hw) sPl_v mw_X10_maskOf lk_X10_56 rfl ⟨by decide, by decide⟩ (Nat.le_of_ble_eq_true rfl) dX10_add_21 (sPl_k (fun r_21 I_21 J_21 hw => ?_))
      refine g_lstore (lo2 := [(4, .long r_21), (0, .ref 142), (1, .ref h1), (2, .ref h2), (3, .int x3)]) h (by decide) rfl dX10_add_24 ?_
      refine g_aload_n h rfl 1 rfl dX10_add_26 ?_
      refine g_get h is_142 fl_X10_24 fr_142_3 dX10_add_27 ?_
      refine g_aload_n h rfl 1 rfl dX10_add_30 ?_
      refine g_get h is_142 fl_X10_32 rfl dX10_add_31 ?_
      refine g_iconst (v := 0) h (by decide) dX10_add_34 ?_
      obtain ⟨hi35, hw⟩ := hw
      refine g_iast h ar_218 hi35 dX10_add_35 ?_
      refine g_nI (fun I_35 eI_35 => ?_)
      replace hw := hw I_35 eI_35
      refine g_aload_n h rfl 1 rfl dX10_add_36 ?_
      refine g_get h is_142 fl_X10_28 fr_142_4 dX10_add_37 ?_
      refine g_aload_n h rfl 1 rfl dX10_add_40 ?_
      refine g_get h is_142 fl_X10_32 rfl dX10_add_41 ?_
      refine g_lload h 0 rfl dX10_add_44 ?_
      refine g_aload_n h rfl 1 rfl dX10_add_46 ?_
      refine g_get h is_142 fl_X10_36 rfl dX10_add_47 ?_
      refine g_land h dX10_add_50 ?_
      obtain ⟨hi51, hw⟩ := hw
      refine g_last h ar_219 hi51 dX10_add_51 ?_
      refine g_nJ (fun J_51 eJ_51 => ?_)
      replace hw := hw J_51 eJ_51
      refine g_iconst (v := 0) h (by decide) dX10_add_52 ?_
      refine g_istore (lo2 := [(6, .int 0), (4, .long r_21), (0, .ref 142), (1, .ref h1), (2, .ref h2), (3, .int x3)]) h (by decide) rfl dX10_add_53 ?_
      exact g_sub [2, 3, 4, 5, 1, 0] rfl (t_X10_add_55 ph1 ph2 h hr hk2 hw)
theorem t_X10_add_2 {X : sX} {h1 : Nat} {h2 : Nat} (ph1 : sIs h1 2) (ph2 : sIs h2 9) {post : sI → sJ → Prop} (h : sOK X cX10_add RX10 9 4 91) (hr : sRt X none (sPv post)) {x3 : Int32} {I : sI} {J : sJ} (hw : w_X10_add_2 h1 h2 post x3 I J) : sG X 9 2 [(0, .ref 142), (1, .ref h1), (2, .ref h2), (3, .int x3)] [] I J := by
  obtain ⟨n, hw⟩ := hw
  induction n generalizing x3 I J with
  | zero => exact hw.elim
  | succ n ih => exact t_X10_add_2_s ph1 ph2 h hr (fun _ _ _ q => ih q) hw
def w_X10_add (h1 : Nat) (h2 : Nat) (I : sI) (J : sJ) (post : sI → sJ → Prop) : Prop :=
  w_X10_add_2 h1 h2 post 0 I J
set_option maxHeartbeats 4000000 in
set_option maxRecDepth 100000 in
theorem t_X10_add {X : sX} {h1 : Nat} {h2 : Nat} (ph1 : sIs h1 2) (ph2 : sIs h2 9) {I : sI} {J : sJ} {post : sI → sJ → Prop} (h : sOK X cX10_add RX10 9 4 91) (hr : sRt X none (sPv post)) (hw : w_X10_add h1 h2 I J post) : sG X 9 0 [(0, .ref 142), (1, .ref h1), (2, .ref h2)] [] I J := by
  unfold w_X10_add at hw
  refine g_iconst (v := 0) h (by decide) dX10_add_0 ?_
  refine g_istore_n (lo2 := [(3, .int 0), (0, .ref 142), (1, .ref h1), (2, .ref h2)]) h rfl (by decide) rfl dX10_add_1 ?_
  exact g_sub [1, 2, 3, 0] rfl (t_X10_add_2 ph1 ph2 h hr hw)
theorem c_X10_add (X : sX) {h1 : Nat} {h2 : Nat} (ph1 : sIs h1 2) (ph2 : sIs h2 9) {I : sI} {J : sJ} {post : sI → sJ → Prop} (hw : w_X10_add h1 h2 I J post) : sCall X yX10_add cX10_add 9 none 4 91 [.ref 142, .ref h1, .ref h2] I J (sPv post) := sCall_of (by decide +kernel) (Nat.le_of_ble_eq_true rfl) (fun X h hr => t_X10_add ph1 ph2 h hr hw)
theorem dX11_sign_0 : decode cX11_sign 0 = .ok (.aload_n 0, 1) := by decide +kernel
theorem dX11_sign_1 : decode cX11_sign 1 = .ok (.getfield 12, 3) := by decide +kernel
theorem dX11_sign_4 : decode cX11_sign 4 = .ok (.getfield 106, 3) := by decide +kernel
theorem dX11_sign_7 : decode cX11_sign 7 = .ok (.iconst 4, 1) := by decide +kernel
theorem dX11_sign_8 : decode cX11_sign 8 = .ok (.iadd, 1) := by decide +kernel
theorem dX11_sign_9 : decode cX11_sign 9 = .ok (.bipush 80, 2) := by decide +kernel
theorem dX11_sign_11 : decode cX11_sign 11 = .ok (.if_icmp .le 5, 3) := by decide +kernel
theorem dX11_sign_14 : decode cX11_sign 14 = .ok (.iconst (-1), 1) := by decide +kernel
theorem dX11_sign_15 : decode cX11_sign 15 = .ok (.ireturn, 1) := by decide +kernel
theorem dX11_sign_16 : decode cX11_sign 16 = .ok (.bipush 24, 2) := by decide +kernel
theorem dX11_sign_18 : decode cX11_sign 18 = .ok (.istore_n 2, 1) := by decide +kernel
theorem dX11_sign_19 : decode cX11_sign 19 = .ok (.iload_n 2, 1) := by decide +kernel
theorem dX11_sign_20 : decode cX11_sign 20 = .ok (.ifCond .lt 23, 3) := by decide +kernel
theorem dX11_sign_23 : decode cX11_sign 23 = .ok (.aload_n 0, 1) := by decide +kernel
theorem dX11_sign_24 : decode cX11_sign 24 = .ok (.getfield 12, 3) := by decide +kernel
theorem dX11_sign_27 : decode cX11_sign 27 = .ok (.iload_n 1, 1) := by decide +kernel
theorem dX11_sign_28 : decode cX11_sign 28 = .ok (.iload_n 2, 1) := by decide +kernel
theorem dX11_sign_29 : decode cX11_sign 29 = .ok (.iushr, 1) := by decide +kernel
theorem dX11_sign_30 : decode cX11_sign 30 = .ok (.sipush 255, 3) := by decide +kernel
theorem dX11_sign_33 : decode cX11_sign 33 = .ok (.iand, 1) := by decide +kernel
theorem dX11_sign_34 : decode cX11_sign 34 = .ok (.invokevirtual 109, 3) := by decide +kernel
theorem dX11_sign_37 : decode cX11_sign 37 = .ok (.iinc 2 (-8), 3) := by decide +kernel
theorem dX11_sign_40 : decode cX11_sign 40 = .ok (.goto (-21), 3) := by decide +kernel
theorem dX11_sign_43 : decode cX11_sign 43 = .ok (.aload_n 0, 1) := by decide +kernel
theorem dX11_sign_44 : decode cX11_sign 44 = .ok (.getfield 12, 3) := by decide +kernel
theorem dX11_sign_47 : decode cX11_sign 47 = .ok (.getfield 106, 3) := by decide +kernel
theorem dX11_sign_50 : decode cX11_sign 50 = .ok (.ireturn, 1) := by decide +kernel
def w_X11_sign_19_s (post : Int32 → sI → sJ → Prop) (k19 : Int32 → Int32 → sI → sJ → Prop) (x1 : Int32) (x2 : Int32) (I : sI) (J : sJ) : Prop :=
  ((x2 < 0 → post (I 1 1) I J) ∧ (¬ x2 < 0 → w_X7_push (((x1.toUInt32 >>> (Int32.toUInt32 x2 &&& Int32.toUInt32 31)).toInt32) &&& 255) I J (fun (I_34 : sI) (J_34 : sJ) => ((∀ v2_37 : Int32, v2_37 = x2 + (-8) → k19 x1 v2_37 I_34 J_34)))))
def w_X11_sign_19_n (post : Int32 → sI → sJ → Prop) : Nat → Int32 → Int32 → sI → sJ → Prop
  | 0 => fun _ _ _ _ => False
  | n + 1 => fun x1 x2 I J => w_X11_sign_19_s post (w_X11_sign_19_n post n) x1 x2 I J
def w_X11_sign_19 (post : Int32 → sI → sJ → Prop) (x1 : Int32) (x2 : Int32) (I : sI) (J : sJ) : Prop := ∃ n, w_X11_sign_19_n post n x1 x2 I J
set_option maxHeartbeats 4000000 in
set_option maxRecDepth 100000 in
theorem t_X11_sign_19_s {X : sX} {post : Int32 → sI → sJ → Prop} (h : sOK X cX11_sign RX11 3 1 21) (hr : sRt X (some .int) (sPi post)) {k19 : Int32 → Int32 → sI → sJ → Prop} (hk19 : ∀ (x1 : Int32) (x2 : Int32) (I : sI) (J : sJ), k19 x1 x2 I J → sG X 3 19 [(0, .ref 0), (1, .int x1), (2, .int x2)] [] I J) {x1 : Int32} {x2 : Int32} {I : sI} {J : sJ} (hw : w_X11_sign_19_s post k19 x1 x2 I J) : sG X 3 19 [(0, .ref 0), (1, .int x1), (2, .int x2)] [] I J := by
  unfold w_X11_sign_19_s at hw
  refine g_iload_n h rfl 2 rfl dX11_sign_19 ?_
  refine g_if_lt (tgt := 43) h (by decide) dX11_sign_20 (fun q20 => ?_) (fun q20 => ?_)
  · replace hw := hw.1 q20
    refine g_aload_n h rfl 0 rfl dX11_sign_43 ?_
    refine g_get h is_0 fl_X11_12 fr_0_0 dX11_sign_44 ?_
    refine g_get h is_1 fl_X11_106 rfl dX11_sign_47 ?_
    exact g_iret h hr dX11_sign_50 hw
  · replace hw := hw.2 q20
    refine g_aload_n h rfl 0 rfl dX11_sign_23 ?_
    refine g_get h is_0 fl_X11_12 fr_0_0 dX11_sign_24 ?_
    refine g_iload_n h rfl 1 rfl dX11_sign_27 ?_
    refine g_iload_n h rfl 2 rfl dX11_sign_28 ?_
    refine g_iushr h dX11_sign_29 ?_
    refine g_sipush (v := 255) h (by decide) dX11_sign_30 ?_
    refine g_iand h dX11_sign_33 ?_
    refine g_callV [.int (((x1.toUInt32 >>> (Int32.toUInt32 x2 &&& Int32.toUInt32 31)).toInt32) &&& 255)] h (c_X7_push X hw) sPv_v mw_X7_push lk_X11_109 is_1 rfl rfl ⟨by decide, by decide⟩ (Nat.le_of_ble_eq_true rfl) dX11_sign_34 (sPv_k (fun I_34 J_34 hw => ?_))
    obtain ⟨v2_37, ev2_37⟩ : ∃ z : Int32, z = x2 + (-8) := ⟨_, rfl⟩
    replace hw := hw v2_37 ev2_37
    refine g_iinc (v := v2_37) (lo2 := [(2, .int v2_37), (0, .ref 0), (1, .int x1)]) h 2 rfl (by rw [ev2_37]; rfl) (by decide) rfl dX11_sign_37 ?_
    refine g_goto (tgt := 19) h (by decide) dX11_sign_40 ?_
    exact g_sub [1, 2, 0] rfl (hk19 _ _ _ _ hw)
theorem t_X11_sign_19 {X : sX} {post : Int32 → sI → sJ → Prop} (h : sOK X cX11_sign RX11 3 1 21) (hr : sRt X (some .int) (sPi post)) {x1 : Int32} {x2 : Int32} {I : sI} {J : sJ} (hw : w_X11_sign_19 post x1 x2 I J) : sG X 3 19 [(0, .ref 0), (1, .int x1), (2, .int x2)] [] I J := by
  obtain ⟨n, hw⟩ := hw
  induction n generalizing x1 x2 I J with
  | zero => exact hw.elim
  | succ n ih => exact t_X11_sign_19_s h hr (fun _ _ _ _ q => ih q) hw
def w_X11_sign (a1 : Int32) (I : sI) (J : sJ) (post : Int32 → sI → sJ → Prop) : Prop :=
  ((((I 1 1) + 4) ≤ 80 → w_X11_sign_19 post a1 24 I J) ∧ (¬ ((I 1 1) + 4) ≤ 80 → post (-1) I J))
set_option maxHeartbeats 4000000 in
set_option maxRecDepth 100000 in
theorem t_X11_sign {X : sX} {a1 : Int32} {I : sI} {J : sJ} {post : Int32 → sI → sJ → Prop} (h : sOK X cX11_sign RX11 3 1 21) (hr : sRt X (some .int) (sPi post)) (hw : w_X11_sign a1 I J post) : sG X 3 0 [(0, .ref 0), (1, .int a1)] [] I J := by
  unfold w_X11_sign at hw
  refine g_aload_n h rfl 0 rfl dX11_sign_0 ?_
  refine g_get h is_0 fl_X11_12 fr_0_0 dX11_sign_1 ?_
  refine g_get h is_1 fl_X11_106 rfl dX11_sign_4 ?_
  refine g_iconst (v := 4) h (by decide) dX11_sign_7 ?_
  refine g_iadd h dX11_sign_8 ?_
  refine g_bipush (v := 80) h (by decide) dX11_sign_9 ?_
  refine g_icmp_le (tgt := 16) h (by decide) dX11_sign_11 (fun q11 => ?_) (fun q11 => ?_)
  · replace hw := hw.1 q11
    refine g_bipush (v := 24) h (by decide) dX11_sign_16 ?_
    refine g_istore_n (lo2 := [(2, .int 24), (0, .ref 0), (1, .int a1)]) h rfl (by decide) rfl dX11_sign_18 ?_
    exact g_sub [1, 2, 0] rfl (t_X11_sign_19 h hr hw)
  · replace hw := hw.2 q11
    refine g_iconst (v := (-1)) h (by decide) dX11_sign_14 ?_
    exact g_iret h hr dX11_sign_15 hw
theorem c_X11_sign (X : sX) {a1 : Int32} {I : sI} {J : sJ} {post : Int32 → sI → sJ → Prop} (hw : w_X11_sign a1 I J post) : sCall X yX11_sign cX11_sign 3 (some .int) 1 21 [.ref 0, .int a1] I J (sPi post) := sCall_of (by decide +kernel) (Nat.le_of_ble_eq_true rfl) (fun X h hr => t_X11_sign h hr hw)
theorem dX11_end_0 : decode cX11_end 0 = .ok (.iload_n 1, 1) := by decide +kernel
theorem dX11_end_1 : decode cX11_end 1 = .ok (.ifCond .lt 14, 3) := by decide +kernel
theorem dX11_end_4 : decode cX11_end 4 = .ok (.iload_n 1, 1) := by decide +kernel
theorem dX11_end_5 : decode cX11_end 5 = .ok (.aload_n 0, 1) := by decide +kernel
theorem dX11_end_6 : decode cX11_end 6 = .ok (.getfield 12, 3) := by decide +kernel
theorem dX11_end_9 : decode cX11_end 9 = .ok (.getfield 106, 3) := by decide +kernel
theorem dX11_end_12 : decode cX11_end 12 = .ok (.if_icmp .le 5, 3) := by decide +kernel
theorem dX11_end_15 : decode cX11_end 15 = .ok (.iconst 0, 1) := by decide +kernel
theorem dX11_end_16 : decode cX11_end 16 = .ok (.ireturn, 1) := by decide +kernel
theorem dX11_end_17 : decode cX11_end 17 = .ok (.aload_n 0, 1) := by decide +kernel
theorem dX11_end_18 : decode cX11_end 18 = .ok (.getfield 12, 3) := by decide +kernel
theorem dX11_end_21 : decode cX11_end 21 = .ok (.iload_n 1, 1) := by decide +kernel
theorem dX11_end_22 : decode cX11_end 22 = .ok (.putfield 106, 3) := by decide +kernel
theorem dX11_end_25 : decode cX11_end 25 = .ok (.iconst 1, 1) := by decide +kernel
theorem dX11_end_26 : decode cX11_end 26 = .ok (.ireturn, 1) := by decide +kernel
def w_X11_end (a1 : Int32) (I : sI) (J : sJ) (post : Int32 → sI → sJ → Prop) : Prop :=
  ((a1 < 0 → post 0 I J) ∧ (¬ a1 < 0 → ((a1 ≤ (I 1 1) → (∀ I_22 : sI, I_22 = sUI I 1 1 a1 → post 1 I_22 J)) ∧ (¬ a1 ≤ (I 1 1) → post 0 I J))))
set_option maxHeartbeats 4000000 in
set_option maxRecDepth 100000 in
theorem t_X11_end {X : sX} {a1 : Int32} {I : sI} {J : sJ} {post : Int32 → sI → sJ → Prop} (h : sOK X cX11_end RX11 2 0 0) (hr : sRt X (some .boolean) (sPi post)) (hw : w_X11_end a1 I J post) : sG X 2 0 [(0, .ref 0), (1, .int a1)] [] I J := by
  unfold w_X11_end at hw
  refine g_iload_n h rfl 1 rfl dX11_end_0 ?_
  refine g_if_lt (tgt := 15) h (by decide) dX11_end_1 (fun q1 => ?_) (fun q1 => ?_)
  · replace hw := hw.1 q1
    refine g_iconst (v := 0) h (by decide) dX11_end_15 ?_
    exact g_zret h hr (Or.inl rfl) dX11_end_16 hw
  · replace hw := hw.2 q1
    refine g_iload_n h rfl 1 rfl dX11_end_4 ?_
    refine g_aload_n h rfl 0 rfl dX11_end_5 ?_
    refine g_get h is_0 fl_X11_12 fr_0_0 dX11_end_6 ?_
    refine g_get h is_1 fl_X11_106 rfl dX11_end_9 ?_
    refine g_icmp_le (tgt := 17) h (by decide) dX11_end_12 (fun q12 => ?_) (fun q12 => ?_)
    · replace hw := hw.1 q12
      refine g_aload_n h rfl 0 rfl dX11_end_17 ?_
      refine g_get h is_0 fl_X11_12 fr_0_0 dX11_end_18 ?_
      refine g_iload_n h rfl 1 rfl dX11_end_21 ?_
      refine g_putI h is_1 fl_X11_106 rfl rfl dX11_end_22 ?_
      refine g_nI (fun I_22 eI_22 => ?_)
      replace hw := hw I_22 eI_22
      refine g_iconst (v := 1) h (by decide) dX11_end_25 ?_
      exact g_zret h hr (Or.inr rfl) dX11_end_26 hw
    · replace hw := hw.2 q12
      refine g_iconst (v := 0) h (by decide) dX11_end_15 ?_
      exact g_zret h hr (Or.inl rfl) dX11_end_16 hw
theorem c_X11_end (X : sX) {a1 : Int32} {I : sI} {J : sJ} {post : Int32 → sI → sJ → Prop} (hw : w_X11_end a1 I J post) : sCall X yX11_end cX11_end 2 (some .boolean) 0 0 [.ref 0, .int a1] I J (sPi post) := sCall_of (by decide +kernel) (Nat.le_of_ble_eq_true rfl) (fun X h hr => t_X11_end h hr hw)
theorem dX11_disc_0 : decode cX11_disc 0 = .ok (.aload_n 0, 1) := by decide +kernel
theorem dX11_disc_1 : decode cX11_disc 1 = .ok (.getfield 12, 3) := by decide +kernel
theorem dX11_disc_4 : decode cX11_disc 4 = .ok (.invokevirtual 113, 3) := by decide +kernel
theorem dX11_disc_7 : decode cX11_disc 7 = .ok (.istore_n 1, 1) := by decide +kernel
theorem dX11_disc_8 : decode cX11_disc 8 = .ok (.iload_n 1, 1) := by decide +kernel
theorem dX11_disc_9 : decode cX11_disc 9 = .ok (.iconst (-1), 1) := by decide +kernel
theorem dX11_disc_10 : decode cX11_disc 10 = .ok (.if_icmp .ne 28, 3) := by decide +kernel
theorem dX11_disc_13 : decode cX11_disc 13 = .ok (.aload_n 0, 1) := by decide +kernel
theorem dX11_disc_14 : decode cX11_disc 14 = .ok (.getfield 19, 3) := by decide +kernel
theorem dX11_disc_17 : decode cX11_disc 17 = .ok (.getfield 117, 3) := by decide +kernel
theorem dX11_disc_20 : decode cX11_disc 20 = .ok (.aload_n 0, 1) := by decide +kernel
theorem dX11_disc_21 : decode cX11_disc 21 = .ok (.getfield 12, 3) := by decide +kernel
theorem dX11_disc_24 : decode cX11_disc 24 = .ok (.invokevirtual 120, 3) := by decide +kernel
theorem dX11_disc_27 : decode cX11_disc 27 = .ok (.aload_n 0, 1) := by decide +kernel
theorem dX11_disc_28 : decode cX11_disc 28 = .ok (.getfield 19, 3) := by decide +kernel
theorem dX11_disc_31 : decode cX11_disc 31 = .ok (.getfield 124, 3) := by decide +kernel
theorem dX11_disc_34 : decode cX11_disc 34 = .ok (.iconst 0, 1) := by decide +kernel
theorem dX11_disc_35 : decode cX11_disc 35 = .ok (.putfield 128, 3) := by decide +kernel
theorem dX11_disc_38 : decode cX11_disc 38 = .ok (.aload_n 0, 1) := by decide +kernel
theorem dX11_disc_39 : decode cX11_disc 39 = .ok (.getfield 12, 3) := by decide +kernel
theorem dX11_disc_42 : decode cX11_disc 42 = .ok (.iconst 0, 1) := by decide +kernel
theorem dX11_disc_43 : decode cX11_disc 43 = .ok (.putfield 106, 3) := by decide +kernel
theorem dX11_disc_46 : decode cX11_disc 46 = .ok (.iload_n 1, 1) := by decide +kernel
theorem dX11_disc_47 : decode cX11_disc 47 = .ok (.iconst (-1), 1) := by decide +kernel
theorem dX11_disc_48 : decode cX11_disc 48 = .ok (.if_icmp .ne 16, 3) := by decide +kernel
theorem dX11_disc_51 : decode cX11_disc 51 = .ok (.aload_n 0, 1) := by decide +kernel
theorem dX11_disc_52 : decode cX11_disc 52 = .ok (.getfield 19, 3) := by decide +kernel
theorem dX11_disc_55 : decode cX11_disc 55 = .ok (.getfield 117, 3) := by decide +kernel
theorem dX11_disc_58 : decode cX11_disc 58 = .ok (.getfield 131, 3) := by decide +kernel
theorem dX11_disc_61 : decode cX11_disc 61 = .ok (.goto 6, 3) := by decide +kernel
theorem dX11_disc_64 : decode cX11_disc 64 = .ok (.iconst (-1), 1) := by decide +kernel
theorem dX11_disc_65 : decode cX11_disc 65 = .ok (.iload_n 1, 1) := by decide +kernel
theorem dX11_disc_66 : decode cX11_disc 66 = .ok (.isub, 1) := by decide +kernel
theorem dX11_disc_67 : decode cX11_disc 67 = .ok (.ireturn, 1) := by decide +kernel
def w_X11_disc_38 (post : Int32 → sI → sJ → Prop) (x1 : Int32) (I : sI) (J : sJ) : Prop :=
  (∀ I_43 : sI, I_43 = sUI I 1 1 0 → ((¬ x1 = (-1) → post ((-1) - x1) I_43 J) ∧ (x1 = (-1) → post (I_43 4 3) I_43 J)))
set_option maxHeartbeats 4000000 in
set_option maxRecDepth 100000 in
theorem t_X11_disc_38 {X : sX} {post : Int32 → sI → sJ → Prop} (h : sOK X cX11_disc RX11 2 2 45) (hr : sRt X (some .int) (sPi post)) {x1 : Int32} {I : sI} {J : sJ} (hw : w_X11_disc_38 post x1 I J) : sG X 2 38 [(0, .ref 0), (1, .int x1)] [] I J := by
  unfold w_X11_disc_38 at hw
  refine g_aload_n h rfl 0 rfl dX11_disc_38 ?_
  refine g_get h is_0 fl_X11_12 fr_0_0 dX11_disc_39 ?_
  refine g_iconst (v := 0) h (by decide) dX11_disc_42 ?_
  refine g_putI h is_1 fl_X11_106 rfl rfl dX11_disc_43 ?_
  refine g_nI (fun I_43 eI_43 => ?_)
  replace hw := hw I_43 eI_43
  refine g_iload_n h rfl 1 rfl dX11_disc_46 ?_
  refine g_iconst (v := (-1)) h (by decide) dX11_disc_47 ?_
  refine g_icmp_ne (tgt := 64) h (by decide) dX11_disc_48 (fun q48 => ?_) (fun q48 => ?_)
  · replace hw := hw.1 q48
    refine g_iconst (v := (-1)) h (by decide) dX11_disc_64 ?_
    refine g_iload_n h rfl 1 rfl dX11_disc_65 ?_
    refine g_isub h dX11_disc_66 ?_
    exact g_iret h hr dX11_disc_67 hw
  · replace hw := hw.2 q48
    refine g_aload_n h rfl 0 rfl dX11_disc_51 ?_
    refine g_get h is_0 fl_X11_19 fr_0_1 dX11_disc_52 ?_
    refine g_get h is_3 fl_X11_117 fr_3_0 dX11_disc_55 ?_
    refine g_get h is_4 fl_X11_131 rfl dX11_disc_58 ?_
    refine g_goto (tgt := 67) h (by decide) dX11_disc_61 ?_
    exact g_iret h hr dX11_disc_67 hw
def w_X11_disc (I : sI) (J : sJ) (post : Int32 → sI → sJ → Prop) : Prop :=
  w_X7_faultAsDisc I J (fun (r_4 : Int32) (I_4 : sI) (J_4 : sJ) => (((¬ r_4 = (-1) → w_X11_disc_38 post r_4 I_4 J_4) ∧ (r_4 = (-1) → w_X2_fill 4 I_4 J_4 (fun (I_24 : sI) (J_24 : sJ) => ((∀ I_35 : sI, I_35 = sUI I_24 8 2 0 → w_X11_disc_38 post r_4 I_35 J_24)))))))
set_option maxHeartbeats 4000000 in
set_option maxRecDepth 100000 in
theorem t_X11_disc {X : sX} {I : sI} {J : sJ} {post : Int32 → sI → sJ → Prop} (h : sOK X cX11_disc RX11 2 2 45) (hr : sRt X (some .int) (sPi post)) (hw : w_X11_disc I J post) : sG X 2 0 [(0, .ref 0)] [] I J := by
  unfold w_X11_disc at hw
  refine g_aload_n h rfl 0 rfl dX11_disc_0 ?_
  refine g_get h is_0 fl_X11_12 fr_0_0 dX11_disc_1 ?_
  refine g_callV [] h (c_X7_faultAsDisc X hw) sPi_v mw_X7_faultAsDisc lk_X11_113 is_1 rfl rfl ⟨by decide, by decide⟩ (Nat.le_of_ble_eq_true rfl) dX11_disc_4 (sPi_k (fun r_4 I_4 J_4 hw => ?_))
  refine g_istore_n (lo2 := [(1, .int r_4), (0, .ref 0)]) h rfl (by decide) rfl dX11_disc_7 ?_
  refine g_iload_n h rfl 0 rfl dX11_disc_8 ?_
  refine g_iconst (v := (-1)) h (by decide) dX11_disc_9 ?_
  refine g_icmp_ne (tgt := 38) h (by decide) dX11_disc_10 (fun q10 => ?_) (fun q10 => ?_)
  · replace hw := hw.1 q10
    exact g_sub [1, 0] rfl (t_X11_disc_38 h hr hw)
  · replace hw := hw.2 q10
    refine g_aload_n h rfl 1 rfl dX11_disc_13 ?_
    refine g_get h is_0 fl_X11_19 fr_0_1 dX11_disc_14 ?_
    refine g_get h is_3 fl_X11_117 fr_3_0 dX11_disc_17 ?_
    refine g_aload_n h rfl 1 rfl dX11_disc_20 ?_
    refine g_get h is_0 fl_X11_12 fr_0_0 dX11_disc_21 ?_
    refine g_callV [.ref 1] h (c_X2_fill X is_4 hw) sPv_v mw_X2_fill lk_X11_120 is_4 rfl rfl ⟨by decide, by decide⟩ (Nat.le_of_ble_eq_true rfl) dX11_disc_24 (sPv_k (fun I_24 J_24 hw => ?_))
    refine g_aload_n h rfl 1 rfl dX11_disc_27 ?_
    refine g_get h is_0 fl_X11_19 fr_0_1 dX11_disc_28 ?_
    refine g_get h is_3 fl_X11_124 fr_3_1 dX11_disc_31 ?_
    refine g_iconst (v := 0) h (by decide) dX11_disc_34 ?_
    refine g_putI h is_8 fl_X11_128 rfl rfl dX11_disc_35 ?_
    refine g_nI (fun I_35 eI_35 => ?_)
    replace hw := hw I_35 eI_35
    exact g_sub [1, 0] rfl (t_X11_disc_38 h hr hw)
theorem c_X11_disc (X : sX) {I : sI} {J : sJ} {post : Int32 → sI → sJ → Prop} (hw : w_X11_disc I J post) : sCall X yX11_disc cX11_disc 2 (some .int) 2 45 [.ref 0] I J (sPi post) := sCall_of (by decide +kernel) (Nat.le_of_ble_eq_true rfl) (fun X h hr => t_X11_disc h hr hw)
theorem dX11_isTongue_0 : decode cX11_isTongue 0 = .ok (.iload_n 1, 1) := by decide +kernel
theorem dX11_isTongue_1 : decode cX11_isTongue 1 = .ok (.ifCond .lt 12, 3) := by decide +kernel
theorem dX11_isTongue_4 : decode cX11_isTongue 4 = .ok (.iload_n 1, 1) := by decide +kernel
theorem dX11_isTongue_5 : decode cX11_isTongue 5 = .ok (.iconst 4, 1) := by decide +kernel
theorem dX11_isTongue_6 : decode cX11_isTongue 6 = .ok (.if_icmp .ge 7, 3) := by decide +kernel
theorem dX11_isTongue_9 : decode cX11_isTongue 9 = .ok (.iconst 1, 1) := by decide +kernel
theorem dX11_isTongue_10 : decode cX11_isTongue 10 = .ok (.goto 4, 3) := by decide +kernel
theorem dX11_isTongue_13 : decode cX11_isTongue 13 = .ok (.iconst 0, 1) := by decide +kernel
theorem dX11_isTongue_14 : decode cX11_isTongue 14 = .ok (.ireturn, 1) := by decide +kernel
def w_X11_isTongue (a1 : Int32) (I : sI) (J : sJ) (post : Int32 → sI → sJ → Prop) : Prop :=
  ((a1 < 0 → post 0 I J) ∧ (¬ a1 < 0 → ((4 ≤ a1 → post 0 I J) ∧ (¬ 4 ≤ a1 → post 1 I J))))
set_option maxHeartbeats 4000000 in
set_option maxRecDepth 100000 in
theorem t_X11_isTongue {X : sX} {a1 : Int32} {I : sI} {J : sJ} {post : Int32 → sI → sJ → Prop} (h : sOK X cX11_isTongue RX11 2 0 0) (hr : sRt X (some .boolean) (sPi post)) (hw : w_X11_isTongue a1 I J post) : sG X 2 0 [(0, .ref 0), (1, .int a1)] [] I J := by
  unfold w_X11_isTongue at hw
  refine g_iload_n h rfl 1 rfl dX11_isTongue_0 ?_
  refine g_if_lt (tgt := 13) h (by decide) dX11_isTongue_1 (fun q1 => ?_) (fun q1 => ?_)
  · replace hw := hw.1 q1
    refine g_iconst (v := 0) h (by decide) dX11_isTongue_13 ?_
    exact g_zret h hr (Or.inl rfl) dX11_isTongue_14 hw
  · replace hw := hw.2 q1
    refine g_iload_n h rfl 1 rfl dX11_isTongue_4 ?_
    refine g_iconst (v := 4) h (by decide) dX11_isTongue_5 ?_
    refine g_icmp_ge (tgt := 13) h (by decide) dX11_isTongue_6 (fun q6 => ?_) (fun q6 => ?_)
    · replace hw := hw.1 q6
      refine g_iconst (v := 0) h (by decide) dX11_isTongue_13 ?_
      exact g_zret h hr (Or.inl rfl) dX11_isTongue_14 hw
    · replace hw := hw.2 q6
      refine g_iconst (v := 1) h (by decide) dX11_isTongue_9 ?_
      refine g_goto (tgt := 14) h (by decide) dX11_isTongue_10 ?_
      exact g_zret h hr (Or.inr rfl) dX11_isTongue_14 hw
theorem c_X11_isTongue (X : sX) {a1 : Int32} {I : sI} {J : sJ} {post : Int32 → sI → sJ → Prop} (hw : w_X11_isTongue a1 I J post) : sCall X yX11_isTongue cX11_isTongue 2 (some .boolean) 0 0 [.ref 0, .int a1] I J (sPi post) := sCall_of (by decide +kernel) (Nat.le_of_ble_eq_true rfl) (fun X h hr => t_X11_isTongue h hr hw)
theorem dX11_learn_0 : decode cX11_learn 0 = .ok (.aload_n 0, 1) := by decide +kernel
theorem dX11_learn_1 : decode cX11_learn 1 = .ok (.getfield 12, 3) := by decide +kernel
theorem dX11_learn_4 : decode cX11_learn 4 = .ok (.invokevirtual 143, 3) := by decide +kernel
theorem dX11_learn_7 : decode cX11_learn 7 = .ok (.istore_n 2, 1) := by decide +kernel
theorem dX11_learn_8 : decode cX11_learn 8 = .ok (.iload_n 2, 1) := by decide +kernel
theorem dX11_learn_9 : decode cX11_learn 9 = .ok (.iconst (-1), 1) := by decide +kernel
theorem dX11_learn_10 : decode cX11_learn 10 = .ok (.if_icmp .eq 7, 3) := by decide +kernel
theorem dX11_learn_13 : decode cX11_learn 13 = .ok (.iconst (-1), 1) := by decide +kernel
theorem dX11_learn_14 : decode cX11_learn 14 = .ok (.iload_n 2, 1) := by decide +kernel
theorem dX11_learn_15 : decode cX11_learn 15 = .ok (.isub, 1) := by decide +kernel
theorem dX11_learn_16 : decode cX11_learn 16 = .ok (.ireturn, 1) := by decide +kernel
theorem dX11_learn_17 : decode cX11_learn 17 = .ok (.aload_n 1, 1) := by decide +kernel
theorem dX11_learn_18 : decode cX11_learn 18 = .ok (.aload_n 0, 1) := by decide +kernel
theorem dX11_learn_19 : decode cX11_learn 19 = .ok (.getfield 12, 3) := by decide +kernel
theorem dX11_learn_22 : decode cX11_learn 22 = .ok (.invokevirtual 146, 3) := by decide +kernel
theorem dX11_learn_25 : decode cX11_learn 25 = .ok (.ifCond .eq 8, 3) := by decide +kernel
theorem dX11_learn_28 : decode cX11_learn 28 = .ok (.bipush (-101), 2) := by decide +kernel
theorem dX11_learn_30 : decode cX11_learn 30 = .ok (.goto 11, 3) := by decide +kernel
theorem dX11_learn_33 : decode cX11_learn 33 = .ok (.aload_n 1, 1) := by decide +kernel
theorem dX11_learn_34 : decode cX11_learn 34 = .ok (.aload_n 0, 1) := by decide +kernel
theorem dX11_learn_35 : decode cX11_learn 35 = .ok (.getfield 12, 3) := by decide +kernel
theorem dX11_learn_38 : decode cX11_learn 38 = .ok (.invokevirtual 150, 3) := by decide +kernel
theorem dX11_learn_41 : decode cX11_learn 41 = .ok (.ireturn, 1) := by decide +kernel
def w_X11_learn (h1 : Nat) (I : sI) (J : sJ) (post : Int32 → sI → sJ → Prop) : Prop :=
  w_X7_faultAsWord I J (fun (r_4 : Int32) (I_4 : sI) (J_4 : sJ) => (((r_4 = (-1) → w_X9_has h1 I_4 J_4 (fun (r_22 : Int32) (I_22 : sI) (J_22 : sJ) => (((r_22 = 0 → w_X9_add h1 I_22 J_22 (fun (r_38 : Int32) (I_38 : sI) (J_38 : sJ) => (post r_38 I_38 J_38))) ∧ (¬ r_22 = 0 → post (-101) I_22 J_22))))) ∧ (¬ r_4 = (-1) → post ((-1) - r_4) I_4 J_4))))
set_option maxHeartbeats 4000000 in
set_option maxRecDepth 100000 in
theorem t_X11_learn {X : sX} {h1 : Nat} (ph1 : sIs h1 9) {I : sI} {J : sJ} {post : Int32 → sI → sJ → Prop} (h : sOK X cX11_learn RX11 3 2 45) (hr : sRt X (some .int) (sPi post)) (hw : w_X11_learn h1 I J post) : sG X 3 0 [(0, .ref 0), (1, .ref h1)] [] I J := by
  unfold w_X11_learn at hw
  refine g_aload_n h rfl 0 rfl dX11_learn_0 ?_
  refine g_get h is_0 fl_X11_12 fr_0_0 dX11_learn_1 ?_
  refine g_callV [] h (c_X7_faultAsWord X hw) sPi_v mw_X7_faultAsWord lk_X11_143 is_1 rfl rfl ⟨by decide, by decide⟩ (Nat.le_of_ble_eq_true rfl) dX11_learn_4 (sPi_k (fun r_4 I_4 J_4 hw => ?_))
  refine g_istore_n (lo2 := [(2, .int r_4), (0, .ref 0), (1, .ref h1)]) h rfl (by decide) rfl dX11_learn_7 ?_
  refine g_iload_n h rfl 0 rfl dX11_learn_8 ?_
  refine g_iconst (v := (-1)) h (by decide) dX11_learn_9 ?_
  refine g_icmp_eq (tgt := 17) h (by decide) dX11_learn_10 (fun q10 => ?_) (fun q10 => ?_)
  · replace hw := hw.1 q10
    refine g_aload_n h rfl 2 rfl dX11_learn_17 ?_
    refine g_aload_n h rfl 1 rfl dX11_learn_18 ?_
    refine g_get h is_0 fl_X11_12 fr_0_0 dX11_learn_19 ?_
    refine g_callV [.ref 1] h (c_X9_has X ph1 hw) sPi_v mw_X9_has lk_X11_146 ph1 rfl rfl ⟨by decide, by decide⟩ (Nat.le_of_ble_eq_true rfl) dX11_learn_22 (sPi_k (fun r_22 I_22 J_22 hw => ?_))
    refine g_if_eq (tgt := 33) h (by decide) dX11_learn_25 (fun q25 => ?_) (fun q25 => ?_)
    · replace hw := hw.1 q25
      refine g_aload_n h rfl 2 rfl dX11_learn_33 ?_
      refine g_aload_n h rfl 1 rfl dX11_learn_34 ?_
      refine g_get h is_0 fl_X11_12 fr_0_0 dX11_learn_35 ?_
      refine g_callV [.ref 1] h (c_X9_add X ph1 hw) sPi_v mw_X9_add lk_X11_150 ph1 rfl rfl ⟨by decide, by decide⟩ (Nat.le_of_ble_eq_true rfl) dX11_learn_38 (sPi_k (fun r_38 I_38 J_38 hw => ?_))
      exact g_iret h hr dX11_learn_41 hw
    · replace hw := hw.2 q25
      refine g_bipush (v := (-101)) h (by decide) dX11_learn_28 ?_
      refine g_goto (tgt := 41) h (by decide) dX11_learn_30 ?_
      exact g_iret h hr dX11_learn_41 hw
  · replace hw := hw.2 q10
    refine g_iconst (v := (-1)) h (by decide) dX11_learn_13 ?_
    refine g_iload_n h rfl 0 rfl dX11_learn_14 ?_
    refine g_isub h dX11_learn_15 ?_
    exact g_iret h hr dX11_learn_16 hw
theorem c_X11_learn (X : sX) {h1 : Nat} (ph1 : sIs h1 9) {I : sI} {J : sJ} {post : Int32 → sI → sJ → Prop} (hw : w_X11_learn h1 I J post) : sCall X yX11_learn cX11_learn 3 (some .int) 2 45 [.ref 0, .ref h1] I J (sPi post) := sCall_of (by decide +kernel) (Nat.le_of_ble_eq_true rfl) (fun X h hr => t_X11_learn ph1 h hr hw)
theorem dX11_word_0 : decode cX11_word 0 = .ok (.bipush (-100), 2) := by decide +kernel
theorem dX11_word_2 : decode cX11_word 2 = .ok (.istore_n 2, 1) := by decide +kernel
theorem dX11_word_3 : decode cX11_word 3 = .ok (.aload_n 0, 1) := by decide +kernel
theorem dX11_word_4 : decode cX11_word 4 = .ok (.iload_n 1, 1) := by decide +kernel
theorem dX11_word_5 : decode cX11_word 5 = .ok (.invokevirtual 134, 3) := by decide +kernel
theorem dX11_word_8 : decode cX11_word 8 = .ok (.ifCond .eq 28, 3) := by decide +kernel
theorem dX11_word_11 : decode cX11_word 11 = .ok (.aload_n 0, 1) := by decide +kernel
theorem dX11_word_12 : decode cX11_word 12 = .ok (.getfield 33, 3) := by decide +kernel
theorem dX11_word_15 : decode cX11_word 15 = .ok (.iload_n 1, 1) := by decide +kernel
theorem dX11_word_16 : decode cX11_word 16 = .ok (.aaload, 1) := by decide +kernel
theorem dX11_word_17 : decode cX11_word 17 = .ok (.getfield 138, 3) := by decide +kernel
theorem dX11_word_20 : decode cX11_word 20 = .ok (.bipush 20, 2) := by decide +kernel
theorem dX11_word_22 : decode cX11_word 22 = .ok (.if_icmp .ge 14, 3) := by decide +kernel
theorem dX11_word_25 : decode cX11_word 25 = .ok (.aload_n 0, 1) := by decide +kernel
theorem dX11_word_26 : decode cX11_word 26 = .ok (.aload_n 0, 1) := by decide +kernel
theorem dX11_word_27 : decode cX11_word 27 = .ok (.getfield 33, 3) := by decide +kernel
theorem dX11_word_30 : decode cX11_word 30 = .ok (.iload_n 1, 1) := by decide +kernel
theorem dX11_word_31 : decode cX11_word 31 = .ok (.aaload, 1) := by decide +kernel
theorem dX11_word_32 : decode cX11_word 32 = .ok (.invokevirtual 139, 3) := by decide +kernel
theorem dX11_word_35 : decode cX11_word 35 = .ok (.istore_n 2, 1) := by decide +kernel
theorem dX11_word_36 : decode cX11_word 36 = .ok (.aload_n 0, 1) := by decide +kernel
theorem dX11_word_37 : decode cX11_word 37 = .ok (.getfield 12, 3) := by decide +kernel
theorem dX11_word_40 : decode cX11_word 40 = .ok (.iconst 0, 1) := by decide +kernel
theorem dX11_word_41 : decode cX11_word 41 = .ok (.putfield 106, 3) := by decide +kernel
theorem dX11_word_44 : decode cX11_word 44 = .ok (.iload_n 2, 1) := by decide +kernel
theorem dX11_word_45 : decode cX11_word 45 = .ok (.ireturn, 1) := by decide +kernel
def w_X11_word_36 (post : Int32 → sI → sJ → Prop) (x2 : Int32) (I : sI) (J : sJ) : Prop :=
  (∀ I_41 : sI, I_41 = sUI I 1 1 0 → post x2 I_41 J)
set_option maxHeartbeats 4000000 in
set_option maxRecDepth 100000 in
theorem t_X11_word_36 {X : sX} {post : Int32 → sI → sJ → Prop} (h : sOK X cX11_word RX11 3 3 67) (hr : sRt X (some .int) (sPi post)) {x2 : Int32} {I : sI} {J : sJ} (hw : w_X11_word_36 post x2 I J) : sG X 3 36 [(0, .ref 0), (2, .int x2)] [] I J := by
  unfold w_X11_word_36 at hw
  refine g_aload_n h rfl 0 rfl dX11_word_36 ?_
  refine g_get h is_0 fl_X11_12 fr_0_0 dX11_word_37 ?_
  refine g_iconst (v := 0) h (by decide) dX11_word_40 ?_
  refine g_putI h is_1 fl_X11_106 rfl rfl dX11_word_41 ?_
  refine g_nI (fun I_41 eI_41 => ?_)
  replace hw := hw I_41 eI_41
  refine g_iload_n h rfl 1 rfl dX11_word_44 ?_
  exact g_iret h hr dX11_word_45 hw
def w_X11_word (a1 : Int32) (I : sI) (J : sJ) (post : Int32 → sI → sJ → Prop) : Prop :=
  w_X11_isTongue a1 I J (fun (r_5 : Int32) (I_5 : sI) (J_5 : sJ) => (((r_5 = 0 → w_X11_word_36 post (-100) I_5 J_5) ∧ (¬ r_5 = 0 → (vp_in a1 4 ∧ ((20 ≤ (I_5 (sR 41 (Int32.toNatClampNeg a1)) 2) → w_X11_word_36 post (-100) I_5 J_5) ∧ (¬ 20 ≤ (I_5 (sR 41 (Int32.toNatClampNeg a1)) 2) → (vp_in a1 4 ∧ w_X11_learn (sR 41 (Int32.toNatClampNeg a1)) I_5 J_5 (fun (r_32 : Int32) (I_32 : sI) (J_32 : sJ) => (w_X11_word_36 post r_32 I_32 J_32))))))))))
set_option maxHeartbeats 4000000 in
set_option maxRecDepth 100000 in
theorem t_X11_word {X : sX} {a1 : Int32} {I : sI} {J : sJ} {post : Int32 → sI → sJ → Prop} (h : sOK X cX11_word RX11 3 3 67) (hr : sRt X (some .int) (sPi post)) (hw : w_X11_word a1 I J post) : sG X 3 0 [(0, .ref 0), (1, .int a1)] [] I J := by
  unfold w_X11_word at hw
  refine g_bipush (v := (-100)) h (by decide) dX11_word_0 ?_
  refine g_istore_n (lo2 := [(2, .int (-100)), (0, .ref 0), (1, .int a1)]) h rfl (by decide) rfl dX11_word_2 ?_
  refine g_aload_n h rfl 1 rfl dX11_word_3 ?_
  refine g_iload_n h rfl 2 rfl dX11_word_4 ?_
  refine g_callV [.int a1] h (c_X11_isTongue X hw) sPi_v mw_X11_isTongue lk_X11_134 is_0 rfl rfl ⟨by decide, by decide⟩ (Nat.le_of_ble_eq_true rfl) dX11_word_5 (sPi_k (fun r_5 I_5 J_5 hw => ?_))
  refine g_if_eq (tgt := 36) h (by decide) dX11_word_8 (fun q8 => ?_) (fun q8 => ?_)
  · replace hw := hw.1 q8
    exact g_sub [1, 0] rfl (t_X11_word_36 h hr hw)
  · replace hw := hw.2 q8
    refine g_aload_n h rfl 1 rfl dX11_word_11 ?_
    refine g_get h is_0 fl_X11_33 fr_0_4 dX11_word_12 ?_
    refine g_iload_n h rfl 2 rfl dX11_word_15 ?_
    obtain ⟨hi16, hw⟩ := hw
    refine g_aald (t := 1) h ar_41 (by decide) hi16 dX11_word_16 ?_
    refine g_get h (el_5_4 ar_41 hi16) fl_X11_138 rfl dX11_word_17 ?_
    refine g_bipush (v := 20) h (by decide) dX11_word_20 ?_
    refine g_icmp_ge (tgt := 36) h (by decide) dX11_word_22 (fun q22 => ?_) (fun q22 => ?_)
    · replace hw := hw.1 q22
      exact g_sub [1, 0] rfl (t_X11_word_36 h hr hw)
    · replace hw := hw.2 q22
      refine g_aload_n h rfl 1 rfl dX11_word_25 ?_
      refine g_aload_n h rfl 1 rfl dX11_word_26 ?_
      refine g_get h is_0 fl_X11_33 fr_0_4 dX11_word_27 ?_
      refine g_iload_n h rfl 2 rfl dX11_word_30 ?_
      obtain ⟨hi31, hw⟩ := hw
      refine g_aald (t := 1) h ar_41 (by decide) hi31 dX11_word_31 ?_
      refine g_callV [.ref (sR 41 (Int32.toNatClampNeg a1))] h (c_X11_learn X (el_5_4 ar_41 hi31) hw) sPi_v mw_X11_learn lk_X11_139 is_0 rfl rfl ⟨by decide, by decide⟩ (Nat.le_of_ble_eq_true rfl) dX11_word_32 (sPi_k (fun r_32 I_32 J_32 hw => ?_))
      refine g_istore_n (lo2 := [(2, .int r_32), (0, .ref 0), (1, .int a1)]) h rfl (by decide) rfl dX11_word_35 ?_
      exact g_sub [1, 0] rfl (t_X11_word_36 h hr hw)
theorem c_X11_word (X : sX) {a1 : Int32} {I : sI} {J : sJ} {post : Int32 → sI → sJ → Prop} (hw : w_X11_word a1 I J post) : sCall X yX11_word cX11_word 3 (some .int) 3 67 [.ref 0, .int a1] I J (sPi post) := sCall_of (by decide +kernel) (Nat.le_of_ble_eq_true rfl) (fun X h hr => t_X11_word h hr hw)
theorem dX11_laxness_0 : decode cX11_laxness 0 = .ok (.aload_n 0, 1) := by decide +kernel
theorem dX11_laxness_1 : decode cX11_laxness 1 = .ok (.getfield 12, 3) := by decide +kernel
theorem dX11_laxness_4 : decode cX11_laxness 4 = .ok (.invokevirtual 154, 3) := by decide +kernel
theorem dX11_laxness_7 : decode cX11_laxness 7 = .ok (.istore_n 1, 1) := by decide +kernel
theorem dX11_laxness_8 : decode cX11_laxness 8 = .ok (.iload_n 1, 1) := by decide +kernel
theorem dX11_laxness_9 : decode cX11_laxness 9 = .ok (.iconst (-1), 1) := by decide +kernel
theorem dX11_laxness_10 : decode cX11_laxness 10 = .ok (.if_icmp .ne 64, 3) := by decide +kernel
theorem dX11_laxness_13 : decode cX11_laxness 13 = .ok (.aload_n 0, 1) := by decide +kernel
theorem dX11_laxness_14 : decode cX11_laxness 14 = .ok (.getfield 19, 3) := by decide +kernel
theorem dX11_laxness_17 : decode cX11_laxness 17 = .ok (.aload_n 0, 1) := by decide +kernel
theorem dX11_laxness_18 : decode cX11_laxness 18 = .ok (.getfield 12, 3) := by decide +kernel
theorem dX11_laxness_21 : decode cX11_laxness 21 = .ok (.getfield 157, 3) := by decide +kernel
theorem dX11_laxness_24 : decode cX11_laxness 24 = .ok (.iconst 1, 1) := by decide +kernel
theorem dX11_laxness_25 : decode cX11_laxness 25 = .ok (.iaload, 1) := by decide +kernel
theorem dX11_laxness_26 : decode cX11_laxness 26 = .ok (.bipush 48, 2) := by decide +kernel
theorem dX11_laxness_28 : decode cX11_laxness 28 = .ok (.isub, 1) := by decide +kernel
theorem dX11_laxness_29 : decode cX11_laxness 29 = .ok (.putfield 160, 3) := by decide +kernel
theorem dX11_laxness_32 : decode cX11_laxness 32 = .ok (.aload_n 0, 1) := by decide +kernel
theorem dX11_laxness_33 : decode cX11_laxness 33 = .ok (.getfield 19, 3) := by decide +kernel
theorem dX11_laxness_36 : decode cX11_laxness 36 = .ok (.aload_n 0, 1) := by decide +kernel
theorem dX11_laxness_37 : decode cX11_laxness 37 = .ok (.getfield 12, 3) := by decide +kernel
theorem dX11_laxness_40 : decode cX11_laxness 40 = .ok (.getfield 157, 3) := by decide +kernel
theorem dX11_laxness_43 : decode cX11_laxness 43 = .ok (.iconst 3, 1) := by decide +kernel
theorem dX11_laxness_44 : decode cX11_laxness 44 = .ok (.iaload, 1) := by decide +kernel
theorem dX11_laxness_45 : decode cX11_laxness 45 = .ok (.bipush 48, 2) := by decide +kernel
theorem dX11_laxness_47 : decode cX11_laxness 47 = .ok (.isub, 1) := by decide +kernel
theorem dX11_laxness_48 : decode cX11_laxness 48 = .ok (.putfield 163, 3) := by decide +kernel
theorem dX11_laxness_51 : decode cX11_laxness 51 = .ok (.aload_n 0, 1) := by decide +kernel
theorem dX11_laxness_52 : decode cX11_laxness 52 = .ok (.getfield 19, 3) := by decide +kernel
theorem dX11_laxness_55 : decode cX11_laxness 55 = .ok (.aload_n 0, 1) := by decide +kernel
theorem dX11_laxness_56 : decode cX11_laxness 56 = .ok (.getfield 12, 3) := by decide +kernel
theorem dX11_laxness_59 : decode cX11_laxness 59 = .ok (.getfield 106, 3) := by decide +kernel
theorem dX11_laxness_62 : decode cX11_laxness 62 = .ok (.iconst 4, 1) := by decide +kernel
theorem dX11_laxness_63 : decode cX11_laxness 63 = .ok (.if_icmp .le 7, 3) := by decide +kernel
theorem dX11_laxness_66 : decode cX11_laxness 66 = .ok (.iconst 1, 1) := by decide +kernel
theorem dX11_laxness_67 : decode cX11_laxness 67 = .ok (.goto 4, 3) := by decide +kernel
theorem dX11_laxness_70 : decode cX11_laxness 70 = .ok (.iconst 0, 1) := by decide +kernel
theorem dX11_laxness_71 : decode cX11_laxness 71 = .ok (.putfield 166, 3) := by decide +kernel
theorem dX11_laxness_74 : decode cX11_laxness 74 = .ok (.aload_n 0, 1) := by decide +kernel
theorem dX11_laxness_75 : decode cX11_laxness 75 = .ok (.getfield 12, 3) := by decide +kernel
theorem dX11_laxness_78 : decode cX11_laxness 78 = .ok (.iconst 0, 1) := by decide +kernel
theorem dX11_laxness_79 : decode cX11_laxness 79 = .ok (.putfield 106, 3) := by decide +kernel
theorem dX11_laxness_82 : decode cX11_laxness 82 = .ok (.iload_n 1, 1) := by decide +kernel
theorem dX11_laxness_83 : decode cX11_laxness 83 = .ok (.iconst (-1), 1) := by decide +kernel
theorem dX11_laxness_84 : decode cX11_laxness 84 = .ok (.if_icmp .ne 7, 3) := by decide +kernel
theorem dX11_laxness_87 : decode cX11_laxness 87 = .ok (.iconst 0, 1) := by decide +kernel
theorem dX11_laxness_88 : decode cX11_laxness 88 = .ok (.goto 6, 3) := by decide +kernel
theorem dX11_laxness_91 : decode cX11_laxness 91 = .ok (.iconst (-1), 1) := by decide +kernel
theorem dX11_laxness_92 : decode cX11_laxness 92 = .ok (.iload_n 1, 1) := by decide +kernel
theorem dX11_laxness_93 : decode cX11_laxness 93 = .ok (.isub, 1) := by decide +kernel
theorem dX11_laxness_94 : decode cX11_laxness 94 = .ok (.ireturn, 1) := by decide +kernel
def w_X11_laxness_74 (post : Int32 → sI → sJ → Prop) (x1 : Int32) (I : sI) (J : sJ) : Prop :=
  (∀ I_79 : sI, I_79 = sUI I 1 1 0 → ((¬ x1 = (-1) → post ((-1) - x1) I_79 J) ∧ (x1 = (-1) → post 0 I_79 J)))
set_option maxHeartbeats 4000000 in
set_option maxRecDepth 100000 in
theorem t_X11_laxness_74 {X : sX} {post : Int32 → sI → sJ → Prop} (h : sOK X cX11_laxness RX11 2 2 42) (hr : sRt X (some .int) (sPi post)) {x1 : Int32} {I : sI} {J : sJ} (hw : w_X11_laxness_74 post x1 I J) : sG X 2 74 [(0, .ref 0), (1, .int x1)] [] I J := by
  unfold w_X11_laxness_74 at hw
  refine g_aload_n h rfl 0 rfl dX11_laxness_74 ?_
  refine g_get h is_0 fl_X11_12 fr_0_0 dX11_laxness_75 ?_
  refine g_iconst (v := 0) h (by decide) dX11_laxness_78 ?_
  refine g_putI h is_1 fl_X11_106 rfl rfl dX11_laxness_79 ?_
  refine g_nI (fun I_79 eI_79 => ?_)
  replace hw := hw I_79 eI_79
  refine g_iload_n h rfl 1 rfl dX11_laxness_82 ?_
  refine g_iconst (v := (-1)) h (by decide) dX11_laxness_83 ?_
  refine g_icmp_ne (tgt := 91) h (by decide) dX11_laxness_84 (fun q84 => ?_) (fun q84 => ?_)
  · replace hw := hw.1 q84
    refine g_iconst (v := (-1)) h (by decide) dX11_laxness_91 ?_
    refine g_iload_n h rfl 1 rfl dX11_laxness_92 ?_
    refine g_isub h dX11_laxness_93 ?_
    exact g_iret h hr dX11_laxness_94 hw
  · replace hw := hw.2 q84
    refine g_iconst (v := 0) h (by decide) dX11_laxness_87 ?_
    refine g_goto (tgt := 94) h (by decide) dX11_laxness_88 ?_
    exact g_iret h hr dX11_laxness_94 hw
def w_X11_laxness_71 (post : Int32 → sI → sJ → Prop) (x1 : Int32) (s0 : Int32) (I : sI) (J : sJ) : Prop :=
  (sZ s0 ∧ (∀ I_71 : sI, I_71 = sUI I 3 5 s0 → w_X11_laxness_74 post x1 I_71 J))
set_option maxHeartbeats 4000000 in
set_option maxRecDepth 100000 in
theorem t_X11_laxness_71 {X : sX} {post : Int32 → sI → sJ → Prop} (h : sOK X cX11_laxness RX11 2 2 42) (hr : sRt X (some .int) (sPi post)) {x1 : Int32} {s0 : Int32} {I : sI} {J : sJ} (hw : w_X11_laxness_71 post x1 s0 I J) : sG X 2 71 [(0, .ref 0), (1, .int x1)] [.int s0, .ref 3] I J := by
  unfold w_X11_laxness_71 at hw
  obtain ⟨hz71, hw⟩ := hw
  refine g_putZ h is_3 fl_X11_166 rfl rfl hz71 dX11_laxness_71 ?_
  refine g_nI (fun I_71 eI_71 => ?_)
  replace hw := hw I_71 eI_71
  exact g_sub [0, 1] rfl (t_X11_laxness_74 h hr hw)
def w_X11_laxness (I : sI) (J : sJ) (post : Int32 → sI → sJ → Prop) : Prop :=
  w_X7_faultAsLaxness I J (fun (r_4 : Int32) (I_4 : sI) (J_4 : sJ) => (((¬ r_4 = (-1) → w_X11_laxness_74 post r_4 I_4 J_4) ∧ (r_4 = (-1) → (vp_in 1 80 ∧ (∀ I_29 : sI, I_29 = sUI I_4 3 3 ((I_4 2 (Int32.toNatClampNeg 1)) - 48) → (vp_in 3 80 ∧ (∀ I_48 : sI, I_48 = sUI I_29 3 4 ((I_29 2 (Int32.toNatClampNeg 3)) - 48) → (((I_48 1 1) ≤ 4 → w_X11_laxness_71 post r_4 0 I_48 J_4) ∧ (¬ (I_48 1 1) ≤ 4 → w_X11_laxness_71 post r_4 1 I_48 J_4))))))))))
set_option maxHeartbeats 4000000 in
set_option maxRecDepth 100000 in
theorem t_X11_laxness {X : sX} {I : sI} {J : sJ} {post : Int32 → sI → sJ → Prop} (h : sOK X cX11_laxness RX11 2 2 42) (hr : sRt X (some .int) (sPi post)) (hw : w_X11_laxness I J post) : sG X 2 0 [(0, .ref 0)] [] I J := by
  unfold w_X11_laxness at hw
  refine g_aload_n h rfl 0 rfl dX11_laxness_0 ?_
  refine g_get h is_0 fl_X11_12 fr_0_0 dX11_laxness_1 ?_
  refine g_callV [] h (c_X7_faultAsLaxness X hw) sPi_v mw_X7_faultAsLaxness lk_X11_154 is_1 rfl rfl ⟨by decide, by decide⟩ (Nat.le_of_ble_eq_true rfl) dX11_laxness_4 (sPi_k (fun r_4 I_4 J_4 hw => ?_))
  refine g_istore_n (lo2 := [(1, .int r_4), (0, .ref 0)]) h rfl (by decide) rfl dX11_laxness_7 ?_
  refine g_iload_n h rfl 0 rfl dX11_laxness_8 ?_
  refine g_iconst (v := (-1)) h (by decide) dX11_laxness_9 ?_
  refine g_icmp_ne (tgt := 74) h (by decide) dX11_laxness_10 (fun q10 => ?_) (fun q10 => ?_)
  · replace hw := hw.1 q10
    exact g_sub [1, 0] rfl (t_X11_laxness_74 h hr hw)
  · replace hw := hw.2 q10
    refine g_aload_n h rfl 1 rfl dX11_laxness_13 ?_
    refine g_get h is_0 fl_X11_19 fr_0_1 dX11_laxness_14 ?_
    refine g_aload_n h rfl 1 rfl dX11_laxness_17 ?_
    refine g_get h is_0 fl_X11_12 fr_0_0 dX11_laxness_18 ?_
    refine g_get h is_1 fl_X11_157 fr_1_0 dX11_laxness_21 ?_
    refine g_iconst (v := 1) h (by decide) dX11_laxness_24 ?_
    obtain ⟨hi25, hw⟩ := hw
    refine g_iald h ar_2 hi25 dX11_laxness_25 ?_
    refine g_bipush (v := 48) h (by decide) dX11_laxness_26 ?_
    refine g_isub h dX11_laxness_28 ?_
    refine g_putI h is_3 fl_X11_160 rfl rfl dX11_laxness_29 ?_
    refine g_nI (fun I_29 eI_29 => ?_)
    replace hw := hw I_29 eI_29
    refine g_aload_n h rfl 1 rfl dX11_laxness_32 ?_
    refine g_get h is_0 fl_X11_19 fr_0_1 dX11_laxness_33 ?_
    refine g_aload_n h rfl 1 rfl dX11_laxness_36 ?_
    refine g_get h is_0 fl_X11_12 fr_0_0 dX11_laxness_37 ?_
    refine g_get h is_1 fl_X11_157 fr_1_0 dX11_laxness_40 ?_
    refine g_iconst (v := 3) h (by decide) dX11_laxness_43 ?_
    obtain ⟨hi44, hw⟩ := hw
    refine g_iald h ar_2 hi44 dX11_laxness_44 ?_
    refine g_bipush (v := 48) h (by decide) dX11_laxness_45 ?_
    refine g_isub h dX11_laxness_47 ?_
    refine g_putI h is_3 fl_X11_163 rfl rfl dX11_laxness_48 ?_
    refine g_nI (fun I_48 eI_48 => ?_)
    replace hw := hw I_48 eI_48
    refine g_aload_n h rfl 1 rfl dX11_laxness_51 ?_
    refine g_get h is_0 fl_X11_19 fr_0_1 dX11_laxness_52 ?_
    refine g_aload_n h rfl 1 rfl dX11_laxness_55 ?_
    refine g_get h is_0 fl_X11_12 fr_0_0 dX11_laxness_56 ?_
    refine g_get h is_1 fl_X11_106 rfl dX11_laxness_59 ?_
    refine g_iconst (v := 4) h (by decide) dX11_laxness_62 ?_
    refine g_icmp_le (tgt := 70) h (by decide) dX11_laxness_63 (fun q63 => ?_) (fun q63 => ?_)
    · replace hw := hw.1 q63
      refine g_iconst (v := 0) h (by decide) dX11_laxness_70 ?_
      exact g_sub [1, 0] rfl (t_X11_laxness_71 h hr hw)
    · replace hw := hw.2 q63
      refine g_iconst (v := 1) h (by decide) dX11_laxness_66 ?_
      refine g_goto (tgt := 71) h (by decide) dX11_laxness_67 ?_
      exact g_sub [1, 0] rfl (t_X11_laxness_71 h hr hw)
theorem c_X11_laxness (X : sX) {I : sI} {J : sJ} {post : Int32 → sI → sJ → Prop} (hw : w_X11_laxness I J post) : sCall X yX11_laxness cX11_laxness 2 (some .int) 2 42 [.ref 0] I J (sPi post) := sCall_of (by decide +kernel) (Nat.le_of_ble_eq_true rfl) (fun X h hr => t_X11_laxness h hr hw)
theorem dX11_forget_0 : decode cX11_forget 0 = .ok (.aload_n 0, 1) := by decide +kernel
theorem dX11_forget_1 : decode cX11_forget 1 = .ok (.iload_n 1, 1) := by decide +kernel
theorem dX11_forget_2 : decode cX11_forget 2 = .ok (.invokevirtual 134, 3) := by decide +kernel
theorem dX11_forget_5 : decode cX11_forget 5 = .ok (.ifCond .ne 5, 3) := by decide +kernel
theorem dX11_forget_8 : decode cX11_forget 8 = .ok (.iconst (-1), 1) := by decide +kernel
theorem dX11_forget_9 : decode cX11_forget 9 = .ok (.ireturn, 1) := by decide +kernel
theorem dX11_forget_10 : decode cX11_forget 10 = .ok (.aload_n 0, 1) := by decide +kernel
theorem dX11_forget_11 : decode cX11_forget 11 = .ok (.getfield 33, 3) := by decide +kernel
theorem dX11_forget_14 : decode cX11_forget 14 = .ok (.iload_n 1, 1) := by decide +kernel
theorem dX11_forget_15 : decode cX11_forget 15 = .ok (.aaload, 1) := by decide +kernel
theorem dX11_forget_16 : decode cX11_forget 16 = .ok (.getfield 138, 3) := by decide +kernel
theorem dX11_forget_19 : decode cX11_forget 19 = .ok (.istore_n 2, 1) := by decide +kernel
theorem dX11_forget_20 : decode cX11_forget 20 = .ok (.aload_n 0, 1) := by decide +kernel
theorem dX11_forget_21 : decode cX11_forget 21 = .ok (.getfield 33, 3) := by decide +kernel
theorem dX11_forget_24 : decode cX11_forget 24 = .ok (.iload_n 1, 1) := by decide +kernel
theorem dX11_forget_25 : decode cX11_forget 25 = .ok (.aaload, 1) := by decide +kernel
theorem dX11_forget_26 : decode cX11_forget 26 = .ok (.iconst 0, 1) := by decide +kernel
theorem dX11_forget_27 : decode cX11_forget 27 = .ok (.putfield 138, 3) := by decide +kernel
theorem dX11_forget_30 : decode cX11_forget 30 = .ok (.iload_n 2, 1) := by decide +kernel
theorem dX11_forget_31 : decode cX11_forget 31 = .ok (.ireturn, 1) := by decide +kernel
def w_X11_forget (a1 : Int32) (I : sI) (J : sJ) (post : Int32 → sI → sJ → Prop) : Prop :=
  w_X11_isTongue a1 I J (fun (r_2 : Int32) (I_2 : sI) (J_2 : sJ) => (((¬ r_2 = 0 → (vp_in a1 4 ∧ (∀ v2_19 : Int32, v2_19 = I_2 (sR 41 (Int32.toNatClampNeg a1)) 2 → (vp_in a1 4 ∧ (∀ I_27 : sI, I_27 = sUI I_2 (sR 41 (Int32.toNatClampNeg a1)) 2 0 → post v2_19 I_27 J_2))))) ∧ (r_2 = 0 → post (-1) I_2 J_2))))
set_option maxHeartbeats 4000000 in
set_option maxRecDepth 100000 in
theorem t_X11_forget {X : sX} {a1 : Int32} {I : sI} {J : sJ} {post : Int32 → sI → sJ → Prop} (h : sOK X cX11_forget RX11 3 1 21) (hr : sRt X (some .int) (sPi post)) (hw : w_X11_forget a1 I J post) : sG X 3 0 [(0, .ref 0), (1, .int a1)] [] I J := by
  unfold w_X11_forget at hw
  refine g_aload_n h rfl 0 rfl dX11_forget_0 ?_
  refine g_iload_n h rfl 1 rfl dX11_forget_1 ?_
  refine g_callV [.int a1] h (c_X11_isTongue X hw) sPi_v mw_X11_isTongue lk_X11_134 is_0 rfl rfl ⟨by decide, by decide⟩ (Nat.le_of_ble_eq_true rfl) dX11_forget_2 (sPi_k (fun r_2 I_2 J_2 hw => ?_))
  refine g_if_ne (tgt := 10) h (by decide) dX11_forget_5 (fun q5 => ?_) (fun q5 => ?_)
  · replace hw := hw.1 q5
    refine g_aload_n h rfl 0 rfl dX11_forget_10 ?_
    refine g_get h is_0 fl_X11_33 fr_0_4 dX11_forget_11 ?_
    refine g_iload_n h rfl 1 rfl dX11_forget_14 ?_
    obtain ⟨hi15, hw⟩ := hw
    refine g_aald (t := 1) h ar_41 (by decide) hi15 dX11_forget_15 ?_
    refine g_get h (el_5_4 ar_41 hi15) fl_X11_138 rfl dX11_forget_16 ?_
    refine g_ni (fun v2_19 ev2_19 => ?_)
    replace hw := hw v2_19 ev2_19
    refine g_istore_n (lo2 := [(2, .int v2_19), (0, .ref 0), (1, .int a1)]) h rfl (by decide) rfl dX11_forget_19 ?_
    refine g_aload_n h rfl 1 rfl dX11_forget_20 ?_
    refine g_get h is_0 fl_X11_33 fr_0_4 dX11_forget_21 ?_
    refine g_iload_n h rfl 2 rfl dX11_forget_24 ?_
    obtain ⟨hi25, hw⟩ := hw
    refine g_aald (t := 1) h ar_41 (by decide) hi25 dX11_forget_25 ?_
    refine g_iconst (v := 0) h (by decide) dX11_forget_26 ?_
    refine g_putI h (el_5_4 ar_41 hi25) fl_X11_138 rfl rfl dX11_forget_27 ?_
    refine g_nI (fun I_27 eI_27 => ?_)
    replace hw := hw I_27 eI_27
    refine g_iload_n h rfl 0 rfl dX11_forget_30 ?_
    exact g_iret h hr dX11_forget_31 hw
  · replace hw := hw.2 q5
    refine g_iconst (v := (-1)) h (by decide) dX11_forget_8 ?_
    exact g_iret h hr dX11_forget_9 hw
theorem c_X11_forget (X : sX) {a1 : Int32} {I : sI} {J : sJ} {post : Int32 → sI → sJ → Prop} (hw : w_X11_forget a1 I J post) : sCall X yX11_forget cX11_forget 3 (some .int) 1 21 [.ref 0, .int a1] I J (sPi post) := sCall_of (by decide +kernel) (Nat.le_of_ble_eq_true rfl) (fun X h hr => t_X11_forget h hr hw)
theorem dX11_isPlace_0 : decode cX11_isPlace 0 = .ok (.iload_n 1, 1) := by decide +kernel
theorem dX11_isPlace_1 : decode cX11_isPlace 1 = .ok (.ifCond .lt 21, 3) := by decide +kernel
theorem dX11_isPlace_4 : decode cX11_isPlace 4 = .ok (.iload_n 1, 1) := by decide +kernel
theorem dX11_isPlace_5 : decode cX11_isPlace 5 = .ok (.aload_n 0, 1) := by decide +kernel
theorem dX11_isPlace_6 : decode cX11_isPlace 6 = .ok (.getfield 19, 3) := by decide +kernel
theorem dX11_isPlace_9 : decode cX11_isPlace 9 = .ok (.getfield 117, 3) := by decide +kernel
theorem dX11_isPlace_12 : decode cX11_isPlace 12 = .ok (.getfield 179, 3) := by decide +kernel
theorem dX11_isPlace_15 : decode cX11_isPlace 15 = .ok (.if_icmp .ge 7, 3) := by decide +kernel
theorem dX11_isPlace_18 : decode cX11_isPlace 18 = .ok (.iconst 1, 1) := by decide +kernel
theorem dX11_isPlace_19 : decode cX11_isPlace 19 = .ok (.goto 4, 3) := by decide +kernel
theorem dX11_isPlace_22 : decode cX11_isPlace 22 = .ok (.iconst 0, 1) := by decide +kernel
theorem dX11_isPlace_23 : decode cX11_isPlace 23 = .ok (.ireturn, 1) := by decide +kernel
def w_X11_isPlace (a1 : Int32) (I : sI) (J : sJ) (post : Int32 → sI → sJ → Prop) : Prop :=
  ((a1 < 0 → post 0 I J) ∧ (¬ a1 < 0 → (((I 4 4) ≤ a1 → post 0 I J) ∧ (¬ (I 4 4) ≤ a1 → post 1 I J))))
set_option maxHeartbeats 4000000 in
set_option maxRecDepth 100000 in
theorem t_X11_isPlace {X : sX} {a1 : Int32} {I : sI} {J : sJ} {post : Int32 → sI → sJ → Prop} (h : sOK X cX11_isPlace RX11 2 0 0) (hr : sRt X (some .boolean) (sPi post)) (hw : w_X11_isPlace a1 I J post) : sG X 2 0 [(0, .ref 0), (1, .int a1)] [] I J := by
  unfold w_X11_isPlace at hw
  refine g_iload_n h rfl 1 rfl dX11_isPlace_0 ?_
  refine g_if_lt (tgt := 22) h (by decide) dX11_isPlace_1 (fun q1 => ?_) (fun q1 => ?_)
  · replace hw := hw.1 q1
    refine g_iconst (v := 0) h (by decide) dX11_isPlace_22 ?_
    exact g_zret h hr (Or.inl rfl) dX11_isPlace_23 hw
  · replace hw := hw.2 q1
    refine g_iload_n h rfl 1 rfl dX11_isPlace_4 ?_
    refine g_aload_n h rfl 0 rfl dX11_isPlace_5 ?_
    refine g_get h is_0 fl_X11_19 fr_0_1 dX11_isPlace_6 ?_
    refine g_get h is_3 fl_X11_117 fr_3_0 dX11_isPlace_9 ?_
    refine g_get h is_4 fl_X11_179 rfl dX11_isPlace_12 ?_
    refine g_icmp_ge (tgt := 22) h (by decide) dX11_isPlace_15 (fun q15 => ?_) (fun q15 => ?_)
    · replace hw := hw.1 q15
      refine g_iconst (v := 0) h (by decide) dX11_isPlace_22 ?_
      exact g_zret h hr (Or.inl rfl) dX11_isPlace_23 hw
    · replace hw := hw.2 q15
      refine g_iconst (v := 1) h (by decide) dX11_isPlace_18 ?_
      refine g_goto (tgt := 23) h (by decide) dX11_isPlace_19 ?_
      exact g_zret h hr (Or.inr rfl) dX11_isPlace_23 hw
theorem c_X11_isPlace (X : sX) {a1 : Int32} {I : sI} {J : sJ} {post : Int32 → sI → sJ → Prop} (hw : w_X11_isPlace a1 I J post) : sCall X yX11_isPlace cX11_isPlace 2 (some .boolean) 0 0 [.ref 0, .int a1] I J (sPi post) := sCall_of (by decide +kernel) (Nat.le_of_ble_eq_true rfl) (fun X h hr => t_X11_isPlace h hr hw)
theorem dX11_cannotRead_0 : decode cX11_cannotRead 0 = .ok (.aload_n 0, 1) := by decide +kernel
theorem dX11_cannotRead_1 : decode cX11_cannotRead 1 = .ok (.iload_n 1, 1) := by decide +kernel
theorem dX11_cannotRead_2 : decode cX11_cannotRead 2 = .ok (.invokevirtual 134, 3) := by decide +kernel
theorem dX11_cannotRead_5 : decode cX11_cannotRead 5 = .ok (.ifCond .eq 16, 3) := by decide +kernel
theorem dX11_cannotRead_8 : decode cX11_cannotRead 8 = .ok (.aload_n 0, 1) := by decide +kernel
theorem dX11_cannotRead_9 : decode cX11_cannotRead 9 = .ok (.getfield 19, 3) := by decide +kernel
theorem dX11_cannotRead_12 : decode cX11_cannotRead 12 = .ok (.getfield 117, 3) := by decide +kernel
theorem dX11_cannotRead_15 : decode cX11_cannotRead 15 = .ok (.getfield 131, 3) := by decide +kernel
theorem dX11_cannotRead_18 : decode cX11_cannotRead 18 = .ok (.ifCond .ne 7, 3) := by decide +kernel
theorem dX11_cannotRead_21 : decode cX11_cannotRead 21 = .ok (.iconst 1, 1) := by decide +kernel
theorem dX11_cannotRead_22 : decode cX11_cannotRead 22 = .ok (.goto 4, 3) := by decide +kernel
theorem dX11_cannotRead_25 : decode cX11_cannotRead 25 = .ok (.iconst 0, 1) := by decide +kernel
theorem dX11_cannotRead_26 : decode cX11_cannotRead 26 = .ok (.ireturn, 1) := by decide +kernel
def w_X11_cannotRead_21 (post : Int32 → sI → sJ → Prop) (I : sI) (J : sJ) : Prop :=
  post 1 I J
set_option maxHeartbeats 4000000 in
set_option maxRecDepth 100000 in
theorem t_X11_cannotRead_21 {X : sX} {post : Int32 → sI → sJ → Prop} (h : sOK X cX11_cannotRead RX11 2 1 21) (hr : sRt X (some .boolean) (sPi post)) {I : sI} {J : sJ} (hw : w_X11_cannotRead_21 post I J) : sG X 2 21 [] [] I J := by
  unfold w_X11_cannotRead_21 at hw
  refine g_iconst (v := 1) h (by decide) dX11_cannotRead_21 ?_
  refine g_goto (tgt := 26) h (by decide) dX11_cannotRead_22 ?_
  exact g_zret h hr (Or.inr rfl) dX11_cannotRead_26 hw
def w_X11_cannotRead (a1 : Int32) (I : sI) (J : sJ) (post : Int32 → sI → sJ → Prop) : Prop :=
  w_X11_isTongue a1 I J (fun (r_2 : Int32) (I_2 : sI) (J_2 : sJ) => (((r_2 = 0 → w_X11_cannotRead_21 post I_2 J_2) ∧ (¬ r_2 = 0 → ((¬ (I_2 4 3) = 0 → post 0 I_2 J_2) ∧ ((I_2 4 3) = 0 → w_X11_cannotRead_21 post I_2 J_2))))))
set_option maxHeartbeats 4000000 in
set_option maxRecDepth 100000 in
theorem t_X11_cannotRead {X : sX} {a1 : Int32} {I : sI} {J : sJ} {post : Int32 → sI → sJ → Prop} (h : sOK X cX11_cannotRead RX11 2 1 21) (hr : sRt X (some .boolean) (sPi post)) (hw : w_X11_cannotRead a1 I J post) : sG X 2 0 [(0, .ref 0), (1, .int a1)] [] I J := by
  unfold w_X11_cannotRead at hw
  refine g_aload_n h rfl 0 rfl dX11_cannotRead_0 ?_
  refine g_iload_n h rfl 1 rfl dX11_cannotRead_1 ?_
  refine g_callV [.int a1] h (c_X11_isTongue X hw) sPi_v mw_X11_isTongue lk_X11_134 is_0 rfl rfl ⟨by decide, by decide⟩ (Nat.le_of_ble_eq_true rfl) dX11_cannotRead_2 (sPi_k (fun r_2 I_2 J_2 hw => ?_))
  refine g_if_eq (tgt := 21) h (by decide) dX11_cannotRead_5 (fun q5 => ?_) (fun q5 => ?_)
  · replace hw := hw.1 q5
    exact g_sub [] rfl (t_X11_cannotRead_21 h hr hw)
  · replace hw := hw.2 q5
    refine g_aload_n h rfl 0 rfl dX11_cannotRead_8 ?_
    refine g_get h is_0 fl_X11_19 fr_0_1 dX11_cannotRead_9 ?_
    refine g_get h is_3 fl_X11_117 fr_3_0 dX11_cannotRead_12 ?_
    refine g_get h is_4 fl_X11_131 rfl dX11_cannotRead_15 ?_
    refine g_if_ne (tgt := 25) h (by decide) dX11_cannotRead_18 (fun q18 => ?_) (fun q18 => ?_)
    · replace hw := hw.1 q18
      refine g_iconst (v := 0) h (by decide) dX11_cannotRead_25 ?_
      exact g_zret h hr (Or.inl rfl) dX11_cannotRead_26 hw
    · replace hw := hw.2 q18
      exact g_sub [] rfl (t_X11_cannotRead_21 h hr hw)
theorem c_X11_cannotRead (X : sX) {a1 : Int32} {I : sI} {J : sJ} {post : Int32 → sI → sJ → Prop} (hw : w_X11_cannotRead a1 I J post) : sCall X yX11_cannotRead cX11_cannotRead 2 (some .boolean) 1 21 [.ref 0, .int a1] I J (sPi post) := sCall_of (by decide +kernel) (Nat.le_of_ble_eq_true rfl) (fun X h hr => t_X11_cannotRead h hr hw)
theorem dX11_read_0 : decode cX11_read 0 = .ok (.aload_n 0, 1) := by decide +kernel
theorem dX11_read_1 : decode cX11_read 1 = .ok (.getfield 58, 3) := by decide +kernel
theorem dX11_read_4 : decode cX11_read 4 = .ok (.aload_n 0, 1) := by decide +kernel
theorem dX11_read_5 : decode cX11_read 5 = .ok (.getfield 19, 3) := by decide +kernel
theorem dX11_read_8 : decode cX11_read 8 = .ok (.getfield 160, 3) := by decide +kernel
theorem dX11_read_11 : decode cX11_read 11 = .ok (.aload_n 0, 1) := by decide +kernel
theorem dX11_read_12 : decode cX11_read 12 = .ok (.getfield 19, 3) := by decide +kernel
theorem dX11_read_15 : decode cX11_read 15 = .ok (.getfield 163, 3) := by decide +kernel
theorem dX11_read_18 : decode cX11_read 18 = .ok (.aload_n 0, 1) := by decide +kernel
theorem dX11_read_19 : decode cX11_read 19 = .ok (.getfield 19, 3) := by decide +kernel
theorem dX11_read_22 : decode cX11_read 22 = .ok (.getfield 166, 3) := by decide +kernel
theorem dX11_read_25 : decode cX11_read 25 = .ok (.invokevirtual 240, 3) := by decide +kernel
theorem dX11_read_28 : decode cX11_read 28 = .ok (.aload_n 0, 1) := by decide +kernel
theorem dX11_read_29 : decode cX11_read 29 = .ok (.getfield 58, 3) := by decide +kernel
theorem dX11_read_32 : decode cX11_read 32 = .ok (.aload_n 1, 1) := by decide +kernel
theorem dX11_read_33 : decode cX11_read 33 = .ok (.aload_n 0, 1) := by decide +kernel
theorem dX11_read_34 : decode cX11_read 34 = .ok (.getfield 33, 3) := by decide +kernel
theorem dX11_read_37 : decode cX11_read 37 = .ok (.iload_n 2, 1) := by decide +kernel
theorem dX11_read_38 : decode cX11_read 38 = .ok (.aaload, 1) := by decide +kernel
theorem dX11_read_39 : decode cX11_read 39 = .ok (.invokevirtual 244, 3) := by decide +kernel
theorem dX11_read_42 : decode cX11_read 42 = .ok (.aload_n 0, 1) := by decide +kernel
theorem dX11_read_43 : decode cX11_read 43 = .ok (.getfield 67, 3) := by decide +kernel
theorem dX11_read_46 : decode cX11_read 46 = .ok (.aload_n 0, 1) := by decide +kernel
theorem dX11_read_47 : decode cX11_read 47 = .ok (.getfield 58, 3) := by decide +kernel
theorem dX11_read_50 : decode cX11_read 50 = .ok (.getfield 247, 3) := by decide +kernel
theorem dX11_read_53 : decode cX11_read 53 = .ok (.iload_n 3, 1) := by decide +kernel
theorem dX11_read_54 : decode cX11_read 54 = .ok (.iload 4, 2) := by decide +kernel
theorem dX11_read_56 : decode cX11_read 56 = .ok (.invokevirtual 248, 3) := by decide +kernel
theorem dX11_read_59 : decode cX11_read 59 = .ok (.return_, 1) := by decide +kernel
def w_X11_read (h1 : Nat) (a2 : Int32) (a3 : Int32) (a4 : Int32) (I : sI) (J : sJ) (post : sI → sJ → Prop) : Prop :=
  w_X10_open (I 3 3) (I 3 4) (I 3 5) I J (fun (I_25 : sI) (J_25 : sJ) => ((vp_in a2 4 ∧ w_X10_add h1 (sR 41 (Int32.toNatClampNeg a2)) I_25 J_25 (fun (I_39 : sI) (J_39 : sJ) => (w_X5_run (I_39 142 5) a3 a4 I_39 J_39 (fun (I_56 : sI) (J_56 : sJ) => (post I_56 J_56)))))))
set_option maxHeartbeats 4000000 in
set_option maxRecDepth 100000 in
theorem t_X11_read {X : sX} {h1 : Nat} {a2 : Int32} {a3 : Int32} {a4 : Int32} (ph1 : sIs h1 2) {I : sI} {J : sJ} {post : sI → sJ → Prop} (h : sOK X cX11_read RX11 5 32 949) (hr : sRt X none (sPv post)) (hw : w_X11_read h1 a2 a3 a4 I J post) : sG X 5 0 [(0, .ref 0), (1, .ref h1), (2, .int a2), (3, .int a3), (4, .int a4)] [] I J := by
  unfold w_X11_read at hw
  refine g_aload_n h rfl 0 rfl dX11_read_0 ?_
  refine g_get h is_0 fl_X11_58 fr_0_8 dX11_read_1 ?_
  refine g_aload_n h rfl 0 rfl dX11_read_4 ?_
  refine g_get h is_0 fl_X11_19 fr_0_1 dX11_read_5 ?_
  refine g_get h is_3 fl_X11_160 rfl dX11_read_8 ?_
  refine g_aload_n h rfl 0 rfl dX11_read_11 ?_
  refine g_get h is_0 fl_X11_19 fr_0_1 dX11_read_12 ?_
  refine g_get h is_3 fl_X11_163 rfl dX11_read_15 ?_
  refine g_aload_n h rfl 0 rfl dX11_read_18 ?_
  refine g_get h is_0 fl_X11_19 fr_0_1 dX11_read_19 ?_
  refine g_get h is_3 fl_X11_166 rfl dX11_read_22 ?_
  refine g_callV [.int (I 3 3), .int (I 3 4), .int (I 3 5)] h (c_X10_open X hw) sPv_v mw_X10_open lk_X11_240 is_142 rfl rfl ⟨by decide, by decide⟩ (Nat.le_of_ble_eq_true rfl) dX11_read_25 (sPv_k (fun I_25 J_25 hw => ?_))
  refine g_aload_n h rfl 0 rfl dX11_read_28 ?_
  refine g_get h is_0 fl_X11_58 fr_0_8 dX11_read_29 ?_
  refine g_aload_n h rfl 1 rfl dX11_read_32 ?_
  refine g_aload_n h rfl 0 rfl dX11_read_33 ?_
  refine g_get h is_0 fl_X11_33 fr_0_4 dX11_read_34 ?_
  refine g_iload_n h rfl 2 rfl dX11_read_37 ?_
  obtain ⟨hi38, hw⟩ := hw
  refine g_aald (t := 1) h ar_41 (by decide) hi38 dX11_read_38 ?_
  refine g_callV [.ref h1, .ref (sR 41 (Int32.toNatClampNeg a2))] h (c_X10_add X ph1 (el_5_4 ar_41 hi38) hw) sPv_v mw_X10_add lk_X11_244 is_142 rfl rfl ⟨by decide, by decide⟩ (Nat.le_of_ble_eq_true rfl) dX11_read_39 (sPv_k (fun I_39 J_39 hw => ?_))
  refine g_aload_n h rfl 0 rfl dX11_read_42 ?_
  refine g_get h is_0 fl_X11_67 fr_0_9 dX11_read_43 ?_
  refine g_aload_n h rfl 0 rfl dX11_read_46 ?_
  refine g_get h is_0 fl_X11_58 fr_0_8 dX11_read_47 ?_
  refine g_get h is_142 fl_X11_247 rfl dX11_read_50 ?_
  refine g_iload_n h rfl 3 rfl dX11_read_53 ?_
  refine g_iload h 4 rfl dX11_read_54 ?_
  refine g_callV [.int (I_39 142 5), .int a3, .int a4] h (c_X5_run X hw) sPv_v mw_X5_run lk_X11_248 is_220 rfl rfl ⟨by decide, by decide⟩ (Nat.le_of_ble_eq_true rfl) dX11_read_56 (sPv_k (fun I_56 J_56 hw => ?_))
  exact g_vret h hr dX11_read_59 hw
theorem c_X11_read (X : sX) {h1 : Nat} {a2 : Int32} {a3 : Int32} {a4 : Int32} (ph1 : sIs h1 2) {I : sI} {J : sJ} {post : sI → sJ → Prop} (hw : w_X11_read h1 a2 a3 a4 I J post) : sCall X yX11_read cX11_read 5 none 32 949 [.ref 0, .ref h1, .int a2, .int a3, .int a4] I J (sPv post) := sCall_of (by decide +kernel) (Nat.le_of_ble_eq_true rfl) (fun X h hr => t_X11_read ph1 h hr hw)
theorem dX11_tellLetters_0 : decode cX11_tellLetters 0 = .ok (.iconst 0, 1) := by decide +kernel
theorem dX11_tellLetters_1 : decode cX11_tellLetters 1 = .ok (.istore_n 3, 1) := by decide +kernel
theorem dX11_tellLetters_2 : decode cX11_tellLetters 2 = .ok (.iload_n 3, 1) := by decide +kernel
theorem dX11_tellLetters_3 : decode cX11_tellLetters 3 = .ok (.bipush 12, 2) := by decide +kernel
theorem dX11_tellLetters_5 : decode cX11_tellLetters 5 = .ok (.if_icmp .ge 22, 3) := by decide +kernel
theorem dX11_tellLetters_8 : decode cX11_tellLetters 8 = .ok (.aload_n 0, 1) := by decide +kernel
theorem dX11_tellLetters_9 : decode cX11_tellLetters 9 = .ok (.getfield 41, 3) := by decide +kernel
theorem dX11_tellLetters_12 : decode cX11_tellLetters 12 = .ok (.lload_n 1, 1) := by decide +kernel
theorem dX11_tellLetters_13 : decode cX11_tellLetters 13 = .ok (.iload_n 3, 1) := by decide +kernel
theorem dX11_tellLetters_14 : decode cX11_tellLetters 14 = .ok (.invokestatic 221, 3) := by decide +kernel
theorem dX11_tellLetters_17 : decode cX11_tellLetters 17 = .ok (.i2l, 1) := by decide +kernel
theorem dX11_tellLetters_18 : decode cX11_tellLetters 18 = .ok (.invokevirtual 227, 3) := by decide +kernel
theorem dX11_tellLetters_21 : decode cX11_tellLetters 21 = .ok (.iinc 3 1, 3) := by decide +kernel
theorem dX11_tellLetters_24 : decode cX11_tellLetters 24 = .ok (.goto (-22), 3) := by decide +kernel
theorem dX11_tellLetters_27 : decode cX11_tellLetters 27 = .ok (.return_, 1) := by decide +kernel
def w_X11_tellLetters_2_s (post : sI → sJ → Prop) (k2 : Int64 → Int32 → sI → sJ → Prop) (x1 : Int64) (x3 : Int32) (I : sI) (J : sJ) : Prop :=
  ((12 ≤ x3 → post I J) ∧ (¬ 12 ≤ x3 → w_X11_letterIn x1 x3 I J (fun (r_14 : Int32) (I_14 : sI) (J_14 : sJ) => (w_X6_put 134 (Int32.toInt64 r_14) I_14 J_14 (fun (I_18 : sI) (J_18 : sJ) => ((∀ v3_21 : Int32, v3_21 = x3 + 1 → k2 x1 v3_21 I_18 J_18)))))))
def w_X11_tellLetters_2_n (post : sI → sJ → Prop) : Nat → Int64 → Int32 → sI → sJ → Prop
  | 0 => fun _ _ _ _ => False
  | n + 1 => fun x1 x3 I J => w_X11_tellLetters_2_s post (w_X11_tellLetters_2_n post n) x1 x3 I J
def w_X11_tellLetters_2 (post : sI → sJ → Prop) (x1 : Int64) (x3 : Int32) (I : sI) (J : sJ) : Prop := ∃ n, w_X11_tellLetters_2_n post n x1 x3 I J
set_option maxHeartbeats 4000000 in
set_option maxRecDepth 100000 in
theorem t_X11_tellLetters_2_s {X : sX} {post : sI → sJ → Prop} (h : sOK X cX11_tellLetters RX11 4 2 42) (hr : sRt X none (sPv post)) {k2 : Int64 → Int32 → sI → sJ → Prop} (hk2 : ∀ (x1 : Int64) (x3 : Int32) (I : sI) (J : sJ), k2 x1 x3 I J → sG X 4 2 [(0, .ref 0), (1, .long x1), (3, .int x3)] [] I J) {x1 : Int64} {x3 : Int32} {I : sI} {J : sJ} (hw : w_X11_tellLetters_2_s post k2 x1 x3 I J) : sG X 4 2 [(0, .ref 0), (1, .long x1), (3, .int x3)] [] I J := by
  unfold w_X11_tellLetters_2_s at hw
  refine g_iload_n h rfl 2 rfl dX11_tellLetters_2 ?_
  refine g_bipush (v := 12) h (by decide) dX11_tellLetters_3 ?_
  refine g_icmp_ge (tgt := 27) h (by decide) dX11_tellLetters_5 (fun q5 => ?_) (fun q5 => ?_)
  · replace hw := hw.1 q5
    exact g_vret h hr dX11_tellLetters_27 hw
  · replace hw := hw.2 q5
    refine g_aload_n h rfl 0 rfl dX11_tellLetters_8 ?_
    refine g_get h is_0 fl_X11_41 fr_0_5 dX11_tellLetters_9 ?_
    refine g_lload_n h rfl 1 rfl dX11_tellLetters_12 ?_
    refine g_iload_n h rfl 2 rfl dX11_tellLetters_13 ?_
    refine g_callS [.long x1, .int x3] h (c_X11_letterIn X hw) sPi_v mw_X11_letterIn lk_X11_221 rfl ⟨by decide, by decide⟩ (Nat.le_of_ble_eq_true rfl) dX11_tellLetters_14 (sPi_k (fun r_14 I_14 J_14 hw => ?_))
    refine g_i2l h dX11_tellLetters_17 ?_
    refine g_callV [.long (Int32.toInt64 r_14)] h (c_X6_put X is_134 hw) sPv_v mw_X6_put lk_X11_227 is_134 rfl rfl ⟨by decide, by decide⟩ (Nat.le_of_ble_eq_true rfl) dX11_tellLetters_18 (sPv_k (fun I_18 J_18 hw => ?_))
    obtain ⟨v3_21, ev3_21⟩ : ∃ z : Int32, z = x3 + 1 := ⟨_, rfl⟩
    replace hw := hw v3_21 ev3_21
    refine g_iinc (v := v3_21) (lo2 := [(3, .int v3_21), (0, .ref 0), (1, .long x1)]) h 2 rfl (by rw [ev3_21]; rfl) (by decide) rfl dX11_tellLetters_21 ?_
    refine g_goto (tgt := 2) h (by decide) dX11_tellLetters_24 ?_
    exact g_sub [1, 2, 0] rfl (hk2 _ _ _ _ hw)
theorem t_X11_tellLetters_2 {X : sX} {post : sI → sJ → Prop} (h : sOK X cX11_tellLetters RX11 4 2 42) (hr : sRt X none (sPv post)) {x1 : Int64} {x3 : Int32} {I : sI} {J : sJ} (hw : w_X11_tellLetters_2 post x1 x3 I J) : sG X 4 2 [(0, .ref 0), (1, .long x1), (3, .int x3)] [] I J := by
  obtain ⟨n, hw⟩ := hw
  induction n generalizing x1 x3 I J with
  | zero => exact hw.elim
  | succ n ih => exact t_X11_tellLetters_2_s h hr (fun _ _ _ _ q => ih q) hw
def w_X11_tellLetters (a1 : Int64) (I : sI) (J : sJ) (post : sI → sJ → Prop) : Prop :=
  w_X11_tellLetters_2 post a1 0 I J
set_option maxHeartbeats 4000000 in
set_option maxRecDepth 100000 in
theorem t_X11_tellLetters {X : sX} {a1 : Int64} {I : sI} {J : sJ} {post : sI → sJ → Prop} (h : sOK X cX11_tellLetters RX11 4 2 42) (hr : sRt X none (sPv post)) (hw : w_X11_tellLetters a1 I J post) : sG X 4 0 [(0, .ref 0), (1, .long a1)] [] I J := by
  unfold w_X11_tellLetters at hw
  refine g_iconst (v := 0) h (by decide) dX11_tellLetters_0 ?_
  refine g_istore_n (lo2 := [(3, .int 0), (0, .ref 0), (1, .long a1)]) h rfl (by decide) rfl dX11_tellLetters_1 ?_
  exact g_sub [1, 2, 0] rfl (t_X11_tellLetters_2 h hr hw)
theorem c_X11_tellLetters (X : sX) {a1 : Int64} {I : sI} {J : sJ} {post : sI → sJ → Prop} (hw : w_X11_tellLetters a1 I J post) : sCall X yX11_tellLetters cX11_tellLetters 4 none 2 42 [.ref 0, .long a1] I J (sPv post) := sCall_of (by decide +kernel) (Nat.le_of_ble_eq_true rfl) (fun X h hr => t_X11_tellLetters h hr hw)
