theorem dX12_entersFraction_0 : decode cX12_entersFraction 0 = .ok (.lload_n 1, 1) := by decide +kernel
theorem dX12_entersFraction_1 : decode cX12_entersFraction 1 = .ok (.lload_n 3, 1) := by decide +kernel
theorem dX12_entersFraction_2 : decode cX12_entersFraction 2 = .ok (.invokestatic 14, 3) := by decide +kernel
theorem dX12_entersFraction_5 : decode cX12_entersFraction 5 = .ok (.lstore 5, 2) := by decide +kernel
theorem dX12_entersFraction_7 : decode cX12_entersFraction 7 = .ok (.aload_n 0, 1) := by decide +kernel
theorem dX12_entersFraction_8 : decode cX12_entersFraction 8 = .ok (.lload_n 1, 1) := by decide +kernel
theorem dX12_entersFraction_9 : decode cX12_entersFraction 9 = .ok (.lload 5, 2) := by decide +kernel
theorem dX12_entersFraction_11 : decode cX12_entersFraction 11 = .ok (.ldiv, 1) := by decide +kernel
theorem dX12_entersFraction_12 : decode cX12_entersFraction 12 = .ok (.invokevirtual 18, 3) := by decide +kernel
theorem dX12_entersFraction_15 : decode cX12_entersFraction 15 = .ok (.aload_n 0, 1) := by decide +kernel
theorem dX12_entersFraction_16 : decode cX12_entersFraction 16 = .ok (.lload_n 3, 1) := by decide +kernel
theorem dX12_entersFraction_17 : decode cX12_entersFraction 17 = .ok (.lload 5, 2) := by decide +kernel
theorem dX12_entersFraction_19 : decode cX12_entersFraction 19 = .ok (.ldiv, 1) := by decide +kernel
theorem dX12_entersFraction_20 : decode cX12_entersFraction 20 = .ok (.invokevirtual 18, 3) := by decide +kernel
theorem dX12_entersFraction_23 : decode cX12_entersFraction 23 = .ok (.return_, 1) := by decide +kernel
def w_X12_entersFraction (a1 : Int64) (a3 : Int64) (I : sI) (J : sJ) (post : sI → sJ → Prop) : Prop :=
  w_X12_common a1 a3 I J (fun (r_2 : Int64) (I_2 : sI) (J_2 : sJ) => ((¬ r_2 = 0 ∧ w_X12_enters (a1 / r_2) I_2 J_2 (fun (I_12 : sI) (J_12 : sJ) => ((¬ r_2 = 0 ∧ w_X12_enters (a3 / r_2) I_12 J_12 (fun (I_20 : sI) (J_20 : sJ) => (post I_20 J_20))))))))
set_option maxHeartbeats 4000000 in
set_option maxRecDepth 100000 in
theorem t_X12_entersFraction {X : sX} {a1 : Int64} {a3 : Int64} {I : sI} {J : sJ} {post : sI → sJ → Prop} (h : sOK X cX12_entersFraction RX12 7 1 29) (hr : sRt X none (sPv post)) (hw : w_X12_entersFraction a1 a3 I J post) : sG X 7 0 [(0, .ref 248), (1, .long a1), (3, .long a3)] [] I J := by
  unfold w_X12_entersFraction at hw
  refine g_lload_n h rfl 1 rfl dX12_entersFraction_0 ?_
  refine g_lload_n h rfl 2 rfl dX12_entersFraction_1 ?_
  refine g_callS [.long a1, .long a3] h (c_X12_common X hw) sPl_v mw_X12_common lk_X12_14 rfl ⟨by decide, by decide⟩ (Nat.le_of_ble_eq_true rfl) dX12_entersFraction_2 (sPl_k (fun r_2 I_2 J_2 hw => ?_))
  refine g_lstore (lo2 := [(5, .long r_2), (0, .ref 248), (1, .long a1), (3, .long a3)]) h (by decide) rfl dX12_entersFraction_5 ?_
  refine g_aload_n h rfl 1 rfl dX12_entersFraction_7 ?_
  refine g_lload_n h rfl 2 rfl dX12_entersFraction_8 ?_
  refine g_lload h 0 rfl dX12_entersFraction_9 ?_
  obtain ⟨hz11, hw⟩ := hw
  refine g_ldiv h hz11 dX12_entersFraction_11 ?_
  refine g_callV [.long (a1 / r_2)] h (c_X12_enters X hw) sPv_v mw_X12_enters lk_X12_18 is_248 rfl rfl ⟨by decide, by decide⟩ (Nat.le_of_ble_eq_true rfl) dX12_entersFraction_12 (sPv_k (fun I_12 J_12 hw => ?_))
  refine g_aload_n h rfl 1 rfl dX12_entersFraction_15 ?_
  refine g_lload_n h rfl 3 rfl dX12_entersFraction_16 ?_
  refine g_lload h 0 rfl dX12_entersFraction_17 ?_
  obtain ⟨hz19, hw⟩ := hw
  refine g_ldiv h hz19 dX12_entersFraction_19 ?_
  refine g_callV [.long (a3 / r_2)] h (c_X12_enters X hw) sPv_v mw_X12_enters lk_X12_18 is_248 rfl rfl ⟨by decide, by decide⟩ (Nat.le_of_ble_eq_true rfl) dX12_entersFraction_20 (sPv_k (fun I_20 J_20 hw => ?_))
  exact g_vret h hr dX12_entersFraction_23 hw
theorem c_X12_entersFraction (X : sX) {a1 : Int64} {a3 : Int64} {I : sI} {J : sJ} {post : sI → sJ → Prop} (hw : w_X12_entersFraction a1 a3 I J post) : sCall X yX12_entersFraction cX12_entersFraction 7 none 1 29 [.ref 248, .long a1, .long a3] I J (sPv post) := sCall_of (by decide +kernel) (Nat.le_of_ble_eq_true rfl) (fun X h hr => t_X12_entersFraction h hr hw)
theorem dX12_sign_0 : decode cX12_sign 0 = .ok (.aload_n 0, 1) := by decide +kernel
theorem dX12_sign_1 : decode cX12_sign 1 = .ok (.iconst 0, 1) := by decide +kernel
theorem dX12_sign_2 : decode cX12_sign 2 = .ok (.putfield 1, 3) := by decide +kernel
theorem dX12_sign_5 : decode cX12_sign 5 = .ok (.aload_n 0, 1) := by decide +kernel
theorem dX12_sign_6 : decode cX12_sign 6 = .ok (.getfield 22, 3) := by decide +kernel
theorem dX12_sign_9 : decode cX12_sign 9 = .ok (.bipush 76, 2) := by decide +kernel
theorem dX12_sign_11 : decode cX12_sign 11 = .ok (.if_icmp .le 5, 3) := by decide +kernel
theorem dX12_sign_14 : decode cX12_sign 14 = .ok (.iconst (-1), 1) := by decide +kernel
theorem dX12_sign_15 : decode cX12_sign 15 = .ok (.ireturn, 1) := by decide +kernel
theorem dX12_sign_16 : decode cX12_sign 16 = .ok (.iconst 0, 1) := by decide +kernel
theorem dX12_sign_17 : decode cX12_sign 17 = .ok (.istore_n 2, 1) := by decide +kernel
theorem dX12_sign_18 : decode cX12_sign 18 = .ok (.iload_n 2, 1) := by decide +kernel
theorem dX12_sign_19 : decode cX12_sign 19 = .ok (.iconst 4, 1) := by decide +kernel
theorem dX12_sign_20 : decode cX12_sign 20 = .ok (.if_icmp .ge 33, 3) := by decide +kernel
theorem dX12_sign_23 : decode cX12_sign 23 = .ok (.aload_n 0, 1) := by decide +kernel
theorem dX12_sign_24 : decode cX12_sign 24 = .ok (.getfield 25, 3) := by decide +kernel
theorem dX12_sign_27 : decode cX12_sign 27 = .ok (.aload_n 0, 1) := by decide +kernel
theorem dX12_sign_28 : decode cX12_sign 28 = .ok (.getfield 22, 3) := by decide +kernel
theorem dX12_sign_31 : decode cX12_sign 31 = .ok (.iload_n 2, 1) := by decide +kernel
theorem dX12_sign_32 : decode cX12_sign 32 = .ok (.iadd, 1) := by decide +kernel
theorem dX12_sign_33 : decode cX12_sign 33 = .ok (.iload_n 1, 1) := by decide +kernel
theorem dX12_sign_34 : decode cX12_sign 34 = .ok (.bipush 24, 2) := by decide +kernel
theorem dX12_sign_36 : decode cX12_sign 36 = .ok (.bipush 8, 2) := by decide +kernel
theorem dX12_sign_38 : decode cX12_sign 38 = .ok (.iload_n 2, 1) := by decide +kernel
theorem dX12_sign_39 : decode cX12_sign 39 = .ok (.imul, 1) := by decide +kernel
theorem dX12_sign_40 : decode cX12_sign 40 = .ok (.isub, 1) := by decide +kernel
theorem dX12_sign_41 : decode cX12_sign 41 = .ok (.ishr, 1) := by decide +kernel
theorem dX12_sign_42 : decode cX12_sign 42 = .ok (.sipush 255, 3) := by decide +kernel
theorem dX12_sign_45 : decode cX12_sign 45 = .ok (.iand, 1) := by decide +kernel
theorem dX12_sign_46 : decode cX12_sign 46 = .ok (.iastore, 1) := by decide +kernel
theorem dX12_sign_47 : decode cX12_sign 47 = .ok (.iinc 2 1, 3) := by decide +kernel
theorem dX12_sign_50 : decode cX12_sign 50 = .ok (.goto (-32), 3) := by decide +kernel
theorem dX12_sign_53 : decode cX12_sign 53 = .ok (.aload_n 0, 1) := by decide +kernel
theorem dX12_sign_54 : decode cX12_sign 54 = .ok (.dup, 1) := by decide +kernel
theorem dX12_sign_55 : decode cX12_sign 55 = .ok (.getfield 22, 3) := by decide +kernel
theorem dX12_sign_58 : decode cX12_sign 58 = .ok (.iconst 4, 1) := by decide +kernel
theorem dX12_sign_59 : decode cX12_sign 59 = .ok (.iadd, 1) := by decide +kernel
theorem dX12_sign_60 : decode cX12_sign 60 = .ok (.putfield 22, 3) := by decide +kernel
theorem dX12_sign_63 : decode cX12_sign 63 = .ok (.aload_n 0, 1) := by decide +kernel
theorem dX12_sign_64 : decode cX12_sign 64 = .ok (.getfield 22, 3) := by decide +kernel
theorem dX12_sign_67 : decode cX12_sign 67 = .ok (.ireturn, 1) := by decide +kernel
def w_X12_sign_18_s (post : Int32 → sI → sJ → Prop) (k18 : Int32 → Int32 → sI → sJ → Prop) (x1 : Int32) (x2 : Int32) (I : sI) (J : sJ) : Prop :=
  ((4 ≤ x2 → (∀ I_60 : sI, I_60 = sUI I 248 4 ((I 248 4) + 4) → post (I_60 248 4) I_60 J)) ∧ (¬ 4 ≤ x2 → (vp_in ((I 248 4) + x2) 80 ∧ (∀ I_46 : sI, I_46 = sUI I 250 (Int32.toNatClampNeg ((I 248 4) + x2)) ((x1 >>> ((24 - (8 * x2)) &&& 31)) &&& 255) → (∀ v2_47 : Int32, v2_47 = x2 + 1 → k18 x1 v2_47 I_46 J)))))
def w_X12_sign_18_n (post : Int32 → sI → sJ → Prop) : Nat → Int32 → Int32 → sI → sJ → Prop
  | 0 => fun _ _ _ _ => False
  | n + 1 => fun x1 x2 I J => w_X12_sign_18_s post (w_X12_sign_18_n post n) x1 x2 I J
def w_X12_sign_18 (post : Int32 → sI → sJ → Prop) (x1 : Int32) (x2 : Int32) (I : sI) (J : sJ) : Prop := ∃ n, w_X12_sign_18_n post n x1 x2 I J
set_option maxHeartbeats 4000000 in
set_option maxRecDepth 100000 in
theorem t_X12_sign_18_s {X : sX} {post : Int32 → sI → sJ → Prop} (h : sOK X cX12_sign RX12 3 0 0) (hr : sRt X (some .int) (sPi post)) {k18 : Int32 → Int32 → sI → sJ → Prop} (hk18 : ∀ (x1 : Int32) (x2 : Int32) (I : sI) (J : sJ), k18 x1 x2 I J → sG X 3 18 [(0, .ref 248), (1, .int x1), (2, .int x2)] [] I J) {x1 : Int32} {x2 : Int32} {I : sI} {J : sJ} (hw : w_X12_sign_18_s post k18 x1 x2 I J) : sG X 3 18 [(0, .ref 248), (1, .int x1), (2, .int x2)] [] I J := by
  unfold w_X12_sign_18_s at hw
  refine g_iload_n h rfl 2 rfl dX12_sign_18 ?_
  refine g_iconst (v := 4) h (by decide) dX12_sign_19 ?_
  refine g_icmp_ge (tgt := 53) h (by decide) dX12_sign_20 (fun q20 => ?_) (fun q20 => ?_)
  · replace hw := hw.1 q20
    refine g_aload_n h rfl 0 rfl dX12_sign_53 ?_
    refine g_dup h rfl dX12_sign_54 ?_
    refine g_get h is_248 fl_X12_22 rfl dX12_sign_55 ?_
    refine g_iconst (v := 4) h (by decide) dX12_sign_58 ?_
    refine g_iadd h dX12_sign_59 ?_
    refine g_putI h is_248 fl_X12_22 rfl rfl dX12_sign_60 ?_
    refine g_nI (fun I_60 eI_60 => ?_)
    replace hw := hw I_60 eI_60
    refine g_aload_n h rfl 0 rfl dX12_sign_63 ?_
    refine g_get h is_248 fl_X12_22 rfl dX12_sign_64 ?_
    exact g_iret h hr dX12_sign_67 hw
  · replace hw := hw.2 q20
    refine g_aload_n h rfl 0 rfl dX12_sign_23 ?_
    refine g_get h is_248 fl_X12_25 fr_248_3 dX12_sign_24 ?_
    refine g_aload_n h rfl 0 rfl dX12_sign_27 ?_
    refine g_get h is_248 fl_X12_22 rfl dX12_sign_28 ?_
    refine g_iload_n h rfl 2 rfl dX12_sign_31 ?_
    refine g_iadd h dX12_sign_32 ?_
    refine g_iload_n h rfl 1 rfl dX12_sign_33 ?_
    refine g_bipush (v := 24) h (by decide) dX12_sign_34 ?_
    refine g_bipush (v := 8) h (by decide) dX12_sign_36 ?_
    refine g_iload_n h rfl 2 rfl dX12_sign_38 ?_
    refine g_imul h dX12_sign_39 ?_
    refine g_isub h dX12_sign_40 ?_
    refine g_ishr h dX12_sign_41 ?_
    refine g_sipush (v := 255) h (by decide) dX12_sign_42 ?_
    refine g_iand h dX12_sign_45 ?_
    obtain ⟨hi46, hw⟩ := hw
    refine g_iast h ar_250 hi46 dX12_sign_46 ?_
    refine g_nI (fun I_46 eI_46 => ?_)
    replace hw := hw I_46 eI_46
    obtain ⟨v2_47, ev2_47⟩ : ∃ z : Int32, z = x2 + 1 := ⟨_, rfl⟩
    replace hw := hw v2_47 ev2_47
    refine g_iinc (v := v2_47) (lo2 := [(2, .int v2_47), (0, .ref 248), (1, .int x1)]) h 2 rfl (by rw [ev2_47]; rfl) (by decide) rfl dX12_sign_47 ?_
    refine g_goto (tgt := 18) h (by decide) dX12_sign_50 ?_
    exact g_sub [1, 2, 0] rfl (hk18 _ _ _ _ hw)
theorem t_X12_sign_18 {X : sX} {post : Int32 → sI → sJ → Prop} (h : sOK X cX12_sign RX12 3 0 0) (hr : sRt X (some .int) (sPi post)) {x1 : Int32} {x2 : Int32} {I : sI} {J : sJ} (hw : w_X12_sign_18 post x1 x2 I J) : sG X 3 18 [(0, .ref 248), (1, .int x1), (2, .int x2)] [] I J := by
  obtain ⟨n, hw⟩ := hw
  induction n generalizing x1 x2 I J with
  | zero => exact hw.elim
  | succ n ih => exact t_X12_sign_18_s h hr (fun _ _ _ _ q => ih q) hw
def w_X12_sign (a1 : Int32) (I : sI) (J : sJ) (post : Int32 → sI → sJ → Prop) : Prop :=
  (∀ I_2 : sI, I_2 = sUI I 248 0 0 → (((I_2 248 4) ≤ 76 → w_X12_sign_18 post a1 0 I_2 J) ∧ (¬ (I_2 248 4) ≤ 76 → post (-1) I_2 J)))
set_option maxHeartbeats 4000000 in
set_option maxRecDepth 100000 in
theorem t_X12_sign {X : sX} {a1 : Int32} {I : sI} {J : sJ} {post : Int32 → sI → sJ → Prop} (h : sOK X cX12_sign RX12 3 0 0) (hr : sRt X (some .int) (sPi post)) (hw : w_X12_sign a1 I J post) : sG X 3 0 [(0, .ref 248), (1, .int a1)] [] I J := by
  unfold w_X12_sign at hw
  refine g_aload_n h rfl 0 rfl dX12_sign_0 ?_
  refine g_iconst (v := 0) h (by decide) dX12_sign_1 ?_
  refine g_putI h is_248 fl_X12_1 rfl rfl dX12_sign_2 ?_
  refine g_nI (fun I_2 eI_2 => ?_)
  replace hw := hw I_2 eI_2
  refine g_aload_n h rfl 0 rfl dX12_sign_5 ?_
  refine g_get h is_248 fl_X12_22 rfl dX12_sign_6 ?_
  refine g_bipush (v := 76) h (by decide) dX12_sign_9 ?_
  refine g_icmp_le (tgt := 16) h (by decide) dX12_sign_11 (fun q11 => ?_) (fun q11 => ?_)
  · replace hw := hw.1 q11
    refine g_iconst (v := 0) h (by decide) dX12_sign_16 ?_
    refine g_istore_n (lo2 := [(2, .int 0), (0, .ref 248), (1, .int a1)]) h rfl (by decide) rfl dX12_sign_17 ?_
    exact g_sub [1, 2, 0] rfl (t_X12_sign_18 h hr hw)
  · replace hw := hw.2 q11
    refine g_iconst (v := (-1)) h (by decide) dX12_sign_14 ?_
    exact g_iret h hr dX12_sign_15 hw
theorem c_X12_sign (X : sX) {a1 : Int32} {I : sI} {J : sJ} {post : Int32 → sI → sJ → Prop} (hw : w_X12_sign a1 I J post) : sCall X yX12_sign cX12_sign 3 (some .int) 0 0 [.ref 248, .int a1] I J (sPi post) := sCall_of (by decide +kernel) (Nat.le_of_ble_eq_true rfl) (fun X h hr => t_X12_sign h hr hw)
theorem dX12_end_0 : decode cX12_end 0 = .ok (.aload_n 0, 1) := by decide +kernel
theorem dX12_end_1 : decode cX12_end 1 = .ok (.iconst 0, 1) := by decide +kernel
theorem dX12_end_2 : decode cX12_end 2 = .ok (.putfield 1, 3) := by decide +kernel
theorem dX12_end_5 : decode cX12_end 5 = .ok (.iload_n 1, 1) := by decide +kernel
theorem dX12_end_6 : decode cX12_end 6 = .ok (.i2l, 1) := by decide +kernel
theorem dX12_end_7 : decode cX12_end 7 = .ok (.lconst 0, 1) := by decide +kernel
theorem dX12_end_8 : decode cX12_end 8 = .ok (.aload_n 0, 1) := by decide +kernel
theorem dX12_end_9 : decode cX12_end 9 = .ok (.getfield 22, 3) := by decide +kernel
theorem dX12_end_12 : decode cX12_end 12 = .ok (.i2l, 1) := by decide +kernel
theorem dX12_end_13 : decode cX12_end 13 = .ok (.invokestatic 29, 3) := by decide +kernel
theorem dX12_end_16 : decode cX12_end 16 = .ok (.ifCond .ne 5, 3) := by decide +kernel
theorem dX12_end_19 : decode cX12_end 19 = .ok (.iconst 0, 1) := by decide +kernel
theorem dX12_end_20 : decode cX12_end 20 = .ok (.ireturn, 1) := by decide +kernel
theorem dX12_end_21 : decode cX12_end 21 = .ok (.aload_n 0, 1) := by decide +kernel
theorem dX12_end_22 : decode cX12_end 22 = .ok (.iload_n 1, 1) := by decide +kernel
theorem dX12_end_23 : decode cX12_end 23 = .ok (.putfield 22, 3) := by decide +kernel
theorem dX12_end_26 : decode cX12_end 26 = .ok (.iconst 1, 1) := by decide +kernel
theorem dX12_end_27 : decode cX12_end 27 = .ok (.ireturn, 1) := by decide +kernel
def w_X12_end (a1 : Int32) (I : sI) (J : sJ) (post : Int32 → sI → sJ → Prop) : Prop :=
  (∀ I_2 : sI, I_2 = sUI I 248 0 0 → w_X12_in (Int32.toInt64 a1) 0 (Int32.toInt64 (I_2 248 4)) I_2 J (fun (r_13 : Int32) (I_13 : sI) (J_13 : sJ) => (((¬ r_13 = 0 → (∀ I_23 : sI, I_23 = sUI I_13 248 4 a1 → post 1 I_23 J_13)) ∧ (r_13 = 0 → post 0 I_13 J_13)))))
set_option maxHeartbeats 4000000 in
set_option maxRecDepth 100000 in
theorem t_X12_end {X : sX} {a1 : Int32} {I : sI} {J : sJ} {post : Int32 → sI → sJ → Prop} (h : sOK X cX12_end RX12 2 1 25) (hr : sRt X (some .boolean) (sPi post)) (hw : w_X12_end a1 I J post) : sG X 2 0 [(0, .ref 248), (1, .int a1)] [] I J := by
  unfold w_X12_end at hw
  refine g_aload_n h rfl 0 rfl dX12_end_0 ?_
  refine g_iconst (v := 0) h (by decide) dX12_end_1 ?_
  refine g_putI h is_248 fl_X12_1 rfl rfl dX12_end_2 ?_
  refine g_nI (fun I_2 eI_2 => ?_)
  replace hw := hw I_2 eI_2
  refine g_iload_n h rfl 1 rfl dX12_end_5 ?_
  refine g_i2l h dX12_end_6 ?_
  refine g_lconst (v := 0) h (by decide) dX12_end_7 ?_
  refine g_aload_n h rfl 0 rfl dX12_end_8 ?_
  refine g_get h is_248 fl_X12_22 rfl dX12_end_9 ?_
  refine g_i2l h dX12_end_12 ?_
  refine g_callS [.long (Int32.toInt64 a1), .long 0, .long (Int32.toInt64 (I_2 248 4))] h (c_X12_in X hw) sPi_v mw_X12_in lk_X12_29 rfl ⟨by decide, by decide⟩ (Nat.le_of_ble_eq_true rfl) dX12_end_13 (sPi_k (fun r_13 I_13 J_13 hw => ?_))
  refine g_if_ne (tgt := 21) h (by decide) dX12_end_16 (fun q16 => ?_) (fun q16 => ?_)
  · replace hw := hw.1 q16
    refine g_aload_n h rfl 0 rfl dX12_end_21 ?_
    refine g_iload_n h rfl 1 rfl dX12_end_22 ?_
    refine g_putI h is_248 fl_X12_22 rfl rfl dX12_end_23 ?_
    refine g_nI (fun I_23 eI_23 => ?_)
    replace hw := hw I_23 eI_23
    refine g_iconst (v := 1) h (by decide) dX12_end_26 ?_
    exact g_zret h hr (Or.inr rfl) dX12_end_27 hw
  · replace hw := hw.2 q16
    refine g_iconst (v := 0) h (by decide) dX12_end_19 ?_
    exact g_zret h hr (Or.inl rfl) dX12_end_20 hw
theorem c_X12_end (X : sX) {a1 : Int32} {I : sI} {J : sJ} {post : Int32 → sI → sJ → Prop} (hw : w_X12_end a1 I J post) : sCall X yX12_end cX12_end 2 (some .boolean) 1 25 [.ref 248, .int a1] I J (sPi post) := sCall_of (by decide +kernel) (Nat.le_of_ble_eq_true rfl) (fun X h hr => t_X12_end h hr hw)
theorem dX12_begins_0 : decode cX12_begins 0 = .ok (.aload_n 0, 1) := by decide +kernel
theorem dX12_begins_1 : decode cX12_begins 1 = .ok (.getfield 22, 3) := by decide +kernel
theorem dX12_begins_4 : decode cX12_begins 4 = .ok (.istore_n 2, 1) := by decide +kernel
theorem dX12_begins_5 : decode cX12_begins 5 = .ok (.aload_n 0, 1) := by decide +kernel
theorem dX12_begins_6 : decode cX12_begins 6 = .ok (.iconst 0, 1) := by decide +kernel
theorem dX12_begins_7 : decode cX12_begins 7 = .ok (.putfield 22, 3) := by decide +kernel
theorem dX12_begins_10 : decode cX12_begins 10 = .ok (.aload_n 0, 1) := by decide +kernel
theorem dX12_begins_11 : decode cX12_begins 11 = .ok (.iconst 0, 1) := by decide +kernel
theorem dX12_begins_12 : decode cX12_begins 12 = .ok (.putfield 33, 3) := by decide +kernel
theorem dX12_begins_15 : decode cX12_begins 15 = .ok (.aload_n 0, 1) := by decide +kernel
theorem dX12_begins_16 : decode cX12_begins 16 = .ok (.iload_n 2, 1) := by decide +kernel
theorem dX12_begins_17 : decode cX12_begins 17 = .ok (.iload_n 1, 1) := by decide +kernel
theorem dX12_begins_18 : decode cX12_begins 18 = .ok (.invokestatic 36, 3) := by decide +kernel
theorem dX12_begins_21 : decode cX12_begins 21 = .ok (.putfield 42, 3) := by decide +kernel
theorem dX12_begins_24 : decode cX12_begins 24 = .ok (.iload_n 2, 1) := by decide +kernel
theorem dX12_begins_25 : decode cX12_begins 25 = .ok (.ireturn, 1) := by decide +kernel
def w_X12_begins (a1 : Int32) (I : sI) (J : sJ) (post : Int32 → sI → sJ → Prop) : Prop :=
  (∀ v2_4 : Int32, v2_4 = I 248 4 → (∀ I_7 : sI, I_7 = sUI I 248 4 0 → (∀ I_12 : sI, I_12 = sUI I_7 248 5 0 → w_J9_min_7cf53 v2_4 a1 I_12 J (fun (r_18 : Int32) (I_18 : sI) (J_18 : sJ) => ((∀ I_21 : sI, I_21 = sUI I_18 248 6 r_18 → post v2_4 I_21 J_18))))))
set_option maxHeartbeats 4000000 in
set_option maxRecDepth 100000 in
theorem t_X12_begins {X : sX} {a1 : Int32} {I : sI} {J : sJ} {post : Int32 → sI → sJ → Prop} (h : sOK X cX12_begins RX12 3 1 21) (hr : sRt X (some .int) (sPi post)) (hw : w_X12_begins a1 I J post) : sG X 3 0 [(0, .ref 248), (1, .int a1)] [] I J := by
  unfold w_X12_begins at hw
  refine g_aload_n h rfl 0 rfl dX12_begins_0 ?_
  refine g_get h is_248 fl_X12_22 rfl dX12_begins_1 ?_
  refine g_ni (fun v2_4 ev2_4 => ?_)
  replace hw := hw v2_4 ev2_4
  refine g_istore_n (lo2 := [(2, .int v2_4), (0, .ref 248), (1, .int a1)]) h rfl (by decide) rfl dX12_begins_4 ?_
  refine g_aload_n h rfl 1 rfl dX12_begins_5 ?_
  refine g_iconst (v := 0) h (by decide) dX12_begins_6 ?_
  refine g_putI h is_248 fl_X12_22 rfl rfl dX12_begins_7 ?_
  refine g_nI (fun I_7 eI_7 => ?_)
  replace hw := hw I_7 eI_7
  refine g_aload_n h rfl 1 rfl dX12_begins_10 ?_
  refine g_iconst (v := 0) h (by decide) dX12_begins_11 ?_
  refine g_putI h is_248 fl_X12_33 rfl rfl dX12_begins_12 ?_
  refine g_nI (fun I_12 eI_12 => ?_)
  replace hw := hw I_12 eI_12
  refine g_aload_n h rfl 1 rfl dX12_begins_15 ?_
  refine g_iload_n h rfl 0 rfl dX12_begins_16 ?_
  refine g_iload_n h rfl 2 rfl dX12_begins_17 ?_
  refine g_callS [.int v2_4, .int a1] h (c_J9_min_7cf53 X hw) sPi_v mw_J9_min_7cf53 lk_X12_36 rfl ⟨by decide, by decide⟩ (Nat.le_of_ble_eq_true rfl) dX12_begins_18 (sPi_k (fun r_18 I_18 J_18 hw => ?_))
  refine g_putI h is_248 fl_X12_42 rfl rfl dX12_begins_21 ?_
  refine g_nI (fun I_21 eI_21 => ?_)
  replace hw := hw I_21 eI_21
  refine g_iload_n h rfl 0 rfl dX12_begins_24 ?_
  exact g_iret h hr dX12_begins_25 hw
theorem c_X12_begins (X : sX) {a1 : Int32} {I : sI} {J : sJ} {post : Int32 → sI → sJ → Prop} (hw : w_X12_begins a1 I J post) : sCall X yX12_begins cX12_begins 3 (some .int) 1 21 [.ref 248, .int a1] I J (sPi post) := sCall_of (by decide +kernel) (Nat.le_of_ble_eq_true rfl) (fun X h hr => t_X12_begins h hr hw)
theorem dX12_signAt_0 : decode cX12_signAt 0 = .ok (.aload_n 0, 1) := by decide +kernel
theorem dX12_signAt_1 : decode cX12_signAt 1 = .ok (.getfield 33, 3) := by decide +kernel
theorem dX12_signAt_4 : decode cX12_signAt 4 = .ok (.aload_n 0, 1) := by decide +kernel
theorem dX12_signAt_5 : decode cX12_signAt 5 = .ok (.getfield 42, 3) := by decide +kernel
theorem dX12_signAt_8 : decode cX12_signAt 8 = .ok (.if_icmp .lt 5, 3) := by decide +kernel
theorem dX12_signAt_11 : decode cX12_signAt 11 = .ok (.iconst (-1), 1) := by decide +kernel
theorem dX12_signAt_12 : decode cX12_signAt 12 = .ok (.ireturn, 1) := by decide +kernel
theorem dX12_signAt_13 : decode cX12_signAt 13 = .ok (.aload_n 0, 1) := by decide +kernel
theorem dX12_signAt_14 : decode cX12_signAt 14 = .ok (.getfield 25, 3) := by decide +kernel
theorem dX12_signAt_17 : decode cX12_signAt 17 = .ok (.aload_n 0, 1) := by decide +kernel
theorem dX12_signAt_18 : decode cX12_signAt 18 = .ok (.getfield 33, 3) := by decide +kernel
theorem dX12_signAt_21 : decode cX12_signAt 21 = .ok (.iaload, 1) := by decide +kernel
theorem dX12_signAt_22 : decode cX12_signAt 22 = .ok (.istore_n 1, 1) := by decide +kernel
theorem dX12_signAt_23 : decode cX12_signAt 23 = .ok (.iload_n 1, 1) := by decide +kernel
theorem dX12_signAt_24 : decode cX12_signAt 24 = .ok (.bipush 63, 2) := by decide +kernel
theorem dX12_signAt_26 : decode cX12_signAt 26 = .ok (.if_icmp .ne 8, 3) := by decide +kernel
theorem dX12_signAt_29 : decode cX12_signAt 29 = .ok (.bipush 12, 2) := by decide +kernel
theorem dX12_signAt_31 : decode cX12_signAt 31 = .ok (.goto 25, 3) := by decide +kernel
theorem dX12_signAt_34 : decode cX12_signAt 34 = .ok (.iload_n 1, 1) := by decide +kernel
theorem dX12_signAt_35 : decode cX12_signAt 35 = .ok (.i2l, 1) := by decide +kernel
theorem dX12_signAt_36 : decode cX12_signAt 36 = .ok (.ldc2_w 45, 3) := by decide +kernel
theorem dX12_signAt_39 : decode cX12_signAt 39 = .ok (.ldc2_w 47, 3) := by decide +kernel
theorem dX12_signAt_42 : decode cX12_signAt 42 = .ok (.invokestatic 29, 3) := by decide +kernel
theorem dX12_signAt_45 : decode cX12_signAt 45 = .ok (.ifCond .eq 10, 3) := by decide +kernel
theorem dX12_signAt_48 : decode cX12_signAt 48 = .ok (.iload_n 1, 1) := by decide +kernel
theorem dX12_signAt_49 : decode cX12_signAt 49 = .ok (.bipush 97, 2) := by decide +kernel
theorem dX12_signAt_51 : decode cX12_signAt 51 = .ok (.isub, 1) := by decide +kernel
theorem dX12_signAt_52 : decode cX12_signAt 52 = .ok (.goto 4, 3) := by decide +kernel
theorem dX12_signAt_55 : decode cX12_signAt 55 = .ok (.iconst (-1), 1) := by decide +kernel
theorem dX12_signAt_56 : decode cX12_signAt 56 = .ok (.ireturn, 1) := by decide +kernel
def w_X12_signAt (I : sI) (J : sJ) (post : Int32 → sI → sJ → Prop) : Prop :=
  (((I 248 5) < (I 248 6) → (vp_in (I 248 5) 80 ∧ (∀ v1_22 : Int32, v1_22 = I 250 (Int32.toNatClampNeg (I 248 5)) → ((¬ v1_22 = 63 → w_X12_in (Int32.toInt64 v1_22) 97 108 I J (fun (r_42 : Int32) (I_42 : sI) (J_42 : sJ) => (((r_42 = 0 → post (-1) I_42 J_42) ∧ (¬ r_42 = 0 → post (v1_22 - 97) I_42 J_42))))) ∧ (v1_22 = 63 → post 12 I J))))) ∧ (¬ (I 248 5) < (I 248 6) → post (-1) I J))
set_option maxHeartbeats 4000000 in
set_option maxRecDepth 100000 in
theorem t_X12_signAt {X : sX} {I : sI} {J : sJ} {post : Int32 → sI → sJ → Prop} (h : sOK X cX12_signAt RX12 2 1 25) (hr : sRt X (some .int) (sPi post)) (hw : w_X12_signAt I J post) : sG X 2 0 [(0, .ref 248)] [] I J := by
  unfold w_X12_signAt at hw
  refine g_aload_n h rfl 0 rfl dX12_signAt_0 ?_
  refine g_get h is_248 fl_X12_33 rfl dX12_signAt_1 ?_
  refine g_aload_n h rfl 0 rfl dX12_signAt_4 ?_
  refine g_get h is_248 fl_X12_42 rfl dX12_signAt_5 ?_
  refine g_icmp_lt (tgt := 13) h (by decide) dX12_signAt_8 (fun q8 => ?_) (fun q8 => ?_)
  · replace hw := hw.1 q8
    refine g_aload_n h rfl 0 rfl dX12_signAt_13 ?_
    refine g_get h is_248 fl_X12_25 fr_248_3 dX12_signAt_14 ?_
    refine g_aload_n h rfl 0 rfl dX12_signAt_17 ?_
    refine g_get h is_248 fl_X12_33 rfl dX12_signAt_18 ?_
    obtain ⟨hi21, hw⟩ := hw
    refine g_iald h ar_250 hi21 dX12_signAt_21 ?_
    refine g_ni (fun v1_22 ev1_22 => ?_)
    replace hw := hw v1_22 ev1_22
    refine g_istore_n (lo2 := [(1, .int v1_22), (0, .ref 248)]) h rfl (by decide) rfl dX12_signAt_22 ?_
    refine g_iload_n h rfl 0 rfl dX12_signAt_23 ?_
    refine g_bipush (v := 63) h (by decide) dX12_signAt_24 ?_
    refine g_icmp_ne (tgt := 34) h (by decide) dX12_signAt_26 (fun q26 => ?_) (fun q26 => ?_)
    · replace hw := hw.1 q26
      refine g_iload_n h rfl 0 rfl dX12_signAt_34 ?_
      refine g_i2l h dX12_signAt_35 ?_
      refine g_ldc2 h lc_X12_45 dX12_signAt_36 ?_
      refine g_ldc2 h lc_X12_47 dX12_signAt_39 ?_
      refine g_callS [.long (Int32.toInt64 v1_22), .long 97, .long 108] h (c_X12_in X hw) sPi_v mw_X12_in lk_X12_29 rfl ⟨by decide, by decide⟩ (Nat.le_of_ble_eq_true rfl) dX12_signAt_42 (sPi_k (fun r_42 I_42 J_42 hw => ?_))
      refine g_if_eq (tgt := 55) h (by decide) dX12_signAt_45 (fun q45 => ?_) (fun q45 => ?_)
      · replace hw := hw.1 q45
        refine g_iconst (v := (-1)) h (by decide) dX12_signAt_55 ?_
        exact g_iret h hr dX12_signAt_56 hw
      · replace hw := hw.2 q45
        refine g_iload_n h rfl 0 rfl dX12_signAt_48 ?_
        refine g_bipush (v := 97) h (by decide) dX12_signAt_49 ?_
        refine g_isub h dX12_signAt_51 ?_
        refine g_goto (tgt := 56) h (by decide) dX12_signAt_52 ?_
        exact g_iret h hr dX12_signAt_56 hw
    · replace hw := hw.2 q26
      refine g_bipush (v := 12) h (by decide) dX12_signAt_29 ?_
      refine g_goto (tgt := 56) h (by decide) dX12_signAt_31 ?_
      exact g_iret h hr dX12_signAt_56 hw
  · replace hw := hw.2 q8
    refine g_iconst (v := (-1)) h (by decide) dX12_signAt_11 ?_
    exact g_iret h hr dX12_signAt_12 hw
theorem c_X12_signAt (X : sX) {I : sI} {J : sJ} {post : Int32 → sI → sJ → Prop} (hw : w_X12_signAt I J post) : sCall X yX12_signAt cX12_signAt 2 (some .int) 1 25 [.ref 248] I J (sPi post) := sCall_of (by decide +kernel) (Nat.le_of_ble_eq_true rfl) (fun X h hr => t_X12_signAt h hr hw)
theorem dX12_reads_0 : decode cX12_reads 0 = .ok (.aload_n 0, 1) := by decide +kernel
theorem dX12_reads_1 : decode cX12_reads 1 = .ok (.iconst 0, 1) := by decide +kernel
theorem dX12_reads_2 : decode cX12_reads 2 = .ok (.putfield 49, 3) := by decide +kernel
theorem dX12_reads_5 : decode cX12_reads 5 = .ok (.aload_n 0, 1) := by decide +kernel
theorem dX12_reads_6 : decode cX12_reads 6 = .ok (.iconst 0, 1) := by decide +kernel
theorem dX12_reads_7 : decode cX12_reads 7 = .ok (.putfield 52, 3) := by decide +kernel
theorem dX12_reads_10 : decode cX12_reads 10 = .ok (.iconst 1, 1) := by decide +kernel
theorem dX12_reads_11 : decode cX12_reads 11 = .ok (.istore_n 2, 1) := by decide +kernel
theorem dX12_reads_12 : decode cX12_reads 12 = .ok (.iconst 1, 1) := by decide +kernel
theorem dX12_reads_13 : decode cX12_reads 13 = .ok (.istore_n 3, 1) := by decide +kernel
theorem dX12_reads_14 : decode cX12_reads 14 = .ok (.iload_n 2, 1) := by decide +kernel
theorem dX12_reads_15 : decode cX12_reads 15 = .ok (.ifCond .eq 155, 3) := by decide +kernel
theorem dX12_reads_18 : decode cX12_reads 18 = .ok (.iconst 0, 1) := by decide +kernel
theorem dX12_reads_19 : decode cX12_reads 19 = .ok (.istore 4, 2) := by decide +kernel
theorem dX12_reads_21 : decode cX12_reads 21 = .ok (.iload 4, 2) := by decide +kernel
theorem dX12_reads_23 : decode cX12_reads 23 = .ok (.bipush 6, 2) := by decide +kernel
theorem dX12_reads_25 : decode cX12_reads 25 = .ok (.if_icmp .ge 49, 3) := by decide +kernel
theorem dX12_reads_28 : decode cX12_reads 28 = .ok (.aload_n 0, 1) := by decide +kernel
theorem dX12_reads_29 : decode cX12_reads 29 = .ok (.invokevirtual 55, 3) := by decide +kernel
theorem dX12_reads_32 : decode cX12_reads 32 = .ok (.ifCond .lt 42, 3) := by decide +kernel
theorem dX12_reads_35 : decode cX12_reads 35 = .ok (.aload_n 0, 1) := by decide +kernel
theorem dX12_reads_36 : decode cX12_reads 36 = .ok (.getfield 59, 3) := by decide +kernel
theorem dX12_reads_39 : decode cX12_reads 39 = .ok (.aload_n 0, 1) := by decide +kernel
theorem dX12_reads_40 : decode cX12_reads 40 = .ok (.getfield 52, 3) := by decide +kernel
theorem dX12_reads_43 : decode cX12_reads 43 = .ok (.aload_n 0, 1) := by decide +kernel
theorem dX12_reads_44 : decode cX12_reads 44 = .ok (.invokevirtual 55, 3) := by decide +kernel
theorem dX12_reads_47 : decode cX12_reads 47 = .ok (.iastore, 1) := by decide +kernel
theorem dX12_reads_48 : decode cX12_reads 48 = .ok (.aload_n 0, 1) := by decide +kernel
theorem dX12_reads_49 : decode cX12_reads 49 = .ok (.dup, 1) := by decide +kernel
theorem dX12_reads_50 : decode cX12_reads 50 = .ok (.getfield 52, 3) := by decide +kernel
theorem dX12_reads_53 : decode cX12_reads 53 = .ok (.iconst 1, 1) := by decide +kernel
theorem dX12_reads_54 : decode cX12_reads 54 = .ok (.iadd, 1) := by decide +kernel
theorem dX12_reads_55 : decode cX12_reads 55 = .ok (.putfield 52, 3) := by decide +kernel
theorem dX12_reads_58 : decode cX12_reads 58 = .ok (.iinc 4 1, 3) := by decide +kernel
theorem dX12_reads_61 : decode cX12_reads 61 = .ok (.aload_n 0, 1) := by decide +kernel
theorem dX12_reads_62 : decode cX12_reads 62 = .ok (.dup, 1) := by decide +kernel
theorem dX12_reads_63 : decode cX12_reads 63 = .ok (.getfield 33, 3) := by decide +kernel
theorem dX12_reads_66 : decode cX12_reads 66 = .ok (.iconst 1, 1) := by decide +kernel
theorem dX12_reads_67 : decode cX12_reads 67 = .ok (.iadd, 1) := by decide +kernel
theorem dX12_reads_68 : decode cX12_reads 68 = .ok (.putfield 33, 3) := by decide +kernel
theorem dX12_reads_71 : decode cX12_reads 71 = .ok (.goto (-50), 3) := by decide +kernel
theorem dX12_reads_74 : decode cX12_reads 74 = .ok (.iload 4, 2) := by decide +kernel
theorem dX12_reads_76 : decode cX12_reads 76 = .ok (.ifCond .le 7, 3) := by decide +kernel
theorem dX12_reads_79 : decode cX12_reads 79 = .ok (.iconst 1, 1) := by decide +kernel
theorem dX12_reads_80 : decode cX12_reads 80 = .ok (.goto 4, 3) := by decide +kernel
theorem dX12_reads_83 : decode cX12_reads 83 = .ok (.iconst 0, 1) := by decide +kernel
theorem dX12_reads_84 : decode cX12_reads 84 = .ok (.istore_n 3, 1) := by decide +kernel
theorem dX12_reads_85 : decode cX12_reads 85 = .ok (.iload_n 3, 1) := by decide +kernel
theorem dX12_reads_86 : decode cX12_reads 86 = .ok (.ifCond .eq 24, 3) := by decide +kernel
theorem dX12_reads_89 : decode cX12_reads 89 = .ok (.aload_n 0, 1) := by decide +kernel
theorem dX12_reads_90 : decode cX12_reads 90 = .ok (.getfield 62, 3) := by decide +kernel
theorem dX12_reads_93 : decode cX12_reads 93 = .ok (.aload_n 0, 1) := by decide +kernel
theorem dX12_reads_94 : decode cX12_reads 94 = .ok (.getfield 49, 3) := by decide +kernel
theorem dX12_reads_97 : decode cX12_reads 97 = .ok (.iload 4, 2) := by decide +kernel
theorem dX12_reads_99 : decode cX12_reads 99 = .ok (.iastore, 1) := by decide +kernel
theorem dX12_reads_100 : decode cX12_reads 100 = .ok (.aload_n 0, 1) := by decide +kernel
theorem dX12_reads_101 : decode cX12_reads 101 = .ok (.dup, 1) := by decide +kernel
theorem dX12_reads_102 : decode cX12_reads 102 = .ok (.getfield 49, 3) := by decide +kernel
theorem dX12_reads_105 : decode cX12_reads 105 = .ok (.iconst 1, 1) := by decide +kernel
theorem dX12_reads_106 : decode cX12_reads 106 = .ok (.iadd, 1) := by decide +kernel
theorem dX12_reads_107 : decode cX12_reads 107 = .ok (.putfield 49, 3) := by decide +kernel
theorem dX12_reads_110 : decode cX12_reads 110 = .ok (.iload_n 3, 1) := by decide +kernel
theorem dX12_reads_111 : decode cX12_reads 111 = .ok (.ifCond .eq 41, 3) := by decide +kernel
theorem dX12_reads_114 : decode cX12_reads 114 = .ok (.aload_n 0, 1) := by decide +kernel
theorem dX12_reads_115 : decode cX12_reads 115 = .ok (.getfield 49, 3) := by decide +kernel
theorem dX12_reads_118 : decode cX12_reads 118 = .ok (.bipush 12, 2) := by decide +kernel
theorem dX12_reads_120 : decode cX12_reads 120 = .ok (.if_icmp .ge 32, 3) := by decide +kernel
theorem dX12_reads_123 : decode cX12_reads 123 = .ok (.aload_n 0, 1) := by decide +kernel
theorem dX12_reads_124 : decode cX12_reads 124 = .ok (.getfield 33, 3) := by decide +kernel
theorem dX12_reads_127 : decode cX12_reads 127 = .ok (.aload_n 0, 1) := by decide +kernel
theorem dX12_reads_128 : decode cX12_reads 128 = .ok (.getfield 42, 3) := by decide +kernel
theorem dX12_reads_131 : decode cX12_reads 131 = .ok (.if_icmp .ge 21, 3) := by decide +kernel
theorem dX12_reads_134 : decode cX12_reads 134 = .ok (.aload_n 0, 1) := by decide +kernel
theorem dX12_reads_135 : decode cX12_reads 135 = .ok (.getfield 25, 3) := by decide +kernel
theorem dX12_reads_138 : decode cX12_reads 138 = .ok (.aload_n 0, 1) := by decide +kernel
theorem dX12_reads_139 : decode cX12_reads 139 = .ok (.getfield 33, 3) := by decide +kernel
theorem dX12_reads_142 : decode cX12_reads 142 = .ok (.iaload, 1) := by decide +kernel
theorem dX12_reads_143 : decode cX12_reads 143 = .ok (.bipush 45, 2) := by decide +kernel
theorem dX12_reads_145 : decode cX12_reads 145 = .ok (.if_icmp .ne 7, 3) := by decide +kernel
theorem dX12_reads_148 : decode cX12_reads 148 = .ok (.iconst 1, 1) := by decide +kernel
theorem dX12_reads_149 : decode cX12_reads 149 = .ok (.goto 4, 3) := by decide +kernel
theorem dX12_reads_152 : decode cX12_reads 152 = .ok (.iconst 0, 1) := by decide +kernel
theorem dX12_reads_153 : decode cX12_reads 153 = .ok (.istore_n 2, 1) := by decide +kernel
theorem dX12_reads_154 : decode cX12_reads 154 = .ok (.aload_n 0, 1) := by decide +kernel
theorem dX12_reads_155 : decode cX12_reads 155 = .ok (.dup, 1) := by decide +kernel
theorem dX12_reads_156 : decode cX12_reads 156 = .ok (.getfield 33, 3) := by decide +kernel
theorem dX12_reads_159 : decode cX12_reads 159 = .ok (.iload_n 2, 1) := by decide +kernel
theorem dX12_reads_160 : decode cX12_reads 160 = .ok (.invokestatic 65, 3) := by decide +kernel
theorem dX12_reads_163 : decode cX12_reads 163 = .ok (.iadd, 1) := by decide +kernel
theorem dX12_reads_164 : decode cX12_reads 164 = .ok (.putfield 33, 3) := by decide +kernel
theorem dX12_reads_167 : decode cX12_reads 167 = .ok (.goto (-153), 3) := by decide +kernel
theorem dX12_reads_170 : decode cX12_reads 170 = .ok (.iload_n 3, 1) := by decide +kernel
theorem dX12_reads_171 : decode cX12_reads 171 = .ok (.ifCond .eq 18, 3) := by decide +kernel
theorem dX12_reads_174 : decode cX12_reads 174 = .ok (.aload_n 0, 1) := by decide +kernel
theorem dX12_reads_175 : decode cX12_reads 175 = .ok (.getfield 33, 3) := by decide +kernel
theorem dX12_reads_178 : decode cX12_reads 178 = .ok (.aload_n 0, 1) := by decide +kernel
theorem dX12_reads_179 : decode cX12_reads 179 = .ok (.getfield 42, 3) := by decide +kernel
theorem dX12_reads_182 : decode cX12_reads 182 = .ok (.if_icmp .ne 7, 3) := by decide +kernel
theorem dX12_reads_185 : decode cX12_reads 185 = .ok (.iconst 1, 1) := by decide +kernel
theorem dX12_reads_186 : decode cX12_reads 186 = .ok (.goto 4, 3) := by decide +kernel
theorem dX12_reads_189 : decode cX12_reads 189 = .ok (.iconst 0, 1) := by decide +kernel
theorem dX12_reads_190 : decode cX12_reads 190 = .ok (.istore 4, 2) := by decide +kernel
theorem dX12_reads_192 : decode cX12_reads 192 = .ok (.iload_n 1, 1) := by decide +kernel
theorem dX12_reads_193 : decode cX12_reads 193 = .ok (.bipush 60, 2) := by decide +kernel
theorem dX12_reads_195 : decode cX12_reads 195 = .ok (.if_icmp .le 20, 3) := by decide +kernel
theorem dX12_reads_198 : decode cX12_reads 198 = .ok (.iload 4, 2) := by decide +kernel
theorem dX12_reads_200 : decode cX12_reads 200 = .ok (.ifCond .ne 12, 3) := by decide +kernel
theorem dX12_reads_203 : decode cX12_reads 203 = .ok (.aload_n 0, 1) := by decide +kernel
theorem dX12_reads_204 : decode cX12_reads 204 = .ok (.getfield 33, 3) := by decide +kernel
theorem dX12_reads_207 : decode cX12_reads 207 = .ok (.bipush 60, 2) := by decide +kernel
theorem dX12_reads_209 : decode cX12_reads 209 = .ok (.if_icmp .lt 6, 3) := by decide +kernel
theorem dX12_reads_212 : decode cX12_reads 212 = .ok (.bipush (-61), 2) := by decide +kernel
theorem dX12_reads_214 : decode cX12_reads 214 = .ok (.ireturn, 1) := by decide +kernel
theorem dX12_reads_215 : decode cX12_reads 215 = .ok (.iload 4, 2) := by decide +kernel
theorem dX12_reads_217 : decode cX12_reads 217 = .ok (.ifCond .eq 7, 3) := by decide +kernel
theorem dX12_reads_220 : decode cX12_reads 220 = .ok (.iconst 0, 1) := by decide +kernel
theorem dX12_reads_221 : decode cX12_reads 221 = .ok (.goto 9, 3) := by decide +kernel
theorem dX12_reads_224 : decode cX12_reads 224 = .ok (.iconst (-1), 1) := by decide +kernel
theorem dX12_reads_225 : decode cX12_reads 225 = .ok (.aload_n 0, 1) := by decide +kernel
theorem dX12_reads_226 : decode cX12_reads 226 = .ok (.getfield 33, 3) := by decide +kernel
theorem dX12_reads_229 : decode cX12_reads 229 = .ok (.isub, 1) := by decide +kernel
theorem dX12_reads_230 : decode cX12_reads 230 = .ok (.ireturn, 1) := by decide +kernel
def w_X12_reads_215 (post : Int32 → sI → sJ → Prop) (x4 : Int32) (I : sI) (J : sJ) : Prop :=
  ((x4 = 0 → post ((-1) - (I 248 5)) I J) ∧ (¬ x4 = 0 → post 0 I J))
set_option maxHeartbeats 4000000 in
set_option maxRecDepth 100000 in
theorem t_X12_reads_215 {X : sX} {post : Int32 → sI → sJ → Prop} (h : sOK X cX12_reads RX12 5 2 46) (hr : sRt X (some .int) (sPi post)) {x4 : Int32} {I : sI} {J : sJ} (hw : w_X12_reads_215 post x4 I J) : sG X 5 215 [(0, .ref 248), (4, .int x4)] [] I J := by
  unfold w_X12_reads_215 at hw
  refine g_iload h 1 rfl dX12_reads_215 ?_
  refine g_if_eq (tgt := 224) h (by decide) dX12_reads_217 (fun q217 => ?_) (fun q217 => ?_)
  · replace hw := hw.1 q217
    refine g_iconst (v := (-1)) h (by decide) dX12_reads_224 ?_
    refine g_aload_n h rfl 0 rfl dX12_reads_225 ?_
    refine g_get h is_248 fl_X12_33 rfl dX12_reads_226 ?_
    refine g_isub h dX12_reads_229 ?_
    exact g_iret h hr dX12_reads_230 hw
  · replace hw := hw.2 q217
    refine g_iconst (v := 0) h (by decide) dX12_reads_220 ?_
    refine g_goto (tgt := 230) h (by decide) dX12_reads_221 ?_
    exact g_iret h hr dX12_reads_230 hw
def w_X12_reads_190 (post : Int32 → sI → sJ → Prop) (x1 : Int32) (s0 : Int32) (I : sI) (J : sJ) : Prop :=
  ((x1 ≤ 60 → w_X12_reads_215 post s0 I J) ∧ (¬ x1 ≤ 60 → ((¬ s0 = 0 → post (-61) I J) ∧ (s0 = 0 → (((I 248 5) < 60 → w_X12_reads_215 post s0 I J) ∧ (¬ (I 248 5) < 60 → post (-61) I J))))))
set_option maxHeartbeats 4000000 in
set_option maxRecDepth 100000 in
theorem t_X12_reads_190 {X : sX} {post : Int32 → sI → sJ → Prop} (h : sOK X cX12_reads RX12 5 2 46) (hr : sRt X (some .int) (sPi post)) {x1 : Int32} {s0 : Int32} {I : sI} {J : sJ} (hw : w_X12_reads_190 post x1 s0 I J) : sG X 5 190 [(0, .ref 248), (1, .int x1)] [.int s0] I J := by
  unfold w_X12_reads_190 at hw
  refine g_istore (lo2 := [(4, .int s0), (0, .ref 248), (1, .int x1)]) h (by decide) rfl dX12_reads_190 ?_
  refine g_iload_n h rfl 2 rfl dX12_reads_192 ?_
  refine g_bipush (v := 60) h (by decide) dX12_reads_193 ?_
  refine g_icmp_le (tgt := 215) h (by decide) dX12_reads_195 (fun q195 => ?_) (fun q195 => ?_)
  · replace hw := hw.1 q195
    exact g_sub [1, 0] rfl (t_X12_reads_215 h hr hw)
  · replace hw := hw.2 q195
    refine g_iload h 0 rfl dX12_reads_198 ?_
    refine g_if_ne (tgt := 212) h (by decide) dX12_reads_200 (fun q200 => ?_) (fun q200 => ?_)
    · replace hw := hw.1 q200
      refine g_bipush (v := (-61)) h (by decide) dX12_reads_212 ?_
      exact g_iret h hr dX12_reads_214 hw
    · replace hw := hw.2 q200
      refine g_aload_n h rfl 1 rfl dX12_reads_203 ?_
      refine g_get h is_248 fl_X12_33 rfl dX12_reads_204 ?_
      refine g_bipush (v := 60) h (by decide) dX12_reads_207 ?_
      refine g_icmp_lt (tgt := 215) h (by decide) dX12_reads_209 (fun q209 => ?_) (fun q209 => ?_)
      · replace hw := hw.1 q209
        exact g_sub [1, 0] rfl (t_X12_reads_215 h hr hw)
      · replace hw := hw.2 q209
        refine g_bipush (v := (-61)) h (by decide) dX12_reads_212 ?_
        exact g_iret h hr dX12_reads_214 hw
def w_X12_reads_189 (post : Int32 → sI → sJ → Prop) (x1 : Int32) (I : sI) (J : sJ) : Prop :=
  w_X12_reads_190 post x1 0 I J
set_option maxHeartbeats 4000000 in
set_option maxRecDepth 100000 in
theorem t_X12_reads_189 {X : sX} {post : Int32 → sI → sJ → Prop} (h : sOK X cX12_reads RX12 5 2 46) (hr : sRt X (some .int) (sPi post)) {x1 : Int32} {I : sI} {J : sJ} (hw : w_X12_reads_189 post x1 I J) : sG X 5 189 [(0, .ref 248), (1, .int x1)] [] I J := by
  unfold w_X12_reads_189 at hw
  refine g_iconst (v := 0) h (by decide) dX12_reads_189 ?_
  exact g_sub [0, 1] rfl (t_X12_reads_190 h hr hw)
def w_X12_reads_153 (post : Int32 → sI → sJ → Prop) (k14 : Int32 → Int32 → Int32 → sI → sJ → Prop) (x1 : Int32) (x3 : Int32) (s0 : Int32) (I : sI) (J : sJ) : Prop :=
  w_X12_flag s0 I J (fun (r_160 : Int32) (I_160 : sI) (J_160 : sJ) => ((∀ I_164 : sI, I_164 = sUI I_160 248 5 ((I 248 5) + r_160) → k14 x1 s0 x3 I_164 J_160)))
set_option maxHeartbeats 4000000 in
set_option maxRecDepth 100000 in
theorem t_X12_reads_153 {X : sX} {post : Int32 → sI → sJ → Prop} (h : sOK X cX12_reads RX12 5 2 46) (hr : sRt X (some .int) (sPi post)) {k14 : Int32 → Int32 → Int32 → sI → sJ → Prop} (hk14 : ∀ (x1 : Int32) (x2 : Int32) (x3 : Int32) (I : sI) (J : sJ), k14 x1 x2 x3 I J → sG X 5 14 [(0, .ref 248), (1, .int x1), (2, .int x2), (3, .int x3)] [] I J) {x1 : Int32} {x3 : Int32} {s0 : Int32} {I : sI} {J : sJ} (hw : w_X12_reads_153 post k14 x1 x3 s0 I J) : sG X 5 153 [(0, .ref 248), (1, .int x1), (3, .int x3)] [.int s0] I J := by
  unfold w_X12_reads_153 at hw
  refine g_istore_n (lo2 := [(2, .int s0), (0, .ref 248), (1, .int x1), (3, .int x3)]) h rfl (by decide) rfl dX12_reads_153 ?_
  refine g_aload_n h rfl 1 rfl dX12_reads_154 ?_
  refine g_dup h rfl dX12_reads_155 ?_
  refine g_get h is_248 fl_X12_33 rfl dX12_reads_156 ?_
  refine g_iload_n h rfl 0 rfl dX12_reads_159 ?_
  refine g_callS [.int s0] h (c_X12_flag X hw) sPi_v mw_X12_flag lk_X12_65 rfl ⟨by decide, by decide⟩ (Nat.le_of_ble_eq_true rfl) dX12_reads_160 (sPi_k (fun r_160 I_160 J_160 hw => ?_))
  refine g_iadd h dX12_reads_163 ?_
  refine g_putI h is_248 fl_X12_33 rfl rfl dX12_reads_164 ?_
  refine g_nI (fun I_164 eI_164 => ?_)
  replace hw := hw I_164 eI_164
  refine g_goto (tgt := 14) h (by decide) dX12_reads_167 ?_
  exact g_sub [1, 2, 0, 3] rfl (hk14 _ _ _ _ _ hw)
def w_X12_reads_152 (post : Int32 → sI → sJ → Prop) (k14 : Int32 → Int32 → Int32 → sI → sJ → Prop) (x1 : Int32) (x3 : Int32) (I : sI) (J : sJ) : Prop :=
  w_X12_reads_153 post k14 x1 x3 0 I J
set_option maxHeartbeats 4000000 in
set_option maxRecDepth 100000 in
theorem t_X12_reads_152 {X : sX} {post : Int32 → sI → sJ → Prop} (h : sOK X cX12_reads RX12 5 2 46) (hr : sRt X (some .int) (sPi post)) {k14 : Int32 → Int32 → Int32 → sI → sJ → Prop} (hk14 : ∀ (x1 : Int32) (x2 : Int32) (x3 : Int32) (I : sI) (J : sJ), k14 x1 x2 x3 I J → sG X 5 14 [(0, .ref 248), (1, .int x1), (2, .int x2), (3, .int x3)] [] I J) {x1 : Int32} {x3 : Int32} {I : sI} {J : sJ} (hw : w_X12_reads_152 post k14 x1 x3 I J) : sG X 5 152 [(0, .ref 248), (1, .int x1), (3, .int x3)] [] I J := by
  unfold w_X12_reads_152 at hw
  refine g_iconst (v := 0) h (by decide) dX12_reads_152 ?_
  exact g_sub [0, 1, 2] rfl (t_X12_reads_153 h hr hk14 hw)
def w_X12_reads_110 (post : Int32 → sI → sJ → Prop) (k14 : Int32 → Int32 → Int32 → sI → sJ → Prop) (x1 : Int32) (x3 : Int32) (I : sI) (J : sJ) : Prop :=
  ((x3 = 0 → w_X12_reads_152 post k14 x1 x3 I J) ∧ (¬ x3 = 0 → ((12 ≤ (I 248 7) → w_X12_reads_152 post k14 x1 x3 I J) ∧ (¬ 12 ≤ (I 248 7) → (((I 248 6) ≤ (I 248 5) → w_X12_reads_152 post k14 x1 x3 I J) ∧ (¬ (I 248 6) ≤ (I 248 5) → (vp_in (I 248 5) 80 ∧ ((¬ (I 250 (Int32.toNatClampNeg (I 248 5))) = 45 → w_X12_reads_152 post k14 x1 x3 I J) ∧ ((I 250 (Int32.toNatClampNeg (I 248 5))) = 45 → w_X12_reads_153 post k14 x1 x3 1 I J)))))))))
set_option maxHeartbeats 4000000 in
set_option maxRecDepth 100000 in
theorem t_X12_reads_110 {X : sX} {post : Int32 → sI → sJ → Prop} (h : sOK X cX12_reads RX12 5 2 46) (hr : sRt X (some .int) (sPi post)) {k14 : Int32 → Int32 → Int32 → sI → sJ → Prop} (hk14 : ∀ (x1 : Int32) (x2 : Int32) (x3 : Int32) (I : sI) (J : sJ), k14 x1 x2 x3 I J → sG X 5 14 [(0, .ref 248), (1, .int x1), (2, .int x2), (3, .int x3)] [] I J) {x1 : Int32} {x3 : Int32} {I : sI} {J : sJ} (hw : w_X12_reads_110 post k14 x1 x3 I J) : sG X 5 110 [(0, .ref 248), (1, .int x1), (3, .int x3)] [] I J := by
  unfold w_X12_reads_110 at hw
  refine g_iload_n h rfl 2 rfl dX12_reads_110 ?_
  refine g_if_eq (tgt := 152) h (by decide) dX12_reads_111 (fun q111 => ?_) (fun q111 => ?_)
  · replace hw := hw.1 q111
    exact g_sub [0, 1, 2] rfl (t_X12_reads_152 h hr hk14 hw)
  · replace hw := hw.2 q111
    refine g_aload_n h rfl 0 rfl dX12_reads_114 ?_
    refine g_get h is_248 fl_X12_49 rfl dX12_reads_115 ?_
    refine g_bipush (v := 12) h (by decide) dX12_reads_118 ?_
    refine g_icmp_ge (tgt := 152) h (by decide) dX12_reads_120 (fun q120 => ?_) (fun q120 => ?_)
    · replace hw := hw.1 q120
      exact g_sub [0, 1, 2] rfl (t_X12_reads_152 h hr hk14 hw)
    · replace hw := hw.2 q120
      refine g_aload_n h rfl 0 rfl dX12_reads_123 ?_
      refine g_get h is_248 fl_X12_33 rfl dX12_reads_124 ?_
      refine g_aload_n h rfl 0 rfl dX12_reads_127 ?_
      refine g_get h is_248 fl_X12_42 rfl dX12_reads_128 ?_
      refine g_icmp_ge (tgt := 152) h (by decide) dX12_reads_131 (fun q131 => ?_) (fun q131 => ?_)
      · replace hw := hw.1 q131
        exact g_sub [0, 1, 2] rfl (t_X12_reads_152 h hr hk14 hw)
      · replace hw := hw.2 q131
        refine g_aload_n h rfl 0 rfl dX12_reads_134 ?_
        refine g_get h is_248 fl_X12_25 fr_248_3 dX12_reads_135 ?_
        refine g_aload_n h rfl 0 rfl dX12_reads_138 ?_
        refine g_get h is_248 fl_X12_33 rfl dX12_reads_139 ?_
        obtain ⟨hi142, hw⟩ := hw
        refine g_iald h ar_250 hi142 dX12_reads_142 ?_
        refine g_bipush (v := 45) h (by decide) dX12_reads_143 ?_
        refine g_icmp_ne (tgt := 152) h (by decide) dX12_reads_145 (fun q145 => ?_) (fun q145 => ?_)
        · replace hw := hw.1 q145
          exact g_sub [0, 1, 2] rfl (t_X12_reads_152 h hr hk14 hw)
        · replace hw := hw.2 q145
          refine g_iconst (v := 1) h (by decide) dX12_reads_148 ?_
          refine g_goto (tgt := 153) h (by decide) dX12_reads_149 ?_
          exact g_sub [0, 1, 2] rfl (t_X12_reads_153 h hr hk14 hw)
def w_X12_reads_84 (post : Int32 → sI → sJ → Prop) (k14 : Int32 → Int32 → Int32 → sI → sJ → Prop) (x1 : Int32) (x4 : Int32) (s0 : Int32) (I : sI) (J : sJ) : Prop :=
  ((s0 = 0 → w_X12_reads_110 post k14 x1 s0 I J) ∧ (¬ s0 = 0 → (vp_in (I 248 7) 24 ∧ (∀ I_99 : sI, I_99 = sUI I 251 (Int32.toNatClampNeg (I 248 7)) x4 → (∀ I_107 : sI, I_107 = sUI I_99 248 7 ((I_99 248 7) + 1) → w_X12_reads_110 post k14 x1 s0 I_107 J)))))
set_option maxHeartbeats 4000000 in
set_option maxRecDepth 100000 in
theorem t_X12_reads_84 {X : sX} {post : Int32 → sI → sJ → Prop} (h : sOK X cX12_reads RX12 5 2 46) (hr : sRt X (some .int) (sPi post)) {k14 : Int32 → Int32 → Int32 → sI → sJ → Prop} (hk14 : ∀ (x1 : Int32) (x2 : Int32) (x3 : Int32) (I : sI) (J : sJ), k14 x1 x2 x3 I J → sG X 5 14 [(0, .ref 248), (1, .int x1), (2, .int x2), (3, .int x3)] [] I J) {x1 : Int32} {x4 : Int32} {s0 : Int32} {I : sI} {J : sJ} (hw : w_X12_reads_84 post k14 x1 x4 s0 I J) : sG X 5 84 [(0, .ref 248), (1, .int x1), (4, .int x4)] [.int s0] I J := by
  unfold w_X12_reads_84 at hw
  refine g_istore_n (lo2 := [(3, .int s0), (0, .ref 248), (1, .int x1), (4, .int x4)]) h rfl (by decide) rfl dX12_reads_84 ?_
  refine g_iload_n h rfl 0 rfl dX12_reads_85 ?_
  refine g_if_eq (tgt := 110) h (by decide) dX12_reads_86 (fun q86 => ?_) (fun q86 => ?_)
  · replace hw := hw.1 q86
    exact g_sub [1, 2, 0] rfl (t_X12_reads_110 h hr hk14 hw)
  · replace hw := hw.2 q86
    refine g_aload_n h rfl 1 rfl dX12_reads_89 ?_
    refine g_get h is_248 fl_X12_62 fr_248_9 dX12_reads_90 ?_
    refine g_aload_n h rfl 1 rfl dX12_reads_93 ?_
    refine g_get h is_248 fl_X12_49 rfl dX12_reads_94 ?_
    refine g_iload h 3 rfl dX12_reads_97 ?_
    obtain ⟨hi99, hw⟩ := hw
    refine g_iast h ar_251 hi99 dX12_reads_99 ?_
    refine g_nI (fun I_99 eI_99 => ?_)
    replace hw := hw I_99 eI_99
    refine g_aload_n h rfl 1 rfl dX12_reads_100 ?_
    refine g_dup h rfl dX12_reads_101 ?_
    refine g_get h is_248 fl_X12_49 rfl dX12_reads_102 ?_
    refine g_iconst (v := 1) h (by decide) dX12_reads_105 ?_
    refine g_iadd h dX12_reads_106 ?_
    refine g_putI h is_248 fl_X12_49 rfl rfl dX12_reads_107 ?_
    refine g_nI (fun I_107 eI_107 => ?_)
    replace hw := hw I_107 eI_107
    exact g_sub [1, 2, 0] rfl (t_X12_reads_110 h hr hk14 hw)
def w_X12_reads_74 (post : Int32 → sI → sJ → Prop) (k14 : Int32 → Int32 → Int32 → sI → sJ → Prop) (x1 : Int32) (x4 : Int32) (I : sI) (J : sJ) : Prop :=
  ((x4 ≤ 0 → w_X12_reads_84 post k14 x1 x4 0 I J) ∧ (¬ x4 ≤ 0 → w_X12_reads_84 post k14 x1 x4 1 I J))
set_option maxHeartbeats 4000000 in
set_option maxRecDepth 100000 in
theorem t_X12_reads_74 {X : sX} {post : Int32 → sI → sJ → Prop} (h : sOK X cX12_reads RX12 5 2 46) (hr : sRt X (some .int) (sPi post)) {k14 : Int32 → Int32 → Int32 → sI → sJ → Prop} (hk14 : ∀ (x1 : Int32) (x2 : Int32) (x3 : Int32) (I : sI) (J : sJ), k14 x1 x2 x3 I J → sG X 5 14 [(0, .ref 248), (1, .int x1), (2, .int x2), (3, .int x3)] [] I J) {x1 : Int32} {x4 : Int32} {I : sI} {J : sJ} (hw : w_X12_reads_74 post k14 x1 x4 I J) : sG X 5 74 [(0, .ref 248), (1, .int x1), (4, .int x4)] [] I J := by
  unfold w_X12_reads_74 at hw
  refine g_iload h 2 rfl dX12_reads_74 ?_
  refine g_if_le (tgt := 83) h (by decide) dX12_reads_76 (fun q76 => ?_) (fun q76 => ?_)
  · replace hw := hw.1 q76
    refine g_iconst (v := 0) h (by decide) dX12_reads_83 ?_
    exact g_sub [0, 1, 2] rfl (t_X12_reads_84 h hr hk14 hw)
  · replace hw := hw.2 q76
    refine g_iconst (v := 1) h (by decide) dX12_reads_79 ?_
    refine g_goto (tgt := 84) h (by decide) dX12_reads_80 ?_
    exact g_sub [0, 1, 2] rfl (t_X12_reads_84 h hr hk14 hw)
def w_X12_reads_21_s (post : Int32 → sI → sJ → Prop) (k14 : Int32 → Int32 → Int32 → sI → sJ → Prop) (k21 : Int32 → Int32 → sI → sJ → Prop) (x1 : Int32) (x4 : Int32) (I : sI) (J : sJ) : Prop :=
  ((6 ≤ x4 → w_X12_reads_74 post k14 x1 x4 I J) ∧ (¬ 6 ≤ x4 → w_X12_signAt I J (fun (r_29 : Int32) (I_29 : sI) (J_29 : sJ) => (((r_29 < 0 → w_X12_reads_74 post k14 x1 x4 I_29 J_29) ∧ (¬ r_29 < 0 → w_X12_signAt I_29 J_29 (fun (r_44 : Int32) (I_44 : sI) (J_44 : sJ) => ((vp_in (I_29 248 8) 80 ∧ (∀ I_47 : sI, I_47 = sUI I_44 252 (Int32.toNatClampNeg (I_29 248 8)) r_44 → (∀ I_55 : sI, I_55 = sUI I_47 248 8 ((I_47 248 8) + 1) → (∀ v4_58 : Int32, v4_58 = x4 + 1 → (∀ I_68 : sI, I_68 = sUI I_55 248 5 ((I_55 248 5) + 1) → k21 x1 v4_58 I_68 J_44)))))))))))))
def w_X12_reads_21_n (post : Int32 → sI → sJ → Prop) (k14 : Int32 → Int32 → Int32 → sI → sJ → Prop) : Nat → Int32 → Int32 → sI → sJ → Prop
  | 0 => fun _ _ _ _ => False
  | n + 1 => fun x1 x4 I J => w_X12_reads_21_s post k14 (w_X12_reads_21_n post k14 n) x1 x4 I J
def w_X12_reads_21 (post : Int32 → sI → sJ → Prop) (k14 : Int32 → Int32 → Int32 → sI → sJ → Prop) (x1 : Int32) (x4 : Int32) (I : sI) (J : sJ) : Prop := ∃ n, w_X12_reads_21_n post k14 n x1 x4 I J
set_option maxHeartbeats 4000000 in
set_option maxRecDepth 100000 in
theorem t_X12_reads_21_s {X : sX} {post : Int32 → sI → sJ → Prop} (h : sOK X cX12_reads RX12 5 2 46) (hr : sRt X (some .int) (sPi post)) {k14 : Int32 → Int32 → Int32 → sI → sJ → Prop} (hk14 : ∀ (x1 : Int32) (x2 : Int32) (x3 : Int32) (I : sI) (J : sJ), k14 x1 x2 x3 I J → sG X 5 14 [(0, .ref 248), (1, .int x1), (2, .int x2), (3, .int x3)] [] I J) {k21 : Int32 → Int32 → sI → sJ → Prop} (hk21 : ∀ (x1 : Int32) (x4 : Int32) (I : sI) (J : sJ), k21 x1 x4 I J → sG X 5 21 [(0, .ref 248), (1, .int x1), (4, .int x4)] [] I J) {x1 : Int32} {x4 : Int32} {I : sI} {J : sJ} (hw : w_X12_reads_21_s post k14 k21 x1 x4 I J) : sG X 5 21 [(0, .ref 248), (1, .int x1), (4, .int x4)] [] I J := by
  unfold w_X12_reads_21_s at hw
  refine g_iload h 2 rfl dX12_reads_21 ?_
  refine g_bipush (v := 6) h (by decide) dX12_reads_23 ?_
  refine g_icmp_ge (tgt := 74) h (by decide) dX12_reads_25 (fun q25 => ?_) (fun q25 => ?_)
  · replace hw := hw.1 q25
    exact g_sub [0, 1, 2] rfl (t_X12_reads_74 h hr hk14 hw)
  · replace hw := hw.2 q25
    refine g_aload_n h rfl 0 rfl dX12_reads_28 ?_
    refine g_callV [] h (c_X12_signAt X hw) sPi_v mw_X12_signAt lk_X12_55 is_248 rfl rfl ⟨by decide, by decide⟩ (Nat.le_of_ble_eq_true rfl) dX12_reads_29 (sPi_k (fun r_29 I_29 J_29 hw => ?_))
    refine g_if_lt (tgt := 74) h (by decide) dX12_reads_32 (fun q32 => ?_) (fun q32 => ?_)
    · replace hw := hw.1 q32
      exact g_sub [0, 1, 2] rfl (t_X12_reads_74 h hr hk14 hw)
    · replace hw := hw.2 q32
      refine g_aload_n h rfl 0 rfl dX12_reads_35 ?_
      refine g_get h is_248 fl_X12_59 fr_248_10 dX12_reads_36 ?_
      refine g_aload_n h rfl 0 rfl dX12_reads_39 ?_
      refine g_get h is_248 fl_X12_52 rfl dX12_reads_40 ?_
      refine g_aload_n h rfl 0 rfl dX12_reads_43 ?_
      refine g_callV [] h (c_X12_signAt X hw) sPi_v mw_X12_signAt lk_X12_55 is_248 rfl rfl ⟨by decide, by decide⟩ (Nat.le_of_ble_eq_true rfl) dX12_reads_44 (sPi_k (fun r_44 I_44 J_44 hw => ?_))
      obtain ⟨hi47, hw⟩ := hw
      refine g_iast h ar_252 hi47 dX12_reads_47 ?_
      refine g_nI (fun I_47 eI_47 => ?_)
      replace hw := hw I_47 eI_47
      refine g_aload_n h rfl 0 rfl dX12_reads_48 ?_
      refine g_dup h rfl dX12_reads_49 ?_
      refine g_get h is_248 fl_X12_52 rfl dX12_reads_50 ?_
      refine g_iconst (v := 1) h (by decide) dX12_reads_53 ?_
      refine g_iadd h dX12_reads_54 ?_
      refine g_putI h is_248 fl_X12_52 rfl rfl dX12_reads_55 ?_
      refine g_nI (fun I_55 eI_55 => ?_)
      replace hw := hw I_55 eI_55
      obtain ⟨v4_58, ev4_58⟩ : ∃ z : Int32, z = x4 + 1 := ⟨_, rfl⟩
      replace hw := hw v4_58 ev4_58
      refine g_iinc (v := v4_58) (lo2 := [(4, .int v4_58), (0, .ref 248), (1, .int x1)]) h 2 rfl (by rw [ev4_58]; rfl) (by decide) rfl dX12_reads_58 ?_
      refine g_aload_n h rfl 1 rfl dX12_reads_61 ?_
      refine g_dup h rfl dX12_reads_62 ?_
      refine g_get h is_248 fl_X12_33 rfl dX12_reads_63 ?_
      refine g_iconst (v := 1) h (by decide) dX12_reads_66 ?_
      refine g_iadd h dX12_reads_67 ?_
      refine g_putI h is_248 fl_X12_33 rfl rfl dX12_reads_68 ?_
      refine g_nI (fun I_68 eI_68 => ?_)
      replace hw := hw I_68 eI_68
      refine g_goto (tgt := 21) h (by decide) dX12_reads_71 ?_
      exact g_sub [1, 2, 0] rfl (hk21 _ _ _ _ hw)
theorem t_X12_reads_21 {X : sX} {post : Int32 → sI → sJ → Prop} (h : sOK X cX12_reads RX12 5 2 46) (hr : sRt X (some .int) (sPi post)) {k14 : Int32 → Int32 → Int32 → sI → sJ → Prop} (hk14 : ∀ (x1 : Int32) (x2 : Int32) (x3 : Int32) (I : sI) (J : sJ), k14 x1 x2 x3 I J → sG X 5 14 [(0, .ref 248), (1, .int x1), (2, .int x2), (3, .int x3)] [] I J) {x1 : Int32} {x4 : Int32} {I : sI} {J : sJ} (hw : w_X12_reads_21 post k14 x1 x4 I J) : sG X 5 21 [(0, .ref 248), (1, .int x1), (4, .int x4)] [] I J := by
  obtain ⟨n, hw⟩ := hw
  induction n generalizing x1 x4 I J with
  | zero => exact hw.elim
  | succ n ih => exact t_X12_reads_21_s h hr hk14 (fun _ _ _ _ q => ih q) hw
def w_X12_reads_14_s (post : Int32 → sI → sJ → Prop) (k14 : Int32 → Int32 → Int32 → sI → sJ → Prop) (x1 : Int32) (x2 : Int32) (x3 : Int32) (I : sI) (J : sJ) : Prop :=
  ((x2 = 0 → ((x3 = 0 → w_X12_reads_189 post x1 I J) ∧ (¬ x3 = 0 → ((¬ (I 248 5) = (I 248 6) → w_X12_reads_189 post x1 I J) ∧ ((I 248 5) = (I 248 6) → w_X12_reads_190 post x1 1 I J))))) ∧ (¬ x2 = 0 → w_X12_reads_21 post k14 x1 0 I J))
def w_X12_reads_14_n (post : Int32 → sI → sJ → Prop) : Nat → Int32 → Int32 → Int32 → sI → sJ → Prop
  | 0 => fun _ _ _ _ _ => False
  | n + 1 => fun x1 x2 x3 I J => w_X12_reads_14_s post (w_X12_reads_14_n post n) x1 x2 x3 I J
def w_X12_reads_14 (post : Int32 → sI → sJ → Prop) (x1 : Int32) (x2 : Int32) (x3 : Int32) (I : sI) (J : sJ) : Prop := ∃ n, w_X12_reads_14_n post n x1 x2 x3 I J
set_option maxHeartbeats 4000000 in
set_option maxRecDepth 100000 in
theorem t_X12_reads_14_s {X : sX} {post : Int32 → sI → sJ → Prop} (h : sOK X cX12_reads RX12 5 2 46) (hr : sRt X (some .int) (sPi post)) {k14 : Int32 → Int32 → Int32 → sI → sJ → Prop} (hk14 : ∀ (x1 : Int32) (x2 : Int32) (x3 : Int32) (I : sI) (J : sJ), k14 x1 x2 x3 I J → sG X 5 14 [(0, .ref 248), (1, .int x1), (2, .int x2), (3, .int x3)] [] I J) {x1 : Int32} {x2 : Int32} {x3 : Int32} {I : sI} {J : sJ} (hw : w_X12_reads_14_s post k14 x1 x2 x3 I J) : sG X 5 14 [(0, .ref 248), (1, .int x1), (2, .int x2), (3, .int x3)] [] I J := by
  unfold w_X12_reads_14_s at hw
  refine g_iload_n h rfl 2 rfl dX12_reads_14 ?_
  refine g_if_eq (tgt := 170) h (by decide) dX12_reads_15 (fun q15 => ?_) (fun q15 => ?_)
  · replace hw := hw.1 q15
    refine g_iload_n h rfl 3 rfl dX12_reads_170 ?_
    refine g_if_eq (tgt := 189) h (by decide) dX12_reads_171 (fun q171 => ?_) (fun q171 => ?_)
    · replace hw := hw.1 q171
      exact g_sub [0, 1] rfl (t_X12_reads_189 h hr hw)
    · replace hw := hw.2 q171
      refine g_aload_n h rfl 0 rfl dX12_reads_174 ?_
      refine g_get h is_248 fl_X12_33 rfl dX12_reads_175 ?_
      refine g_aload_n h rfl 0 rfl dX12_reads_178 ?_
      refine g_get h is_248 fl_X12_42 rfl dX12_reads_179 ?_
      refine g_icmp_ne (tgt := 189) h (by decide) dX12_reads_182 (fun q182 => ?_) (fun q182 => ?_)
      · replace hw := hw.1 q182
        exact g_sub [0, 1] rfl (t_X12_reads_189 h hr hw)
      · replace hw := hw.2 q182
        refine g_iconst (v := 1) h (by decide) dX12_reads_185 ?_
        refine g_goto (tgt := 190) h (by decide) dX12_reads_186 ?_
        exact g_sub [0, 1] rfl (t_X12_reads_190 h hr hw)
  · replace hw := hw.2 q15
    refine g_iconst (v := 0) h (by decide) dX12_reads_18 ?_
    refine g_istore (lo2 := [(4, .int 0), (0, .ref 248), (1, .int x1), (2, .int x2), (3, .int x3)]) h (by decide) rfl dX12_reads_19 ?_
    exact g_sub [1, 2, 0] rfl (t_X12_reads_21 h hr hk14 hw)
theorem t_X12_reads_14 {X : sX} {post : Int32 → sI → sJ → Prop} (h : sOK X cX12_reads RX12 5 2 46) (hr : sRt X (some .int) (sPi post)) {x1 : Int32} {x2 : Int32} {x3 : Int32} {I : sI} {J : sJ} (hw : w_X12_reads_14 post x1 x2 x3 I J) : sG X 5 14 [(0, .ref 248), (1, .int x1), (2, .int x2), (3, .int x3)] [] I J := by
  obtain ⟨n, hw⟩ := hw
  induction n generalizing x1 x2 x3 I J with
  | zero => exact hw.elim
  | succ n ih => exact t_X12_reads_14_s h hr (fun _ _ _ _ _ q => ih q) hw
def w_X12_reads (a1 : Int32) (I : sI) (J : sJ) (post : Int32 → sI → sJ → Prop) : Prop :=
  (∀ I_2 : sI, I_2 = sUI I 248 7 0 → (∀ I_7 : sI, I_7 = sUI I_2 248 8 0 → w_X12_reads_14 post a1 1 1 I_7 J))
set_option maxHeartbeats 4000000 in
set_option maxRecDepth 100000 in
theorem t_X12_reads {X : sX} {a1 : Int32} {I : sI} {J : sJ} {post : Int32 → sI → sJ → Prop} (h : sOK X cX12_reads RX12 5 2 46) (hr : sRt X (some .int) (sPi post)) (hw : w_X12_reads a1 I J post) : sG X 5 0 [(0, .ref 248), (1, .int a1)] [] I J := by
  unfold w_X12_reads at hw
  refine g_aload_n h rfl 0 rfl dX12_reads_0 ?_
  refine g_iconst (v := 0) h (by decide) dX12_reads_1 ?_
  refine g_putI h is_248 fl_X12_49 rfl rfl dX12_reads_2 ?_
  refine g_nI (fun I_2 eI_2 => ?_)
  replace hw := hw I_2 eI_2
  refine g_aload_n h rfl 0 rfl dX12_reads_5 ?_
  refine g_iconst (v := 0) h (by decide) dX12_reads_6 ?_
  refine g_putI h is_248 fl_X12_52 rfl rfl dX12_reads_7 ?_
  refine g_nI (fun I_7 eI_7 => ?_)
  replace hw := hw I_7 eI_7
  refine g_iconst (v := 1) h (by decide) dX12_reads_10 ?_
  refine g_istore_n (lo2 := [(2, .int 1), (0, .ref 248), (1, .int a1)]) h rfl (by decide) rfl dX12_reads_11 ?_
  refine g_iconst (v := 1) h (by decide) dX12_reads_12 ?_
  refine g_istore_n (lo2 := [(3, .int 1), (2, .int 1), (0, .ref 248), (1, .int a1)]) h rfl (by decide) rfl dX12_reads_13 ?_
  exact g_sub [2, 3, 1, 0] rfl (t_X12_reads_14 h hr hw)
theorem c_X12_reads (X : sX) {a1 : Int32} {I : sI} {J : sJ} {post : Int32 → sI → sJ → Prop} (hw : w_X12_reads a1 I J post) : sCall X yX12_reads cX12_reads 5 (some .int) 2 46 [.ref 248, .int a1] I J (sPi post) := sCall_of (by decide +kernel) (Nat.le_of_ble_eq_true rfl) (fun X h hr => t_X12_reads h hr hw)
theorem dX12_disc_0 : decode cX12_disc 0 = .ok (.aload_n 0, 1) := by decide +kernel
theorem dX12_disc_1 : decode cX12_disc 1 = .ok (.iconst 0, 1) := by decide +kernel
theorem dX12_disc_2 : decode cX12_disc 2 = .ok (.putfield 1, 3) := by decide +kernel
theorem dX12_disc_5 : decode cX12_disc 5 = .ok (.aload_n 0, 1) := by decide +kernel
theorem dX12_disc_6 : decode cX12_disc 6 = .ok (.aload_n 0, 1) := by decide +kernel
theorem dX12_disc_7 : decode cX12_disc 7 = .ok (.bipush 60, 2) := by decide +kernel
theorem dX12_disc_9 : decode cX12_disc 9 = .ok (.invokevirtual 69, 3) := by decide +kernel
theorem dX12_disc_12 : decode cX12_disc 12 = .ok (.invokevirtual 73, 3) := by decide +kernel
theorem dX12_disc_15 : decode cX12_disc 15 = .ok (.istore_n 1, 1) := by decide +kernel
theorem dX12_disc_16 : decode cX12_disc 16 = .ok (.iload_n 1, 1) := by decide +kernel
theorem dX12_disc_17 : decode cX12_disc 17 = .ok (.ifCond .ge 5, 3) := by decide +kernel
theorem dX12_disc_20 : decode cX12_disc 20 = .ok (.iload_n 1, 1) := by decide +kernel
theorem dX12_disc_21 : decode cX12_disc 21 = .ok (.ireturn, 1) := by decide +kernel
theorem dX12_disc_22 : decode cX12_disc 22 = .ok (.aload_n 0, 1) := by decide +kernel
theorem dX12_disc_23 : decode cX12_disc 23 = .ok (.aload_n 0, 1) := by decide +kernel
theorem dX12_disc_24 : decode cX12_disc 24 = .ok (.getfield 49, 3) := by decide +kernel
theorem dX12_disc_27 : decode cX12_disc 27 = .ok (.putfield 76, 3) := by decide +kernel
theorem dX12_disc_30 : decode cX12_disc 30 = .ok (.aload_n 0, 1) := by decide +kernel
theorem dX12_disc_31 : decode cX12_disc 31 = .ok (.aload_n 0, 1) := by decide +kernel
theorem dX12_disc_32 : decode cX12_disc 32 = .ok (.getfield 52, 3) := by decide +kernel
theorem dX12_disc_35 : decode cX12_disc 35 = .ok (.putfield 79, 3) := by decide +kernel
theorem dX12_disc_38 : decode cX12_disc 38 = .ok (.iconst 0, 1) := by decide +kernel
theorem dX12_disc_39 : decode cX12_disc 39 = .ok (.istore_n 2, 1) := by decide +kernel
theorem dX12_disc_40 : decode cX12_disc 40 = .ok (.iload_n 2, 1) := by decide +kernel
theorem dX12_disc_41 : decode cX12_disc 41 = .ok (.aload_n 0, 1) := by decide +kernel
theorem dX12_disc_42 : decode cX12_disc 42 = .ok (.getfield 76, 3) := by decide +kernel
theorem dX12_disc_45 : decode cX12_disc 45 = .ok (.if_icmp .ge 21, 3) := by decide +kernel
theorem dX12_disc_48 : decode cX12_disc 48 = .ok (.aload_n 0, 1) := by decide +kernel
theorem dX12_disc_49 : decode cX12_disc 49 = .ok (.getfield 82, 3) := by decide +kernel
theorem dX12_disc_52 : decode cX12_disc 52 = .ok (.iload_n 2, 1) := by decide +kernel
theorem dX12_disc_53 : decode cX12_disc 53 = .ok (.aload_n 0, 1) := by decide +kernel
theorem dX12_disc_54 : decode cX12_disc 54 = .ok (.getfield 62, 3) := by decide +kernel
theorem dX12_disc_57 : decode cX12_disc 57 = .ok (.iload_n 2, 1) := by decide +kernel
theorem dX12_disc_58 : decode cX12_disc 58 = .ok (.iaload, 1) := by decide +kernel
theorem dX12_disc_59 : decode cX12_disc 59 = .ok (.iastore, 1) := by decide +kernel
theorem dX12_disc_60 : decode cX12_disc 60 = .ok (.iinc 2 1, 3) := by decide +kernel
theorem dX12_disc_63 : decode cX12_disc 63 = .ok (.goto (-23), 3) := by decide +kernel
theorem dX12_disc_66 : decode cX12_disc 66 = .ok (.iconst 0, 1) := by decide +kernel
theorem dX12_disc_67 : decode cX12_disc 67 = .ok (.istore_n 2, 1) := by decide +kernel
theorem dX12_disc_68 : decode cX12_disc 68 = .ok (.iload_n 2, 1) := by decide +kernel
theorem dX12_disc_69 : decode cX12_disc 69 = .ok (.aload_n 0, 1) := by decide +kernel
theorem dX12_disc_70 : decode cX12_disc 70 = .ok (.getfield 79, 3) := by decide +kernel
theorem dX12_disc_73 : decode cX12_disc 73 = .ok (.if_icmp .ge 21, 3) := by decide +kernel
theorem dX12_disc_76 : decode cX12_disc 76 = .ok (.aload_n 0, 1) := by decide +kernel
theorem dX12_disc_77 : decode cX12_disc 77 = .ok (.getfield 85, 3) := by decide +kernel
theorem dX12_disc_80 : decode cX12_disc 80 = .ok (.iload_n 2, 1) := by decide +kernel
theorem dX12_disc_81 : decode cX12_disc 81 = .ok (.aload_n 0, 1) := by decide +kernel
theorem dX12_disc_82 : decode cX12_disc 82 = .ok (.getfield 59, 3) := by decide +kernel
theorem dX12_disc_85 : decode cX12_disc 85 = .ok (.iload_n 2, 1) := by decide +kernel
theorem dX12_disc_86 : decode cX12_disc 86 = .ok (.iaload, 1) := by decide +kernel
theorem dX12_disc_87 : decode cX12_disc 87 = .ok (.iastore, 1) := by decide +kernel
theorem dX12_disc_88 : decode cX12_disc 88 = .ok (.iinc 2 1, 3) := by decide +kernel
theorem dX12_disc_91 : decode cX12_disc 91 = .ok (.goto (-23), 3) := by decide +kernel
theorem dX12_disc_94 : decode cX12_disc 94 = .ok (.aload_n 0, 1) := by decide +kernel
theorem dX12_disc_95 : decode cX12_disc 95 = .ok (.iconst 0, 1) := by decide +kernel
theorem dX12_disc_96 : decode cX12_disc 96 = .ok (.putfield 88, 3) := by decide +kernel
theorem dX12_disc_99 : decode cX12_disc 99 = .ok (.aload_n 0, 1) := by decide +kernel
theorem dX12_disc_100 : decode cX12_disc 100 = .ok (.getfield 76, 3) := by decide +kernel
theorem dX12_disc_103 : decode cX12_disc 103 = .ok (.ireturn, 1) := by decide +kernel
def w_X12_disc_68_s (post : Int32 → sI → sJ → Prop) (k68 : Int32 → sI → sJ → Prop) (x2 : Int32) (I : sI) (J : sJ) : Prop :=
  (((I 248 12) ≤ x2 → (∀ I_96 : sI, I_96 = sUI I 248 15 0 → post (I_96 248 11) I_96 J)) ∧ (¬ (I 248 12) ≤ x2 → (vp_in x2 80 ∧ (vp_in x2 80 ∧ (∀ I_87 : sI, I_87 = sUI I 254 (Int32.toNatClampNeg x2) (I 252 (Int32.toNatClampNeg x2)) → (∀ v2_88 : Int32, v2_88 = x2 + 1 → k68 v2_88 I_87 J))))))
def w_X12_disc_68_n (post : Int32 → sI → sJ → Prop) : Nat → Int32 → sI → sJ → Prop
  | 0 => fun _ _ _ => False
  | n + 1 => fun x2 I J => w_X12_disc_68_s post (w_X12_disc_68_n post n) x2 I J
def w_X12_disc_68 (post : Int32 → sI → sJ → Prop) (x2 : Int32) (I : sI) (J : sJ) : Prop := ∃ n, w_X12_disc_68_n post n x2 I J
set_option maxHeartbeats 4000000 in
set_option maxRecDepth 100000 in
theorem t_X12_disc_68_s {X : sX} {post : Int32 → sI → sJ → Prop} (h : sOK X cX12_disc RX12 3 3 70) (hr : sRt X (some .int) (sPi post)) {k68 : Int32 → sI → sJ → Prop} (hk68 : ∀ (x2 : Int32) (I : sI) (J : sJ), k68 x2 I J → sG X 3 68 [(0, .ref 248), (2, .int x2)] [] I J) {x2 : Int32} {I : sI} {J : sJ} (hw : w_X12_disc_68_s post k68 x2 I J) : sG X 3 68 [(0, .ref 248), (2, .int x2)] [] I J := by
  unfold w_X12_disc_68_s at hw
  refine g_iload_n h rfl 1 rfl dX12_disc_68 ?_
  refine g_aload_n h rfl 0 rfl dX12_disc_69 ?_
  refine g_get h is_248 fl_X12_79 rfl dX12_disc_70 ?_
  refine g_icmp_ge (tgt := 94) h (by decide) dX12_disc_73 (fun q73 => ?_) (fun q73 => ?_)
  · replace hw := hw.1 q73
    refine g_aload_n h rfl 0 rfl dX12_disc_94 ?_
    refine g_iconst (v := 0) h (by decide) dX12_disc_95 ?_
    refine g_putI h is_248 fl_X12_88 rfl rfl dX12_disc_96 ?_
    refine g_nI (fun I_96 eI_96 => ?_)
    replace hw := hw I_96 eI_96
    refine g_aload_n h rfl 0 rfl dX12_disc_99 ?_
    refine g_get h is_248 fl_X12_76 rfl dX12_disc_100 ?_
    exact g_iret h hr dX12_disc_103 hw
  · replace hw := hw.2 q73
    refine g_aload_n h rfl 0 rfl dX12_disc_76 ?_
    refine g_get h is_248 fl_X12_85 fr_248_14 dX12_disc_77 ?_
    refine g_iload_n h rfl 1 rfl dX12_disc_80 ?_
    refine g_aload_n h rfl 0 rfl dX12_disc_81 ?_
    refine g_get h is_248 fl_X12_59 fr_248_10 dX12_disc_82 ?_
    refine g_iload_n h rfl 1 rfl dX12_disc_85 ?_
    obtain ⟨hi86, hw⟩ := hw
    refine g_iald h ar_252 hi86 dX12_disc_86 ?_
    obtain ⟨hi87, hw⟩ := hw
    refine g_iast h ar_254 hi87 dX12_disc_87 ?_
    refine g_nI (fun I_87 eI_87 => ?_)
    replace hw := hw I_87 eI_87
    obtain ⟨v2_88, ev2_88⟩ : ∃ z : Int32, z = x2 + 1 := ⟨_, rfl⟩
    replace hw := hw v2_88 ev2_88
    refine g_iinc (v := v2_88) (lo2 := [(2, .int v2_88), (0, .ref 248)]) h 1 rfl (by rw [ev2_88]; rfl) (by decide) rfl dX12_disc_88 ?_
    refine g_goto (tgt := 68) h (by decide) dX12_disc_91 ?_
    exact g_sub [1, 0] rfl (hk68 _ _ _ hw)
theorem t_X12_disc_68 {X : sX} {post : Int32 → sI → sJ → Prop} (h : sOK X cX12_disc RX12 3 3 70) (hr : sRt X (some .int) (sPi post)) {x2 : Int32} {I : sI} {J : sJ} (hw : w_X12_disc_68 post x2 I J) : sG X 3 68 [(0, .ref 248), (2, .int x2)] [] I J := by
  obtain ⟨n, hw⟩ := hw
  induction n generalizing x2 I J with
  | zero => exact hw.elim
  | succ n ih => exact t_X12_disc_68_s h hr (fun _ _ _ q => ih q) hw
def w_X12_disc_40_s (post : Int32 → sI → sJ → Prop) (k40 : Int32 → sI → sJ → Prop) (x2 : Int32) (I : sI) (J : sJ) : Prop :=
  (((I 248 11) ≤ x2 → w_X12_disc_68 post 0 I J) ∧ (¬ (I 248 11) ≤ x2 → (vp_in x2 24 ∧ (vp_in x2 24 ∧ (∀ I_59 : sI, I_59 = sUI I 253 (Int32.toNatClampNeg x2) (I 251 (Int32.toNatClampNeg x2)) → (∀ v2_60 : Int32, v2_60 = x2 + 1 → k40 v2_60 I_59 J))))))
def w_X12_disc_40_n (post : Int32 → sI → sJ → Prop) : Nat → Int32 → sI → sJ → Prop
  | 0 => fun _ _ _ => False
  | n + 1 => fun x2 I J => w_X12_disc_40_s post (w_X12_disc_40_n post n) x2 I J
def w_X12_disc_40 (post : Int32 → sI → sJ → Prop) (x2 : Int32) (I : sI) (J : sJ) : Prop := ∃ n, w_X12_disc_40_n post n x2 I J
set_option maxHeartbeats 4000000 in
set_option maxRecDepth 100000 in
theorem t_X12_disc_40_s {X : sX} {post : Int32 → sI → sJ → Prop} (h : sOK X cX12_disc RX12 3 3 70) (hr : sRt X (some .int) (sPi post)) {k40 : Int32 → sI → sJ → Prop} (hk40 : ∀ (x2 : Int32) (I : sI) (J : sJ), k40 x2 I J → sG X 3 40 [(0, .ref 248), (2, .int x2)] [] I J) {x2 : Int32} {I : sI} {J : sJ} (hw : w_X12_disc_40_s post k40 x2 I J) : sG X 3 40 [(0, .ref 248), (2, .int x2)] [] I J := by
  unfold w_X12_disc_40_s at hw
  refine g_iload_n h rfl 1 rfl dX12_disc_40 ?_
  refine g_aload_n h rfl 0 rfl dX12_disc_41 ?_
  refine g_get h is_248 fl_X12_76 rfl dX12_disc_42 ?_
  refine g_icmp_ge (tgt := 66) h (by decide) dX12_disc_45 (fun q45 => ?_) (fun q45 => ?_)
  · replace hw := hw.1 q45
    refine g_iconst (v := 0) h (by decide) dX12_disc_66 ?_
    refine g_istore_n (lo2 := [(2, .int 0), (0, .ref 248)]) h rfl (by decide) rfl dX12_disc_67 ?_
    exact g_sub [1, 0] rfl (t_X12_disc_68 h hr hw)
  · replace hw := hw.2 q45
    refine g_aload_n h rfl 0 rfl dX12_disc_48 ?_
    refine g_get h is_248 fl_X12_82 fr_248_13 dX12_disc_49 ?_
    refine g_iload_n h rfl 1 rfl dX12_disc_52 ?_
    refine g_aload_n h rfl 0 rfl dX12_disc_53 ?_
    refine g_get h is_248 fl_X12_62 fr_248_9 dX12_disc_54 ?_
    refine g_iload_n h rfl 1 rfl dX12_disc_57 ?_
    obtain ⟨hi58, hw⟩ := hw
    refine g_iald h ar_251 hi58 dX12_disc_58 ?_
    obtain ⟨hi59, hw⟩ := hw
    refine g_iast h ar_253 hi59 dX12_disc_59 ?_
    refine g_nI (fun I_59 eI_59 => ?_)
    replace hw := hw I_59 eI_59
    obtain ⟨v2_60, ev2_60⟩ : ∃ z : Int32, z = x2 + 1 := ⟨_, rfl⟩
    replace hw := hw v2_60 ev2_60
    refine g_iinc (v := v2_60) (lo2 := [(2, .int v2_60), (0, .ref 248)]) h 1 rfl (by rw [ev2_60]; rfl) (by decide) rfl dX12_disc_60 ?_
    refine g_goto (tgt := 40) h (by decide) dX12_disc_63 ?_
    exact g_sub [1, 0] rfl (hk40 _ _ _ hw)
theorem t_X12_disc_40 {X : sX} {post : Int32 → sI → sJ → Prop} (h : sOK X cX12_disc RX12 3 3 70) (hr : sRt X (some .int) (sPi post)) {x2 : Int32} {I : sI} {J : sJ} (hw : w_X12_disc_40 post x2 I J) : sG X 3 40 [(0, .ref 248), (2, .int x2)] [] I J := by
  obtain ⟨n, hw⟩ := hw
  induction n generalizing x2 I J with
  | zero => exact hw.elim
  | succ n ih => exact t_X12_disc_40_s h hr (fun _ _ _ q => ih q) hw
def w_X12_disc (I : sI) (J : sJ) (post : Int32 → sI → sJ → Prop) : Prop :=
  (∀ I_2 : sI, I_2 = sUI I 248 0 0 → w_X12_begins 60 I_2 J (fun (r_9 : Int32) (I_9 : sI) (J_9 : sJ) => (w_X12_reads r_9 I_9 J_9 (fun (r_12 : Int32) (I_12 : sI) (J_12 : sJ) => (((0 ≤ r_12 → (∀ I_27 : sI, I_27 = sUI I_12 248 11 (I_12 248 7) → (∀ I_35 : sI, I_35 = sUI I_27 248 12 (I_27 248 8) → w_X12_disc_40 post 0 I_35 J_12))) ∧ (¬ 0 ≤ r_12 → post r_12 I_12 J_12)))))))
set_option maxHeartbeats 4000000 in
set_option maxRecDepth 100000 in
theorem t_X12_disc {X : sX} {I : sI} {J : sJ} {post : Int32 → sI → sJ → Prop} (h : sOK X cX12_disc RX12 3 3 70) (hr : sRt X (some .int) (sPi post)) (hw : w_X12_disc I J post) : sG X 3 0 [(0, .ref 248)] [] I J := by
  unfold w_X12_disc at hw
  refine g_aload_n h rfl 0 rfl dX12_disc_0 ?_
  refine g_iconst (v := 0) h (by decide) dX12_disc_1 ?_
  refine g_putI h is_248 fl_X12_1 rfl rfl dX12_disc_2 ?_
  refine g_nI (fun I_2 eI_2 => ?_)
  replace hw := hw I_2 eI_2
  refine g_aload_n h rfl 0 rfl dX12_disc_5 ?_
  refine g_aload_n h rfl 0 rfl dX12_disc_6 ?_
  refine g_bipush (v := 60) h (by decide) dX12_disc_7 ?_
  refine g_callV [.int 60] h (c_X12_begins X hw) sPi_v mw_X12_begins lk_X12_69 is_248 rfl rfl ⟨by decide, by decide⟩ (Nat.le_of_ble_eq_true rfl) dX12_disc_9 (sPi_k (fun r_9 I_9 J_9 hw => ?_))
  refine g_callV [.int r_9] h (c_X12_reads X hw) sPi_v mw_X12_reads lk_X12_73 is_248 rfl rfl ⟨by decide, by decide⟩ (Nat.le_of_ble_eq_true rfl) dX12_disc_12 (sPi_k (fun r_12 I_12 J_12 hw => ?_))
  refine g_istore_n (lo2 := [(1, .int r_12), (0, .ref 248)]) h rfl (by decide) rfl dX12_disc_15 ?_
  refine g_iload_n h rfl 0 rfl dX12_disc_16 ?_
  refine g_if_ge (tgt := 22) h (by decide) dX12_disc_17 (fun q17 => ?_) (fun q17 => ?_)
  · replace hw := hw.1 q17
    refine g_aload_n h rfl 1 rfl dX12_disc_22 ?_
    refine g_aload_n h rfl 1 rfl dX12_disc_23 ?_
    refine g_get h is_248 fl_X12_49 rfl dX12_disc_24 ?_
    refine g_putI h is_248 fl_X12_76 rfl rfl dX12_disc_27 ?_
    refine g_nI (fun I_27 eI_27 => ?_)
    replace hw := hw I_27 eI_27
    refine g_aload_n h rfl 1 rfl dX12_disc_30 ?_
    refine g_aload_n h rfl 1 rfl dX12_disc_31 ?_
    refine g_get h is_248 fl_X12_52 rfl dX12_disc_32 ?_
    refine g_putI h is_248 fl_X12_79 rfl rfl dX12_disc_35 ?_
    refine g_nI (fun I_35 eI_35 => ?_)
    replace hw := hw I_35 eI_35
    refine g_iconst (v := 0) h (by decide) dX12_disc_38 ?_
    refine g_istore_n (lo2 := [(2, .int 0), (1, .int r_12), (0, .ref 248)]) h rfl (by decide) rfl dX12_disc_39 ?_
    exact g_sub [2, 0] rfl (t_X12_disc_40 h hr hw)
  · replace hw := hw.2 q17
    refine g_iload_n h rfl 0 rfl dX12_disc_20 ?_
    exact g_iret h hr dX12_disc_21 hw
theorem c_X12_disc (X : sX) {I : sI} {J : sJ} {post : Int32 → sI → sJ → Prop} (hw : w_X12_disc I J post) : sCall X yX12_disc cX12_disc 3 (some .int) 3 70 [.ref 248] I J (sPi post) := sCall_of (by decide +kernel) (Nat.le_of_ble_eq_true rfl) (fun X h hr => t_X12_disc h hr hw)
theorem dX12_at_0 : decode cX12_at 0 = .ok (.aload_n 0, 1) := by decide +kernel
theorem dX12_at_1 : decode cX12_at 1 = .ok (.iconst 0, 1) := by decide +kernel
theorem dX12_at_2 : decode cX12_at 2 = .ok (.putfield 1, 3) := by decide +kernel
theorem dX12_at_5 : decode cX12_at 5 = .ok (.iload_n 1, 1) := by decide +kernel
theorem dX12_at_6 : decode cX12_at 6 = .ok (.i2l, 1) := by decide +kernel
theorem dX12_at_7 : decode cX12_at 7 = .ok (.lconst 0, 1) := by decide +kernel
theorem dX12_at_8 : decode cX12_at 8 = .ok (.aload_n 0, 1) := by decide +kernel
theorem dX12_at_9 : decode cX12_at 9 = .ok (.getfield 79, 3) := by decide +kernel
theorem dX12_at_12 : decode cX12_at 12 = .ok (.iconst 1, 1) := by decide +kernel
theorem dX12_at_13 : decode cX12_at 13 = .ok (.isub, 1) := by decide +kernel
theorem dX12_at_14 : decode cX12_at 14 = .ok (.i2l, 1) := by decide +kernel
theorem dX12_at_15 : decode cX12_at 15 = .ok (.invokestatic 29, 3) := by decide +kernel
theorem dX12_at_18 : decode cX12_at 18 = .ok (.ifCond .eq 12, 3) := by decide +kernel
theorem dX12_at_21 : decode cX12_at 21 = .ok (.aload_n 0, 1) := by decide +kernel
theorem dX12_at_22 : decode cX12_at 22 = .ok (.getfield 85, 3) := by decide +kernel
theorem dX12_at_25 : decode cX12_at 25 = .ok (.iload_n 1, 1) := by decide +kernel
theorem dX12_at_26 : decode cX12_at 26 = .ok (.iaload, 1) := by decide +kernel
theorem dX12_at_27 : decode cX12_at 27 = .ok (.goto 7, 3) := by decide +kernel
theorem dX12_at_30 : decode cX12_at 30 = .ok (.aload_n 0, 1) := by decide +kernel
theorem dX12_at_31 : decode cX12_at 31 = .ok (.invokevirtual 91, 3) := by decide +kernel
theorem dX12_at_34 : decode cX12_at 34 = .ok (.ireturn, 1) := by decide +kernel
def w_X12_at (a1 : Int32) (I : sI) (J : sJ) (post : Int32 → sI → sJ → Prop) : Prop :=
  (∀ I_2 : sI, I_2 = sUI I 248 0 0 → w_X12_in (Int32.toInt64 a1) 0 (Int32.toInt64 ((I_2 248 12) - 1)) I_2 J (fun (r_15 : Int32) (I_15 : sI) (J_15 : sJ) => (((r_15 = 0 → w_X12_refuse I_15 J_15 (fun (r_31 : Int32) (I_31 : sI) (J_31 : sJ) => (post r_31 I_31 J_31))) ∧ (¬ r_15 = 0 → (vp_in a1 80 ∧ post (I_15 254 (Int32.toNatClampNeg a1)) I_15 J_15))))))
set_option maxHeartbeats 4000000 in
set_option maxRecDepth 100000 in
theorem t_X12_at {X : sX} {a1 : Int32} {I : sI} {J : sJ} {post : Int32 → sI → sJ → Prop} (h : sOK X cX12_at RX12 2 1 25) (hr : sRt X (some .int) (sPi post)) (hw : w_X12_at a1 I J post) : sG X 2 0 [(0, .ref 248), (1, .int a1)] [] I J := by
  unfold w_X12_at at hw
  refine g_aload_n h rfl 0 rfl dX12_at_0 ?_
  refine g_iconst (v := 0) h (by decide) dX12_at_1 ?_
  refine g_putI h is_248 fl_X12_1 rfl rfl dX12_at_2 ?_
  refine g_nI (fun I_2 eI_2 => ?_)
  replace hw := hw I_2 eI_2
  refine g_iload_n h rfl 1 rfl dX12_at_5 ?_
  refine g_i2l h dX12_at_6 ?_
  refine g_lconst (v := 0) h (by decide) dX12_at_7 ?_
  refine g_aload_n h rfl 0 rfl dX12_at_8 ?_
  refine g_get h is_248 fl_X12_79 rfl dX12_at_9 ?_
  refine g_iconst (v := 1) h (by decide) dX12_at_12 ?_
  refine g_isub h dX12_at_13 ?_
  refine g_i2l h dX12_at_14 ?_
  refine g_callS [.long (Int32.toInt64 a1), .long 0, .long (Int32.toInt64 ((I_2 248 12) - 1))] h (c_X12_in X hw) sPi_v mw_X12_in lk_X12_29 rfl ⟨by decide, by decide⟩ (Nat.le_of_ble_eq_true rfl) dX12_at_15 (sPi_k (fun r_15 I_15 J_15 hw => ?_))
  refine g_if_eq (tgt := 30) h (by decide) dX12_at_18 (fun q18 => ?_) (fun q18 => ?_)
  · replace hw := hw.1 q18
    refine g_aload_n h rfl 0 rfl dX12_at_30 ?_
    refine g_callV [] h (c_X12_refuse X hw) sPi_v mw_X12_refuse lk_X12_91 is_248 rfl rfl ⟨by decide, by decide⟩ (Nat.le_of_ble_eq_true rfl) dX12_at_31 (sPi_k (fun r_31 I_31 J_31 hw => ?_))
    exact g_iret h hr dX12_at_34 hw
  · replace hw := hw.2 q18
    refine g_aload_n h rfl 0 rfl dX12_at_21 ?_
    refine g_get h is_248 fl_X12_85 fr_248_14 dX12_at_22 ?_
    refine g_iload_n h rfl 1 rfl dX12_at_25 ?_
    obtain ⟨hi26, hw⟩ := hw
    refine g_iald h ar_254 hi26 dX12_at_26 ?_
    refine g_goto (tgt := 34) h (by decide) dX12_at_27 ?_
    exact g_iret h hr dX12_at_34 hw
theorem c_X12_at (X : sX) {a1 : Int32} {I : sI} {J : sJ} {post : Int32 → sI → sJ → Prop} (hw : w_X12_at a1 I J post) : sCall X yX12_at cX12_at 2 (some .int) 1 25 [.ref 248, .int a1] I J (sPi post) := sCall_of (by decide +kernel) (Nat.le_of_ble_eq_true rfl) (fun X h hr => t_X12_at h hr hw)
theorem dX12_isTongue_0 : decode cX12_isTongue 0 = .ok (.iload_n 0, 1) := by decide +kernel
theorem dX12_isTongue_1 : decode cX12_isTongue 1 = .ok (.i2l, 1) := by decide +kernel
theorem dX12_isTongue_2 : decode cX12_isTongue 2 = .ok (.lconst 0, 1) := by decide +kernel
theorem dX12_isTongue_3 : decode cX12_isTongue 3 = .ok (.ldc2_w 94, 3) := by decide +kernel
theorem dX12_isTongue_6 : decode cX12_isTongue 6 = .ok (.invokestatic 29, 3) := by decide +kernel
theorem dX12_isTongue_9 : decode cX12_isTongue 9 = .ok (.ireturn, 1) := by decide +kernel
def w_X12_isTongue (a0 : Int32) (I : sI) (J : sJ) (post : Int32 → sI → sJ → Prop) : Prop :=
  w_X12_in (Int32.toInt64 a0) 0 3 I J (fun (r_6 : Int32) (I_6 : sI) (J_6 : sJ) => ((sZ r_6 ∧ post r_6 I_6 J_6)))
set_option maxHeartbeats 4000000 in
set_option maxRecDepth 100000 in
theorem t_X12_isTongue {X : sX} {a0 : Int32} {I : sI} {J : sJ} {post : Int32 → sI → sJ → Prop} (h : sOK X cX12_isTongue RX12 1 1 25) (hr : sRt X (some .boolean) (sPi post)) (hw : w_X12_isTongue a0 I J post) : sG X 1 0 [(0, .int a0)] [] I J := by
  unfold w_X12_isTongue at hw
  refine g_iload_n h rfl 0 rfl dX12_isTongue_0 ?_
  refine g_i2l h dX12_isTongue_1 ?_
  refine g_lconst (v := 0) h (by decide) dX12_isTongue_2 ?_
  refine g_ldc2 h lc_X12_94 dX12_isTongue_3 ?_
  refine g_callS [.long (Int32.toInt64 a0), .long 0, .long 3] h (c_X12_in X hw) sPi_v mw_X12_in lk_X12_29 rfl ⟨by decide, by decide⟩ (Nat.le_of_ble_eq_true rfl) dX12_isTongue_6 (sPi_k (fun r_6 I_6 J_6 hw => ?_))
  exact g_zret h hr hw.1 dX12_isTongue_9 hw.2
theorem c_X12_isTongue (X : sX) {a0 : Int32} {I : sI} {J : sJ} {post : Int32 → sI → sJ → Prop} (hw : w_X12_isTongue a0 I J post) : sCall X yX12_isTongue cX12_isTongue 1 (some .boolean) 1 25 [.int a0] I J (sPi post) := sCall_of (by decide +kernel) (Nat.le_of_ble_eq_true rfl) (fun X h hr => t_X12_isTongue h hr hw)
theorem dX12_word_0 : decode cX12_word 0 = .ok (.aload_n 0, 1) := by decide +kernel
theorem dX12_word_1 : decode cX12_word 1 = .ok (.iconst 0, 1) := by decide +kernel
theorem dX12_word_2 : decode cX12_word 2 = .ok (.putfield 1, 3) := by decide +kernel
theorem dX12_word_5 : decode cX12_word 5 = .ok (.aload_n 0, 1) := by decide +kernel
theorem dX12_word_6 : decode cX12_word 6 = .ok (.bipush 6, 2) := by decide +kernel
theorem dX12_word_8 : decode cX12_word 8 = .ok (.invokevirtual 69, 3) := by decide +kernel
theorem dX12_word_11 : decode cX12_word 11 = .ok (.istore_n 2, 1) := by decide +kernel
theorem dX12_word_12 : decode cX12_word 12 = .ok (.iload_n 1, 1) := by decide +kernel
theorem dX12_word_13 : decode cX12_word 13 = .ok (.invokestatic 96, 3) := by decide +kernel
theorem dX12_word_16 : decode cX12_word 16 = .ok (.ifCond .eq 14, 3) := by decide +kernel
theorem dX12_word_19 : decode cX12_word 19 = .ok (.aload_n 0, 1) := by decide +kernel
theorem dX12_word_20 : decode cX12_word 20 = .ok (.getfield 100, 3) := by decide +kernel
theorem dX12_word_23 : decode cX12_word 23 = .ok (.iload_n 1, 1) := by decide +kernel
theorem dX12_word_24 : decode cX12_word 24 = .ok (.iaload, 1) := by decide +kernel
theorem dX12_word_25 : decode cX12_word 25 = .ok (.bipush 20, 2) := by decide +kernel
theorem dX12_word_27 : decode cX12_word 27 = .ok (.if_icmp .ne 6, 3) := by decide +kernel
theorem dX12_word_30 : decode cX12_word 30 = .ok (.bipush (-100), 2) := by decide +kernel
theorem dX12_word_32 : decode cX12_word 32 = .ok (.ireturn, 1) := by decide +kernel
theorem dX12_word_33 : decode cX12_word 33 = .ok (.bipush 20, 2) := by decide +kernel
theorem dX12_word_35 : decode cX12_word 35 = .ok (.iload_n 1, 1) := by decide +kernel
theorem dX12_word_36 : decode cX12_word 36 = .ok (.imul, 1) := by decide +kernel
theorem dX12_word_37 : decode cX12_word 37 = .ok (.aload_n 0, 1) := by decide +kernel
theorem dX12_word_38 : decode cX12_word 38 = .ok (.getfield 100, 3) := by decide +kernel
theorem dX12_word_41 : decode cX12_word 41 = .ok (.iload_n 1, 1) := by decide +kernel
theorem dX12_word_42 : decode cX12_word 42 = .ok (.iaload, 1) := by decide +kernel
theorem dX12_word_43 : decode cX12_word 43 = .ok (.iadd, 1) := by decide +kernel
theorem dX12_word_44 : decode cX12_word 44 = .ok (.istore_n 3, 1) := by decide +kernel
theorem dX12_word_45 : decode cX12_word 45 = .ok (.aload_n 0, 1) := by decide +kernel
theorem dX12_word_46 : decode cX12_word 46 = .ok (.getfield 33, 3) := by decide +kernel
theorem dX12_word_49 : decode cX12_word 49 = .ok (.aload_n 0, 1) := by decide +kernel
theorem dX12_word_50 : decode cX12_word 50 = .ok (.getfield 42, 3) := by decide +kernel
theorem dX12_word_53 : decode cX12_word 53 = .ok (.if_icmp .ge 71, 3) := by decide +kernel
theorem dX12_word_56 : decode cX12_word 56 = .ok (.aload_n 0, 1) := by decide +kernel
theorem dX12_word_57 : decode cX12_word 57 = .ok (.getfield 25, 3) := by decide +kernel
theorem dX12_word_60 : decode cX12_word 60 = .ok (.aload_n 0, 1) := by decide +kernel
theorem dX12_word_61 : decode cX12_word 61 = .ok (.getfield 33, 3) := by decide +kernel
theorem dX12_word_64 : decode cX12_word 64 = .ok (.iaload, 1) := by decide +kernel
theorem dX12_word_65 : decode cX12_word 65 = .ok (.i2l, 1) := by decide +kernel
theorem dX12_word_66 : decode cX12_word 66 = .ok (.ldc2_w 103, 3) := by decide +kernel
theorem dX12_word_69 : decode cX12_word 69 = .ok (.ldc2_w 105, 3) := by decide +kernel
theorem dX12_word_72 : decode cX12_word 72 = .ok (.invokestatic 29, 3) := by decide +kernel
theorem dX12_word_75 : decode cX12_word 75 = .ok (.ifCond .ne 10, 3) := by decide +kernel
theorem dX12_word_78 : decode cX12_word 78 = .ok (.iconst (-1), 1) := by decide +kernel
theorem dX12_word_79 : decode cX12_word 79 = .ok (.aload_n 0, 1) := by decide +kernel
theorem dX12_word_80 : decode cX12_word 80 = .ok (.getfield 33, 3) := by decide +kernel
theorem dX12_word_83 : decode cX12_word 83 = .ok (.isub, 1) := by decide +kernel
theorem dX12_word_84 : decode cX12_word 84 = .ok (.ireturn, 1) := by decide +kernel
theorem dX12_word_85 : decode cX12_word 85 = .ok (.aload_n 0, 1) := by decide +kernel
theorem dX12_word_86 : decode cX12_word 86 = .ok (.getfield 107, 3) := by decide +kernel
theorem dX12_word_89 : decode cX12_word 89 = .ok (.bipush 6, 2) := by decide +kernel
theorem dX12_word_91 : decode cX12_word 91 = .ok (.iload_n 3, 1) := by decide +kernel
theorem dX12_word_92 : decode cX12_word 92 = .ok (.imul, 1) := by decide +kernel
theorem dX12_word_93 : decode cX12_word 93 = .ok (.aload_n 0, 1) := by decide +kernel
theorem dX12_word_94 : decode cX12_word 94 = .ok (.getfield 33, 3) := by decide +kernel
theorem dX12_word_97 : decode cX12_word 97 = .ok (.iadd, 1) := by decide +kernel
theorem dX12_word_98 : decode cX12_word 98 = .ok (.aload_n 0, 1) := by decide +kernel
theorem dX12_word_99 : decode cX12_word 99 = .ok (.getfield 25, 3) := by decide +kernel
theorem dX12_word_102 : decode cX12_word 102 = .ok (.aload_n 0, 1) := by decide +kernel
theorem dX12_word_103 : decode cX12_word 103 = .ok (.getfield 33, 3) := by decide +kernel
theorem dX12_word_106 : decode cX12_word 106 = .ok (.iaload, 1) := by decide +kernel
theorem dX12_word_107 : decode cX12_word 107 = .ok (.bipush 65, 2) := by decide +kernel
theorem dX12_word_109 : decode cX12_word 109 = .ok (.isub, 1) := by decide +kernel
theorem dX12_word_110 : decode cX12_word 110 = .ok (.iastore, 1) := by decide +kernel
theorem dX12_word_111 : decode cX12_word 111 = .ok (.aload_n 0, 1) := by decide +kernel
theorem dX12_word_112 : decode cX12_word 112 = .ok (.dup, 1) := by decide +kernel
theorem dX12_word_113 : decode cX12_word 113 = .ok (.getfield 33, 3) := by decide +kernel
theorem dX12_word_116 : decode cX12_word 116 = .ok (.iconst 1, 1) := by decide +kernel
theorem dX12_word_117 : decode cX12_word 117 = .ok (.iadd, 1) := by decide +kernel
theorem dX12_word_118 : decode cX12_word 118 = .ok (.putfield 33, 3) := by decide +kernel
theorem dX12_word_121 : decode cX12_word 121 = .ok (.goto (-76), 3) := by decide +kernel
theorem dX12_word_124 : decode cX12_word 124 = .ok (.iload_n 2, 1) := by decide +kernel
theorem dX12_word_125 : decode cX12_word 125 = .ok (.ifCond .eq 9, 3) := by decide +kernel
theorem dX12_word_128 : decode cX12_word 128 = .ok (.iload_n 2, 1) := by decide +kernel
theorem dX12_word_129 : decode cX12_word 129 = .ok (.bipush 6, 2) := by decide +kernel
theorem dX12_word_131 : decode cX12_word 131 = .ok (.if_icmp .le 10, 3) := by decide +kernel
theorem dX12_word_134 : decode cX12_word 134 = .ok (.iconst (-1), 1) := by decide +kernel
theorem dX12_word_135 : decode cX12_word 135 = .ok (.aload_n 0, 1) := by decide +kernel
theorem dX12_word_136 : decode cX12_word 136 = .ok (.getfield 33, 3) := by decide +kernel
theorem dX12_word_139 : decode cX12_word 139 = .ok (.isub, 1) := by decide +kernel
theorem dX12_word_140 : decode cX12_word 140 = .ok (.ireturn, 1) := by decide +kernel
theorem dX12_word_141 : decode cX12_word 141 = .ok (.iconst 0, 1) := by decide +kernel
theorem dX12_word_142 : decode cX12_word 142 = .ok (.istore 4, 2) := by decide +kernel
theorem dX12_word_144 : decode cX12_word 144 = .ok (.iload 4, 2) := by decide +kernel
theorem dX12_word_146 : decode cX12_word 146 = .ok (.aload_n 0, 1) := by decide +kernel
theorem dX12_word_147 : decode cX12_word 147 = .ok (.getfield 100, 3) := by decide +kernel
theorem dX12_word_150 : decode cX12_word 150 = .ok (.iload_n 1, 1) := by decide +kernel
theorem dX12_word_151 : decode cX12_word 151 = .ok (.iaload, 1) := by decide +kernel
theorem dX12_word_152 : decode cX12_word 152 = .ok (.if_icmp .ge 99, 3) := by decide +kernel
theorem dX12_word_155 : decode cX12_word 155 = .ok (.bipush 20, 2) := by decide +kernel
theorem dX12_word_157 : decode cX12_word 157 = .ok (.iload_n 1, 1) := by decide +kernel
theorem dX12_word_158 : decode cX12_word 158 = .ok (.imul, 1) := by decide +kernel
theorem dX12_word_159 : decode cX12_word 159 = .ok (.iload 4, 2) := by decide +kernel
theorem dX12_word_161 : decode cX12_word 161 = .ok (.iadd, 1) := by decide +kernel
theorem dX12_word_162 : decode cX12_word 162 = .ok (.istore 5, 2) := by decide +kernel
theorem dX12_word_164 : decode cX12_word 164 = .ok (.aload_n 0, 1) := by decide +kernel
theorem dX12_word_165 : decode cX12_word 165 = .ok (.getfield 110, 3) := by decide +kernel
theorem dX12_word_168 : decode cX12_word 168 = .ok (.iload 5, 2) := by decide +kernel
theorem dX12_word_170 : decode cX12_word 170 = .ok (.iaload, 1) := by decide +kernel
theorem dX12_word_171 : decode cX12_word 171 = .ok (.iload_n 2, 1) := by decide +kernel
theorem dX12_word_172 : decode cX12_word 172 = .ok (.if_icmp .ne 7, 3) := by decide +kernel
theorem dX12_word_175 : decode cX12_word 175 = .ok (.iconst 1, 1) := by decide +kernel
theorem dX12_word_176 : decode cX12_word 176 = .ok (.goto 4, 3) := by decide +kernel
theorem dX12_word_179 : decode cX12_word 179 = .ok (.iconst 0, 1) := by decide +kernel
theorem dX12_word_180 : decode cX12_word 180 = .ok (.istore 6, 2) := by decide +kernel
theorem dX12_word_182 : decode cX12_word 182 = .ok (.iconst 0, 1) := by decide +kernel
theorem dX12_word_183 : decode cX12_word 183 = .ok (.istore 7, 2) := by decide +kernel
theorem dX12_word_185 : decode cX12_word 185 = .ok (.iload 7, 2) := by decide +kernel
theorem dX12_word_187 : decode cX12_word 187 = .ok (.iload_n 2, 1) := by decide +kernel
theorem dX12_word_188 : decode cX12_word 188 = .ok (.if_icmp .ge 49, 3) := by decide +kernel
theorem dX12_word_191 : decode cX12_word 191 = .ok (.iload 6, 2) := by decide +kernel
theorem dX12_word_193 : decode cX12_word 193 = .ok (.ifCond .eq 44, 3) := by decide +kernel
theorem dX12_word_196 : decode cX12_word 196 = .ok (.aload_n 0, 1) := by decide +kernel
theorem dX12_word_197 : decode cX12_word 197 = .ok (.getfield 107, 3) := by decide +kernel
theorem dX12_word_200 : decode cX12_word 200 = .ok (.bipush 6, 2) := by decide +kernel
theorem dX12_word_202 : decode cX12_word 202 = .ok (.iload 5, 2) := by decide +kernel
theorem dX12_word_204 : decode cX12_word 204 = .ok (.imul, 1) := by decide +kernel
theorem dX12_word_205 : decode cX12_word 205 = .ok (.iload 7, 2) := by decide +kernel
theorem dX12_word_207 : decode cX12_word 207 = .ok (.iadd, 1) := by decide +kernel
theorem dX12_word_208 : decode cX12_word 208 = .ok (.iaload, 1) := by decide +kernel
theorem dX12_word_209 : decode cX12_word 209 = .ok (.aload_n 0, 1) := by decide +kernel
theorem dX12_word_210 : decode cX12_word 210 = .ok (.getfield 107, 3) := by decide +kernel
theorem dX12_word_213 : decode cX12_word 213 = .ok (.bipush 6, 2) := by decide +kernel
theorem dX12_word_215 : decode cX12_word 215 = .ok (.iload_n 3, 1) := by decide +kernel
theorem dX12_word_216 : decode cX12_word 216 = .ok (.imul, 1) := by decide +kernel
theorem dX12_word_217 : decode cX12_word 217 = .ok (.iload 7, 2) := by decide +kernel
theorem dX12_word_219 : decode cX12_word 219 = .ok (.iadd, 1) := by decide +kernel
theorem dX12_word_220 : decode cX12_word 220 = .ok (.iaload, 1) := by decide +kernel
theorem dX12_word_221 : decode cX12_word 221 = .ok (.if_icmp .ne 7, 3) := by decide +kernel
theorem dX12_word_224 : decode cX12_word 224 = .ok (.iconst 1, 1) := by decide +kernel
theorem dX12_word_225 : decode cX12_word 225 = .ok (.goto 4, 3) := by decide +kernel
theorem dX12_word_228 : decode cX12_word 228 = .ok (.iconst 0, 1) := by decide +kernel
theorem dX12_word_229 : decode cX12_word 229 = .ok (.istore 6, 2) := by decide +kernel
theorem dX12_word_231 : decode cX12_word 231 = .ok (.iinc 7 1, 3) := by decide +kernel
theorem dX12_word_234 : decode cX12_word 234 = .ok (.goto (-49), 3) := by decide +kernel
theorem dX12_word_237 : decode cX12_word 237 = .ok (.iload 6, 2) := by decide +kernel
theorem dX12_word_239 : decode cX12_word 239 = .ok (.ifCond .eq 6, 3) := by decide +kernel
theorem dX12_word_242 : decode cX12_word 242 = .ok (.bipush (-101), 2) := by decide +kernel
theorem dX12_word_244 : decode cX12_word 244 = .ok (.ireturn, 1) := by decide +kernel
theorem dX12_word_245 : decode cX12_word 245 = .ok (.iinc 4 1, 3) := by decide +kernel
theorem dX12_word_248 : decode cX12_word 248 = .ok (.goto (-104), 3) := by decide +kernel
theorem dX12_word_251 : decode cX12_word 251 = .ok (.aload_n 0, 1) := by decide +kernel
theorem dX12_word_252 : decode cX12_word 252 = .ok (.getfield 110, 3) := by decide +kernel
theorem dX12_word_255 : decode cX12_word 255 = .ok (.iload_n 3, 1) := by decide +kernel
theorem dX12_word_256 : decode cX12_word 256 = .ok (.iload_n 2, 1) := by decide +kernel
theorem dX12_word_257 : decode cX12_word 257 = .ok (.iastore, 1) := by decide +kernel
theorem dX12_word_258 : decode cX12_word 258 = .ok (.aload_n 0, 1) := by decide +kernel
theorem dX12_word_259 : decode cX12_word 259 = .ok (.getfield 100, 3) := by decide +kernel
theorem dX12_word_262 : decode cX12_word 262 = .ok (.iload_n 1, 1) := by decide +kernel
theorem dX12_word_263 : decode cX12_word 263 = .ok (.dup2, 1) := by decide +kernel
theorem dX12_word_264 : decode cX12_word 264 = .ok (.iaload, 1) := by decide +kernel
theorem dX12_word_265 : decode cX12_word 265 = .ok (.iconst 1, 1) := by decide +kernel
theorem dX12_word_266 : decode cX12_word 266 = .ok (.iadd, 1) := by decide +kernel
theorem dX12_word_267 : decode cX12_word 267 = .ok (.iastore, 1) := by decide +kernel
theorem dX12_word_268 : decode cX12_word 268 = .ok (.aload_n 0, 1) := by decide +kernel
theorem dX12_word_269 : decode cX12_word 269 = .ok (.getfield 100, 3) := by decide +kernel
theorem dX12_word_272 : decode cX12_word 272 = .ok (.iload_n 1, 1) := by decide +kernel
theorem dX12_word_273 : decode cX12_word 273 = .ok (.iaload, 1) := by decide +kernel
theorem dX12_word_274 : decode cX12_word 274 = .ok (.iconst 1, 1) := by decide +kernel
theorem dX12_word_275 : decode cX12_word 275 = .ok (.isub, 1) := by decide +kernel
theorem dX12_word_276 : decode cX12_word 276 = .ok (.ireturn, 1) := by decide +kernel
def w_X12_word_134 (post : Int32 → sI → sJ → Prop) (I : sI) (J : sJ) : Prop :=
  post ((-1) - (I 248 5)) I J
set_option maxHeartbeats 4000000 in
set_option maxRecDepth 100000 in
theorem t_X12_word_134 {X : sX} {post : Int32 → sI → sJ → Prop} (h : sOK X cX12_word RX12 8 2 45) (hr : sRt X (some .int) (sPi post)) {I : sI} {J : sJ} (hw : w_X12_word_134 post I J) : sG X 8 134 [(0, .ref 248)] [] I J := by
  unfold w_X12_word_134 at hw
  refine g_iconst (v := (-1)) h (by decide) dX12_word_134 ?_
  refine g_aload_n h rfl 0 rfl dX12_word_135 ?_
  refine g_get h is_248 fl_X12_33 rfl dX12_word_136 ?_
  refine g_isub h dX12_word_139 ?_
  exact g_iret h hr dX12_word_140 hw
def w_X12_word_237 (post : Int32 → sI → sJ → Prop) (k144 : Int32 → Int32 → Int32 → Int32 → sI → sJ → Prop) (x1 : Int32) (x2 : Int32) (x3 : Int32) (x4 : Int32) (x6 : Int32) (I : sI) (J : sJ) : Prop :=
  ((x6 = 0 → (∀ v4_245 : Int32, v4_245 = x4 + 1 → k144 x1 x2 x3 v4_245 I J)) ∧ (¬ x6 = 0 → post (-101) I J))
set_option maxHeartbeats 4000000 in
set_option maxRecDepth 100000 in
theorem t_X12_word_237 {X : sX} {post : Int32 → sI → sJ → Prop} (h : sOK X cX12_word RX12 8 2 45) (hr : sRt X (some .int) (sPi post)) {k144 : Int32 → Int32 → Int32 → Int32 → sI → sJ → Prop} (hk144 : ∀ (x1 : Int32) (x2 : Int32) (x3 : Int32) (x4 : Int32) (I : sI) (J : sJ), k144 x1 x2 x3 x4 I J → sG X 8 144 [(0, .ref 248), (1, .int x1), (2, .int x2), (3, .int x3), (4, .int x4)] [] I J) {x1 : Int32} {x2 : Int32} {x3 : Int32} {x4 : Int32} {x6 : Int32} {I : sI} {J : sJ} (hw : w_X12_word_237 post k144 x1 x2 x3 x4 x6 I J) : sG X 8 237 [(0, .ref 248), (1, .int x1), (2, .int x2), (3, .int x3), (4, .int x4), (6, .int x6)] [] I J := by
  unfold w_X12_word_237 at hw
  refine g_iload h 5 rfl dX12_word_237 ?_
  refine g_if_eq (tgt := 245) h (by decide) dX12_word_239 (fun q239 => ?_) (fun q239 => ?_)
  · replace hw := hw.1 q239
    obtain ⟨v4_245, ev4_245⟩ : ∃ z : Int32, z = x4 + 1 := ⟨_, rfl⟩
    replace hw := hw v4_245 ev4_245
    refine g_iinc (v := v4_245) (lo2 := [(4, .int v4_245), (0, .ref 248), (1, .int x1), (2, .int x2), (3, .int x3), (6, .int x6)]) h 4 rfl (by rw [ev4_245]; rfl) (by decide) rfl dX12_word_245 ?_
    refine g_goto (tgt := 144) h (by decide) dX12_word_248 ?_
    exact g_sub [1, 2, 3, 4, 0] rfl (hk144 _ _ _ _ _ _ hw)
  · replace hw := hw.2 q239
    refine g_bipush (v := (-101)) h (by decide) dX12_word_242 ?_
    exact g_iret h hr dX12_word_244 hw
def w_X12_word_229 (post : Int32 → sI → sJ → Prop) (k144 : Int32 → Int32 → Int32 → Int32 → sI → sJ → Prop) (k185 : Int32 → Int32 → Int32 → Int32 → Int32 → Int32 → Int32 → sI → sJ → Prop) (x1 : Int32) (x2 : Int32) (x3 : Int32) (x4 : Int32) (x5 : Int32) (x7 : Int32) (s0 : Int32) (I : sI) (J : sJ) : Prop :=
  (∀ v7_231 : Int32, v7_231 = x7 + 1 → k185 x1 x2 x3 x4 x5 s0 v7_231 I J)
set_option maxHeartbeats 4000000 in
set_option maxRecDepth 100000 in
theorem t_X12_word_229 {X : sX} {post : Int32 → sI → sJ → Prop} (h : sOK X cX12_word RX12 8 2 45) (hr : sRt X (some .int) (sPi post)) {k144 : Int32 → Int32 → Int32 → Int32 → sI → sJ → Prop} (hk144 : ∀ (x1 : Int32) (x2 : Int32) (x3 : Int32) (x4 : Int32) (I : sI) (J : sJ), k144 x1 x2 x3 x4 I J → sG X 8 144 [(0, .ref 248), (1, .int x1), (2, .int x2), (3, .int x3), (4, .int x4)] [] I J) {k185 : Int32 → Int32 → Int32 → Int32 → Int32 → Int32 → Int32 → sI → sJ → Prop} (hk185 : ∀ (x1 : Int32) (x2 : Int32) (x3 : Int32) (x4 : Int32) (x5 : Int32) (x6 : Int32) (x7 : Int32) (I : sI) (J : sJ), k185 x1 x2 x3 x4 x5 x6 x7 I J → sG X 8 185 [(0, .ref 248), (1, .int x1), (2, .int x2), (3, .int x3), (4, .int x4), (5, .int x5), (6, .int x6), (7, .int x7)] [] I J) {x1 : Int32} {x2 : Int32} {x3 : Int32} {x4 : Int32} {x5 : Int32} {x7 : Int32} {s0 : Int32} {I : sI} {J : sJ} (hw : w_X12_word_229 post k144 k185 x1 x2 x3 x4 x5 x7 s0 I J) : sG X 8 229 [(0, .ref 248), (1, .int x1), (2, .int x2), (3, .int x3), (4, .int x4), (5, .int x5), (7, .int x7)] [.int s0] I J := by
  unfold w_X12_word_229 at hw
  refine g_istore (lo2 := [(6, .int s0), (0, .ref 248), (1, .int x1), (2, .int x2), (3, .int x3), (4, .int x4), (5, .int x5), (7, .int x7)]) h (by decide) rfl dX12_word_229 ?_
  obtain ⟨v7_231, ev7_231⟩ : ∃ z : Int32, z = x7 + 1 := ⟨_, rfl⟩
  replace hw := hw v7_231 ev7_231
  refine g_iinc (v := v7_231) (lo2 := [(7, .int v7_231), (6, .int s0), (0, .ref 248), (1, .int x1), (2, .int x2), (3, .int x3), (4, .int x4), (5, .int x5)]) h 7 rfl (by rw [ev7_231]; rfl) (by decide) rfl dX12_word_231 ?_
  refine g_goto (tgt := 185) h (by decide) dX12_word_234 ?_
  exact g_sub [2, 3, 4, 5, 6, 7, 1, 0] rfl (hk185 _ _ _ _ _ _ _ _ _ hw)
def w_X12_word_185_s (post : Int32 → sI → sJ → Prop) (k144 : Int32 → Int32 → Int32 → Int32 → sI → sJ → Prop) (k185 : Int32 → Int32 → Int32 → Int32 → Int32 → Int32 → Int32 → sI → sJ → Prop) (x1 : Int32) (x2 : Int32) (x3 : Int32) (x4 : Int32) (x5 : Int32) (x6 : Int32) (x7 : Int32) (I : sI) (J : sJ) : Prop :=
  ((x2 ≤ x7 → w_X12_word_237 post k144 x1 x2 x3 x4 x6 I J) ∧ (¬ x2 ≤ x7 → ((x6 = 0 → w_X12_word_237 post k144 x1 x2 x3 x4 x6 I J) ∧ (¬ x6 = 0 → (vp_in ((6 * x5) + x7) 480 ∧ (vp_in ((6 * x3) + x7) 480 ∧ ((¬ (I 259 (Int32.toNatClampNeg ((6 * x5) + x7))) = (I 259 (Int32.toNatClampNeg ((6 * x3) + x7))) → w_X12_word_229 post k144 k185 x1 x2 x3 x4 x5 x7 0 I J) ∧ ((I 259 (Int32.toNatClampNeg ((6 * x5) + x7))) = (I 259 (Int32.toNatClampNeg ((6 * x3) + x7))) → w_X12_word_229 post k144 k185 x1 x2 x3 x4 x5 x7 1 I J))))))))
def w_X12_word_185_n (post : Int32 → sI → sJ → Prop) (k144 : Int32 → Int32 → Int32 → Int32 → sI → sJ → Prop) : Nat → Int32 → Int32 → Int32 → Int32 → Int32 → Int32 → Int32 → sI → sJ → Prop
  | 0 => fun _ _ _ _ _ _ _ _ _ => False
  | n + 1 => fun x1 x2 x3 x4 x5 x6 x7 I J => w_X12_word_185_s post k144 (w_X12_word_185_n post k144 n) x1 x2 x3 x4 x5 x6 x7 I J
def w_X12_word_185 (post : Int32 → sI → sJ → Prop) (k144 : Int32 → Int32 → Int32 → Int32 → sI → sJ → Prop) (x1 : Int32) (x2 : Int32) (x3 : Int32) (x4 : Int32) (x5 : Int32) (x6 : Int32) (x7 : Int32) (I : sI) (J : sJ) : Prop := ∃ n, w_X12_word_185_n post k144 n x1 x2 x3 x4 x5 x6 x7 I J
set_option maxHeartbeats 4000000 in
set_option maxRecDepth 100000 in
theorem t_X12_word_185_s {X : sX} {post : Int32 → sI → sJ → Prop} (h : sOK X cX12_word RX12 8 2 45) (hr : sRt X (some .int) (sPi post)) {k144 : Int32 → Int32 → Int32 → Int32 → sI → sJ → Prop} (hk144 : ∀ (x1 : Int32) (x2 : Int32) (x3 : Int32) (x4 : Int32) (I : sI) (J : sJ), k144 x1 x2 x3 x4 I J → sG X 8 144 [(0, .ref 248), (1, .int x1), (2, .int x2), (3, .int x3), (4, .int x4)] [] I J) {k185 : Int32 → Int32 → Int32 → Int32 → Int32 → Int32 → Int32 → sI → sJ → Prop} (hk185 : ∀ (x1 : Int32) (x2 : Int32) (x3 : Int32) (x4 : Int32) (x5 : Int32) (x6 : Int32) (x7 : Int32) (I : sI) (J : sJ), k185 x1 x2 x3 x4 x5 x6 x7 I J → sG X 8 185 [(0, .ref 248), (1, .int x1), (2, .int x2), (3, .int x3), (4, .int x4), (5, .int x5), (6, .int x6), (7, .int x7)] [] I J) {x1 : Int32} {x2 : Int32} {x3 : Int32} {x4 : Int32} {x5 : Int32} {x6 : Int32} {x7 : Int32} {I : sI} {J : sJ} (hw : w_X12_word_185_s post k144 k185 x1 x2 x3 x4 x5 x6 x7 I J) : sG X 8 185 [(0, .ref 248), (1, .int x1), (2, .int x2), (3, .int x3), (4, .int x4), (5, .int x5), (6, .int x6), (7, .int x7)] [] I J := by
  unfold w_X12_word_185_s at hw
  refine g_iload h 7 rfl dX12_word_185 ?_
  refine g_iload_n h rfl 2 rfl dX12_word_187 ?_
  refine g_icmp_ge (tgt := 237) h (by decide) dX12_word_188 (fun q188 => ?_) (fun q188 => ?_)
  · replace hw := hw.1 q188
    exact g_sub [0, 1, 2, 3, 4, 6] rfl (t_X12_word_237 h hr hk144 hw)
  · replace hw := hw.2 q188
    refine g_iload h 6 rfl dX12_word_191 ?_
    refine g_if_eq (tgt := 237) h (by decide) dX12_word_193 (fun q193 => ?_) (fun q193 => ?_)
    · replace hw := hw.1 q193
      exact g_sub [0, 1, 2, 3, 4, 6] rfl (t_X12_word_237 h hr hk144 hw)
    · replace hw := hw.2 q193
      refine g_aload_n h rfl 0 rfl dX12_word_196 ?_
      refine g_get h is_248 fl_X12_107 fr_248_20 dX12_word_197 ?_
      refine g_bipush (v := 6) h (by decide) dX12_word_200 ?_
      refine g_iload h 5 rfl dX12_word_202 ?_
      refine g_imul h dX12_word_204 ?_
      refine g_iload h 7 rfl dX12_word_205 ?_
      refine g_iadd h dX12_word_207 ?_
      obtain ⟨hi208, hw⟩ := hw
      refine g_iald h ar_259 hi208 dX12_word_208 ?_
      refine g_aload_n h rfl 0 rfl dX12_word_209 ?_
      refine g_get h is_248 fl_X12_107 fr_248_20 dX12_word_210 ?_
      refine g_bipush (v := 6) h (by decide) dX12_word_213 ?_
      refine g_iload_n h rfl 3 rfl dX12_word_215 ?_
      refine g_imul h dX12_word_216 ?_
      refine g_iload h 7 rfl dX12_word_217 ?_
      refine g_iadd h dX12_word_219 ?_
      obtain ⟨hi220, hw⟩ := hw
      refine g_iald h ar_259 hi220 dX12_word_220 ?_
      refine g_icmp_ne (tgt := 228) h (by decide) dX12_word_221 (fun q221 => ?_) (fun q221 => ?_)
      · replace hw := hw.1 q221
        refine g_iconst (v := 0) h (by decide) dX12_word_228 ?_
        exact g_sub [0, 1, 2, 3, 4, 5, 7] rfl (t_X12_word_229 h hr hk144 hk185 hw)
      · replace hw := hw.2 q221
        refine g_iconst (v := 1) h (by decide) dX12_word_224 ?_
        refine g_goto (tgt := 229) h (by decide) dX12_word_225 ?_
        exact g_sub [0, 1, 2, 3, 4, 5, 7] rfl (t_X12_word_229 h hr hk144 hk185 hw)
theorem t_X12_word_185 {X : sX} {post : Int32 → sI → sJ → Prop} (h : sOK X cX12_word RX12 8 2 45) (hr : sRt X (some .int) (sPi post)) {k144 : Int32 → Int32 → Int32 → Int32 → sI → sJ → Prop} (hk144 : ∀ (x1 : Int32) (x2 : Int32) (x3 : Int32) (x4 : Int32) (I : sI) (J : sJ), k144 x1 x2 x3 x4 I J → sG X 8 144 [(0, .ref 248), (1, .int x1), (2, .int x2), (3, .int x3), (4, .int x4)] [] I J) {x1 : Int32} {x2 : Int32} {x3 : Int32} {x4 : Int32} {x5 : Int32} {x6 : Int32} {x7 : Int32} {I : sI} {J : sJ} (hw : w_X12_word_185 post k144 x1 x2 x3 x4 x5 x6 x7 I J) : sG X 8 185 [(0, .ref 248), (1, .int x1), (2, .int x2), (3, .int x3), (4, .int x4), (5, .int x5), (6, .int x6), (7, .int x7)] [] I J := by
  obtain ⟨n, hw⟩ := hw
  induction n generalizing x1 x2 x3 x4 x5 x6 x7 I J with
  | zero => exact hw.elim
  | succ n ih => exact t_X12_word_185_s h hr hk144 (fun _ _ _ _ _ _ _ _ _ q => ih q) hw
def w_X12_word_180 (post : Int32 → sI → sJ → Prop) (k144 : Int32 → Int32 → Int32 → Int32 → sI → sJ → Prop) (x1 : Int32) (x2 : Int32) (x3 : Int32) (x4 : Int32) (x5 : Int32) (s0 : Int32) (I : sI) (J : sJ) : Prop :=
  w_X12_word_185 post k144 x1 x2 x3 x4 x5 s0 0 I J
set_option maxHeartbeats 4000000 in
set_option maxRecDepth 100000 in
theorem t_X12_word_180 {X : sX} {post : Int32 → sI → sJ → Prop} (h : sOK X cX12_word RX12 8 2 45) (hr : sRt X (some .int) (sPi post)) {k144 : Int32 → Int32 → Int32 → Int32 → sI → sJ → Prop} (hk144 : ∀ (x1 : Int32) (x2 : Int32) (x3 : Int32) (x4 : Int32) (I : sI) (J : sJ), k144 x1 x2 x3 x4 I J → sG X 8 144 [(0, .ref 248), (1, .int x1), (2, .int x2), (3, .int x3), (4, .int x4)] [] I J) {x1 : Int32} {x2 : Int32} {x3 : Int32} {x4 : Int32} {x5 : Int32} {s0 : Int32} {I : sI} {J : sJ} (hw : w_X12_word_180 post k144 x1 x2 x3 x4 x5 s0 I J) : sG X 8 180 [(0, .ref 248), (1, .int x1), (2, .int x2), (3, .int x3), (4, .int x4), (5, .int x5)] [.int s0] I J := by
  unfold w_X12_word_180 at hw
  refine g_istore (lo2 := [(6, .int s0), (0, .ref 248), (1, .int x1), (2, .int x2), (3, .int x3), (4, .int x4), (5, .int x5)]) h (by decide) rfl dX12_word_180 ?_
  refine g_iconst (v := 0) h (by decide) dX12_word_182 ?_
  refine g_istore (lo2 := [(7, .int 0), (6, .int s0), (0, .ref 248), (1, .int x1), (2, .int x2), (3, .int x3), (4, .int x4), (5, .int x5)]) h (by decide) rfl dX12_word_183 ?_
  exact g_sub [2, 3, 4, 5, 6, 7, 1, 0] rfl (t_X12_word_185 h hr hk144 hw)
def w_X12_word_144_s (post : Int32 → sI → sJ → Prop) (k144 : Int32 → Int32 → Int32 → Int32 → sI → sJ → Prop) (x1 : Int32) (x2 : Int32) (x3 : Int32) (x4 : Int32) (I : sI) (J : sJ) : Prop :=
  (vp_in x1 4 ∧ (((I 257 (Int32.toNatClampNeg x1)) ≤ x4 → (vp_in x3 80 ∧ (∀ I_257 : sI, I_257 = sUI I 258 (Int32.toNatClampNeg x3) x2 → (vp_in x1 4 ∧ (vp_in x1 4 ∧ (∀ I_267 : sI, I_267 = sUI I_257 257 (Int32.toNatClampNeg x1) ((I_257 257 (Int32.toNatClampNeg x1)) + 1) → (vp_in x1 4 ∧ post ((I_267 257 (Int32.toNatClampNeg x1)) - 1) I_267 J))))))) ∧ (¬ (I 257 (Int32.toNatClampNeg x1)) ≤ x4 → (∀ v5_162 : Int32, v5_162 = (20 * x1) + x4 → (vp_in v5_162 80 ∧ ((¬ (I 258 (Int32.toNatClampNeg v5_162)) = x2 → w_X12_word_180 post k144 x1 x2 x3 x4 v5_162 0 I J) ∧ ((I 258 (Int32.toNatClampNeg v5_162)) = x2 → w_X12_word_180 post k144 x1 x2 x3 x4 v5_162 1 I J)))))))
def w_X12_word_144_n (post : Int32 → sI → sJ → Prop) : Nat → Int32 → Int32 → Int32 → Int32 → sI → sJ → Prop
  | 0 => fun _ _ _ _ _ _ => False
  | n + 1 => fun x1 x2 x3 x4 I J => w_X12_word_144_s post (w_X12_word_144_n post n) x1 x2 x3 x4 I J
def w_X12_word_144 (post : Int32 → sI → sJ → Prop) (x1 : Int32) (x2 : Int32) (x3 : Int32) (x4 : Int32) (I : sI) (J : sJ) : Prop := ∃ n, w_X12_word_144_n post n x1 x2 x3 x4 I J
set_option maxHeartbeats 4000000 in
set_option maxRecDepth 100000 in
theorem t_X12_word_144_s {X : sX} {post : Int32 → sI → sJ → Prop} (h : sOK X cX12_word RX12 8 2 45) (hr : sRt X (some .int) (sPi post)) {k144 : Int32 → Int32 → Int32 → Int32 → sI → sJ → Prop} (hk144 : ∀ (x1 : Int32) (x2 : Int32) (x3 : Int32) (x4 : Int32) (I : sI) (J : sJ), k144 x1 x2 x3 x4 I J → sG X 8 144 [(0, .ref 248), (1, .int x1), (2, .int x2), (3, .int x3), (4, .int x4)] [] I J) {x1 : Int32} {x2 : Int32} {x3 : Int32} {x4 : Int32} {I : sI} {J : sJ} (hw : w_X12_word_144_s post k144 x1 x2 x3 x4 I J) : sG X 8 144 [(0, .ref 248), (1, .int x1), (2, .int x2), (3, .int x3), (4, .int x4)] [] I J := by
  unfold w_X12_word_144_s at hw
  refine g_iload h 4 rfl dX12_word_144 ?_
  refine g_aload_n h rfl 0 rfl dX12_word_146 ?_
  refine g_get h is_248 fl_X12_100 fr_248_18 dX12_word_147 ?_
  refine g_iload_n h rfl 1 rfl dX12_word_150 ?_
  obtain ⟨hi151, hw⟩ := hw
  refine g_iald h ar_257 hi151 dX12_word_151 ?_
  refine g_icmp_ge (tgt := 251) h (by decide) dX12_word_152 (fun q152 => ?_) (fun q152 => ?_)
  · replace hw := hw.1 q152
    refine g_aload_n h rfl 0 rfl dX12_word_251 ?_
    refine g_get h is_248 fl_X12_110 fr_248_19 dX12_word_252 ?_
    refine g_iload_n h rfl 3 rfl dX12_word_255 ?_
    refine g_iload_n h rfl 2 rfl dX12_word_256 ?_
    obtain ⟨hi257, hw⟩ := hw
    refine g_iast h ar_258 hi257 dX12_word_257 ?_
    refine g_nI (fun I_257 eI_257 => ?_)
    replace hw := hw I_257 eI_257
    refine g_aload_n h rfl 0 rfl dX12_word_258 ?_
    refine g_get h is_248 fl_X12_100 fr_248_18 dX12_word_259 ?_
    refine g_iload_n h rfl 1 rfl dX12_word_262 ?_
    refine g_dup2 h rfl rfl dX12_word_263 ?_
    obtain ⟨hi264, hw⟩ := hw
    refine g_iald h ar_257 hi264 dX12_word_264 ?_
    refine g_iconst (v := 1) h (by decide) dX12_word_265 ?_
    refine g_iadd h dX12_word_266 ?_
    obtain ⟨hi267, hw⟩ := hw
    refine g_iast h ar_257 hi267 dX12_word_267 ?_
    refine g_nI (fun I_267 eI_267 => ?_)
    replace hw := hw I_267 eI_267
    refine g_aload_n h rfl 0 rfl dX12_word_268 ?_
    refine g_get h is_248 fl_X12_100 fr_248_18 dX12_word_269 ?_
    refine g_iload_n h rfl 1 rfl dX12_word_272 ?_
    obtain ⟨hi273, hw⟩ := hw
    refine g_iald h ar_257 hi273 dX12_word_273 ?_
    refine g_iconst (v := 1) h (by decide) dX12_word_274 ?_
    refine g_isub h dX12_word_275 ?_
    exact g_iret h hr dX12_word_276 hw
  · replace hw := hw.2 q152
    refine g_bipush (v := 20) h (by decide) dX12_word_155 ?_
    refine g_iload_n h rfl 1 rfl dX12_word_157 ?_
    refine g_imul h dX12_word_158 ?_
    refine g_iload h 4 rfl dX12_word_159 ?_
    refine g_iadd h dX12_word_161 ?_
    refine g_ni (fun v5_162 ev5_162 => ?_)
    replace hw := hw v5_162 ev5_162
    refine g_istore (lo2 := [(5, .int v5_162), (0, .ref 248), (1, .int x1), (2, .int x2), (3, .int x3), (4, .int x4)]) h (by decide) rfl dX12_word_162 ?_
    refine g_aload_n h rfl 1 rfl dX12_word_164 ?_
    refine g_get h is_248 fl_X12_110 fr_248_19 dX12_word_165 ?_
    refine g_iload h 0 rfl dX12_word_168 ?_
    obtain ⟨hi170, hw⟩ := hw
    refine g_iald h ar_258 hi170 dX12_word_170 ?_
    refine g_iload_n h rfl 3 rfl dX12_word_171 ?_
    refine g_icmp_ne (tgt := 179) h (by decide) dX12_word_172 (fun q172 => ?_) (fun q172 => ?_)
    · replace hw := hw.1 q172
      refine g_iconst (v := 0) h (by decide) dX12_word_179 ?_
      exact g_sub [1, 2, 3, 4, 5, 0] rfl (t_X12_word_180 h hr hk144 hw)
    · replace hw := hw.2 q172
      refine g_iconst (v := 1) h (by decide) dX12_word_175 ?_
      refine g_goto (tgt := 180) h (by decide) dX12_word_176 ?_
      exact g_sub [1, 2, 3, 4, 5, 0] rfl (t_X12_word_180 h hr hk144 hw)
theorem t_X12_word_144 {X : sX} {post : Int32 → sI → sJ → Prop} (h : sOK X cX12_word RX12 8 2 45) (hr : sRt X (some .int) (sPi post)) {x1 : Int32} {x2 : Int32} {x3 : Int32} {x4 : Int32} {I : sI} {J : sJ} (hw : w_X12_word_144 post x1 x2 x3 x4 I J) : sG X 8 144 [(0, .ref 248), (1, .int x1), (2, .int x2), (3, .int x3), (4, .int x4)] [] I J := by
  obtain ⟨n, hw⟩ := hw
  induction n generalizing x1 x2 x3 x4 I J with
  | zero => exact hw.elim
  | succ n ih => exact t_X12_word_144_s h hr (fun _ _ _ _ _ _ q => ih q) hw
def w_X12_word_45_s (post : Int32 → sI → sJ → Prop) (k45 : Int32 → Int32 → Int32 → sI → sJ → Prop) (x1 : Int32) (x2 : Int32) (x3 : Int32) (I : sI) (J : sJ) : Prop :=
  (((I 248 6) ≤ (I 248 5) → ((x2 = 0 → w_X12_word_134 post I J) ∧ (¬ x2 = 0 → ((x2 ≤ 6 → w_X12_word_144 post x1 x2 x3 0 I J) ∧ (¬ x2 ≤ 6 → w_X12_word_134 post I J))))) ∧ (¬ (I 248 6) ≤ (I 248 5) → (vp_in (I 248 5) 80 ∧ w_X12_in (Int32.toInt64 (I 250 (Int32.toNatClampNeg (I 248 5)))) 65 72 I J (fun (r_72 : Int32) (I_72 : sI) (J_72 : sJ) => (((¬ r_72 = 0 → (vp_in (I_72 248 5) 80 ∧ (vp_in ((6 * x3) + (I_72 248 5)) 480 ∧ (∀ I_110 : sI, I_110 = sUI I_72 259 (Int32.toNatClampNeg ((6 * x3) + (I_72 248 5))) ((I_72 250 (Int32.toNatClampNeg (I_72 248 5))) - 65) → (∀ I_118 : sI, I_118 = sUI I_110 248 5 ((I_110 248 5) + 1) → k45 x1 x2 x3 I_118 J_72))))) ∧ (r_72 = 0 → post ((-1) - (I_72 248 5)) I_72 J_72)))))))
def w_X12_word_45_n (post : Int32 → sI → sJ → Prop) : Nat → Int32 → Int32 → Int32 → sI → sJ → Prop
  | 0 => fun _ _ _ _ _ => False
  | n + 1 => fun x1 x2 x3 I J => w_X12_word_45_s post (w_X12_word_45_n post n) x1 x2 x3 I J
def w_X12_word_45 (post : Int32 → sI → sJ → Prop) (x1 : Int32) (x2 : Int32) (x3 : Int32) (I : sI) (J : sJ) : Prop := ∃ n, w_X12_word_45_n post n x1 x2 x3 I J
set_option maxHeartbeats 4000000 in
set_option maxRecDepth 100000 in
theorem t_X12_word_45_s {X : sX} {post : Int32 → sI → sJ → Prop} (h : sOK X cX12_word RX12 8 2 45) (hr : sRt X (some .int) (sPi post)) {k45 : Int32 → Int32 → Int32 → sI → sJ → Prop} (hk45 : ∀ (x1 : Int32) (x2 : Int32) (x3 : Int32) (I : sI) (J : sJ), k45 x1 x2 x3 I J → sG X 8 45 [(0, .ref 248), (1, .int x1), (2, .int x2), (3, .int x3)] [] I J) {x1 : Int32} {x2 : Int32} {x3 : Int32} {I : sI} {J : sJ} (hw : w_X12_word_45_s post k45 x1 x2 x3 I J) : sG X 8 45 [(0, .ref 248), (1, .int x1), (2, .int x2), (3, .int x3)] [] I J := by
  unfold w_X12_word_45_s at hw
  refine g_aload_n h rfl 0 rfl dX12_word_45 ?_
  refine g_get h is_248 fl_X12_33 rfl dX12_word_46 ?_
  refine g_aload_n h rfl 0 rfl dX12_word_49 ?_
  refine g_get h is_248 fl_X12_42 rfl dX12_word_50 ?_
  refine g_icmp_ge (tgt := 124) h (by decide) dX12_word_53 (fun q53 => ?_) (fun q53 => ?_)
  · replace hw := hw.1 q53
    refine g_iload_n h rfl 2 rfl dX12_word_124 ?_
    refine g_if_eq (tgt := 134) h (by decide) dX12_word_125 (fun q125 => ?_) (fun q125 => ?_)
    · replace hw := hw.1 q125
      exact g_sub [0] rfl (t_X12_word_134 h hr hw)
    · replace hw := hw.2 q125
      refine g_iload_n h rfl 2 rfl dX12_word_128 ?_
      refine g_bipush (v := 6) h (by decide) dX12_word_129 ?_
      refine g_icmp_le (tgt := 141) h (by decide) dX12_word_131 (fun q131 => ?_) (fun q131 => ?_)
      · replace hw := hw.1 q131
        refine g_iconst (v := 0) h (by decide) dX12_word_141 ?_
        refine g_istore (lo2 := [(4, .int 0), (0, .ref 248), (1, .int x1), (2, .int x2), (3, .int x3)]) h (by decide) rfl dX12_word_142 ?_
        exact g_sub [1, 2, 3, 4, 0] rfl (t_X12_word_144 h hr hw)
      · replace hw := hw.2 q131
        exact g_sub [0] rfl (t_X12_word_134 h hr hw)
  · replace hw := hw.2 q53
    refine g_aload_n h rfl 0 rfl dX12_word_56 ?_
    refine g_get h is_248 fl_X12_25 fr_248_3 dX12_word_57 ?_
    refine g_aload_n h rfl 0 rfl dX12_word_60 ?_
    refine g_get h is_248 fl_X12_33 rfl dX12_word_61 ?_
    obtain ⟨hi64, hw⟩ := hw
    refine g_iald h ar_250 hi64 dX12_word_64 ?_
    refine g_i2l h dX12_word_65 ?_
    refine g_ldc2 h lc_X12_103 dX12_word_66 ?_
    refine g_ldc2 h lc_X12_105 dX12_word_69 ?_
    refine g_callS [.long (Int32.toInt64 (I 250 (Int32.toNatClampNeg (I 248 5)))), .long 65, .long 72] h (c_X12_in X hw) sPi_v mw_X12_in lk_X12_29 rfl ⟨by decide, by decide⟩ (Nat.le_of_ble_eq_true rfl) dX12_word_72 (sPi_k (fun r_72 I_72 J_72 hw => ?_))
    refine g_if_ne (tgt := 85) h (by decide) dX12_word_75 (fun q75 => ?_) (fun q75 => ?_)
    · replace hw := hw.1 q75
      refine g_aload_n h rfl 0 rfl dX12_word_85 ?_
      refine g_get h is_248 fl_X12_107 fr_248_20 dX12_word_86 ?_
      refine g_bipush (v := 6) h (by decide) dX12_word_89 ?_
      refine g_iload_n h rfl 3 rfl dX12_word_91 ?_
      refine g_imul h dX12_word_92 ?_
      refine g_aload_n h rfl 0 rfl dX12_word_93 ?_
      refine g_get h is_248 fl_X12_33 rfl dX12_word_94 ?_
      refine g_iadd h dX12_word_97 ?_
      refine g_aload_n h rfl 0 rfl dX12_word_98 ?_
      refine g_get h is_248 fl_X12_25 fr_248_3 dX12_word_99 ?_
      refine g_aload_n h rfl 0 rfl dX12_word_102 ?_
      refine g_get h is_248 fl_X12_33 rfl dX12_word_103 ?_
      obtain ⟨hi106, hw⟩ := hw
      refine g_iald h ar_250 hi106 dX12_word_106 ?_
      refine g_bipush (v := 65) h (by decide) dX12_word_107 ?_
      refine g_isub h dX12_word_109 ?_
      obtain ⟨hi110, hw⟩ := hw
      refine g_iast h ar_259 hi110 dX12_word_110 ?_
      refine g_nI (fun I_110 eI_110 => ?_)
      replace hw := hw I_110 eI_110
      refine g_aload_n h rfl 0 rfl dX12_word_111 ?_
      refine g_dup h rfl dX12_word_112 ?_
      refine g_get h is_248 fl_X12_33 rfl dX12_word_113 ?_
      refine g_iconst (v := 1) h (by decide) dX12_word_116 ?_
      refine g_iadd h dX12_word_117 ?_
      refine g_putI h is_248 fl_X12_33 rfl rfl dX12_word_118 ?_
      refine g_nI (fun I_118 eI_118 => ?_)
      replace hw := hw I_118 eI_118
      refine g_goto (tgt := 45) h (by decide) dX12_word_121 ?_
      exact g_sub [0, 1, 2, 3] rfl (hk45 _ _ _ _ _ hw)
    · replace hw := hw.2 q75
      refine g_iconst (v := (-1)) h (by decide) dX12_word_78 ?_
      refine g_aload_n h rfl 0 rfl dX12_word_79 ?_
      refine g_get h is_248 fl_X12_33 rfl dX12_word_80 ?_
      refine g_isub h dX12_word_83 ?_
      exact g_iret h hr dX12_word_84 hw
theorem t_X12_word_45 {X : sX} {post : Int32 → sI → sJ → Prop} (h : sOK X cX12_word RX12 8 2 45) (hr : sRt X (some .int) (sPi post)) {x1 : Int32} {x2 : Int32} {x3 : Int32} {I : sI} {J : sJ} (hw : w_X12_word_45 post x1 x2 x3 I J) : sG X 8 45 [(0, .ref 248), (1, .int x1), (2, .int x2), (3, .int x3)] [] I J := by
  obtain ⟨n, hw⟩ := hw
  induction n generalizing x1 x2 x3 I J with
  | zero => exact hw.elim
  | succ n ih => exact t_X12_word_45_s h hr (fun _ _ _ _ _ q => ih q) hw
def w_X12_word (a1 : Int32) (I : sI) (J : sJ) (post : Int32 → sI → sJ → Prop) : Prop :=
  (∀ I_2 : sI, I_2 = sUI I 248 0 0 → w_X12_begins 6 I_2 J (fun (r_8 : Int32) (I_8 : sI) (J_8 : sJ) => (w_X12_isTongue a1 I_8 J_8 (fun (r_13 : Int32) (I_13 : sI) (J_13 : sJ) => (((r_13 = 0 → post (-100) I_13 J_13) ∧ (¬ r_13 = 0 → (vp_in a1 4 ∧ ((¬ (I_13 257 (Int32.toNatClampNeg a1)) = 20 → (vp_in a1 4 ∧ (∀ v3_44 : Int32, v3_44 = (20 * a1) + (I_13 257 (Int32.toNatClampNeg a1)) → w_X12_word_45 post a1 r_8 v3_44 I_13 J_13))) ∧ ((I_13 257 (Int32.toNatClampNeg a1)) = 20 → post (-100) I_13 J_13))))))))))
set_option maxHeartbeats 4000000 in
set_option maxRecDepth 100000 in
theorem t_X12_word {X : sX} {a1 : Int32} {I : sI} {J : sJ} {post : Int32 → sI → sJ → Prop} (h : sOK X cX12_word RX12 8 2 45) (hr : sRt X (some .int) (sPi post)) (hw : w_X12_word a1 I J post) : sG X 8 0 [(0, .ref 248), (1, .int a1)] [] I J := by
  unfold w_X12_word at hw
  refine g_aload_n h rfl 0 rfl dX12_word_0 ?_
  refine g_iconst (v := 0) h (by decide) dX12_word_1 ?_
  refine g_putI h is_248 fl_X12_1 rfl rfl dX12_word_2 ?_
  refine g_nI (fun I_2 eI_2 => ?_)
  replace hw := hw I_2 eI_2
  refine g_aload_n h rfl 0 rfl dX12_word_5 ?_
  refine g_bipush (v := 6) h (by decide) dX12_word_6 ?_
  refine g_callV [.int 6] h (c_X12_begins X hw) sPi_v mw_X12_begins lk_X12_69 is_248 rfl rfl ⟨by decide, by decide⟩ (Nat.le_of_ble_eq_true rfl) dX12_word_8 (sPi_k (fun r_8 I_8 J_8 hw => ?_))
  refine g_istore_n (lo2 := [(2, .int r_8), (0, .ref 248), (1, .int a1)]) h rfl (by decide) rfl dX12_word_11 ?_
  refine g_iload_n h rfl 2 rfl dX12_word_12 ?_
  refine g_callS [.int a1] h (c_X12_isTongue X hw) sPi_v mw_X12_isTongue lk_X12_96 rfl ⟨by decide, by decide⟩ (Nat.le_of_ble_eq_true rfl) dX12_word_13 (sPi_k (fun r_13 I_13 J_13 hw => ?_))
  refine g_if_eq (tgt := 30) h (by decide) dX12_word_16 (fun q16 => ?_) (fun q16 => ?_)
  · replace hw := hw.1 q16
    refine g_bipush (v := (-100)) h (by decide) dX12_word_30 ?_
    exact g_iret h hr dX12_word_32 hw
  · replace hw := hw.2 q16
    refine g_aload_n h rfl 1 rfl dX12_word_19 ?_
    refine g_get h is_248 fl_X12_100 fr_248_18 dX12_word_20 ?_
    refine g_iload_n h rfl 2 rfl dX12_word_23 ?_
    obtain ⟨hi24, hw⟩ := hw
    refine g_iald h ar_257 hi24 dX12_word_24 ?_
    refine g_bipush (v := 20) h (by decide) dX12_word_25 ?_
    refine g_icmp_ne (tgt := 33) h (by decide) dX12_word_27 (fun q27 => ?_) (fun q27 => ?_)
    · replace hw := hw.1 q27
      refine g_bipush (v := 20) h (by decide) dX12_word_33 ?_
      refine g_iload_n h rfl 2 rfl dX12_word_35 ?_
      refine g_imul h dX12_word_36 ?_
      refine g_aload_n h rfl 1 rfl dX12_word_37 ?_
      refine g_get h is_248 fl_X12_100 fr_248_18 dX12_word_38 ?_
      refine g_iload_n h rfl 2 rfl dX12_word_41 ?_
      obtain ⟨hi42, hw⟩ := hw
      refine g_iald h ar_257 hi42 dX12_word_42 ?_
      refine g_iadd h dX12_word_43 ?_
      refine g_ni (fun v3_44 ev3_44 => ?_)
      replace hw := hw v3_44 ev3_44
      refine g_istore_n (lo2 := [(3, .int v3_44), (2, .int r_8), (0, .ref 248), (1, .int a1)]) h rfl (by decide) rfl dX12_word_44 ?_
      exact g_sub [2, 3, 1, 0] rfl (t_X12_word_45 h hr hw)
    · replace hw := hw.2 q27
      refine g_bipush (v := (-100)) h (by decide) dX12_word_30 ?_
      exact g_iret h hr dX12_word_32 hw
theorem c_X12_word (X : sX) {a1 : Int32} {I : sI} {J : sJ} {post : Int32 → sI → sJ → Prop} (hw : w_X12_word a1 I J post) : sCall X yX12_word cX12_word 8 (some .int) 2 45 [.ref 248, .int a1] I J (sPi post) := sCall_of (by decide +kernel) (Nat.le_of_ble_eq_true rfl) (fun X h hr => t_X12_word h hr hw)
theorem dX12_letterThen_0 : decode cX12_letterThen 0 = .ok (.aload_n 0, 1) := by decide +kernel
theorem dX12_letterThen_1 : decode cX12_letterThen 1 = .ok (.getfield 33, 3) := by decide +kernel
theorem dX12_letterThen_4 : decode cX12_letterThen 4 = .ok (.aload_n 0, 1) := by decide +kernel
theorem dX12_letterThen_5 : decode cX12_letterThen 5 = .ok (.getfield 42, 3) := by decide +kernel
theorem dX12_letterThen_8 : decode cX12_letterThen 8 = .ok (.if_icmp .ge 16, 3) := by decide +kernel
theorem dX12_letterThen_11 : decode cX12_letterThen 11 = .ok (.aload_n 0, 1) := by decide +kernel
theorem dX12_letterThen_12 : decode cX12_letterThen 12 = .ok (.getfield 25, 3) := by decide +kernel
theorem dX12_letterThen_15 : decode cX12_letterThen 15 = .ok (.aload_n 0, 1) := by decide +kernel
theorem dX12_letterThen_16 : decode cX12_letterThen 16 = .ok (.getfield 33, 3) := by decide +kernel
theorem dX12_letterThen_19 : decode cX12_letterThen 19 = .ok (.iaload, 1) := by decide +kernel
theorem dX12_letterThen_20 : decode cX12_letterThen 20 = .ok (.iload_n 1, 1) := by decide +kernel
theorem dX12_letterThen_21 : decode cX12_letterThen 21 = .ok (.if_icmp .eq 5, 3) := by decide +kernel
theorem dX12_letterThen_24 : decode cX12_letterThen 24 = .ok (.iconst (-1), 1) := by decide +kernel
theorem dX12_letterThen_25 : decode cX12_letterThen 25 = .ok (.ireturn, 1) := by decide +kernel
theorem dX12_letterThen_26 : decode cX12_letterThen 26 = .ok (.aload_n 0, 1) := by decide +kernel
theorem dX12_letterThen_27 : decode cX12_letterThen 27 = .ok (.dup, 1) := by decide +kernel
theorem dX12_letterThen_28 : decode cX12_letterThen 28 = .ok (.getfield 33, 3) := by decide +kernel
theorem dX12_letterThen_31 : decode cX12_letterThen 31 = .ok (.iconst 1, 1) := by decide +kernel
theorem dX12_letterThen_32 : decode cX12_letterThen 32 = .ok (.iadd, 1) := by decide +kernel
theorem dX12_letterThen_33 : decode cX12_letterThen 33 = .ok (.putfield 33, 3) := by decide +kernel
theorem dX12_letterThen_36 : decode cX12_letterThen 36 = .ok (.aload_n 0, 1) := by decide +kernel
theorem dX12_letterThen_37 : decode cX12_letterThen 37 = .ok (.getfield 33, 3) := by decide +kernel
theorem dX12_letterThen_40 : decode cX12_letterThen 40 = .ok (.aload_n 0, 1) := by decide +kernel
theorem dX12_letterThen_41 : decode cX12_letterThen 41 = .ok (.getfield 42, 3) := by decide +kernel
theorem dX12_letterThen_44 : decode cX12_letterThen 44 = .ok (.if_icmp .ge 26, 3) := by decide +kernel
theorem dX12_letterThen_47 : decode cX12_letterThen 47 = .ok (.aload_n 0, 1) := by decide +kernel
theorem dX12_letterThen_48 : decode cX12_letterThen 48 = .ok (.getfield 25, 3) := by decide +kernel
theorem dX12_letterThen_51 : decode cX12_letterThen 51 = .ok (.aload_n 0, 1) := by decide +kernel
theorem dX12_letterThen_52 : decode cX12_letterThen 52 = .ok (.getfield 33, 3) := by decide +kernel
theorem dX12_letterThen_55 : decode cX12_letterThen 55 = .ok (.iaload, 1) := by decide +kernel
theorem dX12_letterThen_56 : decode cX12_letterThen 56 = .ok (.bipush 48, 2) := by decide +kernel
theorem dX12_letterThen_58 : decode cX12_letterThen 58 = .ok (.isub, 1) := by decide +kernel
theorem dX12_letterThen_59 : decode cX12_letterThen 59 = .ok (.i2l, 1) := by decide +kernel
theorem dX12_letterThen_60 : decode cX12_letterThen 60 = .ok (.iload_n 2, 1) := by decide +kernel
theorem dX12_letterThen_61 : decode cX12_letterThen 61 = .ok (.i2l, 1) := by decide +kernel
theorem dX12_letterThen_62 : decode cX12_letterThen 62 = .ok (.iload_n 3, 1) := by decide +kernel
theorem dX12_letterThen_63 : decode cX12_letterThen 63 = .ok (.i2l, 1) := by decide +kernel
theorem dX12_letterThen_64 : decode cX12_letterThen 64 = .ok (.invokestatic 29, 3) := by decide +kernel
theorem dX12_letterThen_67 : decode cX12_letterThen 67 = .ok (.ifCond .ne 5, 3) := by decide +kernel
theorem dX12_letterThen_70 : decode cX12_letterThen 70 = .ok (.iconst (-1), 1) := by decide +kernel
theorem dX12_letterThen_71 : decode cX12_letterThen 71 = .ok (.ireturn, 1) := by decide +kernel
theorem dX12_letterThen_72 : decode cX12_letterThen 72 = .ok (.aload_n 0, 1) := by decide +kernel
theorem dX12_letterThen_73 : decode cX12_letterThen 73 = .ok (.dup, 1) := by decide +kernel
theorem dX12_letterThen_74 : decode cX12_letterThen 74 = .ok (.getfield 33, 3) := by decide +kernel
theorem dX12_letterThen_77 : decode cX12_letterThen 77 = .ok (.iconst 1, 1) := by decide +kernel
theorem dX12_letterThen_78 : decode cX12_letterThen 78 = .ok (.iadd, 1) := by decide +kernel
theorem dX12_letterThen_79 : decode cX12_letterThen 79 = .ok (.putfield 33, 3) := by decide +kernel
theorem dX12_letterThen_82 : decode cX12_letterThen 82 = .ok (.aload_n 0, 1) := by decide +kernel
theorem dX12_letterThen_83 : decode cX12_letterThen 83 = .ok (.getfield 25, 3) := by decide +kernel
theorem dX12_letterThen_86 : decode cX12_letterThen 86 = .ok (.aload_n 0, 1) := by decide +kernel
theorem dX12_letterThen_87 : decode cX12_letterThen 87 = .ok (.getfield 33, 3) := by decide +kernel
theorem dX12_letterThen_90 : decode cX12_letterThen 90 = .ok (.iconst 1, 1) := by decide +kernel
theorem dX12_letterThen_91 : decode cX12_letterThen 91 = .ok (.isub, 1) := by decide +kernel
theorem dX12_letterThen_92 : decode cX12_letterThen 92 = .ok (.iaload, 1) := by decide +kernel
theorem dX12_letterThen_93 : decode cX12_letterThen 93 = .ok (.bipush 48, 2) := by decide +kernel
theorem dX12_letterThen_95 : decode cX12_letterThen 95 = .ok (.isub, 1) := by decide +kernel
theorem dX12_letterThen_96 : decode cX12_letterThen 96 = .ok (.ireturn, 1) := by decide +kernel
def w_X12_letterThen (a1 : Int32) (a2 : Int32) (a3 : Int32) (I : sI) (J : sJ) (post : Int32 → sI → sJ → Prop) : Prop :=
  (((I 248 6) ≤ (I 248 5) → post (-1) I J) ∧ (¬ (I 248 6) ≤ (I 248 5) → (vp_in (I 248 5) 80 ∧ (((I 250 (Int32.toNatClampNeg (I 248 5))) = a1 → (∀ I_33 : sI, I_33 = sUI I 248 5 ((I 248 5) + 1) → (((I_33 248 6) ≤ (I_33 248 5) → post (-1) I_33 J) ∧ (¬ (I_33 248 6) ≤ (I_33 248 5) → (vp_in (I_33 248 5) 80 ∧ w_X12_in (Int32.toInt64 ((I_33 250 (Int32.toNatClampNeg (I_33 248 5))) - 48)) (Int32.toInt64 a2) (Int32.toInt64 a3) I_33 J (fun (r_64 : Int32) (I_64 : sI) (J_64 : sJ) => (((¬ r_64 = 0 → (∀ I_79 : sI, I_79 = sUI I_64 248 5 ((I_64 248 5) + 1) → (vp_in ((I_79 248 5) - 1) 80 ∧ post ((I_79 250 (Int32.toNatClampNeg ((I_79 248 5) - 1))) - 48) I_79 J_64))) ∧ (r_64 = 0 → post (-1) I_64 J_64))))))))) ∧ (¬ (I 250 (Int32.toNatClampNeg (I 248 5))) = a1 → post (-1) I J)))))
set_option maxHeartbeats 4000000 in
set_option maxRecDepth 100000 in
theorem t_X12_letterThen {X : sX} {a1 : Int32} {a2 : Int32} {a3 : Int32} {I : sI} {J : sJ} {post : Int32 → sI → sJ → Prop} (h : sOK X cX12_letterThen RX12 4 1 25) (hr : sRt X (some .int) (sPi post)) (hw : w_X12_letterThen a1 a2 a3 I J post) : sG X 4 0 [(0, .ref 248), (1, .int a1), (2, .int a2), (3, .int a3)] [] I J := by
  unfold w_X12_letterThen at hw
  refine g_aload_n h rfl 0 rfl dX12_letterThen_0 ?_
  refine g_get h is_248 fl_X12_33 rfl dX12_letterThen_1 ?_
  refine g_aload_n h rfl 0 rfl dX12_letterThen_4 ?_
  refine g_get h is_248 fl_X12_42 rfl dX12_letterThen_5 ?_
  refine g_icmp_ge (tgt := 24) h (by decide) dX12_letterThen_8 (fun q8 => ?_) (fun q8 => ?_)
  · replace hw := hw.1 q8
    refine g_iconst (v := (-1)) h (by decide) dX12_letterThen_24 ?_
    exact g_iret h hr dX12_letterThen_25 hw
  · replace hw := hw.2 q8
    refine g_aload_n h rfl 0 rfl dX12_letterThen_11 ?_
    refine g_get h is_248 fl_X12_25 fr_248_3 dX12_letterThen_12 ?_
    refine g_aload_n h rfl 0 rfl dX12_letterThen_15 ?_
    refine g_get h is_248 fl_X12_33 rfl dX12_letterThen_16 ?_
    obtain ⟨hi19, hw⟩ := hw
    refine g_iald h ar_250 hi19 dX12_letterThen_19 ?_
    refine g_iload_n h rfl 1 rfl dX12_letterThen_20 ?_
    refine g_icmp_eq (tgt := 26) h (by decide) dX12_letterThen_21 (fun q21 => ?_) (fun q21 => ?_)
    · replace hw := hw.1 q21
      refine g_aload_n h rfl 0 rfl dX12_letterThen_26 ?_
      refine g_dup h rfl dX12_letterThen_27 ?_
      refine g_get h is_248 fl_X12_33 rfl dX12_letterThen_28 ?_
      refine g_iconst (v := 1) h (by decide) dX12_letterThen_31 ?_
      refine g_iadd h dX12_letterThen_32 ?_
      refine g_putI h is_248 fl_X12_33 rfl rfl dX12_letterThen_33 ?_
      refine g_nI (fun I_33 eI_33 => ?_)
      replace hw := hw I_33 eI_33
      refine g_aload_n h rfl 0 rfl dX12_letterThen_36 ?_
      refine g_get h is_248 fl_X12_33 rfl dX12_letterThen_37 ?_
      refine g_aload_n h rfl 0 rfl dX12_letterThen_40 ?_
      refine g_get h is_248 fl_X12_42 rfl dX12_letterThen_41 ?_
      refine g_icmp_ge (tgt := 70) h (by decide) dX12_letterThen_44 (fun q44 => ?_) (fun q44 => ?_)
      · replace hw := hw.1 q44
        refine g_iconst (v := (-1)) h (by decide) dX12_letterThen_70 ?_
        exact g_iret h hr dX12_letterThen_71 hw
      · replace hw := hw.2 q44
        refine g_aload_n h rfl 0 rfl dX12_letterThen_47 ?_
        refine g_get h is_248 fl_X12_25 fr_248_3 dX12_letterThen_48 ?_
        refine g_aload_n h rfl 0 rfl dX12_letterThen_51 ?_
        refine g_get h is_248 fl_X12_33 rfl dX12_letterThen_52 ?_
        obtain ⟨hi55, hw⟩ := hw
        refine g_iald h ar_250 hi55 dX12_letterThen_55 ?_
        refine g_bipush (v := 48) h (by decide) dX12_letterThen_56 ?_
        refine g_isub h dX12_letterThen_58 ?_
        refine g_i2l h dX12_letterThen_59 ?_
        refine g_iload_n h rfl 2 rfl dX12_letterThen_60 ?_
        refine g_i2l h dX12_letterThen_61 ?_
        refine g_iload_n h rfl 3 rfl dX12_letterThen_62 ?_
        refine g_i2l h dX12_letterThen_63 ?_
        refine g_callS [.long (Int32.toInt64 ((I_33 250 (Int32.toNatClampNeg (I_33 248 5))) - 48)), .long (Int32.toInt64 a2), .long (Int32.toInt64 a3)] h (c_X12_in X hw) sPi_v mw_X12_in lk_X12_29 rfl ⟨by decide, by decide⟩ (Nat.le_of_ble_eq_true rfl) dX12_letterThen_64 (sPi_k (fun r_64 I_64 J_64 hw => ?_))
        refine g_if_ne (tgt := 72) h (by decide) dX12_letterThen_67 (fun q67 => ?_) (fun q67 => ?_)
        · replace hw := hw.1 q67
          refine g_aload_n h rfl 0 rfl dX12_letterThen_72 ?_
          refine g_dup h rfl dX12_letterThen_73 ?_
          refine g_get h is_248 fl_X12_33 rfl dX12_letterThen_74 ?_
          refine g_iconst (v := 1) h (by decide) dX12_letterThen_77 ?_
          refine g_iadd h dX12_letterThen_78 ?_
          refine g_putI h is_248 fl_X12_33 rfl rfl dX12_letterThen_79 ?_
          refine g_nI (fun I_79 eI_79 => ?_)
          replace hw := hw I_79 eI_79
          refine g_aload_n h rfl 0 rfl dX12_letterThen_82 ?_
          refine g_get h is_248 fl_X12_25 fr_248_3 dX12_letterThen_83 ?_
          refine g_aload_n h rfl 0 rfl dX12_letterThen_86 ?_
          refine g_get h is_248 fl_X12_33 rfl dX12_letterThen_87 ?_
          refine g_iconst (v := 1) h (by decide) dX12_letterThen_90 ?_
          refine g_isub h dX12_letterThen_91 ?_
          obtain ⟨hi92, hw⟩ := hw
          refine g_iald h ar_250 hi92 dX12_letterThen_92 ?_
          refine g_bipush (v := 48) h (by decide) dX12_letterThen_93 ?_
          refine g_isub h dX12_letterThen_95 ?_
          exact g_iret h hr dX12_letterThen_96 hw
        · replace hw := hw.2 q67
          refine g_iconst (v := (-1)) h (by decide) dX12_letterThen_70 ?_
          exact g_iret h hr dX12_letterThen_71 hw
    · replace hw := hw.2 q21
      refine g_iconst (v := (-1)) h (by decide) dX12_letterThen_24 ?_
      exact g_iret h hr dX12_letterThen_25 hw
theorem c_X12_letterThen (X : sX) {a1 : Int32} {a2 : Int32} {a3 : Int32} {I : sI} {J : sJ} {post : Int32 → sI → sJ → Prop} (hw : w_X12_letterThen a1 a2 a3 I J post) : sCall X yX12_letterThen cX12_letterThen 4 (some .int) 1 25 [.ref 248, .int a1, .int a2, .int a3] I J (sPi post) := sCall_of (by decide +kernel) (Nat.le_of_ble_eq_true rfl) (fun X h hr => t_X12_letterThen h hr hw)
theorem dX12_laxness_0 : decode cX12_laxness 0 = .ok (.aload_n 0, 1) := by decide +kernel
theorem dX12_laxness_1 : decode cX12_laxness 1 = .ok (.iconst 0, 1) := by decide +kernel
theorem dX12_laxness_2 : decode cX12_laxness 2 = .ok (.putfield 1, 3) := by decide +kernel
theorem dX12_laxness_5 : decode cX12_laxness 5 = .ok (.aload_n 0, 1) := by decide +kernel
theorem dX12_laxness_6 : decode cX12_laxness 6 = .ok (.bipush 6, 2) := by decide +kernel
theorem dX12_laxness_8 : decode cX12_laxness 8 = .ok (.invokevirtual 69, 3) := by decide +kernel
theorem dX12_laxness_11 : decode cX12_laxness 11 = .ok (.istore_n 1, 1) := by decide +kernel
theorem dX12_laxness_12 : decode cX12_laxness 12 = .ok (.aload_n 0, 1) := by decide +kernel
theorem dX12_laxness_13 : decode cX12_laxness 13 = .ok (.bipush 104, 2) := by decide +kernel
theorem dX12_laxness_15 : decode cX12_laxness 15 = .ok (.iconst 1, 1) := by decide +kernel
theorem dX12_laxness_16 : decode cX12_laxness 16 = .ok (.iconst 3, 1) := by decide +kernel
theorem dX12_laxness_17 : decode cX12_laxness 17 = .ok (.invokevirtual 113, 3) := by decide +kernel
theorem dX12_laxness_20 : decode cX12_laxness 20 = .ok (.istore_n 2, 1) := by decide +kernel
theorem dX12_laxness_21 : decode cX12_laxness 21 = .ok (.iload_n 2, 1) := by decide +kernel
theorem dX12_laxness_22 : decode cX12_laxness 22 = .ok (.ifCond .ge 7, 3) := by decide +kernel
theorem dX12_laxness_25 : decode cX12_laxness 25 = .ok (.iconst (-1), 1) := by decide +kernel
theorem dX12_laxness_26 : decode cX12_laxness 26 = .ok (.goto 11, 3) := by decide +kernel
theorem dX12_laxness_29 : decode cX12_laxness 29 = .ok (.aload_n 0, 1) := by decide +kernel
theorem dX12_laxness_30 : decode cX12_laxness 30 = .ok (.bipush 100, 2) := by decide +kernel
theorem dX12_laxness_32 : decode cX12_laxness 32 = .ok (.iconst 0, 1) := by decide +kernel
theorem dX12_laxness_33 : decode cX12_laxness 33 = .ok (.iconst 2, 1) := by decide +kernel
theorem dX12_laxness_34 : decode cX12_laxness 34 = .ok (.invokevirtual 113, 3) := by decide +kernel
theorem dX12_laxness_37 : decode cX12_laxness 37 = .ok (.istore_n 3, 1) := by decide +kernel
theorem dX12_laxness_38 : decode cX12_laxness 38 = .ok (.iload_n 3, 1) := by decide +kernel
theorem dX12_laxness_39 : decode cX12_laxness 39 = .ok (.ifCond .ge 10, 3) := by decide +kernel
theorem dX12_laxness_42 : decode cX12_laxness 42 = .ok (.iconst (-1), 1) := by decide +kernel
theorem dX12_laxness_43 : decode cX12_laxness 43 = .ok (.aload_n 0, 1) := by decide +kernel
theorem dX12_laxness_44 : decode cX12_laxness 44 = .ok (.getfield 33, 3) := by decide +kernel
theorem dX12_laxness_47 : decode cX12_laxness 47 = .ok (.isub, 1) := by decide +kernel
theorem dX12_laxness_48 : decode cX12_laxness 48 = .ok (.ireturn, 1) := by decide +kernel
theorem dX12_laxness_49 : decode cX12_laxness 49 = .ok (.aload_n 0, 1) := by decide +kernel
theorem dX12_laxness_50 : decode cX12_laxness 50 = .ok (.getfield 33, 3) := by decide +kernel
theorem dX12_laxness_53 : decode cX12_laxness 53 = .ok (.aload_n 0, 1) := by decide +kernel
theorem dX12_laxness_54 : decode cX12_laxness 54 = .ok (.getfield 42, 3) := by decide +kernel
theorem dX12_laxness_57 : decode cX12_laxness 57 = .ok (.if_icmp .ge 21, 3) := by decide +kernel
theorem dX12_laxness_60 : decode cX12_laxness 60 = .ok (.aload_n 0, 1) := by decide +kernel
theorem dX12_laxness_61 : decode cX12_laxness 61 = .ok (.getfield 25, 3) := by decide +kernel
theorem dX12_laxness_64 : decode cX12_laxness 64 = .ok (.aload_n 0, 1) := by decide +kernel
theorem dX12_laxness_65 : decode cX12_laxness 65 = .ok (.getfield 33, 3) := by decide +kernel
theorem dX12_laxness_68 : decode cX12_laxness 68 = .ok (.iaload, 1) := by decide +kernel
theorem dX12_laxness_69 : decode cX12_laxness 69 = .ok (.bipush 98, 2) := by decide +kernel
theorem dX12_laxness_71 : decode cX12_laxness 71 = .ok (.if_icmp .ne 7, 3) := by decide +kernel
theorem dX12_laxness_74 : decode cX12_laxness 74 = .ok (.iconst 1, 1) := by decide +kernel
theorem dX12_laxness_75 : decode cX12_laxness 75 = .ok (.goto 4, 3) := by decide +kernel
theorem dX12_laxness_78 : decode cX12_laxness 78 = .ok (.iconst 0, 1) := by decide +kernel
theorem dX12_laxness_79 : decode cX12_laxness 79 = .ok (.istore 4, 2) := by decide +kernel
theorem dX12_laxness_81 : decode cX12_laxness 81 = .ok (.aload_n 0, 1) := by decide +kernel
theorem dX12_laxness_82 : decode cX12_laxness 82 = .ok (.dup, 1) := by decide +kernel
theorem dX12_laxness_83 : decode cX12_laxness 83 = .ok (.getfield 33, 3) := by decide +kernel
theorem dX12_laxness_86 : decode cX12_laxness 86 = .ok (.iload 4, 2) := by decide +kernel
theorem dX12_laxness_88 : decode cX12_laxness 88 = .ok (.invokestatic 65, 3) := by decide +kernel
theorem dX12_laxness_91 : decode cX12_laxness 91 = .ok (.iadd, 1) := by decide +kernel
theorem dX12_laxness_92 : decode cX12_laxness 92 = .ok (.putfield 33, 3) := by decide +kernel
theorem dX12_laxness_95 : decode cX12_laxness 95 = .ok (.aload_n 0, 1) := by decide +kernel
theorem dX12_laxness_96 : decode cX12_laxness 96 = .ok (.getfield 33, 3) := by decide +kernel
theorem dX12_laxness_99 : decode cX12_laxness 99 = .ok (.aload_n 0, 1) := by decide +kernel
theorem dX12_laxness_100 : decode cX12_laxness 100 = .ok (.getfield 42, 3) := by decide +kernel
theorem dX12_laxness_103 : decode cX12_laxness 103 = .ok (.if_icmp .ge 10, 3) := by decide +kernel
theorem dX12_laxness_106 : decode cX12_laxness 106 = .ok (.iconst (-1), 1) := by decide +kernel
theorem dX12_laxness_107 : decode cX12_laxness 107 = .ok (.aload_n 0, 1) := by decide +kernel
theorem dX12_laxness_108 : decode cX12_laxness 108 = .ok (.getfield 33, 3) := by decide +kernel
theorem dX12_laxness_111 : decode cX12_laxness 111 = .ok (.isub, 1) := by decide +kernel
theorem dX12_laxness_112 : decode cX12_laxness 112 = .ok (.ireturn, 1) := by decide +kernel
theorem dX12_laxness_113 : decode cX12_laxness 113 = .ok (.aload_n 0, 1) := by decide +kernel
theorem dX12_laxness_114 : decode cX12_laxness 114 = .ok (.iload_n 2, 1) := by decide +kernel
theorem dX12_laxness_115 : decode cX12_laxness 115 = .ok (.putfield 117, 3) := by decide +kernel
theorem dX12_laxness_118 : decode cX12_laxness 118 = .ok (.aload_n 0, 1) := by decide +kernel
theorem dX12_laxness_119 : decode cX12_laxness 119 = .ok (.iload_n 3, 1) := by decide +kernel
theorem dX12_laxness_120 : decode cX12_laxness 120 = .ok (.putfield 120, 3) := by decide +kernel
theorem dX12_laxness_123 : decode cX12_laxness 123 = .ok (.aload_n 0, 1) := by decide +kernel
theorem dX12_laxness_124 : decode cX12_laxness 124 = .ok (.iload 4, 2) := by decide +kernel
theorem dX12_laxness_126 : decode cX12_laxness 126 = .ok (.putfield 123, 3) := by decide +kernel
theorem dX12_laxness_129 : decode cX12_laxness 129 = .ok (.iconst 0, 1) := by decide +kernel
theorem dX12_laxness_130 : decode cX12_laxness 130 = .ok (.ireturn, 1) := by decide +kernel
def w_X12_laxness_79 (post : Int32 → sI → sJ → Prop) (x2 : Int32) (x3 : Int32) (s0 : Int32) (I : sI) (J : sJ) : Prop :=
  w_X12_flag s0 I J (fun (r_88 : Int32) (I_88 : sI) (J_88 : sJ) => ((∀ I_92 : sI, I_92 = sUI I_88 248 5 ((I 248 5) + r_88) → (((I_92 248 6) ≤ (I_92 248 5) → (∀ I_115 : sI, I_115 = sUI I_92 248 21 x2 → (∀ I_120 : sI, I_120 = sUI I_115 248 22 x3 → (sZ s0 ∧ (∀ I_126 : sI, I_126 = sUI I_120 248 23 s0 → post 0 I_126 J_88))))) ∧ (¬ (I_92 248 6) ≤ (I_92 248 5) → post ((-1) - (I_92 248 5)) I_92 J_88)))))
set_option maxHeartbeats 4000000 in
set_option maxRecDepth 100000 in
theorem t_X12_laxness_79 {X : sX} {post : Int32 → sI → sJ → Prop} (h : sOK X cX12_laxness RX12 5 2 48) (hr : sRt X (some .int) (sPi post)) {x2 : Int32} {x3 : Int32} {s0 : Int32} {I : sI} {J : sJ} (hw : w_X12_laxness_79 post x2 x3 s0 I J) : sG X 5 79 [(0, .ref 248), (2, .int x2), (3, .int x3)] [.int s0] I J := by
  unfold w_X12_laxness_79 at hw
  refine g_istore (lo2 := [(4, .int s0), (0, .ref 248), (2, .int x2), (3, .int x3)]) h (by decide) rfl dX12_laxness_79 ?_
  refine g_aload_n h rfl 1 rfl dX12_laxness_81 ?_
  refine g_dup h rfl dX12_laxness_82 ?_
  refine g_get h is_248 fl_X12_33 rfl dX12_laxness_83 ?_
  refine g_iload h 0 rfl dX12_laxness_86 ?_
  refine g_callS [.int s0] h (c_X12_flag X hw) sPi_v mw_X12_flag lk_X12_65 rfl ⟨by decide, by decide⟩ (Nat.le_of_ble_eq_true rfl) dX12_laxness_88 (sPi_k (fun r_88 I_88 J_88 hw => ?_))
  refine g_iadd h dX12_laxness_91 ?_
  refine g_putI h is_248 fl_X12_33 rfl rfl dX12_laxness_92 ?_
  refine g_nI (fun I_92 eI_92 => ?_)
  replace hw := hw I_92 eI_92
  refine g_aload_n h rfl 1 rfl dX12_laxness_95 ?_
  refine g_get h is_248 fl_X12_33 rfl dX12_laxness_96 ?_
  refine g_aload_n h rfl 1 rfl dX12_laxness_99 ?_
  refine g_get h is_248 fl_X12_42 rfl dX12_laxness_100 ?_
  refine g_icmp_ge (tgt := 113) h (by decide) dX12_laxness_103 (fun q103 => ?_) (fun q103 => ?_)
  · replace hw := hw.1 q103
    refine g_aload_n h rfl 1 rfl dX12_laxness_113 ?_
    refine g_iload_n h rfl 2 rfl dX12_laxness_114 ?_
    refine g_putI h is_248 fl_X12_117 rfl rfl dX12_laxness_115 ?_
    refine g_nI (fun I_115 eI_115 => ?_)
    replace hw := hw I_115 eI_115
    refine g_aload_n h rfl 1 rfl dX12_laxness_118 ?_
    refine g_iload_n h rfl 3 rfl dX12_laxness_119 ?_
    refine g_putI h is_248 fl_X12_120 rfl rfl dX12_laxness_120 ?_
    refine g_nI (fun I_120 eI_120 => ?_)
    replace hw := hw I_120 eI_120
    refine g_aload_n h rfl 1 rfl dX12_laxness_123 ?_
    refine g_iload h 0 rfl dX12_laxness_124 ?_
    obtain ⟨hz126, hw⟩ := hw
    refine g_putZ h is_248 fl_X12_123 rfl rfl hz126 dX12_laxness_126 ?_
    refine g_nI (fun I_126 eI_126 => ?_)
    replace hw := hw I_126 eI_126
    refine g_iconst (v := 0) h (by decide) dX12_laxness_129 ?_
    exact g_iret h hr dX12_laxness_130 hw
  · replace hw := hw.2 q103
    refine g_iconst (v := (-1)) h (by decide) dX12_laxness_106 ?_
    refine g_aload_n h rfl 1 rfl dX12_laxness_107 ?_
    refine g_get h is_248 fl_X12_33 rfl dX12_laxness_108 ?_
    refine g_isub h dX12_laxness_111 ?_
    exact g_iret h hr dX12_laxness_112 hw
def w_X12_laxness_78 (post : Int32 → sI → sJ → Prop) (x2 : Int32) (x3 : Int32) (I : sI) (J : sJ) : Prop :=
  w_X12_laxness_79 post x2 x3 0 I J
set_option maxHeartbeats 4000000 in
set_option maxRecDepth 100000 in
theorem t_X12_laxness_78 {X : sX} {post : Int32 → sI → sJ → Prop} (h : sOK X cX12_laxness RX12 5 2 48) (hr : sRt X (some .int) (sPi post)) {x2 : Int32} {x3 : Int32} {I : sI} {J : sJ} (hw : w_X12_laxness_78 post x2 x3 I J) : sG X 5 78 [(0, .ref 248), (2, .int x2), (3, .int x3)] [] I J := by
  unfold w_X12_laxness_78 at hw
  refine g_iconst (v := 0) h (by decide) dX12_laxness_78 ?_
  exact g_sub [0, 1, 2] rfl (t_X12_laxness_79 h hr hw)
def w_X12_laxness_37 (post : Int32 → sI → sJ → Prop) (x2 : Int32) (s0 : Int32) (I : sI) (J : sJ) : Prop :=
  ((0 ≤ s0 → (((I 248 6) ≤ (I 248 5) → w_X12_laxness_78 post x2 s0 I J) ∧ (¬ (I 248 6) ≤ (I 248 5) → (vp_in (I 248 5) 80 ∧ ((¬ (I 250 (Int32.toNatClampNeg (I 248 5))) = 98 → w_X12_laxness_78 post x2 s0 I J) ∧ ((I 250 (Int32.toNatClampNeg (I 248 5))) = 98 → w_X12_laxness_79 post x2 s0 1 I J)))))) ∧ (¬ 0 ≤ s0 → post ((-1) - (I 248 5)) I J))
set_option maxHeartbeats 4000000 in
set_option maxRecDepth 100000 in
theorem t_X12_laxness_37 {X : sX} {post : Int32 → sI → sJ → Prop} (h : sOK X cX12_laxness RX12 5 2 48) (hr : sRt X (some .int) (sPi post)) {x2 : Int32} {s0 : Int32} {I : sI} {J : sJ} (hw : w_X12_laxness_37 post x2 s0 I J) : sG X 5 37 [(0, .ref 248), (2, .int x2)] [.int s0] I J := by
  unfold w_X12_laxness_37 at hw
  refine g_istore_n (lo2 := [(3, .int s0), (0, .ref 248), (2, .int x2)]) h rfl (by decide) rfl dX12_laxness_37 ?_
  refine g_iload_n h rfl 0 rfl dX12_laxness_38 ?_
  refine g_if_ge (tgt := 49) h (by decide) dX12_laxness_39 (fun q39 => ?_) (fun q39 => ?_)
  · replace hw := hw.1 q39
    refine g_aload_n h rfl 1 rfl dX12_laxness_49 ?_
    refine g_get h is_248 fl_X12_33 rfl dX12_laxness_50 ?_
    refine g_aload_n h rfl 1 rfl dX12_laxness_53 ?_
    refine g_get h is_248 fl_X12_42 rfl dX12_laxness_54 ?_
    refine g_icmp_ge (tgt := 78) h (by decide) dX12_laxness_57 (fun q57 => ?_) (fun q57 => ?_)
    · replace hw := hw.1 q57
      exact g_sub [1, 2, 0] rfl (t_X12_laxness_78 h hr hw)
    · replace hw := hw.2 q57
      refine g_aload_n h rfl 1 rfl dX12_laxness_60 ?_
      refine g_get h is_248 fl_X12_25 fr_248_3 dX12_laxness_61 ?_
      refine g_aload_n h rfl 1 rfl dX12_laxness_64 ?_
      refine g_get h is_248 fl_X12_33 rfl dX12_laxness_65 ?_
      obtain ⟨hi68, hw⟩ := hw
      refine g_iald h ar_250 hi68 dX12_laxness_68 ?_
      refine g_bipush (v := 98) h (by decide) dX12_laxness_69 ?_
      refine g_icmp_ne (tgt := 78) h (by decide) dX12_laxness_71 (fun q71 => ?_) (fun q71 => ?_)
      · replace hw := hw.1 q71
        exact g_sub [1, 2, 0] rfl (t_X12_laxness_78 h hr hw)
      · replace hw := hw.2 q71
        refine g_iconst (v := 1) h (by decide) dX12_laxness_74 ?_
        refine g_goto (tgt := 79) h (by decide) dX12_laxness_75 ?_
        exact g_sub [1, 2, 0] rfl (t_X12_laxness_79 h hr hw)
  · replace hw := hw.2 q39
    refine g_iconst (v := (-1)) h (by decide) dX12_laxness_42 ?_
    refine g_aload_n h rfl 1 rfl dX12_laxness_43 ?_
    refine g_get h is_248 fl_X12_33 rfl dX12_laxness_44 ?_
    refine g_isub h dX12_laxness_47 ?_
    exact g_iret h hr dX12_laxness_48 hw
def w_X12_laxness (I : sI) (J : sJ) (post : Int32 → sI → sJ → Prop) : Prop :=
  (∀ I_2 : sI, I_2 = sUI I 248 0 0 → w_X12_begins 6 I_2 J (fun (r_8 : Int32) (I_8 : sI) (J_8 : sJ) => (w_X12_letterThen 104 1 3 I_8 J_8 (fun (r_17 : Int32) (I_17 : sI) (J_17 : sJ) => (((0 ≤ r_17 → w_X12_letterThen 100 0 2 I_17 J_17 (fun (r_34 : Int32) (I_34 : sI) (J_34 : sJ) => (w_X12_laxness_37 post r_17 r_34 I_34 J_34))) ∧ (¬ 0 ≤ r_17 → w_X12_laxness_37 post r_17 (-1) I_17 J_17)))))))
set_option maxHeartbeats 4000000 in
set_option maxRecDepth 100000 in
theorem t_X12_laxness {X : sX} {I : sI} {J : sJ} {post : Int32 → sI → sJ → Prop} (h : sOK X cX12_laxness RX12 5 2 48) (hr : sRt X (some .int) (sPi post)) (hw : w_X12_laxness I J post) : sG X 5 0 [(0, .ref 248)] [] I J := by
  unfold w_X12_laxness at hw
  refine g_aload_n h rfl 0 rfl dX12_laxness_0 ?_
  refine g_iconst (v := 0) h (by decide) dX12_laxness_1 ?_
  refine g_putI h is_248 fl_X12_1 rfl rfl dX12_laxness_2 ?_
  refine g_nI (fun I_2 eI_2 => ?_)
  replace hw := hw I_2 eI_2
  refine g_aload_n h rfl 0 rfl dX12_laxness_5 ?_
  refine g_bipush (v := 6) h (by decide) dX12_laxness_6 ?_
  refine g_callV [.int 6] h (c_X12_begins X hw) sPi_v mw_X12_begins lk_X12_69 is_248 rfl rfl ⟨by decide, by decide⟩ (Nat.le_of_ble_eq_true rfl) dX12_laxness_8 (sPi_k (fun r_8 I_8 J_8 hw => ?_))
  refine g_istore_n (lo2 := [(1, .int r_8), (0, .ref 248)]) h rfl (by decide) rfl dX12_laxness_11 ?_
  refine g_aload_n h rfl 1 rfl dX12_laxness_12 ?_
  refine g_bipush (v := 104) h (by decide) dX12_laxness_13 ?_
  refine g_iconst (v := 1) h (by decide) dX12_laxness_15 ?_
  refine g_iconst (v := 3) h (by decide) dX12_laxness_16 ?_
  refine g_callV [.int 104, .int 1, .int 3] h (c_X12_letterThen X hw) sPi_v mw_X12_letterThen lk_X12_113 is_248 rfl rfl ⟨by decide, by decide⟩ (Nat.le_of_ble_eq_true rfl) dX12_laxness_17 (sPi_k (fun r_17 I_17 J_17 hw => ?_))
  refine g_istore_n (lo2 := [(2, .int r_17), (1, .int r_8), (0, .ref 248)]) h rfl (by decide) rfl dX12_laxness_20 ?_
  refine g_iload_n h rfl 0 rfl dX12_laxness_21 ?_
  refine g_if_ge (tgt := 29) h (by decide) dX12_laxness_22 (fun q22 => ?_) (fun q22 => ?_)
  · replace hw := hw.1 q22
    refine g_aload_n h rfl 2 rfl dX12_laxness_29 ?_
    refine g_bipush (v := 100) h (by decide) dX12_laxness_30 ?_
    refine g_iconst (v := 0) h (by decide) dX12_laxness_32 ?_
    refine g_iconst (v := 2) h (by decide) dX12_laxness_33 ?_
    refine g_callV [.int 100, .int 0, .int 2] h (c_X12_letterThen X hw) sPi_v mw_X12_letterThen lk_X12_113 is_248 rfl rfl ⟨by decide, by decide⟩ (Nat.le_of_ble_eq_true rfl) dX12_laxness_34 (sPi_k (fun r_34 I_34 J_34 hw => ?_))
    exact g_sub [2, 0] rfl (t_X12_laxness_37 h hr hw)
  · replace hw := hw.2 q22
    refine g_iconst (v := (-1)) h (by decide) dX12_laxness_25 ?_
    refine g_goto (tgt := 37) h (by decide) dX12_laxness_26 ?_
    exact g_sub [2, 0] rfl (t_X12_laxness_37 h hr hw)
theorem c_X12_laxness (X : sX) {I : sI} {J : sJ} {post : Int32 → sI → sJ → Prop} (hw : w_X12_laxness I J post) : sCall X yX12_laxness cX12_laxness 5 (some .int) 2 48 [.ref 248] I J (sPi post) := sCall_of (by decide +kernel) (Nat.le_of_ble_eq_true rfl) (fun X h hr => t_X12_laxness h hr hw)
theorem dX12_forget_0 : decode cX12_forget 0 = .ok (.aload_n 0, 1) := by decide +kernel
theorem dX12_forget_1 : decode cX12_forget 1 = .ok (.iconst 0, 1) := by decide +kernel
theorem dX12_forget_2 : decode cX12_forget 2 = .ok (.putfield 1, 3) := by decide +kernel
theorem dX12_forget_5 : decode cX12_forget 5 = .ok (.iload_n 1, 1) := by decide +kernel
theorem dX12_forget_6 : decode cX12_forget 6 = .ok (.invokestatic 96, 3) := by decide +kernel
theorem dX12_forget_9 : decode cX12_forget 9 = .ok (.ifCond .ne 5, 3) := by decide +kernel
theorem dX12_forget_12 : decode cX12_forget 12 = .ok (.iconst (-1), 1) := by decide +kernel
theorem dX12_forget_13 : decode cX12_forget 13 = .ok (.ireturn, 1) := by decide +kernel
theorem dX12_forget_14 : decode cX12_forget 14 = .ok (.aload_n 0, 1) := by decide +kernel
theorem dX12_forget_15 : decode cX12_forget 15 = .ok (.getfield 100, 3) := by decide +kernel
theorem dX12_forget_18 : decode cX12_forget 18 = .ok (.iload_n 1, 1) := by decide +kernel
theorem dX12_forget_19 : decode cX12_forget 19 = .ok (.iaload, 1) := by decide +kernel
theorem dX12_forget_20 : decode cX12_forget 20 = .ok (.istore_n 2, 1) := by decide +kernel
theorem dX12_forget_21 : decode cX12_forget 21 = .ok (.aload_n 0, 1) := by decide +kernel
theorem dX12_forget_22 : decode cX12_forget 22 = .ok (.getfield 100, 3) := by decide +kernel
theorem dX12_forget_25 : decode cX12_forget 25 = .ok (.iload_n 1, 1) := by decide +kernel
theorem dX12_forget_26 : decode cX12_forget 26 = .ok (.iconst 0, 1) := by decide +kernel
theorem dX12_forget_27 : decode cX12_forget 27 = .ok (.iastore, 1) := by decide +kernel
theorem dX12_forget_28 : decode cX12_forget 28 = .ok (.iload_n 2, 1) := by decide +kernel
theorem dX12_forget_29 : decode cX12_forget 29 = .ok (.ireturn, 1) := by decide +kernel
def w_X12_forget (a1 : Int32) (I : sI) (J : sJ) (post : Int32 → sI → sJ → Prop) : Prop :=
  (∀ I_2 : sI, I_2 = sUI I 248 0 0 → w_X12_isTongue a1 I_2 J (fun (r_6 : Int32) (I_6 : sI) (J_6 : sJ) => (((¬ r_6 = 0 → (vp_in a1 4 ∧ (∀ v2_20 : Int32, v2_20 = I_6 257 (Int32.toNatClampNeg a1) → (vp_in a1 4 ∧ (∀ I_27 : sI, I_27 = sUI I_6 257 (Int32.toNatClampNeg a1) 0 → post v2_20 I_27 J_6))))) ∧ (r_6 = 0 → post (-1) I_6 J_6)))))
set_option maxHeartbeats 4000000 in
set_option maxRecDepth 100000 in
theorem t_X12_forget {X : sX} {a1 : Int32} {I : sI} {J : sJ} {post : Int32 → sI → sJ → Prop} (h : sOK X cX12_forget RX12 3 2 45) (hr : sRt X (some .int) (sPi post)) (hw : w_X12_forget a1 I J post) : sG X 3 0 [(0, .ref 248), (1, .int a1)] [] I J := by
  unfold w_X12_forget at hw
  refine g_aload_n h rfl 0 rfl dX12_forget_0 ?_
  refine g_iconst (v := 0) h (by decide) dX12_forget_1 ?_
  refine g_putI h is_248 fl_X12_1 rfl rfl dX12_forget_2 ?_
  refine g_nI (fun I_2 eI_2 => ?_)
  replace hw := hw I_2 eI_2
  refine g_iload_n h rfl 1 rfl dX12_forget_5 ?_
  refine g_callS [.int a1] h (c_X12_isTongue X hw) sPi_v mw_X12_isTongue lk_X12_96 rfl ⟨by decide, by decide⟩ (Nat.le_of_ble_eq_true rfl) dX12_forget_6 (sPi_k (fun r_6 I_6 J_6 hw => ?_))
  refine g_if_ne (tgt := 14) h (by decide) dX12_forget_9 (fun q9 => ?_) (fun q9 => ?_)
  · replace hw := hw.1 q9
    refine g_aload_n h rfl 0 rfl dX12_forget_14 ?_
    refine g_get h is_248 fl_X12_100 fr_248_18 dX12_forget_15 ?_
    refine g_iload_n h rfl 1 rfl dX12_forget_18 ?_
    obtain ⟨hi19, hw⟩ := hw
    refine g_iald h ar_257 hi19 dX12_forget_19 ?_
    refine g_ni (fun v2_20 ev2_20 => ?_)
    replace hw := hw v2_20 ev2_20
    refine g_istore_n (lo2 := [(2, .int v2_20), (0, .ref 248), (1, .int a1)]) h rfl (by decide) rfl dX12_forget_20 ?_
    refine g_aload_n h rfl 1 rfl dX12_forget_21 ?_
    refine g_get h is_248 fl_X12_100 fr_248_18 dX12_forget_22 ?_
    refine g_iload_n h rfl 2 rfl dX12_forget_25 ?_
    refine g_iconst (v := 0) h (by decide) dX12_forget_26 ?_
    obtain ⟨hi27, hw⟩ := hw
    refine g_iast h ar_257 hi27 dX12_forget_27 ?_
    refine g_nI (fun I_27 eI_27 => ?_)
    replace hw := hw I_27 eI_27
    refine g_iload_n h rfl 0 rfl dX12_forget_28 ?_
    exact g_iret h hr dX12_forget_29 hw
  · replace hw := hw.2 q9
    refine g_iconst (v := (-1)) h (by decide) dX12_forget_12 ?_
    exact g_iret h hr dX12_forget_13 hw
theorem c_X12_forget (X : sX) {a1 : Int32} {I : sI} {J : sJ} {post : Int32 → sI → sJ → Prop} (hw : w_X12_forget a1 I J post) : sCall X yX12_forget cX12_forget 3 (some .int) 2 45 [.ref 248, .int a1] I J (sPi post) := sCall_of (by decide +kernel) (Nat.le_of_ble_eq_true rfl) (fun X h hr => t_X12_forget h hr hw)
theorem dX12_letterOf_0 : decode cX12_letterOf 0 = .ok (.lload_n 0, 1) := by decide +kernel
theorem dX12_letterOf_1 : decode cX12_letterOf 1 = .ok (.iconst 4, 1) := by decide +kernel
theorem dX12_letterOf_2 : decode cX12_letterOf 2 = .ok (.bipush 11, 2) := by decide +kernel
theorem dX12_letterOf_4 : decode cX12_letterOf 4 = .ok (.iload_n 2, 1) := by decide +kernel
theorem dX12_letterOf_5 : decode cX12_letterOf 5 = .ok (.isub, 1) := by decide +kernel
theorem dX12_letterOf_6 : decode cX12_letterOf 6 = .ok (.imul, 1) := by decide +kernel
theorem dX12_letterOf_7 : decode cX12_letterOf 7 = .ok (.lshr, 1) := by decide +kernel
theorem dX12_letterOf_8 : decode cX12_letterOf 8 = .ok (.ldc2_w 127, 3) := by decide +kernel
theorem dX12_letterOf_11 : decode cX12_letterOf 11 = .ok (.land, 1) := by decide +kernel
theorem dX12_letterOf_12 : decode cX12_letterOf 12 = .ok (.l2i, 1) := by decide +kernel
theorem dX12_letterOf_13 : decode cX12_letterOf 13 = .ok (.iconst 1, 1) := by decide +kernel
theorem dX12_letterOf_14 : decode cX12_letterOf 14 = .ok (.isub, 1) := by decide +kernel
theorem dX12_letterOf_15 : decode cX12_letterOf 15 = .ok (.ireturn, 1) := by decide +kernel
def w_X12_letterOf (a0 : Int64) (a2 : Int32) (I : sI) (J : sJ) (post : Int32 → sI → sJ → Prop) : Prop :=
  post ((Int64.toInt32 ((a0 >>> (Int32.toInt64 (4 * (11 - a2)) &&& 63)) &&& 15)) - 1) I J
set_option maxHeartbeats 4000000 in
set_option maxRecDepth 100000 in
theorem t_X12_letterOf {X : sX} {a0 : Int64} {a2 : Int32} {I : sI} {J : sJ} {post : Int32 → sI → sJ → Prop} (h : sOK X cX12_letterOf RX12 3 0 0) (hr : sRt X (some .int) (sPi post)) (hw : w_X12_letterOf a0 a2 I J post) : sG X 3 0 [(0, .long a0), (2, .int a2)] [] I J := by
  unfold w_X12_letterOf at hw
  refine g_lload_n h rfl 0 rfl dX12_letterOf_0 ?_
  refine g_iconst (v := 4) h (by decide) dX12_letterOf_1 ?_
  refine g_bipush (v := 11) h (by decide) dX12_letterOf_2 ?_
  refine g_iload_n h rfl 1 rfl dX12_letterOf_4 ?_
  refine g_isub h dX12_letterOf_5 ?_
  refine g_imul h dX12_letterOf_6 ?_
  refine g_lshr h dX12_letterOf_7 ?_
  refine g_ldc2 h lc_X12_127 dX12_letterOf_8 ?_
  refine g_land h dX12_letterOf_11 ?_
  refine g_l2i h dX12_letterOf_12 ?_
  refine g_iconst (v := 1) h (by decide) dX12_letterOf_13 ?_
  refine g_isub h dX12_letterOf_14 ?_
  exact g_iret h hr dX12_letterOf_15 hw
theorem c_X12_letterOf (X : sX) {a0 : Int64} {a2 : Int32} {I : sI} {J : sJ} {post : Int32 → sI → sJ → Prop} (hw : w_X12_letterOf a0 a2 I J post) : sCall X yX12_letterOf cX12_letterOf 3 (some .int) 0 0 [.long a0, .int a2] I J (sPi post) := sCall_of (by decide +kernel) (Nat.le_of_ble_eq_true rfl) (fun X h hr => t_X12_letterOf h hr hw)
theorem dX12_withLetter_0 : decode cX12_withLetter 0 = .ok (.lload_n 0, 1) := by decide +kernel
theorem dX12_withLetter_1 : decode cX12_withLetter 1 = .ok (.iload_n 3, 1) := by decide +kernel
theorem dX12_withLetter_2 : decode cX12_withLetter 2 = .ok (.iconst 1, 1) := by decide +kernel
theorem dX12_withLetter_3 : decode cX12_withLetter 3 = .ok (.iadd, 1) := by decide +kernel
theorem dX12_withLetter_4 : decode cX12_withLetter 4 = .ok (.i2l, 1) := by decide +kernel
theorem dX12_withLetter_5 : decode cX12_withLetter 5 = .ok (.iconst 4, 1) := by decide +kernel
theorem dX12_withLetter_6 : decode cX12_withLetter 6 = .ok (.bipush 11, 2) := by decide +kernel
theorem dX12_withLetter_8 : decode cX12_withLetter 8 = .ok (.iload_n 2, 1) := by decide +kernel
theorem dX12_withLetter_9 : decode cX12_withLetter 9 = .ok (.isub, 1) := by decide +kernel
theorem dX12_withLetter_10 : decode cX12_withLetter 10 = .ok (.imul, 1) := by decide +kernel
theorem dX12_withLetter_11 : decode cX12_withLetter 11 = .ok (.lshl, 1) := by decide +kernel
theorem dX12_withLetter_12 : decode cX12_withLetter 12 = .ok (.lor, 1) := by decide +kernel
theorem dX12_withLetter_13 : decode cX12_withLetter 13 = .ok (.lreturn, 1) := by decide +kernel
def w_X12_withLetter (a0 : Int64) (a2 : Int32) (a3 : Int32) (I : sI) (J : sJ) (post : Int64 → sI → sJ → Prop) : Prop :=
  post (a0 ||| ((Int32.toInt64 (a3 + 1)) <<< (Int32.toInt64 (4 * (11 - a2)) &&& 63))) I J
set_option maxHeartbeats 4000000 in
set_option maxRecDepth 100000 in
theorem t_X12_withLetter {X : sX} {a0 : Int64} {a2 : Int32} {a3 : Int32} {I : sI} {J : sJ} {post : Int64 → sI → sJ → Prop} (h : sOK X cX12_withLetter RX12 4 0 0) (hr : sRt X (some .long) (sPl post)) (hw : w_X12_withLetter a0 a2 a3 I J post) : sG X 4 0 [(0, .long a0), (2, .int a2), (3, .int a3)] [] I J := by
  unfold w_X12_withLetter at hw
  refine g_lload_n h rfl 0 rfl dX12_withLetter_0 ?_
  refine g_iload_n h rfl 2 rfl dX12_withLetter_1 ?_
  refine g_iconst (v := 1) h (by decide) dX12_withLetter_2 ?_
  refine g_iadd h dX12_withLetter_3 ?_
  refine g_i2l h dX12_withLetter_4 ?_
  refine g_iconst (v := 4) h (by decide) dX12_withLetter_5 ?_
  refine g_bipush (v := 11) h (by decide) dX12_withLetter_6 ?_
  refine g_iload_n h rfl 1 rfl dX12_withLetter_8 ?_
  refine g_isub h dX12_withLetter_9 ?_
  refine g_imul h dX12_withLetter_10 ?_
  refine g_lshl h dX12_withLetter_11 ?_
  refine g_lor h dX12_withLetter_12 ?_
  exact g_lret h hr dX12_withLetter_13 hw
theorem c_X12_withLetter (X : sX) {a0 : Int64} {a2 : Int32} {a3 : Int32} {I : sI} {J : sJ} {post : Int64 → sI → sJ → Prop} (hw : w_X12_withLetter a0 a2 a3 I J post) : sCall X yX12_withLetter cX12_withLetter 4 (some .long) 0 0 [.long a0, .int a2, .int a3] I J (sPl post) := sCall_of (by decide +kernel) (Nat.le_of_ble_eq_true rfl) (fun X h hr => t_X12_withLetter h hr hw)
theorem dX12_takesDisc_0 : decode cX12_takesDisc 0 = .ok (.aload_n 0, 1) := by decide +kernel
theorem dX12_takesDisc_1 : decode cX12_takesDisc 1 = .ok (.iload_n 1, 1) := by decide +kernel
theorem dX12_takesDisc_2 : decode cX12_takesDisc 2 = .ok (.putfield 129, 3) := by decide +kernel
theorem dX12_takesDisc_5 : decode cX12_takesDisc 5 = .ok (.iconst 0, 1) := by decide +kernel
theorem dX12_takesDisc_6 : decode cX12_takesDisc 6 = .ok (.istore_n 2, 1) := by decide +kernel
theorem dX12_takesDisc_7 : decode cX12_takesDisc 7 = .ok (.iconst 0, 1) := by decide +kernel
theorem dX12_takesDisc_8 : decode cX12_takesDisc 8 = .ok (.istore_n 3, 1) := by decide +kernel
theorem dX12_takesDisc_9 : decode cX12_takesDisc 9 = .ok (.iload_n 3, 1) := by decide +kernel
theorem dX12_takesDisc_10 : decode cX12_takesDisc 10 = .ok (.iload_n 1, 1) := by decide +kernel
theorem dX12_takesDisc_11 : decode cX12_takesDisc 11 = .ok (.if_icmp .ge 56, 3) := by decide +kernel
theorem dX12_takesDisc_14 : decode cX12_takesDisc 14 = .ok (.aload_n 0, 1) := by decide +kernel
theorem dX12_takesDisc_15 : decode cX12_takesDisc 15 = .ok (.getfield 132, 3) := by decide +kernel
theorem dX12_takesDisc_18 : decode cX12_takesDisc 18 = .ok (.iload_n 3, 1) := by decide +kernel
theorem dX12_takesDisc_19 : decode cX12_takesDisc 19 = .ok (.aload_n 0, 1) := by decide +kernel
theorem dX12_takesDisc_20 : decode cX12_takesDisc 20 = .ok (.getfield 82, 3) := by decide +kernel
theorem dX12_takesDisc_23 : decode cX12_takesDisc 23 = .ok (.iload_n 3, 1) := by decide +kernel
theorem dX12_takesDisc_24 : decode cX12_takesDisc 24 = .ok (.iaload, 1) := by decide +kernel
theorem dX12_takesDisc_25 : decode cX12_takesDisc 25 = .ok (.iastore, 1) := by decide +kernel
theorem dX12_takesDisc_26 : decode cX12_takesDisc 26 = .ok (.iconst 0, 1) := by decide +kernel
theorem dX12_takesDisc_27 : decode cX12_takesDisc 27 = .ok (.istore 4, 2) := by decide +kernel
theorem dX12_takesDisc_29 : decode cX12_takesDisc 29 = .ok (.iload 4, 2) := by decide +kernel
theorem dX12_takesDisc_31 : decode cX12_takesDisc 31 = .ok (.aload_n 0, 1) := by decide +kernel
theorem dX12_takesDisc_32 : decode cX12_takesDisc 32 = .ok (.getfield 82, 3) := by decide +kernel
theorem dX12_takesDisc_35 : decode cX12_takesDisc 35 = .ok (.iload_n 3, 1) := by decide +kernel
theorem dX12_takesDisc_36 : decode cX12_takesDisc 36 = .ok (.iaload, 1) := by decide +kernel
theorem dX12_takesDisc_37 : decode cX12_takesDisc 37 = .ok (.if_icmp .ge 24, 3) := by decide +kernel
theorem dX12_takesDisc_40 : decode cX12_takesDisc 40 = .ok (.aload_n 0, 1) := by decide +kernel
theorem dX12_takesDisc_41 : decode cX12_takesDisc 41 = .ok (.getfield 135, 3) := by decide +kernel
theorem dX12_takesDisc_44 : decode cX12_takesDisc 44 = .ok (.iload_n 2, 1) := by decide +kernel
theorem dX12_takesDisc_45 : decode cX12_takesDisc 45 = .ok (.aload_n 0, 1) := by decide +kernel
theorem dX12_takesDisc_46 : decode cX12_takesDisc 46 = .ok (.getfield 85, 3) := by decide +kernel
theorem dX12_takesDisc_49 : decode cX12_takesDisc 49 = .ok (.iload_n 2, 1) := by decide +kernel
theorem dX12_takesDisc_50 : decode cX12_takesDisc 50 = .ok (.iaload, 1) := by decide +kernel
theorem dX12_takesDisc_51 : decode cX12_takesDisc 51 = .ok (.iastore, 1) := by decide +kernel
theorem dX12_takesDisc_52 : decode cX12_takesDisc 52 = .ok (.iinc 2 1, 3) := by decide +kernel
theorem dX12_takesDisc_55 : decode cX12_takesDisc 55 = .ok (.iinc 4 1, 3) := by decide +kernel
theorem dX12_takesDisc_58 : decode cX12_takesDisc 58 = .ok (.goto (-29), 3) := by decide +kernel
theorem dX12_takesDisc_61 : decode cX12_takesDisc 61 = .ok (.iinc 3 1, 3) := by decide +kernel
theorem dX12_takesDisc_64 : decode cX12_takesDisc 64 = .ok (.goto (-55), 3) := by decide +kernel
theorem dX12_takesDisc_67 : decode cX12_takesDisc 67 = .ok (.return_, 1) := by decide +kernel
def w_X12_takesDisc_29_s (post : sI → sJ → Prop) (k9 : Int32 → Int32 → Int32 → sI → sJ → Prop) (k29 : Int32 → Int32 → Int32 → Int32 → sI → sJ → Prop) (x1 : Int32) (x2 : Int32) (x3 : Int32) (x4 : Int32) (I : sI) (J : sJ) : Prop :=
  (vp_in x3 24 ∧ (((I 253 (Int32.toNatClampNeg x3)) ≤ x4 → (∀ v3_61 : Int32, v3_61 = x3 + 1 → k9 x1 x2 v3_61 I J)) ∧ (¬ (I 253 (Int32.toNatClampNeg x3)) ≤ x4 → (vp_in x2 80 ∧ (vp_in x2 160 ∧ (∀ I_51 : sI, I_51 = sUI I 261 (Int32.toNatClampNeg x2) (I 254 (Int32.toNatClampNeg x2)) → (∀ v2_52 : Int32, v2_52 = x2 + 1 → (∀ v4_55 : Int32, v4_55 = x4 + 1 → k29 x1 v2_52 x3 v4_55 I_51 J))))))))
def w_X12_takesDisc_29_n (post : sI → sJ → Prop) (k9 : Int32 → Int32 → Int32 → sI → sJ → Prop) : Nat → Int32 → Int32 → Int32 → Int32 → sI → sJ → Prop
  | 0 => fun _ _ _ _ _ _ => False
  | n + 1 => fun x1 x2 x3 x4 I J => w_X12_takesDisc_29_s post k9 (w_X12_takesDisc_29_n post k9 n) x1 x2 x3 x4 I J
def w_X12_takesDisc_29 (post : sI → sJ → Prop) (k9 : Int32 → Int32 → Int32 → sI → sJ → Prop) (x1 : Int32) (x2 : Int32) (x3 : Int32) (x4 : Int32) (I : sI) (J : sJ) : Prop := ∃ n, w_X12_takesDisc_29_n post k9 n x1 x2 x3 x4 I J
set_option maxHeartbeats 4000000 in
set_option maxRecDepth 100000 in
theorem t_X12_takesDisc_29_s {X : sX} {post : sI → sJ → Prop} (h : sOK X cX12_takesDisc RX12 5 0 0) (hr : sRt X none (sPv post)) {k9 : Int32 → Int32 → Int32 → sI → sJ → Prop} (hk9 : ∀ (x1 : Int32) (x2 : Int32) (x3 : Int32) (I : sI) (J : sJ), k9 x1 x2 x3 I J → sG X 5 9 [(0, .ref 248), (1, .int x1), (2, .int x2), (3, .int x3)] [] I J) {k29 : Int32 → Int32 → Int32 → Int32 → sI → sJ → Prop} (hk29 : ∀ (x1 : Int32) (x2 : Int32) (x3 : Int32) (x4 : Int32) (I : sI) (J : sJ), k29 x1 x2 x3 x4 I J → sG X 5 29 [(0, .ref 248), (1, .int x1), (2, .int x2), (3, .int x3), (4, .int x4)] [] I J) {x1 : Int32} {x2 : Int32} {x3 : Int32} {x4 : Int32} {I : sI} {J : sJ} (hw : w_X12_takesDisc_29_s post k9 k29 x1 x2 x3 x4 I J) : sG X 5 29 [(0, .ref 248), (1, .int x1), (2, .int x2), (3, .int x3), (4, .int x4)] [] I J := by
  unfold w_X12_takesDisc_29_s at hw
  refine g_iload h 4 rfl dX12_takesDisc_29 ?_
  refine g_aload_n h rfl 0 rfl dX12_takesDisc_31 ?_
  refine g_get h is_248 fl_X12_82 fr_248_13 dX12_takesDisc_32 ?_
  refine g_iload_n h rfl 3 rfl dX12_takesDisc_35 ?_
  obtain ⟨hi36, hw⟩ := hw
  refine g_iald h ar_253 hi36 dX12_takesDisc_36 ?_
  refine g_icmp_ge (tgt := 61) h (by decide) dX12_takesDisc_37 (fun q37 => ?_) (fun q37 => ?_)
  · replace hw := hw.1 q37
    obtain ⟨v3_61, ev3_61⟩ : ∃ z : Int32, z = x3 + 1 := ⟨_, rfl⟩
    replace hw := hw v3_61 ev3_61
    refine g_iinc (v := v3_61) (lo2 := [(3, .int v3_61), (0, .ref 248), (1, .int x1), (2, .int x2), (4, .int x4)]) h 3 rfl (by rw [ev3_61]; rfl) (by decide) rfl dX12_takesDisc_61 ?_
    refine g_goto (tgt := 9) h (by decide) dX12_takesDisc_64 ?_
    exact g_sub [1, 2, 3, 0] rfl (hk9 _ _ _ _ _ hw)
  · replace hw := hw.2 q37
    refine g_aload_n h rfl 0 rfl dX12_takesDisc_40 ?_
    refine g_get h is_248 fl_X12_135 fr_248_26 dX12_takesDisc_41 ?_
    refine g_iload_n h rfl 2 rfl dX12_takesDisc_44 ?_
    refine g_aload_n h rfl 0 rfl dX12_takesDisc_45 ?_
    refine g_get h is_248 fl_X12_85 fr_248_14 dX12_takesDisc_46 ?_
    refine g_iload_n h rfl 2 rfl dX12_takesDisc_49 ?_
    obtain ⟨hi50, hw⟩ := hw
    refine g_iald h ar_254 hi50 dX12_takesDisc_50 ?_
    obtain ⟨hi51, hw⟩ := hw
    refine g_iast h ar_261 hi51 dX12_takesDisc_51 ?_
    refine g_nI (fun I_51 eI_51 => ?_)
    replace hw := hw I_51 eI_51
    obtain ⟨v2_52, ev2_52⟩ : ∃ z : Int32, z = x2 + 1 := ⟨_, rfl⟩
    replace hw := hw v2_52 ev2_52
    refine g_iinc (v := v2_52) (lo2 := [(2, .int v2_52), (0, .ref 248), (1, .int x1), (3, .int x3), (4, .int x4)]) h 2 rfl (by rw [ev2_52]; rfl) (by decide) rfl dX12_takesDisc_52 ?_
    obtain ⟨v4_55, ev4_55⟩ : ∃ z : Int32, z = x4 + 1 := ⟨_, rfl⟩
    replace hw := hw v4_55 ev4_55
    refine g_iinc (v := v4_55) (lo2 := [(4, .int v4_55), (2, .int v2_52), (0, .ref 248), (1, .int x1), (3, .int x3)]) h 4 rfl (by rw [ev4_55]; rfl) (by decide) rfl dX12_takesDisc_55 ?_
    refine g_goto (tgt := 29) h (by decide) dX12_takesDisc_58 ?_
    exact g_sub [2, 3, 1, 4, 0] rfl (hk29 _ _ _ _ _ _ hw)
theorem t_X12_takesDisc_29 {X : sX} {post : sI → sJ → Prop} (h : sOK X cX12_takesDisc RX12 5 0 0) (hr : sRt X none (sPv post)) {k9 : Int32 → Int32 → Int32 → sI → sJ → Prop} (hk9 : ∀ (x1 : Int32) (x2 : Int32) (x3 : Int32) (I : sI) (J : sJ), k9 x1 x2 x3 I J → sG X 5 9 [(0, .ref 248), (1, .int x1), (2, .int x2), (3, .int x3)] [] I J) {x1 : Int32} {x2 : Int32} {x3 : Int32} {x4 : Int32} {I : sI} {J : sJ} (hw : w_X12_takesDisc_29 post k9 x1 x2 x3 x4 I J) : sG X 5 29 [(0, .ref 248), (1, .int x1), (2, .int x2), (3, .int x3), (4, .int x4)] [] I J := by
  obtain ⟨n, hw⟩ := hw
  induction n generalizing x1 x2 x3 x4 I J with
  | zero => exact hw.elim
  | succ n ih => exact t_X12_takesDisc_29_s h hr hk9 (fun _ _ _ _ _ _ q => ih q) hw
def w_X12_takesDisc_9_s (post : sI → sJ → Prop) (k9 : Int32 → Int32 → Int32 → sI → sJ → Prop) (x1 : Int32) (x2 : Int32) (x3 : Int32) (I : sI) (J : sJ) : Prop :=
  ((x1 ≤ x3 → post I J) ∧ (¬ x1 ≤ x3 → (vp_in x3 24 ∧ (vp_in x3 24 ∧ (∀ I_25 : sI, I_25 = sUI I 260 (Int32.toNatClampNeg x3) (I 253 (Int32.toNatClampNeg x3)) → w_X12_takesDisc_29 post k9 x1 x2 x3 0 I_25 J)))))
def w_X12_takesDisc_9_n (post : sI → sJ → Prop) : Nat → Int32 → Int32 → Int32 → sI → sJ → Prop
  | 0 => fun _ _ _ _ _ => False
  | n + 1 => fun x1 x2 x3 I J => w_X12_takesDisc_9_s post (w_X12_takesDisc_9_n post n) x1 x2 x3 I J
def w_X12_takesDisc_9 (post : sI → sJ → Prop) (x1 : Int32) (x2 : Int32) (x3 : Int32) (I : sI) (J : sJ) : Prop := ∃ n, w_X12_takesDisc_9_n post n x1 x2 x3 I J
set_option maxHeartbeats 4000000 in
set_option maxRecDepth 100000 in
theorem t_X12_takesDisc_9_s {X : sX} {post : sI → sJ → Prop} (h : sOK X cX12_takesDisc RX12 5 0 0) (hr : sRt X none (sPv post)) {k9 : Int32 → Int32 → Int32 → sI → sJ → Prop} (hk9 : ∀ (x1 : Int32) (x2 : Int32) (x3 : Int32) (I : sI) (J : sJ), k9 x1 x2 x3 I J → sG X 5 9 [(0, .ref 248), (1, .int x1), (2, .int x2), (3, .int x3)] [] I J) {x1 : Int32} {x2 : Int32} {x3 : Int32} {I : sI} {J : sJ} (hw : w_X12_takesDisc_9_s post k9 x1 x2 x3 I J) : sG X 5 9 [(0, .ref 248), (1, .int x1), (2, .int x2), (3, .int x3)] [] I J := by
  unfold w_X12_takesDisc_9_s at hw
  refine g_iload_n h rfl 3 rfl dX12_takesDisc_9 ?_
  refine g_iload_n h rfl 1 rfl dX12_takesDisc_10 ?_
  refine g_icmp_ge (tgt := 67) h (by decide) dX12_takesDisc_11 (fun q11 => ?_) (fun q11 => ?_)
  · replace hw := hw.1 q11
    exact g_vret h hr dX12_takesDisc_67 hw
  · replace hw := hw.2 q11
    refine g_aload_n h rfl 0 rfl dX12_takesDisc_14 ?_
    refine g_get h is_248 fl_X12_132 fr_248_25 dX12_takesDisc_15 ?_
    refine g_iload_n h rfl 3 rfl dX12_takesDisc_18 ?_
    refine g_aload_n h rfl 0 rfl dX12_takesDisc_19 ?_
    refine g_get h is_248 fl_X12_82 fr_248_13 dX12_takesDisc_20 ?_
    refine g_iload_n h rfl 3 rfl dX12_takesDisc_23 ?_
    obtain ⟨hi24, hw⟩ := hw
    refine g_iald h ar_253 hi24 dX12_takesDisc_24 ?_
    obtain ⟨hi25, hw⟩ := hw
    refine g_iast h ar_260 hi25 dX12_takesDisc_25 ?_
    refine g_nI (fun I_25 eI_25 => ?_)
    replace hw := hw I_25 eI_25
    refine g_iconst (v := 0) h (by decide) dX12_takesDisc_26 ?_
    refine g_istore (lo2 := [(4, .int 0), (0, .ref 248), (1, .int x1), (2, .int x2), (3, .int x3)]) h (by decide) rfl dX12_takesDisc_27 ?_
    exact g_sub [1, 2, 3, 4, 0] rfl (t_X12_takesDisc_29 h hr hk9 hw)
theorem t_X12_takesDisc_9 {X : sX} {post : sI → sJ → Prop} (h : sOK X cX12_takesDisc RX12 5 0 0) (hr : sRt X none (sPv post)) {x1 : Int32} {x2 : Int32} {x3 : Int32} {I : sI} {J : sJ} (hw : w_X12_takesDisc_9 post x1 x2 x3 I J) : sG X 5 9 [(0, .ref 248), (1, .int x1), (2, .int x2), (3, .int x3)] [] I J := by
  obtain ⟨n, hw⟩ := hw
  induction n generalizing x1 x2 x3 I J with
  | zero => exact hw.elim
  | succ n ih => exact t_X12_takesDisc_9_s h hr (fun _ _ _ _ _ q => ih q) hw
def w_X12_takesDisc (a1 : Int32) (I : sI) (J : sJ) (post : sI → sJ → Prop) : Prop :=
  (∀ I_2 : sI, I_2 = sUI I 248 24 a1 → w_X12_takesDisc_9 post a1 0 0 I_2 J)
set_option maxHeartbeats 4000000 in
set_option maxRecDepth 100000 in
theorem t_X12_takesDisc {X : sX} {a1 : Int32} {I : sI} {J : sJ} {post : sI → sJ → Prop} (h : sOK X cX12_takesDisc RX12 5 0 0) (hr : sRt X none (sPv post)) (hw : w_X12_takesDisc a1 I J post) : sG X 5 0 [(0, .ref 248), (1, .int a1)] [] I J := by
  unfold w_X12_takesDisc at hw
  refine g_aload_n h rfl 0 rfl dX12_takesDisc_0 ?_
  refine g_iload_n h rfl 1 rfl dX12_takesDisc_1 ?_
  refine g_putI h is_248 fl_X12_129 rfl rfl dX12_takesDisc_2 ?_
  refine g_nI (fun I_2 eI_2 => ?_)
  replace hw := hw I_2 eI_2
  refine g_iconst (v := 0) h (by decide) dX12_takesDisc_5 ?_
  refine g_istore_n (lo2 := [(2, .int 0), (0, .ref 248), (1, .int a1)]) h rfl (by decide) rfl dX12_takesDisc_6 ?_
  refine g_iconst (v := 0) h (by decide) dX12_takesDisc_7 ?_
  refine g_istore_n (lo2 := [(3, .int 0), (2, .int 0), (0, .ref 248), (1, .int a1)]) h rfl (by decide) rfl dX12_takesDisc_8 ?_
  exact g_sub [2, 3, 1, 0] rfl (t_X12_takesDisc_9 h hr hw)
theorem c_X12_takesDisc (X : sX) {a1 : Int32} {I : sI} {J : sJ} {post : sI → sJ → Prop} (hw : w_X12_takesDisc a1 I J post) : sCall X yX12_takesDisc cX12_takesDisc 5 none 0 0 [.ref 248, .int a1] I J (sPv post) := sCall_of (by decide +kernel) (Nat.le_of_ble_eq_true rfl) (fun X h hr => t_X12_takesDisc h hr hw)
theorem dX12_fits_0 : decode cX12_fits 0 = .ok (.lload_n 1, 1) := by decide +kernel
theorem dX12_fits_1 : decode cX12_fits 1 = .ok (.lstore 6, 2) := by decide +kernel
theorem dX12_fits_3 : decode cX12_fits 3 = .ok (.iconst 0, 1) := by decide +kernel
theorem dX12_fits_4 : decode cX12_fits 4 = .ok (.istore 8, 2) := by decide +kernel
theorem dX12_fits_6 : decode cX12_fits 6 = .ok (.iload 8, 2) := by decide +kernel
theorem dX12_fits_8 : decode cX12_fits 8 = .ok (.iload 4, 2) := by decide +kernel
theorem dX12_fits_10 : decode cX12_fits 10 = .ok (.if_icmp .ge 155, 3) := by decide +kernel
theorem dX12_fits_13 : decode cX12_fits 13 = .ok (.aload_n 0, 1) := by decide +kernel
theorem dX12_fits_14 : decode cX12_fits 14 = .ok (.getfield 135, 3) := by decide +kernel
theorem dX12_fits_17 : decode cX12_fits 17 = .ok (.iload_n 3, 1) := by decide +kernel
theorem dX12_fits_18 : decode cX12_fits 18 = .ok (.aload_n 0, 1) := by decide +kernel
theorem dX12_fits_19 : decode cX12_fits 19 = .ok (.getfield 123, 3) := by decide +kernel
theorem dX12_fits_22 : decode cX12_fits 22 = .ok (.ifCond .eq 13, 3) := by decide +kernel
theorem dX12_fits_25 : decode cX12_fits 25 = .ok (.iload 4, 2) := by decide +kernel
theorem dX12_fits_27 : decode cX12_fits 27 = .ok (.iconst 1, 1) := by decide +kernel
theorem dX12_fits_28 : decode cX12_fits 28 = .ok (.isub, 1) := by decide +kernel
theorem dX12_fits_29 : decode cX12_fits 29 = .ok (.iload 8, 2) := by decide +kernel
theorem dX12_fits_31 : decode cX12_fits 31 = .ok (.isub, 1) := by decide +kernel
theorem dX12_fits_32 : decode cX12_fits 32 = .ok (.goto 5, 3) := by decide +kernel
theorem dX12_fits_35 : decode cX12_fits 35 = .ok (.iload 8, 2) := by decide +kernel
theorem dX12_fits_37 : decode cX12_fits 37 = .ok (.iadd, 1) := by decide +kernel
theorem dX12_fits_38 : decode cX12_fits 38 = .ok (.iaload, 1) := by decide +kernel
theorem dX12_fits_39 : decode cX12_fits 39 = .ok (.istore 9, 2) := by decide +kernel
theorem dX12_fits_41 : decode cX12_fits 41 = .ok (.aload_n 0, 1) := by decide +kernel
theorem dX12_fits_42 : decode cX12_fits 42 = .ok (.getfield 107, 3) := by decide +kernel
theorem dX12_fits_45 : decode cX12_fits 45 = .ok (.bipush 6, 2) := by decide +kernel
theorem dX12_fits_47 : decode cX12_fits 47 = .ok (.iload 5, 2) := by decide +kernel
theorem dX12_fits_49 : decode cX12_fits 49 = .ok (.imul, 1) := by decide +kernel
theorem dX12_fits_50 : decode cX12_fits 50 = .ok (.iload 8, 2) := by decide +kernel
theorem dX12_fits_52 : decode cX12_fits 52 = .ok (.iadd, 1) := by decide +kernel
theorem dX12_fits_53 : decode cX12_fits 53 = .ok (.iaload, 1) := by decide +kernel
theorem dX12_fits_54 : decode cX12_fits 54 = .ok (.istore 10, 2) := by decide +kernel
theorem dX12_fits_56 : decode cX12_fits 56 = .ok (.iload 9, 2) := by decide +kernel
theorem dX12_fits_58 : decode cX12_fits 58 = .ok (.bipush 12, 2) := by decide +kernel
theorem dX12_fits_60 : decode cX12_fits 60 = .ok (.if_icmp .ne 6, 3) := by decide +kernel
theorem dX12_fits_63 : decode cX12_fits 63 = .ok (.goto 96, 3) := by decide +kernel
theorem dX12_fits_66 : decode cX12_fits 66 = .ok (.lload 6, 2) := by decide +kernel
theorem dX12_fits_68 : decode cX12_fits 68 = .ok (.iload 9, 2) := by decide +kernel
theorem dX12_fits_70 : decode cX12_fits 70 = .ok (.invokestatic 138, 3) := by decide +kernel
theorem dX12_fits_73 : decode cX12_fits 73 = .ok (.istore 11, 2) := by decide +kernel
theorem dX12_fits_75 : decode cX12_fits 75 = .ok (.iload 11, 2) := by decide +kernel
theorem dX12_fits_77 : decode cX12_fits 77 = .ok (.ifCond .lt 14, 3) := by decide +kernel
theorem dX12_fits_80 : decode cX12_fits 80 = .ok (.iload 11, 2) := by decide +kernel
theorem dX12_fits_82 : decode cX12_fits 82 = .ok (.iload 10, 2) := by decide +kernel
theorem dX12_fits_84 : decode cX12_fits 84 = .ok (.if_icmp .eq 75, 3) := by decide +kernel
theorem dX12_fits_87 : decode cX12_fits 87 = .ok (.ldc2_w 142, 3) := by decide +kernel
theorem dX12_fits_90 : decode cX12_fits 90 = .ok (.lreturn, 1) := by decide +kernel
theorem dX12_fits_91 : decode cX12_fits 91 = .ok (.iconst 0, 1) := by decide +kernel
theorem dX12_fits_92 : decode cX12_fits 92 = .ok (.istore 12, 2) := by decide +kernel
theorem dX12_fits_94 : decode cX12_fits 94 = .ok (.iconst 0, 1) := by decide +kernel
theorem dX12_fits_95 : decode cX12_fits 95 = .ok (.istore 13, 2) := by decide +kernel
theorem dX12_fits_97 : decode cX12_fits 97 = .ok (.iload 13, 2) := by decide +kernel
theorem dX12_fits_99 : decode cX12_fits 99 = .ok (.bipush 12, 2) := by decide +kernel
theorem dX12_fits_101 : decode cX12_fits 101 = .ok (.if_icmp .ge 34, 3) := by decide +kernel
theorem dX12_fits_104 : decode cX12_fits 104 = .ok (.iload 12, 2) := by decide +kernel
theorem dX12_fits_106 : decode cX12_fits 106 = .ok (.lload 6, 2) := by decide +kernel
theorem dX12_fits_108 : decode cX12_fits 108 = .ok (.iload 13, 2) := by decide +kernel
theorem dX12_fits_110 : decode cX12_fits 110 = .ok (.invokestatic 138, 3) := by decide +kernel
theorem dX12_fits_113 : decode cX12_fits 113 = .ok (.iload 10, 2) := by decide +kernel
theorem dX12_fits_115 : decode cX12_fits 115 = .ok (.if_icmp .ne 7, 3) := by decide +kernel
theorem dX12_fits_118 : decode cX12_fits 118 = .ok (.iconst 1, 1) := by decide +kernel
theorem dX12_fits_119 : decode cX12_fits 119 = .ok (.goto 4, 3) := by decide +kernel
theorem dX12_fits_122 : decode cX12_fits 122 = .ok (.iconst 0, 1) := by decide +kernel
theorem dX12_fits_123 : decode cX12_fits 123 = .ok (.invokestatic 65, 3) := by decide +kernel
theorem dX12_fits_126 : decode cX12_fits 126 = .ok (.iadd, 1) := by decide +kernel
theorem dX12_fits_127 : decode cX12_fits 127 = .ok (.istore 12, 2) := by decide +kernel
theorem dX12_fits_129 : decode cX12_fits 129 = .ok (.iinc 13 1, 3) := by decide +kernel
theorem dX12_fits_132 : decode cX12_fits 132 = .ok (.goto (-35), 3) := by decide +kernel
theorem dX12_fits_135 : decode cX12_fits 135 = .ok (.iload 12, 2) := by decide +kernel
theorem dX12_fits_137 : decode cX12_fits 137 = .ok (.aload_n 0, 1) := by decide +kernel
theorem dX12_fits_138 : decode cX12_fits 138 = .ok (.getfield 117, 3) := by decide +kernel
theorem dX12_fits_141 : decode cX12_fits 141 = .ok (.if_icmp .lt 7, 3) := by decide +kernel
theorem dX12_fits_144 : decode cX12_fits 144 = .ok (.ldc2_w 142, 3) := by decide +kernel
theorem dX12_fits_147 : decode cX12_fits 147 = .ok (.lreturn, 1) := by decide +kernel
theorem dX12_fits_148 : decode cX12_fits 148 = .ok (.lload 6, 2) := by decide +kernel
theorem dX12_fits_150 : decode cX12_fits 150 = .ok (.iload 9, 2) := by decide +kernel
theorem dX12_fits_152 : decode cX12_fits 152 = .ok (.iload 10, 2) := by decide +kernel
theorem dX12_fits_154 : decode cX12_fits 154 = .ok (.invokestatic 144, 3) := by decide +kernel
theorem dX12_fits_157 : decode cX12_fits 157 = .ok (.lstore 6, 2) := by decide +kernel
theorem dX12_fits_159 : decode cX12_fits 159 = .ok (.iinc 8 1, 3) := by decide +kernel
theorem dX12_fits_162 : decode cX12_fits 162 = .ok (.goto (-156), 3) := by decide +kernel
theorem dX12_fits_165 : decode cX12_fits 165 = .ok (.lload 6, 2) := by decide +kernel
theorem dX12_fits_167 : decode cX12_fits 167 = .ok (.lreturn, 1) := by decide +kernel
def w_X12_fits_159 (post : Int64 → sI → sJ → Prop) (k6 : Int32 → Int32 → Int32 → Int64 → Int32 → sI → sJ → Prop) (x3 : Int32) (x4 : Int32) (x5 : Int32) (x6 : Int64) (x8 : Int32) (I : sI) (J : sJ) : Prop :=
  (∀ v8_159 : Int32, v8_159 = x8 + 1 → k6 x3 x4 x5 x6 v8_159 I J)
set_option maxHeartbeats 4000000 in
set_option maxRecDepth 100000 in
theorem t_X12_fits_159 {X : sX} {post : Int64 → sI → sJ → Prop} (h : sOK X cX12_fits RX12 14 1 23) (hr : sRt X (some .long) (sPl post)) {k6 : Int32 → Int32 → Int32 → Int64 → Int32 → sI → sJ → Prop} (hk6 : ∀ (x3 : Int32) (x4 : Int32) (x5 : Int32) (x6 : Int64) (x8 : Int32) (I : sI) (J : sJ), k6 x3 x4 x5 x6 x8 I J → sG X 14 6 [(0, .ref 248), (3, .int x3), (4, .int x4), (5, .int x5), (6, .long x6), (8, .int x8)] [] I J) {x3 : Int32} {x4 : Int32} {x5 : Int32} {x6 : Int64} {x8 : Int32} {I : sI} {J : sJ} (hw : w_X12_fits_159 post k6 x3 x4 x5 x6 x8 I J) : sG X 14 159 [(0, .ref 248), (3, .int x3), (4, .int x4), (5, .int x5), (6, .long x6), (8, .int x8)] [] I J := by
  unfold w_X12_fits_159 at hw
  obtain ⟨v8_159, ev8_159⟩ : ∃ z : Int32, z = x8 + 1 := ⟨_, rfl⟩
  replace hw := hw v8_159 ev8_159
  refine g_iinc (v := v8_159) (lo2 := [(8, .int v8_159), (0, .ref 248), (3, .int x3), (4, .int x4), (5, .int x5), (6, .long x6)]) h 5 rfl (by rw [ev8_159]; rfl) (by decide) rfl dX12_fits_159 ?_
  refine g_goto (tgt := 6) h (by decide) dX12_fits_162 ?_
  exact g_sub [1, 2, 3, 4, 5, 0] rfl (hk6 _ _ _ _ _ _ _ hw)
def w_X12_fits_123 (post : Int64 → sI → sJ → Prop) (k6 : Int32 → Int32 → Int32 → Int64 → Int32 → sI → sJ → Prop) (k97 : Int32 → Int32 → Int32 → Int64 → Int32 → Int32 → Int32 → Int32 → Int32 → sI → sJ → Prop) (x3 : Int32) (x4 : Int32) (x5 : Int32) (x6 : Int64) (x8 : Int32) (x9 : Int32) (x10 : Int32) (x13 : Int32) (s0 : Int32) (s1 : Int32) (I : sI) (J : sJ) : Prop :=
  w_X12_flag s0 I J (fun (r_123 : Int32) (I_123 : sI) (J_123 : sJ) => ((∀ v12_127 : Int32, v12_127 = s1 + r_123 → (∀ v13_129 : Int32, v13_129 = x13 + 1 → k97 x3 x4 x5 x6 x8 x9 x10 v12_127 v13_129 I_123 J_123))))
set_option maxHeartbeats 4000000 in
set_option maxRecDepth 100000 in
theorem t_X12_fits_123 {X : sX} {post : Int64 → sI → sJ → Prop} (h : sOK X cX12_fits RX12 14 1 23) (hr : sRt X (some .long) (sPl post)) {k6 : Int32 → Int32 → Int32 → Int64 → Int32 → sI → sJ → Prop} (hk6 : ∀ (x3 : Int32) (x4 : Int32) (x5 : Int32) (x6 : Int64) (x8 : Int32) (I : sI) (J : sJ), k6 x3 x4 x5 x6 x8 I J → sG X 14 6 [(0, .ref 248), (3, .int x3), (4, .int x4), (5, .int x5), (6, .long x6), (8, .int x8)] [] I J) {k97 : Int32 → Int32 → Int32 → Int64 → Int32 → Int32 → Int32 → Int32 → Int32 → sI → sJ → Prop} (hk97 : ∀ (x3 : Int32) (x4 : Int32) (x5 : Int32) (x6 : Int64) (x8 : Int32) (x9 : Int32) (x10 : Int32) (x12 : Int32) (x13 : Int32) (I : sI) (J : sJ), k97 x3 x4 x5 x6 x8 x9 x10 x12 x13 I J → sG X 14 97 [(0, .ref 248), (3, .int x3), (4, .int x4), (5, .int x5), (6, .long x6), (8, .int x8), (9, .int x9), (10, .int x10), (12, .int x12), (13, .int x13)] [] I J) {x3 : Int32} {x4 : Int32} {x5 : Int32} {x6 : Int64} {x8 : Int32} {x9 : Int32} {x10 : Int32} {x13 : Int32} {s0 : Int32} {s1 : Int32} {I : sI} {J : sJ} (hw : w_X12_fits_123 post k6 k97 x3 x4 x5 x6 x8 x9 x10 x13 s0 s1 I J) : sG X 14 123 [(0, .ref 248), (3, .int x3), (4, .int x4), (5, .int x5), (6, .long x6), (8, .int x8), (9, .int x9), (10, .int x10), (13, .int x13)] [.int s0, .int s1] I J := by
  unfold w_X12_fits_123 at hw
  refine g_callS [.int s0] h (c_X12_flag X hw) sPi_v mw_X12_flag lk_X12_65 rfl ⟨by decide, by decide⟩ (Nat.le_of_ble_eq_true rfl) dX12_fits_123 (sPi_k (fun r_123 I_123 J_123 hw => ?_))
  refine g_iadd h dX12_fits_126 ?_
  refine g_ni (fun v12_127 ev12_127 => ?_)
  replace hw := hw v12_127 ev12_127
  refine g_istore (lo2 := [(12, .int v12_127), (0, .ref 248), (3, .int x3), (4, .int x4), (5, .int x5), (6, .long x6), (8, .int x8), (9, .int x9), (10, .int x10), (13, .int x13)]) h (by decide) rfl dX12_fits_127 ?_
  obtain ⟨v13_129, ev13_129⟩ : ∃ z : Int32, z = x13 + 1 := ⟨_, rfl⟩
  replace hw := hw v13_129 ev13_129
  refine g_iinc (v := v13_129) (lo2 := [(13, .int v13_129), (12, .int v12_127), (0, .ref 248), (3, .int x3), (4, .int x4), (5, .int x5), (6, .long x6), (8, .int x8), (9, .int x9), (10, .int x10)]) h 9 rfl (by rw [ev13_129]; rfl) (by decide) rfl dX12_fits_129 ?_
  refine g_goto (tgt := 97) h (by decide) dX12_fits_132 ?_
  exact g_sub [2, 3, 4, 5, 6, 7, 8, 9, 1, 0] rfl (hk97 _ _ _ _ _ _ _ _ _ _ _ hw)
def w_X12_fits_97_s (post : Int64 → sI → sJ → Prop) (k6 : Int32 → Int32 → Int32 → Int64 → Int32 → sI → sJ → Prop) (k97 : Int32 → Int32 → Int32 → Int64 → Int32 → Int32 → Int32 → Int32 → Int32 → sI → sJ → Prop) (x3 : Int32) (x4 : Int32) (x5 : Int32) (x6 : Int64) (x8 : Int32) (x9 : Int32) (x10 : Int32) (x12 : Int32) (x13 : Int32) (I : sI) (J : sJ) : Prop :=
  ((12 ≤ x13 → ((x12 < (I 248 21) → w_X12_withLetter x6 x9 x10 I J (fun (r_154 : Int64) (I_154 : sI) (J_154 : sJ) => (w_X12_fits_159 post k6 x3 x4 x5 r_154 x8 I_154 J_154))) ∧ (¬ x12 < (I 248 21) → post (-1) I J))) ∧ (¬ 12 ≤ x13 → w_X12_letterOf x6 x13 I J (fun (r_110 : Int32) (I_110 : sI) (J_110 : sJ) => (((¬ r_110 = x10 → w_X12_fits_123 post k6 k97 x3 x4 x5 x6 x8 x9 x10 x13 0 x12 I_110 J_110) ∧ (r_110 = x10 → w_X12_fits_123 post k6 k97 x3 x4 x5 x6 x8 x9 x10 x13 1 x12 I_110 J_110))))))
def w_X12_fits_97_n (post : Int64 → sI → sJ → Prop) (k6 : Int32 → Int32 → Int32 → Int64 → Int32 → sI → sJ → Prop) : Nat → Int32 → Int32 → Int32 → Int64 → Int32 → Int32 → Int32 → Int32 → Int32 → sI → sJ → Prop
  | 0 => fun _ _ _ _ _ _ _ _ _ _ _ => False
  | n + 1 => fun x3 x4 x5 x6 x8 x9 x10 x12 x13 I J => w_X12_fits_97_s post k6 (w_X12_fits_97_n post k6 n) x3 x4 x5 x6 x8 x9 x10 x12 x13 I J
def w_X12_fits_97 (post : Int64 → sI → sJ → Prop) (k6 : Int32 → Int32 → Int32 → Int64 → Int32 → sI → sJ → Prop) (x3 : Int32) (x4 : Int32) (x5 : Int32) (x6 : Int64) (x8 : Int32) (x9 : Int32) (x10 : Int32) (x12 : Int32) (x13 : Int32) (I : sI) (J : sJ) : Prop := ∃ n, w_X12_fits_97_n post k6 n x3 x4 x5 x6 x8 x9 x10 x12 x13 I J
set_option maxHeartbeats 4000000 in
set_option maxRecDepth 100000 in
theorem t_X12_fits_97_s {X : sX} {post : Int64 → sI → sJ → Prop} (h : sOK X cX12_fits RX12 14 1 23) (hr : sRt X (some .long) (sPl post)) {k6 : Int32 → Int32 → Int32 → Int64 → Int32 → sI → sJ → Prop} (hk6 : ∀ (x3 : Int32) (x4 : Int32) (x5 : Int32) (x6 : Int64) (x8 : Int32) (I : sI) (J : sJ), k6 x3 x4 x5 x6 x8 I J → sG X 14 6 [(0, .ref 248), (3, .int x3), (4, .int x4), (5, .int x5), (6, .long x6), (8, .int x8)] [] I J) {k97 : Int32 → Int32 → Int32 → Int64 → Int32 → Int32 → Int32 → Int32 → Int32 → sI → sJ → Prop} (hk97 : ∀ (x3 : Int32) (x4 : Int32) (x5 : Int32) (x6 : Int64) (x8 : Int32) (x9 : Int32) (x10 : Int32) (x12 : Int32) (x13 : Int32) (I : sI) (J : sJ), k97 x3 x4 x5 x6 x8 x9 x10 x12 x13 I J → sG X 14 97 [(0, .ref 248), (3, .int x3), (4, .int x4), (5, .int x5), (6, .long x6), (8, .int x8), (9, .int x9), (10, .int x10), (12, .int x12), (13, .int x13)] [] I J) {x3 : Int32} {x4 : Int32} {x5 : Int32} {x6 : Int64} {x8 : Int32} {x9 : Int32} {x10 : Int32} {x12 : Int32} {x13 : Int32} {I : sI} {J : sJ} (hw : w_X12_fits_97_s post k6 k97 x3 x4 x5 x6 x8 x9 x10 x12 x13 I J) : sG X 14 97 [(0, .ref 248), (3, .int x3), (4, .int x4), (5, .int x5), (6, .long x6), (8, .int x8), (9, .int x9), (10, .int x10), (12, .int x12), (13, .int x13)] [] I J := by
  unfold w_X12_fits_97_s at hw
  refine g_iload h 9 rfl dX12_fits_97 ?_
  refine g_bipush (v := 12) h (by decide) dX12_fits_99 ?_
  refine g_icmp_ge (tgt := 135) h (by decide) dX12_fits_101 (fun q101 => ?_) (fun q101 => ?_)
  · replace hw := hw.1 q101
    refine g_iload h 8 rfl dX12_fits_135 ?_
    refine g_aload_n h rfl 0 rfl dX12_fits_137 ?_
    refine g_get h is_248 fl_X12_117 rfl dX12_fits_138 ?_
    refine g_icmp_lt (tgt := 148) h (by decide) dX12_fits_141 (fun q141 => ?_) (fun q141 => ?_)
    · replace hw := hw.1 q141
      refine g_lload h 4 rfl dX12_fits_148 ?_
      refine g_iload h 6 rfl dX12_fits_150 ?_
      refine g_iload h 7 rfl dX12_fits_152 ?_
      refine g_callS [.long x6, .int x9, .int x10] h (c_X12_withLetter X hw) sPl_v mw_X12_withLetter lk_X12_144 rfl ⟨by decide, by decide⟩ (Nat.le_of_ble_eq_true rfl) dX12_fits_154 (sPl_k (fun r_154 I_154 J_154 hw => ?_))
      refine g_lstore (lo2 := [(6, .long r_154), (0, .ref 248), (3, .int x3), (4, .int x4), (5, .int x5), (8, .int x8), (9, .int x9), (10, .int x10), (12, .int x12), (13, .int x13)]) h (by decide) rfl dX12_fits_157 ?_
      exact g_sub [1, 2, 3, 4, 0, 5] rfl (t_X12_fits_159 h hr hk6 hw)
    · replace hw := hw.2 q141
      refine g_ldc2 h lc_X12_142 dX12_fits_144 ?_
      exact g_lret h hr dX12_fits_147 hw
  · replace hw := hw.2 q101
    refine g_iload h 8 rfl dX12_fits_104 ?_
    refine g_lload h 4 rfl dX12_fits_106 ?_
    refine g_iload h 9 rfl dX12_fits_108 ?_
    refine g_callS [.long x6, .int x13] h (c_X12_letterOf X hw) sPi_v mw_X12_letterOf lk_X12_138 rfl ⟨by decide, by decide⟩ (Nat.le_of_ble_eq_true rfl) dX12_fits_110 (sPi_k (fun r_110 I_110 J_110 hw => ?_))
    refine g_iload h 7 rfl dX12_fits_113 ?_
    refine g_icmp_ne (tgt := 122) h (by decide) dX12_fits_115 (fun q115 => ?_) (fun q115 => ?_)
    · replace hw := hw.1 q115
      refine g_iconst (v := 0) h (by decide) dX12_fits_122 ?_
      exact g_sub [0, 1, 2, 3, 4, 5, 6, 7, 9] rfl (t_X12_fits_123 h hr hk6 hk97 hw)
    · replace hw := hw.2 q115
      refine g_iconst (v := 1) h (by decide) dX12_fits_118 ?_
      refine g_goto (tgt := 123) h (by decide) dX12_fits_119 ?_
      exact g_sub [0, 1, 2, 3, 4, 5, 6, 7, 9] rfl (t_X12_fits_123 h hr hk6 hk97 hw)
theorem t_X12_fits_97 {X : sX} {post : Int64 → sI → sJ → Prop} (h : sOK X cX12_fits RX12 14 1 23) (hr : sRt X (some .long) (sPl post)) {k6 : Int32 → Int32 → Int32 → Int64 → Int32 → sI → sJ → Prop} (hk6 : ∀ (x3 : Int32) (x4 : Int32) (x5 : Int32) (x6 : Int64) (x8 : Int32) (I : sI) (J : sJ), k6 x3 x4 x5 x6 x8 I J → sG X 14 6 [(0, .ref 248), (3, .int x3), (4, .int x4), (5, .int x5), (6, .long x6), (8, .int x8)] [] I J) {x3 : Int32} {x4 : Int32} {x5 : Int32} {x6 : Int64} {x8 : Int32} {x9 : Int32} {x10 : Int32} {x12 : Int32} {x13 : Int32} {I : sI} {J : sJ} (hw : w_X12_fits_97 post k6 x3 x4 x5 x6 x8 x9 x10 x12 x13 I J) : sG X 14 97 [(0, .ref 248), (3, .int x3), (4, .int x4), (5, .int x5), (6, .long x6), (8, .int x8), (9, .int x9), (10, .int x10), (12, .int x12), (13, .int x13)] [] I J := by
  obtain ⟨n, hw⟩ := hw
  induction n generalizing x3 x4 x5 x6 x8 x9 x10 x12 x13 I J with
  | zero => exact hw.elim
  | succ n ih => exact t_X12_fits_97_s h hr hk6 (fun _ _ _ _ _ _ _ _ _ _ _ q => ih q) hw
def w_X12_fits_37 (post : Int64 → sI → sJ → Prop) (k6 : Int32 → Int32 → Int32 → Int64 → Int32 → sI → sJ → Prop) (x3 : Int32) (x4 : Int32) (x5 : Int32) (x6 : Int64) (x8 : Int32) (s0 : Int32) (s1 : Int32) (I : sI) (J : sJ) : Prop :=
  (vp_in (s1 + s0) 160 ∧ (∀ v9_39 : Int32, v9_39 = I 261 (Int32.toNatClampNeg (s1 + s0)) → (vp_in ((6 * x5) + x8) 480 ∧ (∀ v10_54 : Int32, v10_54 = I 259 (Int32.toNatClampNeg ((6 * x5) + x8)) → ((¬ v9_39 = 12 → w_X12_letterOf x6 v9_39 I J (fun (r_70 : Int32) (I_70 : sI) (J_70 : sJ) => (((r_70 < 0 → w_X12_fits_97 post k6 x3 x4 x5 x6 x8 v9_39 v10_54 0 0 I_70 J_70) ∧ (¬ r_70 < 0 → ((r_70 = v10_54 → w_X12_fits_159 post k6 x3 x4 x5 x6 x8 I_70 J_70) ∧ (¬ r_70 = v10_54 → post (-1) I_70 J_70))))))) ∧ (v9_39 = 12 → w_X12_fits_159 post k6 x3 x4 x5 x6 x8 I J))))))
set_option maxHeartbeats 4000000 in
set_option maxRecDepth 100000 in
theorem t_X12_fits_37 {X : sX} {post : Int64 → sI → sJ → Prop} (h : sOK X cX12_fits RX12 14 1 23) (hr : sRt X (some .long) (sPl post)) {k6 : Int32 → Int32 → Int32 → Int64 → Int32 → sI → sJ → Prop} (hk6 : ∀ (x3 : Int32) (x4 : Int32) (x5 : Int32) (x6 : Int64) (x8 : Int32) (I : sI) (J : sJ), k6 x3 x4 x5 x6 x8 I J → sG X 14 6 [(0, .ref 248), (3, .int x3), (4, .int x4), (5, .int x5), (6, .long x6), (8, .int x8)] [] I J) {x3 : Int32} {x4 : Int32} {x5 : Int32} {x6 : Int64} {x8 : Int32} {s0 : Int32} {s1 : Int32} {I : sI} {J : sJ} (hw : w_X12_fits_37 post k6 x3 x4 x5 x6 x8 s0 s1 I J) : sG X 14 37 [(0, .ref 248), (3, .int x3), (4, .int x4), (5, .int x5), (6, .long x6), (8, .int x8)] [.int s0, .int s1, .ref 261] I J := by
  unfold w_X12_fits_37 at hw
  refine g_iadd h dX12_fits_37 ?_
  obtain ⟨hi38, hw⟩ := hw
  refine g_iald h ar_261 hi38 dX12_fits_38 ?_
  refine g_ni (fun v9_39 ev9_39 => ?_)
  replace hw := hw v9_39 ev9_39
  refine g_istore (lo2 := [(9, .int v9_39), (0, .ref 248), (3, .int x3), (4, .int x4), (5, .int x5), (6, .long x6), (8, .int x8)]) h (by decide) rfl dX12_fits_39 ?_
  refine g_aload_n h rfl 1 rfl dX12_fits_41 ?_
  refine g_get h is_248 fl_X12_107 fr_248_20 dX12_fits_42 ?_
  refine g_bipush (v := 6) h (by decide) dX12_fits_45 ?_
  refine g_iload h 4 rfl dX12_fits_47 ?_
  refine g_imul h dX12_fits_49 ?_
  refine g_iload h 6 rfl dX12_fits_50 ?_
  refine g_iadd h dX12_fits_52 ?_
  obtain ⟨hi53, hw⟩ := hw
  refine g_iald h ar_259 hi53 dX12_fits_53 ?_
  refine g_ni (fun v10_54 ev10_54 => ?_)
  replace hw := hw v10_54 ev10_54
  refine g_istore (lo2 := [(10, .int v10_54), (9, .int v9_39), (0, .ref 248), (3, .int x3), (4, .int x4), (5, .int x5), (6, .long x6), (8, .int x8)]) h (by decide) rfl dX12_fits_54 ?_
  refine g_iload h 1 rfl dX12_fits_56 ?_
  refine g_bipush (v := 12) h (by decide) dX12_fits_58 ?_
  refine g_icmp_ne (tgt := 66) h (by decide) dX12_fits_60 (fun q60 => ?_) (fun q60 => ?_)
  · replace hw := hw.1 q60
    refine g_lload h 6 rfl dX12_fits_66 ?_
    refine g_iload h 1 rfl dX12_fits_68 ?_
    refine g_callS [.long x6, .int v9_39] h (c_X12_letterOf X hw) sPi_v mw_X12_letterOf lk_X12_138 rfl ⟨by decide, by decide⟩ (Nat.le_of_ble_eq_true rfl) dX12_fits_70 (sPi_k (fun r_70 I_70 J_70 hw => ?_))
    refine g_istore (lo2 := [(11, .int r_70), (10, .int v10_54), (9, .int v9_39), (0, .ref 248), (3, .int x3), (4, .int x4), (5, .int x5), (6, .long x6), (8, .int x8)]) h (by decide) rfl dX12_fits_73 ?_
    refine g_iload h 0 rfl dX12_fits_75 ?_
    refine g_if_lt (tgt := 91) h (by decide) dX12_fits_77 (fun q77 => ?_) (fun q77 => ?_)
    · replace hw := hw.1 q77
      refine g_iconst (v := 0) h (by decide) dX12_fits_91 ?_
      refine g_istore (lo2 := [(12, .int 0), (11, .int r_70), (10, .int v10_54), (9, .int v9_39), (0, .ref 248), (3, .int x3), (4, .int x4), (5, .int x5), (6, .long x6), (8, .int x8)]) h (by decide) rfl dX12_fits_92 ?_
      refine g_iconst (v := 0) h (by decide) dX12_fits_94 ?_
      refine g_istore (lo2 := [(13, .int 0), (12, .int 0), (11, .int r_70), (10, .int v10_54), (9, .int v9_39), (0, .ref 248), (3, .int x3), (4, .int x4), (5, .int x5), (6, .long x6), (8, .int x8)]) h (by decide) rfl dX12_fits_95 ?_
      exact g_sub [5, 6, 7, 8, 9, 10, 4, 3, 1, 0] rfl (t_X12_fits_97 h hr hk6 hw)
    · replace hw := hw.2 q77
      refine g_iload h 0 rfl dX12_fits_80 ?_
      refine g_iload h 1 rfl dX12_fits_82 ?_
      refine g_icmp_eq (tgt := 159) h (by decide) dX12_fits_84 (fun q84 => ?_) (fun q84 => ?_)
      · replace hw := hw.1 q84
        exact g_sub [3, 4, 5, 6, 7, 8] rfl (t_X12_fits_159 h hr hk6 hw)
      · replace hw := hw.2 q84
        refine g_ldc2 h lc_X12_142 dX12_fits_87 ?_
        exact g_lret h hr dX12_fits_90 hw
  · replace hw := hw.2 q60
    refine g_goto (tgt := 159) h (by decide) dX12_fits_63 ?_
    exact g_sub [2, 3, 4, 5, 6, 7] rfl (t_X12_fits_159 h hr hk6 hw)
def w_X12_fits_6_s (post : Int64 → sI → sJ → Prop) (k6 : Int32 → Int32 → Int32 → Int64 → Int32 → sI → sJ → Prop) (x3 : Int32) (x4 : Int32) (x5 : Int32) (x6 : Int64) (x8 : Int32) (I : sI) (J : sJ) : Prop :=
  ((x4 ≤ x8 → post x6 I J) ∧ (¬ x4 ≤ x8 → (((I 248 23) = 0 → w_X12_fits_37 post k6 x3 x4 x5 x6 x8 x8 x3 I J) ∧ (¬ (I 248 23) = 0 → w_X12_fits_37 post k6 x3 x4 x5 x6 x8 ((x4 - 1) - x8) x3 I J))))
def w_X12_fits_6_n (post : Int64 → sI → sJ → Prop) : Nat → Int32 → Int32 → Int32 → Int64 → Int32 → sI → sJ → Prop
  | 0 => fun _ _ _ _ _ _ _ => False
  | n + 1 => fun x3 x4 x5 x6 x8 I J => w_X12_fits_6_s post (w_X12_fits_6_n post n) x3 x4 x5 x6 x8 I J
def w_X12_fits_6 (post : Int64 → sI → sJ → Prop) (x3 : Int32) (x4 : Int32) (x5 : Int32) (x6 : Int64) (x8 : Int32) (I : sI) (J : sJ) : Prop := ∃ n, w_X12_fits_6_n post n x3 x4 x5 x6 x8 I J
set_option maxHeartbeats 4000000 in
set_option maxRecDepth 100000 in
theorem t_X12_fits_6_s {X : sX} {post : Int64 → sI → sJ → Prop} (h : sOK X cX12_fits RX12 14 1 23) (hr : sRt X (some .long) (sPl post)) {k6 : Int32 → Int32 → Int32 → Int64 → Int32 → sI → sJ → Prop} (hk6 : ∀ (x3 : Int32) (x4 : Int32) (x5 : Int32) (x6 : Int64) (x8 : Int32) (I : sI) (J : sJ), k6 x3 x4 x5 x6 x8 I J → sG X 14 6 [(0, .ref 248), (3, .int x3), (4, .int x4), (5, .int x5), (6, .long x6), (8, .int x8)] [] I J) {x3 : Int32} {x4 : Int32} {x5 : Int32} {x6 : Int64} {x8 : Int32} {I : sI} {J : sJ} (hw : w_X12_fits_6_s post k6 x3 x4 x5 x6 x8 I J) : sG X 14 6 [(0, .ref 248), (3, .int x3), (4, .int x4), (5, .int x5), (6, .long x6), (8, .int x8)] [] I J := by
  unfold w_X12_fits_6_s at hw
  refine g_iload h 5 rfl dX12_fits_6 ?_
  refine g_iload h 2 rfl dX12_fits_8 ?_
  refine g_icmp_ge (tgt := 165) h (by decide) dX12_fits_10 (fun q10 => ?_) (fun q10 => ?_)
  · replace hw := hw.1 q10
    refine g_lload h 4 rfl dX12_fits_165 ?_
    exact g_lret h hr dX12_fits_167 hw
  · replace hw := hw.2 q10
    refine g_aload_n h rfl 0 rfl dX12_fits_13 ?_
    refine g_get h is_248 fl_X12_135 fr_248_26 dX12_fits_14 ?_
    refine g_iload_n h rfl 1 rfl dX12_fits_17 ?_
    refine g_aload_n h rfl 0 rfl dX12_fits_18 ?_
    refine g_get h is_248 fl_X12_123 rfl dX12_fits_19 ?_
    refine g_if_eq (tgt := 35) h (by decide) dX12_fits_22 (fun q22 => ?_) (fun q22 => ?_)
    · replace hw := hw.1 q22
      refine g_iload h 5 rfl dX12_fits_35 ?_
      exact g_sub [0, 1, 2, 3, 4, 5] rfl (t_X12_fits_37 h hr hk6 hw)
    · replace hw := hw.2 q22
      refine g_iload h 2 rfl dX12_fits_25 ?_
      refine g_iconst (v := 1) h (by decide) dX12_fits_27 ?_
      refine g_isub h dX12_fits_28 ?_
      refine g_iload h 5 rfl dX12_fits_29 ?_
      refine g_isub h dX12_fits_31 ?_
      refine g_goto (tgt := 37) h (by decide) dX12_fits_32 ?_
      exact g_sub [0, 1, 2, 3, 4, 5] rfl (t_X12_fits_37 h hr hk6 hw)
theorem t_X12_fits_6 {X : sX} {post : Int64 → sI → sJ → Prop} (h : sOK X cX12_fits RX12 14 1 23) (hr : sRt X (some .long) (sPl post)) {x3 : Int32} {x4 : Int32} {x5 : Int32} {x6 : Int64} {x8 : Int32} {I : sI} {J : sJ} (hw : w_X12_fits_6 post x3 x4 x5 x6 x8 I J) : sG X 14 6 [(0, .ref 248), (3, .int x3), (4, .int x4), (5, .int x5), (6, .long x6), (8, .int x8)] [] I J := by
  obtain ⟨n, hw⟩ := hw
  induction n generalizing x3 x4 x5 x6 x8 I J with
  | zero => exact hw.elim
  | succ n ih => exact t_X12_fits_6_s h hr (fun _ _ _ _ _ _ _ q => ih q) hw
def w_X12_fits (a1 : Int64) (a3 : Int32) (a4 : Int32) (a5 : Int32) (I : sI) (J : sJ) (post : Int64 → sI → sJ → Prop) : Prop :=
  w_X12_fits_6 post a3 a4 a5 a1 0 I J
set_option maxHeartbeats 4000000 in
set_option maxRecDepth 100000 in
theorem t_X12_fits {X : sX} {a1 : Int64} {a3 : Int32} {a4 : Int32} {a5 : Int32} {I : sI} {J : sJ} {post : Int64 → sI → sJ → Prop} (h : sOK X cX12_fits RX12 14 1 23) (hr : sRt X (some .long) (sPl post)) (hw : w_X12_fits a1 a3 a4 a5 I J post) : sG X 14 0 [(0, .ref 248), (1, .long a1), (3, .int a3), (4, .int a4), (5, .int a5)] [] I J := by
  unfold w_X12_fits at hw
  refine g_lload_n h rfl 1 rfl dX12_fits_0 ?_
  refine g_lstore (lo2 := [(6, .long a1), (0, .ref 248), (1, .long a1), (3, .int a3), (4, .int a4), (5, .int a5)]) h (by decide) rfl dX12_fits_1 ?_
  refine g_iconst (v := 0) h (by decide) dX12_fits_3 ?_
  refine g_istore (lo2 := [(8, .int 0), (6, .long a1), (0, .ref 248), (1, .long a1), (3, .int a3), (4, .int a4), (5, .int a5)]) h (by decide) rfl dX12_fits_4 ?_
  exact g_sub [2, 4, 5, 6, 1, 0] rfl (t_X12_fits_6 h hr hw)
theorem c_X12_fits (X : sX) {a1 : Int64} {a3 : Int32} {a4 : Int32} {a5 : Int32} {I : sI} {J : sJ} {post : Int64 → sI → sJ → Prop} (hw : w_X12_fits a1 a3 a4 a5 I J post) : sCall X yX12_fits cX12_fits 14 (some .long) 1 23 [.ref 248, .long a1, .int a3, .int a4, .int a5] I J (sPl post) := sCall_of (by decide +kernel) (Nat.le_of_ble_eq_true rfl) (fun X h hr => t_X12_fits h hr hw)
theorem dX12_mayBe_0 : decode cX12_mayBe 0 = .ok (.aload_n 0, 1) := by decide +kernel
theorem dX12_mayBe_1 : decode cX12_mayBe 1 = .ok (.getfield 110, 3) := by decide +kernel
theorem dX12_mayBe_4 : decode cX12_mayBe 4 = .ok (.iload_n 1, 1) := by decide +kernel
theorem dX12_mayBe_5 : decode cX12_mayBe 5 = .ok (.iaload, 1) := by decide +kernel
theorem dX12_mayBe_6 : decode cX12_mayBe 6 = .ok (.iload_n 2, 1) := by decide +kernel
theorem dX12_mayBe_7 : decode cX12_mayBe 7 = .ok (.isub, 1) := by decide +kernel
theorem dX12_mayBe_8 : decode cX12_mayBe 8 = .ok (.istore_n 3, 1) := by decide +kernel
theorem dX12_mayBe_9 : decode cX12_mayBe 9 = .ok (.iload_n 3, 1) := by decide +kernel
theorem dX12_mayBe_10 : decode cX12_mayBe 10 = .ok (.i2l, 1) := by decide +kernel
theorem dX12_mayBe_11 : decode cX12_mayBe 11 = .ok (.lconst 0, 1) := by decide +kernel
theorem dX12_mayBe_12 : decode cX12_mayBe 12 = .ok (.aload_n 0, 1) := by decide +kernel
theorem dX12_mayBe_13 : decode cX12_mayBe 13 = .ok (.getfield 120, 3) := by decide +kernel
theorem dX12_mayBe_16 : decode cX12_mayBe 16 = .ok (.i2l, 1) := by decide +kernel
theorem dX12_mayBe_17 : decode cX12_mayBe 17 = .ok (.invokestatic 29, 3) := by decide +kernel
theorem dX12_mayBe_20 : decode cX12_mayBe 20 = .ok (.ireturn, 1) := by decide +kernel
def w_X12_mayBe (a1 : Int32) (a2 : Int32) (I : sI) (J : sJ) (post : Int32 → sI → sJ → Prop) : Prop :=
  (vp_in a1 80 ∧ (∀ v3_8 : Int32, v3_8 = (I 258 (Int32.toNatClampNeg a1)) - a2 → w_X12_in (Int32.toInt64 v3_8) 0 (Int32.toInt64 (I 248 22)) I J (fun (r_17 : Int32) (I_17 : sI) (J_17 : sJ) => ((sZ r_17 ∧ post r_17 I_17 J_17)))))
set_option maxHeartbeats 4000000 in
set_option maxRecDepth 100000 in
theorem t_X12_mayBe {X : sX} {a1 : Int32} {a2 : Int32} {I : sI} {J : sJ} {post : Int32 → sI → sJ → Prop} (h : sOK X cX12_mayBe RX12 4 1 25) (hr : sRt X (some .boolean) (sPi post)) (hw : w_X12_mayBe a1 a2 I J post) : sG X 4 0 [(0, .ref 248), (1, .int a1), (2, .int a2)] [] I J := by
  unfold w_X12_mayBe at hw
  refine g_aload_n h rfl 0 rfl dX12_mayBe_0 ?_
  refine g_get h is_248 fl_X12_110 fr_248_19 dX12_mayBe_1 ?_
  refine g_iload_n h rfl 1 rfl dX12_mayBe_4 ?_
  obtain ⟨hi5, hw⟩ := hw
  refine g_iald h ar_258 hi5 dX12_mayBe_5 ?_
  refine g_iload_n h rfl 2 rfl dX12_mayBe_6 ?_
  refine g_isub h dX12_mayBe_7 ?_
  refine g_ni (fun v3_8 ev3_8 => ?_)
  replace hw := hw v3_8 ev3_8
  refine g_istore_n (lo2 := [(3, .int v3_8), (0, .ref 248), (1, .int a1), (2, .int a2)]) h rfl (by decide) rfl dX12_mayBe_8 ?_
  refine g_iload_n h rfl 0 rfl dX12_mayBe_9 ?_
  refine g_i2l h dX12_mayBe_10 ?_
  refine g_lconst (v := 0) h (by decide) dX12_mayBe_11 ?_
  refine g_aload_n h rfl 1 rfl dX12_mayBe_12 ?_
  refine g_get h is_248 fl_X12_120 rfl dX12_mayBe_13 ?_
  refine g_i2l h dX12_mayBe_16 ?_
  refine g_callS [.long (Int32.toInt64 v3_8), .long 0, .long (Int32.toInt64 (I 248 22))] h (c_X12_in X hw) sPi_v mw_X12_in lk_X12_29 rfl ⟨by decide, by decide⟩ (Nat.le_of_ble_eq_true rfl) dX12_mayBe_17 (sPi_k (fun r_17 I_17 J_17 hw => ?_))
  exact g_zret h hr hw.1 dX12_mayBe_20 hw.2
theorem c_X12_mayBe (X : sX) {a1 : Int32} {a2 : Int32} {I : sI} {J : sJ} {post : Int32 → sI → sJ → Prop} (hw : w_X12_mayBe a1 a2 I J post) : sCall X yX12_mayBe cX12_mayBe 4 (some .boolean) 1 25 [.ref 248, .int a1, .int a2] I J (sPi post) := sCall_of (by decide +kernel) (Nat.le_of_ble_eq_true rfl) (fun X h hr => t_X12_mayBe h hr hw)
