theorem dX12_claim_0 : decode cX12_claim 0 = .ok (.aload_n 0, 1) := by decide +kernel
theorem dX12_claim_1 : decode cX12_claim 1 = .ok (.iconst 0, 1) := by decide +kernel
theorem dX12_claim_2 : decode cX12_claim 2 = .ok (.putfield 1, 3) := by decide +kernel
theorem dX12_claim_5 : decode cX12_claim 5 = .ok (.aload_n 0, 1) := by decide +kernel
theorem dX12_claim_6 : decode cX12_claim 6 = .ok (.getfield 353, 3) := by decide +kernel
theorem dX12_claim_9 : decode cX12_claim 9 = .ok (.bipush 10, 2) := by decide +kernel
theorem dX12_claim_11 : decode cX12_claim 11 = .ok (.if_icmp .ne 5, 3) := by decide +kernel
theorem dX12_claim_14 : decode cX12_claim 14 = .ok (.iconst (-1), 1) := by decide +kernel
theorem dX12_claim_15 : decode cX12_claim 15 = .ok (.ireturn, 1) := by decide +kernel
theorem dX12_claim_16 : decode cX12_claim 16 = .ok (.aload_n 0, 1) := by decide +kernel
theorem dX12_claim_17 : decode cX12_claim 17 = .ok (.dup, 1) := by decide +kernel
theorem dX12_claim_18 : decode cX12_claim 18 = .ok (.getfield 353, 3) := by decide +kernel
theorem dX12_claim_21 : decode cX12_claim 21 = .ok (.iconst 1, 1) := by decide +kernel
theorem dX12_claim_22 : decode cX12_claim 22 = .ok (.iadd, 1) := by decide +kernel
theorem dX12_claim_23 : decode cX12_claim 23 = .ok (.putfield 353, 3) := by decide +kernel
theorem dX12_claim_26 : decode cX12_claim 26 = .ok (.aload_n 0, 1) := by decide +kernel
theorem dX12_claim_27 : decode cX12_claim 27 = .ok (.getfield 353, 3) := by decide +kernel
theorem dX12_claim_30 : decode cX12_claim 30 = .ok (.iconst 1, 1) := by decide +kernel
theorem dX12_claim_31 : decode cX12_claim 31 = .ok (.isub, 1) := by decide +kernel
theorem dX12_claim_32 : decode cX12_claim 32 = .ok (.ireturn, 1) := by decide +kernel
def w_X12_claim (I : sI) (J : sJ) (post : Int32 → sI → sJ → Prop) : Prop :=
  (∀ I_2 : sI, I_2 = sUI I 248 0 0 → ((¬ (I_2 248 46) = 10 → (∀ I_23 : sI, I_23 = sUI I_2 248 46 ((I_2 248 46) + 1) → post ((I_23 248 46) - 1) I_23 J)) ∧ ((I_2 248 46) = 10 → post (-1) I_2 J)))
set_option maxHeartbeats 4000000 in
set_option maxRecDepth 100000 in
theorem t_X12_claim {X : sX} {I : sI} {J : sJ} {post : Int32 → sI → sJ → Prop} (h : sOK X cX12_claim RX12 1 0 0) (hr : sRt X (some .int) (sPi post)) (hw : w_X12_claim I J post) : sG X 1 0 [(0, .ref 248)] [] I J := by
  unfold w_X12_claim at hw
  refine g_aload_n h rfl 0 rfl dX12_claim_0 ?_
  refine g_iconst (v := 0) h (by decide) dX12_claim_1 ?_
  refine g_putI h is_248 fl_X12_1 rfl rfl dX12_claim_2 ?_
  refine g_nI (fun I_2 eI_2 => ?_)
  replace hw := hw I_2 eI_2
  refine g_aload_n h rfl 0 rfl dX12_claim_5 ?_
  refine g_get h is_248 fl_X12_353 rfl dX12_claim_6 ?_
  refine g_bipush (v := 10) h (by decide) dX12_claim_9 ?_
  refine g_icmp_ne (tgt := 16) h (by decide) dX12_claim_11 (fun q11 => ?_) (fun q11 => ?_)
  · replace hw := hw.1 q11
    refine g_aload_n h rfl 0 rfl dX12_claim_16 ?_
    refine g_dup h rfl dX12_claim_17 ?_
    refine g_get h is_248 fl_X12_353 rfl dX12_claim_18 ?_
    refine g_iconst (v := 1) h (by decide) dX12_claim_21 ?_
    refine g_iadd h dX12_claim_22 ?_
    refine g_putI h is_248 fl_X12_353 rfl rfl dX12_claim_23 ?_
    refine g_nI (fun I_23 eI_23 => ?_)
    replace hw := hw I_23 eI_23
    refine g_aload_n h rfl 0 rfl dX12_claim_26 ?_
    refine g_get h is_248 fl_X12_353 rfl dX12_claim_27 ?_
    refine g_iconst (v := 1) h (by decide) dX12_claim_30 ?_
    refine g_isub h dX12_claim_31 ?_
    exact g_iret h hr dX12_claim_32 hw
  · replace hw := hw.2 q11
    refine g_iconst (v := (-1)) h (by decide) dX12_claim_14 ?_
    exact g_iret h hr dX12_claim_15 hw
theorem c_X12_claim (X : sX) {I : sI} {J : sJ} {post : Int32 → sI → sJ → Prop} (hw : w_X12_claim I J post) : sCall X yX12_claim cX12_claim 1 (some .int) 0 0 [.ref 248] I J (sPi post) := sCall_of (by decide +kernel) (Nat.le_of_ble_eq_true rfl) (fun X h hr => t_X12_claim h hr hw)
theorem dX12_isClaim_0 : decode cX12_isClaim 0 = .ok (.iload_n 1, 1) := by decide +kernel
theorem dX12_isClaim_1 : decode cX12_isClaim 1 = .ok (.i2l, 1) := by decide +kernel
theorem dX12_isClaim_2 : decode cX12_isClaim 2 = .ok (.lconst 0, 1) := by decide +kernel
theorem dX12_isClaim_3 : decode cX12_isClaim 3 = .ok (.aload_n 0, 1) := by decide +kernel
theorem dX12_isClaim_4 : decode cX12_isClaim 4 = .ok (.getfield 353, 3) := by decide +kernel
theorem dX12_isClaim_7 : decode cX12_isClaim 7 = .ok (.iconst 1, 1) := by decide +kernel
theorem dX12_isClaim_8 : decode cX12_isClaim 8 = .ok (.isub, 1) := by decide +kernel
theorem dX12_isClaim_9 : decode cX12_isClaim 9 = .ok (.i2l, 1) := by decide +kernel
theorem dX12_isClaim_10 : decode cX12_isClaim 10 = .ok (.invokestatic 29, 3) := by decide +kernel
theorem dX12_isClaim_13 : decode cX12_isClaim 13 = .ok (.ireturn, 1) := by decide +kernel
def w_X12_isClaim (a1 : Int32) (I : sI) (J : sJ) (post : Int32 → sI → sJ → Prop) : Prop :=
  w_X12_in (Int32.toInt64 a1) 0 (Int32.toInt64 ((I 248 46) - 1)) I J (fun (r_10 : Int32) (I_10 : sI) (J_10 : sJ) => ((sZ r_10 ∧ post r_10 I_10 J_10)))
set_option maxHeartbeats 4000000 in
set_option maxRecDepth 100000 in
theorem t_X12_isClaim {X : sX} {a1 : Int32} {I : sI} {J : sJ} {post : Int32 → sI → sJ → Prop} (h : sOK X cX12_isClaim RX12 2 1 25) (hr : sRt X (some .boolean) (sPi post)) (hw : w_X12_isClaim a1 I J post) : sG X 2 0 [(0, .ref 248), (1, .int a1)] [] I J := by
  unfold w_X12_isClaim at hw
  refine g_iload_n h rfl 1 rfl dX12_isClaim_0 ?_
  refine g_i2l h dX12_isClaim_1 ?_
  refine g_lconst (v := 0) h (by decide) dX12_isClaim_2 ?_
  refine g_aload_n h rfl 0 rfl dX12_isClaim_3 ?_
  refine g_get h is_248 fl_X12_353 rfl dX12_isClaim_4 ?_
  refine g_iconst (v := 1) h (by decide) dX12_isClaim_7 ?_
  refine g_isub h dX12_isClaim_8 ?_
  refine g_i2l h dX12_isClaim_9 ?_
  refine g_callS [.long (Int32.toInt64 a1), .long 0, .long (Int32.toInt64 ((I 248 46) - 1))] h (c_X12_in X hw) sPi_v mw_X12_in lk_X12_29 rfl ⟨by decide, by decide⟩ (Nat.le_of_ble_eq_true rfl) dX12_isClaim_10 (sPi_k (fun r_10 I_10 J_10 hw => ?_))
  exact g_zret h hr hw.1 dX12_isClaim_13 hw.2
theorem c_X12_isClaim (X : sX) {a1 : Int32} {I : sI} {J : sJ} {post : Int32 → sI → sJ → Prop} (hw : w_X12_isClaim a1 I J post) : sCall X yX12_isClaim cX12_isClaim 2 (some .boolean) 1 25 [.ref 248, .int a1] I J (sPi post) := sCall_of (by decide +kernel) (Nat.le_of_ble_eq_true rfl) (fun X h hr => t_X12_isClaim h hr hw)
theorem dX12_says_0 : decode cX12_says 0 = .ok (.aload_n 0, 1) := by decide +kernel
theorem dX12_says_1 : decode cX12_says 1 = .ok (.iconst 0, 1) := by decide +kernel
theorem dX12_says_2 : decode cX12_says 2 = .ok (.putfield 1, 3) := by decide +kernel
theorem dX12_says_5 : decode cX12_says 5 = .ok (.aload_n 0, 1) := by decide +kernel
theorem dX12_says_6 : decode cX12_says 6 = .ok (.iload_n 1, 1) := by decide +kernel
theorem dX12_says_7 : decode cX12_says 7 = .ok (.invokevirtual 356, 3) := by decide +kernel
theorem dX12_says_10 : decode cX12_says 10 = .ok (.ifCond .eq 27, 3) := by decide +kernel
theorem dX12_says_13 : decode cX12_says 13 = .ok (.iload_n 2, 1) := by decide +kernel
theorem dX12_says_14 : decode cX12_says 14 = .ok (.i2l, 1) := by decide +kernel
theorem dX12_says_15 : decode cX12_says 15 = .ok (.lconst 0, 1) := by decide +kernel
theorem dX12_says_16 : decode cX12_says 16 = .ok (.ldc2_w 210, 3) := by decide +kernel
theorem dX12_says_19 : decode cX12_says 19 = .ok (.invokestatic 29, 3) := by decide +kernel
theorem dX12_says_22 : decode cX12_says 22 = .ok (.ifCond .eq 15, 3) := by decide +kernel
theorem dX12_says_25 : decode cX12_says 25 = .ok (.iload_n 3, 1) := by decide +kernel
theorem dX12_says_26 : decode cX12_says 26 = .ok (.i2l, 1) := by decide +kernel
theorem dX12_says_27 : decode cX12_says 27 = .ok (.lconst 0, 1) := by decide +kernel
theorem dX12_says_28 : decode cX12_says 28 = .ok (.ldc2_w 330, 3) := by decide +kernel
theorem dX12_says_31 : decode cX12_says 31 = .ok (.invokestatic 29, 3) := by decide +kernel
theorem dX12_says_34 : decode cX12_says 34 = .ok (.ifCond .ne 5, 3) := by decide +kernel
theorem dX12_says_37 : decode cX12_says 37 = .ok (.iconst (-1), 1) := by decide +kernel
theorem dX12_says_38 : decode cX12_says 38 = .ok (.ireturn, 1) := by decide +kernel
theorem dX12_says_39 : decode cX12_says 39 = .ok (.aload_n 0, 1) := by decide +kernel
theorem dX12_says_40 : decode cX12_says 40 = .ok (.getfield 359, 3) := by decide +kernel
theorem dX12_says_43 : decode cX12_says 43 = .ok (.bipush 12, 2) := by decide +kernel
theorem dX12_says_45 : decode cX12_says 45 = .ok (.iload_n 1, 1) := by decide +kernel
theorem dX12_says_46 : decode cX12_says 46 = .ok (.imul, 1) := by decide +kernel
theorem dX12_says_47 : decode cX12_says 47 = .ok (.iload_n 2, 1) := by decide +kernel
theorem dX12_says_48 : decode cX12_says 48 = .ok (.iadd, 1) := by decide +kernel
theorem dX12_says_49 : decode cX12_says 49 = .ok (.iaload, 1) := by decide +kernel
theorem dX12_says_50 : decode cX12_says 50 = .ok (.istore 4, 2) := by decide +kernel
theorem dX12_says_52 : decode cX12_says 52 = .ok (.aload_n 0, 1) := by decide +kernel
theorem dX12_says_53 : decode cX12_says 53 = .ok (.getfield 359, 3) := by decide +kernel
theorem dX12_says_56 : decode cX12_says 56 = .ok (.bipush 12, 2) := by decide +kernel
theorem dX12_says_58 : decode cX12_says 58 = .ok (.iload_n 1, 1) := by decide +kernel
theorem dX12_says_59 : decode cX12_says 59 = .ok (.imul, 1) := by decide +kernel
theorem dX12_says_60 : decode cX12_says 60 = .ok (.iload_n 2, 1) := by decide +kernel
theorem dX12_says_61 : decode cX12_says 61 = .ok (.iadd, 1) := by decide +kernel
theorem dX12_says_62 : decode cX12_says 62 = .ok (.iload_n 3, 1) := by decide +kernel
theorem dX12_says_63 : decode cX12_says 63 = .ok (.iastore, 1) := by decide +kernel
theorem dX12_says_64 : decode cX12_says 64 = .ok (.iload 4, 2) := by decide +kernel
theorem dX12_says_66 : decode cX12_says 66 = .ok (.ireturn, 1) := by decide +kernel
def w_X12_says (a1 : Int32) (a2 : Int32) (a3 : Int32) (I : sI) (J : sJ) (post : Int32 → sI → sJ → Prop) : Prop :=
  (∀ I_2 : sI, I_2 = sUI I 248 0 0 → w_X12_isClaim a1 I_2 J (fun (r_7 : Int32) (I_7 : sI) (J_7 : sJ) => (((r_7 = 0 → post (-1) I_7 J_7) ∧ (¬ r_7 = 0 → w_X12_in (Int32.toInt64 a2) 0 11 I_7 J_7 (fun (r_19 : Int32) (I_19 : sI) (J_19 : sJ) => (((r_19 = 0 → post (-1) I_19 J_19) ∧ (¬ r_19 = 0 → w_X12_in (Int32.toInt64 a3) 0 2 I_19 J_19 (fun (r_31 : Int32) (I_31 : sI) (J_31 : sJ) => (((¬ r_31 = 0 → (vp_in ((12 * a1) + a2) 120 ∧ (∀ v4_50 : Int32, v4_50 = I_31 275 (Int32.toNatClampNeg ((12 * a1) + a2)) → (vp_in ((12 * a1) + a2) 120 ∧ (∀ I_63 : sI, I_63 = sUI I_31 275 (Int32.toNatClampNeg ((12 * a1) + a2)) a3 → post v4_50 I_63 J_31))))) ∧ (r_31 = 0 → post (-1) I_31 J_31)))))))))))))
set_option maxHeartbeats 4000000 in
set_option maxRecDepth 100000 in
theorem t_X12_says {X : sX} {a1 : Int32} {a2 : Int32} {a3 : Int32} {I : sI} {J : sJ} {post : Int32 → sI → sJ → Prop} (h : sOK X cX12_says RX12 5 2 46) (hr : sRt X (some .int) (sPi post)) (hw : w_X12_says a1 a2 a3 I J post) : sG X 5 0 [(0, .ref 248), (1, .int a1), (2, .int a2), (3, .int a3)] [] I J := by
  unfold w_X12_says at hw
  refine g_aload_n h rfl 0 rfl dX12_says_0 ?_
  refine g_iconst (v := 0) h (by decide) dX12_says_1 ?_
  refine g_putI h is_248 fl_X12_1 rfl rfl dX12_says_2 ?_
  refine g_nI (fun I_2 eI_2 => ?_)
  replace hw := hw I_2 eI_2
  refine g_aload_n h rfl 0 rfl dX12_says_5 ?_
  refine g_iload_n h rfl 1 rfl dX12_says_6 ?_
  refine g_callV [.int a1] h (c_X12_isClaim X hw) sPi_v mw_X12_isClaim lk_X12_356 is_248 rfl rfl ⟨by decide, by decide⟩ (Nat.le_of_ble_eq_true rfl) dX12_says_7 (sPi_k (fun r_7 I_7 J_7 hw => ?_))
  refine g_if_eq (tgt := 37) h (by decide) dX12_says_10 (fun q10 => ?_) (fun q10 => ?_)
  · replace hw := hw.1 q10
    refine g_iconst (v := (-1)) h (by decide) dX12_says_37 ?_
    exact g_iret h hr dX12_says_38 hw
  · replace hw := hw.2 q10
    refine g_iload_n h rfl 2 rfl dX12_says_13 ?_
    refine g_i2l h dX12_says_14 ?_
    refine g_lconst (v := 0) h (by decide) dX12_says_15 ?_
    refine g_ldc2 h lc_X12_210 dX12_says_16 ?_
    refine g_callS [.long (Int32.toInt64 a2), .long 0, .long 11] h (c_X12_in X hw) sPi_v mw_X12_in lk_X12_29 rfl ⟨by decide, by decide⟩ (Nat.le_of_ble_eq_true rfl) dX12_says_19 (sPi_k (fun r_19 I_19 J_19 hw => ?_))
    refine g_if_eq (tgt := 37) h (by decide) dX12_says_22 (fun q22 => ?_) (fun q22 => ?_)
    · replace hw := hw.1 q22
      refine g_iconst (v := (-1)) h (by decide) dX12_says_37 ?_
      exact g_iret h hr dX12_says_38 hw
    · replace hw := hw.2 q22
      refine g_iload_n h rfl 3 rfl dX12_says_25 ?_
      refine g_i2l h dX12_says_26 ?_
      refine g_lconst (v := 0) h (by decide) dX12_says_27 ?_
      refine g_ldc2 h lc_X12_330 dX12_says_28 ?_
      refine g_callS [.long (Int32.toInt64 a3), .long 0, .long 2] h (c_X12_in X hw) sPi_v mw_X12_in lk_X12_29 rfl ⟨by decide, by decide⟩ (Nat.le_of_ble_eq_true rfl) dX12_says_31 (sPi_k (fun r_31 I_31 J_31 hw => ?_))
      refine g_if_ne (tgt := 39) h (by decide) dX12_says_34 (fun q34 => ?_) (fun q34 => ?_)
      · replace hw := hw.1 q34
        refine g_aload_n h rfl 0 rfl dX12_says_39 ?_
        refine g_get h is_248 fl_X12_359 fr_248_47 dX12_says_40 ?_
        refine g_bipush (v := 12) h (by decide) dX12_says_43 ?_
        refine g_iload_n h rfl 1 rfl dX12_says_45 ?_
        refine g_imul h dX12_says_46 ?_
        refine g_iload_n h rfl 2 rfl dX12_says_47 ?_
        refine g_iadd h dX12_says_48 ?_
        obtain ⟨hi49, hw⟩ := hw
        refine g_iald h ar_275 hi49 dX12_says_49 ?_
        refine g_ni (fun v4_50 ev4_50 => ?_)
        replace hw := hw v4_50 ev4_50
        refine g_istore (lo2 := [(4, .int v4_50), (0, .ref 248), (1, .int a1), (2, .int a2), (3, .int a3)]) h (by decide) rfl dX12_says_50 ?_
        refine g_aload_n h rfl 1 rfl dX12_says_52 ?_
        refine g_get h is_248 fl_X12_359 fr_248_47 dX12_says_53 ?_
        refine g_bipush (v := 12) h (by decide) dX12_says_56 ?_
        refine g_iload_n h rfl 2 rfl dX12_says_58 ?_
        refine g_imul h dX12_says_59 ?_
        refine g_iload_n h rfl 3 rfl dX12_says_60 ?_
        refine g_iadd h dX12_says_61 ?_
        refine g_iload_n h rfl 4 rfl dX12_says_62 ?_
        obtain ⟨hi63, hw⟩ := hw
        refine g_iast h ar_275 hi63 dX12_says_63 ?_
        refine g_nI (fun I_63 eI_63 => ?_)
        replace hw := hw I_63 eI_63
        refine g_iload h 0 rfl dX12_says_64 ?_
        exact g_iret h hr dX12_says_66 hw
      · replace hw := hw.2 q34
        refine g_iconst (v := (-1)) h (by decide) dX12_says_37 ?_
        exact g_iret h hr dX12_says_38 hw
theorem c_X12_says (X : sX) {a1 : Int32} {a2 : Int32} {a3 : Int32} {I : sI} {J : sJ} {post : Int32 → sI → sJ → Prop} (hw : w_X12_says a1 a2 a3 I J post) : sCall X yX12_says cX12_says 5 (some .int) 2 46 [.ref 248, .int a1, .int a2, .int a3] I J (sPi post) := sCall_of (by decide +kernel) (Nat.le_of_ble_eq_true rfl) (fun X h hr => t_X12_says h hr hw)
theorem dX12_sheet_0 : decode cX12_sheet 0 = .ok (.aload_n 0, 1) := by decide +kernel
theorem dX12_sheet_1 : decode cX12_sheet 1 = .ok (.iconst 0, 1) := by decide +kernel
theorem dX12_sheet_2 : decode cX12_sheet 2 = .ok (.putfield 1, 3) := by decide +kernel
theorem dX12_sheet_5 : decode cX12_sheet 5 = .ok (.aload_n 0, 1) := by decide +kernel
theorem dX12_sheet_6 : decode cX12_sheet 6 = .ok (.iload_n 1, 1) := by decide +kernel
theorem dX12_sheet_7 : decode cX12_sheet 7 = .ok (.invokevirtual 356, 3) := by decide +kernel
theorem dX12_sheet_10 : decode cX12_sheet 10 = .ok (.ifCond .eq 21, 3) := by decide +kernel
theorem dX12_sheet_13 : decode cX12_sheet 13 = .ok (.iload_n 2, 1) := by decide +kernel
theorem dX12_sheet_14 : decode cX12_sheet 14 = .ok (.i2l, 1) := by decide +kernel
theorem dX12_sheet_15 : decode cX12_sheet 15 = .ok (.lconst 0, 1) := by decide +kernel
theorem dX12_sheet_16 : decode cX12_sheet 16 = .ok (.ldc2_w 94, 3) := by decide +kernel
theorem dX12_sheet_19 : decode cX12_sheet 19 = .ok (.invokestatic 29, 3) := by decide +kernel
theorem dX12_sheet_22 : decode cX12_sheet 22 = .ok (.ifCond .eq 9, 3) := by decide +kernel
theorem dX12_sheet_25 : decode cX12_sheet 25 = .ok (.iload_n 3, 1) := by decide +kernel
theorem dX12_sheet_26 : decode cX12_sheet 26 = .ok (.bipush 12, 2) := by decide +kernel
theorem dX12_sheet_28 : decode cX12_sheet 28 = .ok (.if_icmp .le 5, 3) := by decide +kernel
theorem dX12_sheet_31 : decode cX12_sheet 31 = .ok (.iconst (-1), 1) := by decide +kernel
theorem dX12_sheet_32 : decode cX12_sheet 32 = .ok (.ireturn, 1) := by decide +kernel
theorem dX12_sheet_33 : decode cX12_sheet 33 = .ok (.iload_n 2, 1) := by decide +kernel
theorem dX12_sheet_34 : decode cX12_sheet 34 = .ok (.iconst 3, 1) := by decide +kernel
theorem dX12_sheet_35 : decode cX12_sheet 35 = .ok (.if_icmp .eq 10, 3) := by decide +kernel
theorem dX12_sheet_38 : decode cX12_sheet 38 = .ok (.iload_n 3, 1) := by decide +kernel
theorem dX12_sheet_39 : decode cX12_sheet 39 = .ok (.ifCond .ge 6, 3) := by decide +kernel
theorem dX12_sheet_42 : decode cX12_sheet 42 = .ok (.bipush (-2), 2) := by decide +kernel
theorem dX12_sheet_44 : decode cX12_sheet 44 = .ok (.ireturn, 1) := by decide +kernel
theorem dX12_sheet_45 : decode cX12_sheet 45 = .ok (.iload 4, 2) := by decide +kernel
theorem dX12_sheet_47 : decode cX12_sheet 47 = .ok (.istore 6, 2) := by decide +kernel
theorem dX12_sheet_49 : decode cX12_sheet 49 = .ok (.iconst 0, 1) := by decide +kernel
theorem dX12_sheet_50 : decode cX12_sheet 50 = .ok (.istore 7, 2) := by decide +kernel
theorem dX12_sheet_52 : decode cX12_sheet 52 = .ok (.iconst 0, 1) := by decide +kernel
theorem dX12_sheet_53 : decode cX12_sheet 53 = .ok (.istore 8, 2) := by decide +kernel
theorem dX12_sheet_55 : decode cX12_sheet 55 = .ok (.iload 8, 2) := by decide +kernel
theorem dX12_sheet_57 : decode cX12_sheet 57 = .ok (.bipush 12, 2) := by decide +kernel
theorem dX12_sheet_59 : decode cX12_sheet 59 = .ok (.if_icmp .ge 102, 3) := by decide +kernel
theorem dX12_sheet_62 : decode cX12_sheet 62 = .ok (.iload_n 2, 1) := by decide +kernel
theorem dX12_sheet_63 : decode cX12_sheet 63 = .ok (.ifCond .ne 9, 3) := by decide +kernel
theorem dX12_sheet_66 : decode cX12_sheet 66 = .ok (.iload 6, 2) := by decide +kernel
theorem dX12_sheet_68 : decode cX12_sheet 68 = .ok (.i2b, 1) := by decide +kernel
theorem dX12_sheet_69 : decode cX12_sheet 69 = .ok (.goto 16, 3) := by decide +kernel
theorem dX12_sheet_72 : decode cX12_sheet 72 = .ok (.iload_n 2, 1) := by decide +kernel
theorem dX12_sheet_73 : decode cX12_sheet 73 = .ok (.iconst 1, 1) := by decide +kernel
theorem dX12_sheet_74 : decode cX12_sheet 74 = .ok (.if_icmp .ne 9, 3) := by decide +kernel
theorem dX12_sheet_77 : decode cX12_sheet 77 = .ok (.iload 6, 2) := by decide +kernel
theorem dX12_sheet_79 : decode cX12_sheet 79 = .ok (.i2s, 1) := by decide +kernel
theorem dX12_sheet_80 : decode cX12_sheet 80 = .ok (.goto 5, 3) := by decide +kernel
theorem dX12_sheet_83 : decode cX12_sheet 83 = .ok (.iload 6, 2) := by decide +kernel
theorem dX12_sheet_85 : decode cX12_sheet 85 = .ok (.istore 9, 2) := by decide +kernel
theorem dX12_sheet_87 : decode cX12_sheet 87 = .ok (.aload_n 0, 1) := by decide +kernel
theorem dX12_sheet_88 : decode cX12_sheet 88 = .ok (.getfield 359, 3) := by decide +kernel
theorem dX12_sheet_91 : decode cX12_sheet 91 = .ok (.bipush 12, 2) := by decide +kernel
theorem dX12_sheet_93 : decode cX12_sheet 93 = .ok (.iload_n 1, 1) := by decide +kernel
theorem dX12_sheet_94 : decode cX12_sheet 94 = .ok (.imul, 1) := by decide +kernel
theorem dX12_sheet_95 : decode cX12_sheet 95 = .ok (.iload 8, 2) := by decide +kernel
theorem dX12_sheet_97 : decode cX12_sheet 97 = .ok (.iadd, 1) := by decide +kernel
theorem dX12_sheet_98 : decode cX12_sheet 98 = .ok (.iload_n 2, 1) := by decide +kernel
theorem dX12_sheet_99 : decode cX12_sheet 99 = .ok (.iconst 3, 1) := by decide +kernel
theorem dX12_sheet_100 : decode cX12_sheet 100 = .ok (.if_icmp .eq 9, 3) := by decide +kernel
theorem dX12_sheet_103 : decode cX12_sheet 103 = .ok (.iload 8, 2) := by decide +kernel
theorem dX12_sheet_105 : decode cX12_sheet 105 = .ok (.iload_n 3, 1) := by decide +kernel
theorem dX12_sheet_106 : decode cX12_sheet 106 = .ok (.if_icmp .lt 7, 3) := by decide +kernel
theorem dX12_sheet_109 : decode cX12_sheet 109 = .ok (.iconst 0, 1) := by decide +kernel
theorem dX12_sheet_110 : decode cX12_sheet 110 = .ok (.goto 9, 3) := by decide +kernel
theorem dX12_sheet_113 : decode cX12_sheet 113 = .ok (.iload 9, 2) := by decide +kernel
theorem dX12_sheet_115 : decode cX12_sheet 115 = .ok (.iconst 3, 1) := by decide +kernel
theorem dX12_sheet_116 : decode cX12_sheet 116 = .ok (.invokestatic 362, 3) := by decide +kernel
theorem dX12_sheet_119 : decode cX12_sheet 119 = .ok (.iastore, 1) := by decide +kernel
theorem dX12_sheet_120 : decode cX12_sheet 120 = .ok (.iload 7, 2) := by decide +kernel
theorem dX12_sheet_122 : decode cX12_sheet 122 = .ok (.aload_n 0, 1) := by decide +kernel
theorem dX12_sheet_123 : decode cX12_sheet 123 = .ok (.getfield 359, 3) := by decide +kernel
theorem dX12_sheet_126 : decode cX12_sheet 126 = .ok (.bipush 12, 2) := by decide +kernel
theorem dX12_sheet_128 : decode cX12_sheet 128 = .ok (.iload_n 1, 1) := by decide +kernel
theorem dX12_sheet_129 : decode cX12_sheet 129 = .ok (.imul, 1) := by decide +kernel
theorem dX12_sheet_130 : decode cX12_sheet 130 = .ok (.iload 8, 2) := by decide +kernel
theorem dX12_sheet_132 : decode cX12_sheet 132 = .ok (.iadd, 1) := by decide +kernel
theorem dX12_sheet_133 : decode cX12_sheet 133 = .ok (.iaload, 1) := by decide +kernel
theorem dX12_sheet_134 : decode cX12_sheet 134 = .ok (.ifCond .le 7, 3) := by decide +kernel
theorem dX12_sheet_137 : decode cX12_sheet 137 = .ok (.iconst 1, 1) := by decide +kernel
theorem dX12_sheet_138 : decode cX12_sheet 138 = .ok (.goto 4, 3) := by decide +kernel
theorem dX12_sheet_141 : decode cX12_sheet 141 = .ok (.iconst 0, 1) := by decide +kernel
theorem dX12_sheet_142 : decode cX12_sheet 142 = .ok (.invokestatic 65, 3) := by decide +kernel
theorem dX12_sheet_145 : decode cX12_sheet 145 = .ok (.iadd, 1) := by decide +kernel
theorem dX12_sheet_146 : decode cX12_sheet 146 = .ok (.istore 7, 2) := by decide +kernel
theorem dX12_sheet_148 : decode cX12_sheet 148 = .ok (.iload 6, 2) := by decide +kernel
theorem dX12_sheet_150 : decode cX12_sheet 150 = .ok (.iload 5, 2) := by decide +kernel
theorem dX12_sheet_152 : decode cX12_sheet 152 = .ok (.iadd, 1) := by decide +kernel
theorem dX12_sheet_153 : decode cX12_sheet 153 = .ok (.istore 6, 2) := by decide +kernel
theorem dX12_sheet_155 : decode cX12_sheet 155 = .ok (.iinc 8 1, 3) := by decide +kernel
theorem dX12_sheet_158 : decode cX12_sheet 158 = .ok (.goto (-103), 3) := by decide +kernel
theorem dX12_sheet_161 : decode cX12_sheet 161 = .ok (.iload_n 2, 1) := by decide +kernel
theorem dX12_sheet_162 : decode cX12_sheet 162 = .ok (.iconst 3, 1) := by decide +kernel
theorem dX12_sheet_163 : decode cX12_sheet 163 = .ok (.if_icmp .ne 8, 3) := by decide +kernel
theorem dX12_sheet_166 : decode cX12_sheet 166 = .ok (.bipush (-3), 2) := by decide +kernel
theorem dX12_sheet_168 : decode cX12_sheet 168 = .ok (.goto 5, 3) := by decide +kernel
theorem dX12_sheet_171 : decode cX12_sheet 171 = .ok (.iload 7, 2) := by decide +kernel
theorem dX12_sheet_173 : decode cX12_sheet 173 = .ok (.ireturn, 1) := by decide +kernel
def w_X12_sheet_142 (post : Int32 → sI → sJ → Prop) (k55 : Int32 → Int32 → Int32 → Int32 → Int32 → Int32 → Int32 → sI → sJ → Prop) (x1 : Int32) (x2 : Int32) (x3 : Int32) (x5 : Int32) (x6 : Int32) (x8 : Int32) (s0 : Int32) (s1 : Int32) (I : sI) (J : sJ) : Prop :=
  w_X12_flag s0 I J (fun (r_142 : Int32) (I_142 : sI) (J_142 : sJ) => ((∀ v7_146 : Int32, v7_146 = s1 + r_142 → (∀ v6_153 : Int32, v6_153 = x6 + x5 → (∀ v8_155 : Int32, v8_155 = x8 + 1 → k55 x1 x2 x3 x5 v6_153 v7_146 v8_155 I_142 J_142)))))
set_option maxHeartbeats 4000000 in
set_option maxRecDepth 100000 in
theorem t_X12_sheet_142 {X : sX} {post : Int32 → sI → sJ → Prop} (h : sOK X cX12_sheet RX12 10 2 46) (hr : sRt X (some .int) (sPi post)) {k55 : Int32 → Int32 → Int32 → Int32 → Int32 → Int32 → Int32 → sI → sJ → Prop} (hk55 : ∀ (x1 : Int32) (x2 : Int32) (x3 : Int32) (x5 : Int32) (x6 : Int32) (x7 : Int32) (x8 : Int32) (I : sI) (J : sJ), k55 x1 x2 x3 x5 x6 x7 x8 I J → sG X 10 55 [(0, .ref 248), (1, .int x1), (2, .int x2), (3, .int x3), (5, .int x5), (6, .int x6), (7, .int x7), (8, .int x8)] [] I J) {x1 : Int32} {x2 : Int32} {x3 : Int32} {x5 : Int32} {x6 : Int32} {x8 : Int32} {s0 : Int32} {s1 : Int32} {I : sI} {J : sJ} (hw : w_X12_sheet_142 post k55 x1 x2 x3 x5 x6 x8 s0 s1 I J) : sG X 10 142 [(0, .ref 248), (1, .int x1), (2, .int x2), (3, .int x3), (5, .int x5), (6, .int x6), (8, .int x8)] [.int s0, .int s1] I J := by
  unfold w_X12_sheet_142 at hw
  refine g_callS [.int s0] h (c_X12_flag X hw) sPi_v mw_X12_flag lk_X12_65 rfl ⟨by decide, by decide⟩ (Nat.le_of_ble_eq_true rfl) dX12_sheet_142 (sPi_k (fun r_142 I_142 J_142 hw => ?_))
  refine g_iadd h dX12_sheet_145 ?_
  refine g_ni (fun v7_146 ev7_146 => ?_)
  replace hw := hw v7_146 ev7_146
  refine g_istore (lo2 := [(7, .int v7_146), (0, .ref 248), (1, .int x1), (2, .int x2), (3, .int x3), (5, .int x5), (6, .int x6), (8, .int x8)]) h (by decide) rfl dX12_sheet_146 ?_
  refine g_iload h 6 rfl dX12_sheet_148 ?_
  refine g_iload h 5 rfl dX12_sheet_150 ?_
  refine g_iadd h dX12_sheet_152 ?_
  refine g_ni (fun v6_153 ev6_153 => ?_)
  replace hw := hw v6_153 ev6_153
  refine g_istore (lo2 := [(6, .int v6_153), (7, .int v7_146), (0, .ref 248), (1, .int x1), (2, .int x2), (3, .int x3), (5, .int x5), (8, .int x8)]) h (by decide) rfl dX12_sheet_153 ?_
  obtain ⟨v8_155, ev8_155⟩ : ∃ z : Int32, z = x8 + 1 := ⟨_, rfl⟩
  replace hw := hw v8_155 ev8_155
  refine g_iinc (v := v8_155) (lo2 := [(8, .int v8_155), (6, .int v6_153), (7, .int v7_146), (0, .ref 248), (1, .int x1), (2, .int x2), (3, .int x3), (5, .int x5)]) h 7 rfl (by rw [ev8_155]; rfl) (by decide) rfl dX12_sheet_155 ?_
  refine g_goto (tgt := 55) h (by decide) dX12_sheet_158 ?_
  exact g_sub [3, 4, 5, 6, 7, 1, 2, 0] rfl (hk55 _ _ _ _ _ _ _ _ _ hw)
def w_X12_sheet_119 (post : Int32 → sI → sJ → Prop) (k55 : Int32 → Int32 → Int32 → Int32 → Int32 → Int32 → Int32 → sI → sJ → Prop) (x1 : Int32) (x2 : Int32) (x3 : Int32) (x5 : Int32) (x6 : Int32) (x7 : Int32) (x8 : Int32) (s0 : Int32) (s1 : Int32) (I : sI) (J : sJ) : Prop :=
  (vp_in s1 120 ∧ (∀ I_119 : sI, I_119 = sUI I 275 (Int32.toNatClampNeg s1) s0 → (vp_in ((12 * x1) + x8) 120 ∧ (((I_119 275 (Int32.toNatClampNeg ((12 * x1) + x8))) ≤ 0 → w_X12_sheet_142 post k55 x1 x2 x3 x5 x6 x8 0 x7 I_119 J) ∧ (¬ (I_119 275 (Int32.toNatClampNeg ((12 * x1) + x8))) ≤ 0 → w_X12_sheet_142 post k55 x1 x2 x3 x5 x6 x8 1 x7 I_119 J)))))
set_option maxHeartbeats 4000000 in
set_option maxRecDepth 100000 in
theorem t_X12_sheet_119 {X : sX} {post : Int32 → sI → sJ → Prop} (h : sOK X cX12_sheet RX12 10 2 46) (hr : sRt X (some .int) (sPi post)) {k55 : Int32 → Int32 → Int32 → Int32 → Int32 → Int32 → Int32 → sI → sJ → Prop} (hk55 : ∀ (x1 : Int32) (x2 : Int32) (x3 : Int32) (x5 : Int32) (x6 : Int32) (x7 : Int32) (x8 : Int32) (I : sI) (J : sJ), k55 x1 x2 x3 x5 x6 x7 x8 I J → sG X 10 55 [(0, .ref 248), (1, .int x1), (2, .int x2), (3, .int x3), (5, .int x5), (6, .int x6), (7, .int x7), (8, .int x8)] [] I J) {x1 : Int32} {x2 : Int32} {x3 : Int32} {x5 : Int32} {x6 : Int32} {x7 : Int32} {x8 : Int32} {s0 : Int32} {s1 : Int32} {I : sI} {J : sJ} (hw : w_X12_sheet_119 post k55 x1 x2 x3 x5 x6 x7 x8 s0 s1 I J) : sG X 10 119 [(0, .ref 248), (1, .int x1), (2, .int x2), (3, .int x3), (5, .int x5), (6, .int x6), (7, .int x7), (8, .int x8)] [.int s0, .int s1, .ref 275] I J := by
  unfold w_X12_sheet_119 at hw
  obtain ⟨hi119, hw⟩ := hw
  refine g_iast h ar_275 hi119 dX12_sheet_119 ?_
  refine g_nI (fun I_119 eI_119 => ?_)
  replace hw := hw I_119 eI_119
  refine g_iload h 6 rfl dX12_sheet_120 ?_
  refine g_aload_n h rfl 0 rfl dX12_sheet_122 ?_
  refine g_get h is_248 fl_X12_359 fr_248_47 dX12_sheet_123 ?_
  refine g_bipush (v := 12) h (by decide) dX12_sheet_126 ?_
  refine g_iload_n h rfl 1 rfl dX12_sheet_128 ?_
  refine g_imul h dX12_sheet_129 ?_
  refine g_iload h 7 rfl dX12_sheet_130 ?_
  refine g_iadd h dX12_sheet_132 ?_
  obtain ⟨hi133, hw⟩ := hw
  refine g_iald h ar_275 hi133 dX12_sheet_133 ?_
  refine g_if_le (tgt := 141) h (by decide) dX12_sheet_134 (fun q134 => ?_) (fun q134 => ?_)
  · replace hw := hw.1 q134
    refine g_iconst (v := 0) h (by decide) dX12_sheet_141 ?_
    exact g_sub [0, 1, 2, 3, 4, 5, 7] rfl (t_X12_sheet_142 h hr hk55 hw)
  · replace hw := hw.2 q134
    refine g_iconst (v := 1) h (by decide) dX12_sheet_137 ?_
    refine g_goto (tgt := 142) h (by decide) dX12_sheet_138 ?_
    exact g_sub [0, 1, 2, 3, 4, 5, 7] rfl (t_X12_sheet_142 h hr hk55 hw)
def w_X12_sheet_109 (post : Int32 → sI → sJ → Prop) (k55 : Int32 → Int32 → Int32 → Int32 → Int32 → Int32 → Int32 → sI → sJ → Prop) (x1 : Int32) (x2 : Int32) (x3 : Int32) (x5 : Int32) (x6 : Int32) (x7 : Int32) (x8 : Int32) (s0 : Int32) (I : sI) (J : sJ) : Prop :=
  w_X12_sheet_119 post k55 x1 x2 x3 x5 x6 x7 x8 0 s0 I J
set_option maxHeartbeats 4000000 in
set_option maxRecDepth 100000 in
theorem t_X12_sheet_109 {X : sX} {post : Int32 → sI → sJ → Prop} (h : sOK X cX12_sheet RX12 10 2 46) (hr : sRt X (some .int) (sPi post)) {k55 : Int32 → Int32 → Int32 → Int32 → Int32 → Int32 → Int32 → sI → sJ → Prop} (hk55 : ∀ (x1 : Int32) (x2 : Int32) (x3 : Int32) (x5 : Int32) (x6 : Int32) (x7 : Int32) (x8 : Int32) (I : sI) (J : sJ), k55 x1 x2 x3 x5 x6 x7 x8 I J → sG X 10 55 [(0, .ref 248), (1, .int x1), (2, .int x2), (3, .int x3), (5, .int x5), (6, .int x6), (7, .int x7), (8, .int x8)] [] I J) {x1 : Int32} {x2 : Int32} {x3 : Int32} {x5 : Int32} {x6 : Int32} {x7 : Int32} {x8 : Int32} {s0 : Int32} {I : sI} {J : sJ} (hw : w_X12_sheet_109 post k55 x1 x2 x3 x5 x6 x7 x8 s0 I J) : sG X 10 109 [(0, .ref 248), (1, .int x1), (2, .int x2), (3, .int x3), (5, .int x5), (6, .int x6), (7, .int x7), (8, .int x8)] [.int s0, .ref 275] I J := by
  unfold w_X12_sheet_109 at hw
  refine g_iconst (v := 0) h (by decide) dX12_sheet_109 ?_
  refine g_goto (tgt := 119) h (by decide) dX12_sheet_110 ?_
  exact g_sub [0, 1, 2, 3, 4, 5, 6, 7] rfl (t_X12_sheet_119 h hr hk55 hw)
def w_X12_sheet_85 (post : Int32 → sI → sJ → Prop) (k55 : Int32 → Int32 → Int32 → Int32 → Int32 → Int32 → Int32 → sI → sJ → Prop) (x1 : Int32) (x2 : Int32) (x3 : Int32) (x5 : Int32) (x6 : Int32) (x7 : Int32) (x8 : Int32) (s0 : Int32) (I : sI) (J : sJ) : Prop :=
  ((x2 = 3 → w_X12_sheet_109 post k55 x1 x2 x3 x5 x6 x7 x8 ((12 * x1) + x8) I J) ∧ (¬ x2 = 3 → ((x8 < x3 → w_J9_floorMod_7cf53 s0 3 I J (fun (r_116 : Int32) (I_116 : sI) (J_116 : sJ) => (w_X12_sheet_119 post k55 x1 x2 x3 x5 x6 x7 x8 r_116 ((12 * x1) + x8) I_116 J_116))) ∧ (¬ x8 < x3 → w_X12_sheet_109 post k55 x1 x2 x3 x5 x6 x7 x8 ((12 * x1) + x8) I J))))
set_option maxHeartbeats 4000000 in
set_option maxRecDepth 100000 in
theorem t_X12_sheet_85 {X : sX} {post : Int32 → sI → sJ → Prop} (h : sOK X cX12_sheet RX12 10 2 46) (hr : sRt X (some .int) (sPi post)) {k55 : Int32 → Int32 → Int32 → Int32 → Int32 → Int32 → Int32 → sI → sJ → Prop} (hk55 : ∀ (x1 : Int32) (x2 : Int32) (x3 : Int32) (x5 : Int32) (x6 : Int32) (x7 : Int32) (x8 : Int32) (I : sI) (J : sJ), k55 x1 x2 x3 x5 x6 x7 x8 I J → sG X 10 55 [(0, .ref 248), (1, .int x1), (2, .int x2), (3, .int x3), (5, .int x5), (6, .int x6), (7, .int x7), (8, .int x8)] [] I J) {x1 : Int32} {x2 : Int32} {x3 : Int32} {x5 : Int32} {x6 : Int32} {x7 : Int32} {x8 : Int32} {s0 : Int32} {I : sI} {J : sJ} (hw : w_X12_sheet_85 post k55 x1 x2 x3 x5 x6 x7 x8 s0 I J) : sG X 10 85 [(0, .ref 248), (1, .int x1), (2, .int x2), (3, .int x3), (5, .int x5), (6, .int x6), (7, .int x7), (8, .int x8)] [.int s0] I J := by
  unfold w_X12_sheet_85 at hw
  refine g_istore (lo2 := [(9, .int s0), (0, .ref 248), (1, .int x1), (2, .int x2), (3, .int x3), (5, .int x5), (6, .int x6), (7, .int x7), (8, .int x8)]) h (by decide) rfl dX12_sheet_85 ?_
  refine g_aload_n h rfl 1 rfl dX12_sheet_87 ?_
  refine g_get h is_248 fl_X12_359 fr_248_47 dX12_sheet_88 ?_
  refine g_bipush (v := 12) h (by decide) dX12_sheet_91 ?_
  refine g_iload_n h rfl 2 rfl dX12_sheet_93 ?_
  refine g_imul h dX12_sheet_94 ?_
  refine g_iload h 8 rfl dX12_sheet_95 ?_
  refine g_iadd h dX12_sheet_97 ?_
  refine g_iload_n h rfl 3 rfl dX12_sheet_98 ?_
  refine g_iconst (v := 3) h (by decide) dX12_sheet_99 ?_
  refine g_icmp_eq (tgt := 109) h (by decide) dX12_sheet_100 (fun q100 => ?_) (fun q100 => ?_)
  · replace hw := hw.1 q100
    exact g_sub [1, 2, 3, 4, 5, 6, 7, 8] rfl (t_X12_sheet_109 h hr hk55 hw)
  · replace hw := hw.2 q100
    refine g_iload h 8 rfl dX12_sheet_103 ?_
    refine g_iload_n h rfl 4 rfl dX12_sheet_105 ?_
    refine g_icmp_lt (tgt := 113) h (by decide) dX12_sheet_106 (fun q106 => ?_) (fun q106 => ?_)
    · replace hw := hw.1 q106
      refine g_iload h 0 rfl dX12_sheet_113 ?_
      refine g_iconst (v := 3) h (by decide) dX12_sheet_115 ?_
      refine g_callS [.int s0, .int 3] h (c_J9_floorMod_7cf53 X hw) sPi_v mw_J9_floorMod_7cf53 lk_X12_362 rfl ⟨by decide, by decide⟩ (Nat.le_of_ble_eq_true rfl) dX12_sheet_116 (sPi_k (fun r_116 I_116 J_116 hw => ?_))
      exact g_sub [1, 2, 3, 4, 5, 6, 7, 8] rfl (t_X12_sheet_119 h hr hk55 hw)
    · replace hw := hw.2 q106
      exact g_sub [1, 2, 3, 4, 5, 6, 7, 8] rfl (t_X12_sheet_109 h hr hk55 hw)
def w_X12_sheet_55_s (post : Int32 → sI → sJ → Prop) (k55 : Int32 → Int32 → Int32 → Int32 → Int32 → Int32 → Int32 → sI → sJ → Prop) (x1 : Int32) (x2 : Int32) (x3 : Int32) (x5 : Int32) (x6 : Int32) (x7 : Int32) (x8 : Int32) (I : sI) (J : sJ) : Prop :=
  ((12 ≤ x8 → ((¬ x2 = 3 → post x7 I J) ∧ (x2 = 3 → post (-3) I J))) ∧ (¬ 12 ≤ x8 → ((¬ x2 = 0 → ((¬ x2 = 1 → w_X12_sheet_85 post k55 x1 x2 x3 x5 x6 x7 x8 x6 I J) ∧ (x2 = 1 → w_X12_sheet_85 post k55 x1 x2 x3 x5 x6 x7 x8 ((Int32.toInt16 x6).toInt32) I J))) ∧ (x2 = 0 → w_X12_sheet_85 post k55 x1 x2 x3 x5 x6 x7 x8 ((Int32.toInt8 x6).toInt32) I J))))
def w_X12_sheet_55_n (post : Int32 → sI → sJ → Prop) : Nat → Int32 → Int32 → Int32 → Int32 → Int32 → Int32 → Int32 → sI → sJ → Prop
  | 0 => fun _ _ _ _ _ _ _ _ _ => False
  | n + 1 => fun x1 x2 x3 x5 x6 x7 x8 I J => w_X12_sheet_55_s post (w_X12_sheet_55_n post n) x1 x2 x3 x5 x6 x7 x8 I J
def w_X12_sheet_55 (post : Int32 → sI → sJ → Prop) (x1 : Int32) (x2 : Int32) (x3 : Int32) (x5 : Int32) (x6 : Int32) (x7 : Int32) (x8 : Int32) (I : sI) (J : sJ) : Prop := ∃ n, w_X12_sheet_55_n post n x1 x2 x3 x5 x6 x7 x8 I J
set_option maxHeartbeats 4000000 in
set_option maxRecDepth 100000 in
theorem t_X12_sheet_55_s {X : sX} {post : Int32 → sI → sJ → Prop} (h : sOK X cX12_sheet RX12 10 2 46) (hr : sRt X (some .int) (sPi post)) {k55 : Int32 → Int32 → Int32 → Int32 → Int32 → Int32 → Int32 → sI → sJ → Prop} (hk55 : ∀ (x1 : Int32) (x2 : Int32) (x3 : Int32) (x5 : Int32) (x6 : Int32) (x7 : Int32) (x8 : Int32) (I : sI) (J : sJ), k55 x1 x2 x3 x5 x6 x7 x8 I J → sG X 10 55 [(0, .ref 248), (1, .int x1), (2, .int x2), (3, .int x3), (5, .int x5), (6, .int x6), (7, .int x7), (8, .int x8)] [] I J) {x1 : Int32} {x2 : Int32} {x3 : Int32} {x5 : Int32} {x6 : Int32} {x7 : Int32} {x8 : Int32} {I : sI} {J : sJ} (hw : w_X12_sheet_55_s post k55 x1 x2 x3 x5 x6 x7 x8 I J) : sG X 10 55 [(0, .ref 248), (1, .int x1), (2, .int x2), (3, .int x3), (5, .int x5), (6, .int x6), (7, .int x7), (8, .int x8)] [] I J := by
  unfold w_X12_sheet_55_s at hw
  refine g_iload h 7 rfl dX12_sheet_55 ?_
  refine g_bipush (v := 12) h (by decide) dX12_sheet_57 ?_
  refine g_icmp_ge (tgt := 161) h (by decide) dX12_sheet_59 (fun q59 => ?_) (fun q59 => ?_)
  · replace hw := hw.1 q59
    refine g_iload_n h rfl 2 rfl dX12_sheet_161 ?_
    refine g_iconst (v := 3) h (by decide) dX12_sheet_162 ?_
    refine g_icmp_ne (tgt := 171) h (by decide) dX12_sheet_163 (fun q163 => ?_) (fun q163 => ?_)
    · replace hw := hw.1 q163
      refine g_iload h 6 rfl dX12_sheet_171 ?_
      exact g_iret h hr dX12_sheet_173 hw
    · replace hw := hw.2 q163
      refine g_bipush (v := (-3)) h (by decide) dX12_sheet_166 ?_
      refine g_goto (tgt := 173) h (by decide) dX12_sheet_168 ?_
      exact g_iret h hr dX12_sheet_173 hw
  · replace hw := hw.2 q59
    refine g_iload_n h rfl 2 rfl dX12_sheet_62 ?_
    refine g_if_ne (tgt := 72) h (by decide) dX12_sheet_63 (fun q63 => ?_) (fun q63 => ?_)
    · replace hw := hw.1 q63
      refine g_iload_n h rfl 2 rfl dX12_sheet_72 ?_
      refine g_iconst (v := 1) h (by decide) dX12_sheet_73 ?_
      refine g_icmp_ne (tgt := 83) h (by decide) dX12_sheet_74 (fun q74 => ?_) (fun q74 => ?_)
      · replace hw := hw.1 q74
        refine g_iload h 5 rfl dX12_sheet_83 ?_
        exact g_sub [0, 1, 2, 3, 4, 5, 6, 7] rfl (t_X12_sheet_85 h hr hk55 hw)
      · replace hw := hw.2 q74
        refine g_iload h 5 rfl dX12_sheet_77 ?_
        refine g_i2s h dX12_sheet_79 ?_
        refine g_goto (tgt := 85) h (by decide) dX12_sheet_80 ?_
        exact g_sub [0, 1, 2, 3, 4, 5, 6, 7] rfl (t_X12_sheet_85 h hr hk55 hw)
    · replace hw := hw.2 q63
      refine g_iload h 5 rfl dX12_sheet_66 ?_
      refine g_i2b h dX12_sheet_68 ?_
      refine g_goto (tgt := 85) h (by decide) dX12_sheet_69 ?_
      exact g_sub [0, 1, 2, 3, 4, 5, 6, 7] rfl (t_X12_sheet_85 h hr hk55 hw)
theorem t_X12_sheet_55 {X : sX} {post : Int32 → sI → sJ → Prop} (h : sOK X cX12_sheet RX12 10 2 46) (hr : sRt X (some .int) (sPi post)) {x1 : Int32} {x2 : Int32} {x3 : Int32} {x5 : Int32} {x6 : Int32} {x7 : Int32} {x8 : Int32} {I : sI} {J : sJ} (hw : w_X12_sheet_55 post x1 x2 x3 x5 x6 x7 x8 I J) : sG X 10 55 [(0, .ref 248), (1, .int x1), (2, .int x2), (3, .int x3), (5, .int x5), (6, .int x6), (7, .int x7), (8, .int x8)] [] I J := by
  obtain ⟨n, hw⟩ := hw
  induction n generalizing x1 x2 x3 x5 x6 x7 x8 I J with
  | zero => exact hw.elim
  | succ n ih => exact t_X12_sheet_55_s h hr (fun _ _ _ _ _ _ _ _ _ q => ih q) hw
def w_X12_sheet_45 (post : Int32 → sI → sJ → Prop) (x1 : Int32) (x2 : Int32) (x3 : Int32) (x4 : Int32) (x5 : Int32) (I : sI) (J : sJ) : Prop :=
  w_X12_sheet_55 post x1 x2 x3 x5 x4 0 0 I J
set_option maxHeartbeats 4000000 in
set_option maxRecDepth 100000 in
theorem t_X12_sheet_45 {X : sX} {post : Int32 → sI → sJ → Prop} (h : sOK X cX12_sheet RX12 10 2 46) (hr : sRt X (some .int) (sPi post)) {x1 : Int32} {x2 : Int32} {x3 : Int32} {x4 : Int32} {x5 : Int32} {I : sI} {J : sJ} (hw : w_X12_sheet_45 post x1 x2 x3 x4 x5 I J) : sG X 10 45 [(0, .ref 248), (1, .int x1), (2, .int x2), (3, .int x3), (4, .int x4), (5, .int x5)] [] I J := by
  unfold w_X12_sheet_45 at hw
  refine g_iload h 4 rfl dX12_sheet_45 ?_
  refine g_istore (lo2 := [(6, .int x4), (0, .ref 248), (1, .int x1), (2, .int x2), (3, .int x3), (4, .int x4), (5, .int x5)]) h (by decide) rfl dX12_sheet_47 ?_
  refine g_iconst (v := 0) h (by decide) dX12_sheet_49 ?_
  refine g_istore (lo2 := [(7, .int 0), (6, .int x4), (0, .ref 248), (1, .int x1), (2, .int x2), (3, .int x3), (4, .int x4), (5, .int x5)]) h (by decide) rfl dX12_sheet_50 ?_
  refine g_iconst (v := 0) h (by decide) dX12_sheet_52 ?_
  refine g_istore (lo2 := [(8, .int 0), (7, .int 0), (6, .int x4), (0, .ref 248), (1, .int x1), (2, .int x2), (3, .int x3), (4, .int x4), (5, .int x5)]) h (by decide) rfl dX12_sheet_53 ?_
  exact g_sub [3, 4, 5, 6, 8, 2, 1, 0] rfl (t_X12_sheet_55 h hr hw)
def w_X12_sheet (a1 : Int32) (a2 : Int32) (a3 : Int32) (a4 : Int32) (a5 : Int32) (I : sI) (J : sJ) (post : Int32 → sI → sJ → Prop) : Prop :=
  (∀ I_2 : sI, I_2 = sUI I 248 0 0 → w_X12_isClaim a1 I_2 J (fun (r_7 : Int32) (I_7 : sI) (J_7 : sJ) => (((r_7 = 0 → post (-1) I_7 J_7) ∧ (¬ r_7 = 0 → w_X12_in (Int32.toInt64 a2) 0 3 I_7 J_7 (fun (r_19 : Int32) (I_19 : sI) (J_19 : sJ) => (((r_19 = 0 → post (-1) I_19 J_19) ∧ (¬ r_19 = 0 → ((a3 ≤ 12 → ((a2 = 3 → w_X12_sheet_45 post a1 a2 a3 a4 a5 I_19 J_19) ∧ (¬ a2 = 3 → ((0 ≤ a3 → w_X12_sheet_45 post a1 a2 a3 a4 a5 I_19 J_19) ∧ (¬ 0 ≤ a3 → post (-2) I_19 J_19))))) ∧ (¬ a3 ≤ 12 → post (-1) I_19 J_19)))))))))))
set_option maxHeartbeats 4000000 in
set_option maxRecDepth 100000 in
theorem t_X12_sheet {X : sX} {a1 : Int32} {a2 : Int32} {a3 : Int32} {a4 : Int32} {a5 : Int32} {I : sI} {J : sJ} {post : Int32 → sI → sJ → Prop} (h : sOK X cX12_sheet RX12 10 2 46) (hr : sRt X (some .int) (sPi post)) (hw : w_X12_sheet a1 a2 a3 a4 a5 I J post) : sG X 10 0 [(0, .ref 248), (1, .int a1), (2, .int a2), (3, .int a3), (4, .int a4), (5, .int a5)] [] I J := by
  unfold w_X12_sheet at hw
  refine g_aload_n h rfl 0 rfl dX12_sheet_0 ?_
  refine g_iconst (v := 0) h (by decide) dX12_sheet_1 ?_
  refine g_putI h is_248 fl_X12_1 rfl rfl dX12_sheet_2 ?_
  refine g_nI (fun I_2 eI_2 => ?_)
  replace hw := hw I_2 eI_2
  refine g_aload_n h rfl 0 rfl dX12_sheet_5 ?_
  refine g_iload_n h rfl 1 rfl dX12_sheet_6 ?_
  refine g_callV [.int a1] h (c_X12_isClaim X hw) sPi_v mw_X12_isClaim lk_X12_356 is_248 rfl rfl ⟨by decide, by decide⟩ (Nat.le_of_ble_eq_true rfl) dX12_sheet_7 (sPi_k (fun r_7 I_7 J_7 hw => ?_))
  refine g_if_eq (tgt := 31) h (by decide) dX12_sheet_10 (fun q10 => ?_) (fun q10 => ?_)
  · replace hw := hw.1 q10
    refine g_iconst (v := (-1)) h (by decide) dX12_sheet_31 ?_
    exact g_iret h hr dX12_sheet_32 hw
  · replace hw := hw.2 q10
    refine g_iload_n h rfl 2 rfl dX12_sheet_13 ?_
    refine g_i2l h dX12_sheet_14 ?_
    refine g_lconst (v := 0) h (by decide) dX12_sheet_15 ?_
    refine g_ldc2 h lc_X12_94 dX12_sheet_16 ?_
    refine g_callS [.long (Int32.toInt64 a2), .long 0, .long 3] h (c_X12_in X hw) sPi_v mw_X12_in lk_X12_29 rfl ⟨by decide, by decide⟩ (Nat.le_of_ble_eq_true rfl) dX12_sheet_19 (sPi_k (fun r_19 I_19 J_19 hw => ?_))
    refine g_if_eq (tgt := 31) h (by decide) dX12_sheet_22 (fun q22 => ?_) (fun q22 => ?_)
    · replace hw := hw.1 q22
      refine g_iconst (v := (-1)) h (by decide) dX12_sheet_31 ?_
      exact g_iret h hr dX12_sheet_32 hw
    · replace hw := hw.2 q22
      refine g_iload_n h rfl 3 rfl dX12_sheet_25 ?_
      refine g_bipush (v := 12) h (by decide) dX12_sheet_26 ?_
      refine g_icmp_le (tgt := 33) h (by decide) dX12_sheet_28 (fun q28 => ?_) (fun q28 => ?_)
      · replace hw := hw.1 q28
        refine g_iload_n h rfl 2 rfl dX12_sheet_33 ?_
        refine g_iconst (v := 3) h (by decide) dX12_sheet_34 ?_
        refine g_icmp_eq (tgt := 45) h (by decide) dX12_sheet_35 (fun q35 => ?_) (fun q35 => ?_)
        · replace hw := hw.1 q35
          exact g_sub [0, 1, 2, 3, 4, 5] rfl (t_X12_sheet_45 h hr hw)
        · replace hw := hw.2 q35
          refine g_iload_n h rfl 3 rfl dX12_sheet_38 ?_
          refine g_if_ge (tgt := 45) h (by decide) dX12_sheet_39 (fun q39 => ?_) (fun q39 => ?_)
          · replace hw := hw.1 q39
            exact g_sub [0, 1, 2, 3, 4, 5] rfl (t_X12_sheet_45 h hr hw)
          · replace hw := hw.2 q39
            refine g_bipush (v := (-2)) h (by decide) dX12_sheet_42 ?_
            exact g_iret h hr dX12_sheet_44 hw
      · replace hw := hw.2 q28
        refine g_iconst (v := (-1)) h (by decide) dX12_sheet_31 ?_
        exact g_iret h hr dX12_sheet_32 hw
theorem c_X12_sheet (X : sX) {a1 : Int32} {a2 : Int32} {a3 : Int32} {a4 : Int32} {a5 : Int32} {I : sI} {J : sJ} {post : Int32 → sI → sJ → Prop} (hw : w_X12_sheet a1 a2 a3 a4 a5 I J post) : sCall X yX12_sheet cX12_sheet 10 (some .int) 2 46 [.ref 248, .int a1, .int a2, .int a3, .int a4, .int a5] I J (sPi post) := sCall_of (by decide +kernel) (Nat.le_of_ble_eq_true rfl) (fun X h hr => t_X12_sheet h hr hw)
theorem dX12_find_0 : decode cX12_find 0 = .ok (.aload_n 0, 1) := by decide +kernel
theorem dX12_find_1 : decode cX12_find 1 = .ok (.iconst 0, 1) := by decide +kernel
theorem dX12_find_2 : decode cX12_find 2 = .ok (.putfield 1, 3) := by decide +kernel
theorem dX12_find_5 : decode cX12_find 5 = .ok (.iload_n 1, 1) := by decide +kernel
theorem dX12_find_6 : decode cX12_find 6 = .ok (.i2l, 1) := by decide +kernel
theorem dX12_find_7 : decode cX12_find 7 = .ok (.lconst 0, 1) := by decide +kernel
theorem dX12_find_8 : decode cX12_find 8 = .ok (.ldc2_w 210, 3) := by decide +kernel
theorem dX12_find_11 : decode cX12_find 11 = .ok (.invokestatic 29, 3) := by decide +kernel
theorem dX12_find_14 : decode cX12_find 14 = .ok (.ifCond .eq 15, 3) := by decide +kernel
theorem dX12_find_17 : decode cX12_find 17 = .ok (.iload_n 2, 1) := by decide +kernel
theorem dX12_find_18 : decode cX12_find 18 = .ok (.i2l, 1) := by decide +kernel
theorem dX12_find_19 : decode cX12_find 19 = .ok (.lconst 0, 1) := by decide +kernel
theorem dX12_find_20 : decode cX12_find 20 = .ok (.ldc2_w 330, 3) := by decide +kernel
theorem dX12_find_23 : decode cX12_find 23 = .ok (.invokestatic 29, 3) := by decide +kernel
theorem dX12_find_26 : decode cX12_find 26 = .ok (.ifCond .ne 5, 3) := by decide +kernel
theorem dX12_find_29 : decode cX12_find 29 = .ok (.iconst (-1), 1) := by decide +kernel
theorem dX12_find_30 : decode cX12_find 30 = .ok (.ireturn, 1) := by decide +kernel
theorem dX12_find_31 : decode cX12_find 31 = .ok (.aload_n 0, 1) := by decide +kernel
theorem dX12_find_32 : decode cX12_find 32 = .ok (.getfield 365, 3) := by decide +kernel
theorem dX12_find_35 : decode cX12_find 35 = .ok (.iload_n 1, 1) := by decide +kernel
theorem dX12_find_36 : decode cX12_find 36 = .ok (.iaload, 1) := by decide +kernel
theorem dX12_find_37 : decode cX12_find 37 = .ok (.istore_n 3, 1) := by decide +kernel
theorem dX12_find_38 : decode cX12_find 38 = .ok (.aload_n 0, 1) := by decide +kernel
theorem dX12_find_39 : decode cX12_find 39 = .ok (.getfield 365, 3) := by decide +kernel
theorem dX12_find_42 : decode cX12_find 42 = .ok (.iload_n 1, 1) := by decide +kernel
theorem dX12_find_43 : decode cX12_find 43 = .ok (.iload_n 2, 1) := by decide +kernel
theorem dX12_find_44 : decode cX12_find 44 = .ok (.iastore, 1) := by decide +kernel
theorem dX12_find_45 : decode cX12_find 45 = .ok (.iload_n 3, 1) := by decide +kernel
theorem dX12_find_46 : decode cX12_find 46 = .ok (.ireturn, 1) := by decide +kernel
def w_X12_find (a1 : Int32) (a2 : Int32) (I : sI) (J : sJ) (post : Int32 → sI → sJ → Prop) : Prop :=
  (∀ I_2 : sI, I_2 = sUI I 248 0 0 → w_X12_in (Int32.toInt64 a1) 0 11 I_2 J (fun (r_11 : Int32) (I_11 : sI) (J_11 : sJ) => (((r_11 = 0 → post (-1) I_11 J_11) ∧ (¬ r_11 = 0 → w_X12_in (Int32.toInt64 a2) 0 2 I_11 J_11 (fun (r_23 : Int32) (I_23 : sI) (J_23 : sJ) => (((¬ r_23 = 0 → (vp_in a1 12 ∧ (∀ v3_37 : Int32, v3_37 = I_23 276 (Int32.toNatClampNeg a1) → (vp_in a1 12 ∧ (∀ I_44 : sI, I_44 = sUI I_23 276 (Int32.toNatClampNeg a1) a2 → post v3_37 I_44 J_23))))) ∧ (r_23 = 0 → post (-1) I_23 J_23)))))))))
set_option maxHeartbeats 4000000 in
set_option maxRecDepth 100000 in
theorem t_X12_find {X : sX} {a1 : Int32} {a2 : Int32} {I : sI} {J : sJ} {post : Int32 → sI → sJ → Prop} (h : sOK X cX12_find RX12 4 1 25) (hr : sRt X (some .int) (sPi post)) (hw : w_X12_find a1 a2 I J post) : sG X 4 0 [(0, .ref 248), (1, .int a1), (2, .int a2)] [] I J := by
  unfold w_X12_find at hw
  refine g_aload_n h rfl 0 rfl dX12_find_0 ?_
  refine g_iconst (v := 0) h (by decide) dX12_find_1 ?_
  refine g_putI h is_248 fl_X12_1 rfl rfl dX12_find_2 ?_
  refine g_nI (fun I_2 eI_2 => ?_)
  replace hw := hw I_2 eI_2
  refine g_iload_n h rfl 1 rfl dX12_find_5 ?_
  refine g_i2l h dX12_find_6 ?_
  refine g_lconst (v := 0) h (by decide) dX12_find_7 ?_
  refine g_ldc2 h lc_X12_210 dX12_find_8 ?_
  refine g_callS [.long (Int32.toInt64 a1), .long 0, .long 11] h (c_X12_in X hw) sPi_v mw_X12_in lk_X12_29 rfl ⟨by decide, by decide⟩ (Nat.le_of_ble_eq_true rfl) dX12_find_11 (sPi_k (fun r_11 I_11 J_11 hw => ?_))
  refine g_if_eq (tgt := 29) h (by decide) dX12_find_14 (fun q14 => ?_) (fun q14 => ?_)
  · replace hw := hw.1 q14
    refine g_iconst (v := (-1)) h (by decide) dX12_find_29 ?_
    exact g_iret h hr dX12_find_30 hw
  · replace hw := hw.2 q14
    refine g_iload_n h rfl 2 rfl dX12_find_17 ?_
    refine g_i2l h dX12_find_18 ?_
    refine g_lconst (v := 0) h (by decide) dX12_find_19 ?_
    refine g_ldc2 h lc_X12_330 dX12_find_20 ?_
    refine g_callS [.long (Int32.toInt64 a2), .long 0, .long 2] h (c_X12_in X hw) sPi_v mw_X12_in lk_X12_29 rfl ⟨by decide, by decide⟩ (Nat.le_of_ble_eq_true rfl) dX12_find_23 (sPi_k (fun r_23 I_23 J_23 hw => ?_))
    refine g_if_ne (tgt := 31) h (by decide) dX12_find_26 (fun q26 => ?_) (fun q26 => ?_)
    · replace hw := hw.1 q26
      refine g_aload_n h rfl 0 rfl dX12_find_31 ?_
      refine g_get h is_248 fl_X12_365 fr_248_48 dX12_find_32 ?_
      refine g_iload_n h rfl 1 rfl dX12_find_35 ?_
      obtain ⟨hi36, hw⟩ := hw
      refine g_iald h ar_276 hi36 dX12_find_36 ?_
      refine g_ni (fun v3_37 ev3_37 => ?_)
      replace hw := hw v3_37 ev3_37
      refine g_istore_n (lo2 := [(3, .int v3_37), (0, .ref 248), (1, .int a1), (2, .int a2)]) h rfl (by decide) rfl dX12_find_37 ?_
      refine g_aload_n h rfl 1 rfl dX12_find_38 ?_
      refine g_get h is_248 fl_X12_365 fr_248_48 dX12_find_39 ?_
      refine g_iload_n h rfl 2 rfl dX12_find_42 ?_
      refine g_iload_n h rfl 3 rfl dX12_find_43 ?_
      obtain ⟨hi44, hw⟩ := hw
      refine g_iast h ar_276 hi44 dX12_find_44 ?_
      refine g_nI (fun I_44 eI_44 => ?_)
      replace hw := hw I_44 eI_44
      refine g_iload_n h rfl 0 rfl dX12_find_45 ?_
      exact g_iret h hr dX12_find_46 hw
    · replace hw := hw.2 q26
      refine g_iconst (v := (-1)) h (by decide) dX12_find_29 ?_
      exact g_iret h hr dX12_find_30 hw
theorem c_X12_find (X : sX) {a1 : Int32} {a2 : Int32} {I : sI} {J : sJ} {post : Int32 → sI → sJ → Prop} (hw : w_X12_find a1 a2 I J post) : sCall X yX12_find cX12_find 4 (some .int) 1 25 [.ref 248, .int a1, .int a2] I J (sPi post) := sCall_of (by decide +kernel) (Nat.le_of_ble_eq_true rfl) (fun X h hr => t_X12_find h hr hw)
theorem dX12_standing_0 : decode cX12_standing 0 = .ok (.iconst 0, 1) := by decide +kernel
theorem dX12_standing_1 : decode cX12_standing 1 = .ok (.istore_n 1, 1) := by decide +kernel
theorem dX12_standing_2 : decode cX12_standing 2 = .ok (.iconst 0, 1) := by decide +kernel
theorem dX12_standing_3 : decode cX12_standing 3 = .ok (.istore_n 2, 1) := by decide +kernel
theorem dX12_standing_4 : decode cX12_standing 4 = .ok (.iload_n 2, 1) := by decide +kernel
theorem dX12_standing_5 : decode cX12_standing 5 = .ok (.aload_n 0, 1) := by decide +kernel
theorem dX12_standing_6 : decode cX12_standing 6 = .ok (.getfield 353, 3) := by decide +kernel
theorem dX12_standing_9 : decode cX12_standing 9 = .ok (.if_icmp .ge 92, 3) := by decide +kernel
theorem dX12_standing_12 : decode cX12_standing 12 = .ok (.iconst 1, 1) := by decide +kernel
theorem dX12_standing_13 : decode cX12_standing 13 = .ok (.istore_n 3, 1) := by decide +kernel
theorem dX12_standing_14 : decode cX12_standing 14 = .ok (.iconst 0, 1) := by decide +kernel
theorem dX12_standing_15 : decode cX12_standing 15 = .ok (.istore 4, 2) := by decide +kernel
theorem dX12_standing_17 : decode cX12_standing 17 = .ok (.iload 4, 2) := by decide +kernel
theorem dX12_standing_19 : decode cX12_standing 19 = .ok (.bipush 12, 2) := by decide +kernel
theorem dX12_standing_21 : decode cX12_standing 21 = .ok (.if_icmp .ge 60, 3) := by decide +kernel
theorem dX12_standing_24 : decode cX12_standing 24 = .ok (.aload_n 0, 1) := by decide +kernel
theorem dX12_standing_25 : decode cX12_standing 25 = .ok (.getfield 359, 3) := by decide +kernel
theorem dX12_standing_28 : decode cX12_standing 28 = .ok (.bipush 12, 2) := by decide +kernel
theorem dX12_standing_30 : decode cX12_standing 30 = .ok (.iload_n 2, 1) := by decide +kernel
theorem dX12_standing_31 : decode cX12_standing 31 = .ok (.imul, 1) := by decide +kernel
theorem dX12_standing_32 : decode cX12_standing 32 = .ok (.iload 4, 2) := by decide +kernel
theorem dX12_standing_34 : decode cX12_standing 34 = .ok (.iadd, 1) := by decide +kernel
theorem dX12_standing_35 : decode cX12_standing 35 = .ok (.iaload, 1) := by decide +kernel
theorem dX12_standing_36 : decode cX12_standing 36 = .ok (.istore 5, 2) := by decide +kernel
theorem dX12_standing_38 : decode cX12_standing 38 = .ok (.iload_n 3, 1) := by decide +kernel
theorem dX12_standing_39 : decode cX12_standing 39 = .ok (.ifCond .eq 34, 3) := by decide +kernel
theorem dX12_standing_42 : decode cX12_standing 42 = .ok (.iload 5, 2) := by decide +kernel
theorem dX12_standing_44 : decode cX12_standing 44 = .ok (.ifCond .eq 25, 3) := by decide +kernel
theorem dX12_standing_47 : decode cX12_standing 47 = .ok (.aload_n 0, 1) := by decide +kernel
theorem dX12_standing_48 : decode cX12_standing 48 = .ok (.getfield 365, 3) := by decide +kernel
theorem dX12_standing_51 : decode cX12_standing 51 = .ok (.iload 4, 2) := by decide +kernel
theorem dX12_standing_53 : decode cX12_standing 53 = .ok (.iaload, 1) := by decide +kernel
theorem dX12_standing_54 : decode cX12_standing 54 = .ok (.ifCond .eq 15, 3) := by decide +kernel
theorem dX12_standing_57 : decode cX12_standing 57 = .ok (.iload 5, 2) := by decide +kernel
theorem dX12_standing_59 : decode cX12_standing 59 = .ok (.aload_n 0, 1) := by decide +kernel
theorem dX12_standing_60 : decode cX12_standing 60 = .ok (.getfield 365, 3) := by decide +kernel
theorem dX12_standing_63 : decode cX12_standing 63 = .ok (.iload 4, 2) := by decide +kernel
theorem dX12_standing_65 : decode cX12_standing 65 = .ok (.iaload, 1) := by decide +kernel
theorem dX12_standing_66 : decode cX12_standing 66 = .ok (.if_icmp .ne 7, 3) := by decide +kernel
theorem dX12_standing_69 : decode cX12_standing 69 = .ok (.iconst 1, 1) := by decide +kernel
theorem dX12_standing_70 : decode cX12_standing 70 = .ok (.goto 4, 3) := by decide +kernel
theorem dX12_standing_73 : decode cX12_standing 73 = .ok (.iconst 0, 1) := by decide +kernel
theorem dX12_standing_74 : decode cX12_standing 74 = .ok (.istore_n 3, 1) := by decide +kernel
theorem dX12_standing_75 : decode cX12_standing 75 = .ok (.iinc 4 1, 3) := by decide +kernel
theorem dX12_standing_78 : decode cX12_standing 78 = .ok (.goto (-61), 3) := by decide +kernel
theorem dX12_standing_81 : decode cX12_standing 81 = .ok (.iload_n 1, 1) := by decide +kernel
theorem dX12_standing_82 : decode cX12_standing 82 = .ok (.iload_n 3, 1) := by decide +kernel
theorem dX12_standing_83 : decode cX12_standing 83 = .ok (.ifCond .eq 9, 3) := by decide +kernel
theorem dX12_standing_86 : decode cX12_standing 86 = .ok (.iconst 1, 1) := by decide +kernel
theorem dX12_standing_87 : decode cX12_standing 87 = .ok (.iload_n 2, 1) := by decide +kernel
theorem dX12_standing_88 : decode cX12_standing 88 = .ok (.ishl, 1) := by decide +kernel
theorem dX12_standing_89 : decode cX12_standing 89 = .ok (.goto 4, 3) := by decide +kernel
theorem dX12_standing_92 : decode cX12_standing 92 = .ok (.iconst 0, 1) := by decide +kernel
theorem dX12_standing_93 : decode cX12_standing 93 = .ok (.ior, 1) := by decide +kernel
theorem dX12_standing_94 : decode cX12_standing 94 = .ok (.istore_n 1, 1) := by decide +kernel
theorem dX12_standing_95 : decode cX12_standing 95 = .ok (.iinc 2 1, 3) := by decide +kernel
theorem dX12_standing_98 : decode cX12_standing 98 = .ok (.goto (-94), 3) := by decide +kernel
theorem dX12_standing_101 : decode cX12_standing 101 = .ok (.iload_n 1, 1) := by decide +kernel
theorem dX12_standing_102 : decode cX12_standing 102 = .ok (.ireturn, 1) := by decide +kernel
def w_X12_standing_93 (post : Int32 → sI → sJ → Prop) (k4 : Int32 → Int32 → sI → sJ → Prop) (x2 : Int32) (s0 : Int32) (s1 : Int32) (I : sI) (J : sJ) : Prop :=
  (∀ v1_94 : Int32, v1_94 = s1 ||| s0 → (∀ v2_95 : Int32, v2_95 = x2 + 1 → k4 v1_94 v2_95 I J))
set_option maxHeartbeats 4000000 in
set_option maxRecDepth 100000 in
theorem t_X12_standing_93 {X : sX} {post : Int32 → sI → sJ → Prop} (h : sOK X cX12_standing RX12 6 0 0) (hr : sRt X (some .int) (sPi post)) {k4 : Int32 → Int32 → sI → sJ → Prop} (hk4 : ∀ (x1 : Int32) (x2 : Int32) (I : sI) (J : sJ), k4 x1 x2 I J → sG X 6 4 [(0, .ref 248), (1, .int x1), (2, .int x2)] [] I J) {x2 : Int32} {s0 : Int32} {s1 : Int32} {I : sI} {J : sJ} (hw : w_X12_standing_93 post k4 x2 s0 s1 I J) : sG X 6 93 [(0, .ref 248), (2, .int x2)] [.int s0, .int s1] I J := by
  unfold w_X12_standing_93 at hw
  refine g_ior h dX12_standing_93 ?_
  refine g_ni (fun v1_94 ev1_94 => ?_)
  replace hw := hw v1_94 ev1_94
  refine g_istore_n (lo2 := [(1, .int v1_94), (0, .ref 248), (2, .int x2)]) h rfl (by decide) rfl dX12_standing_94 ?_
  obtain ⟨v2_95, ev2_95⟩ : ∃ z : Int32, z = x2 + 1 := ⟨_, rfl⟩
  replace hw := hw v2_95 ev2_95
  refine g_iinc (v := v2_95) (lo2 := [(2, .int v2_95), (1, .int v1_94), (0, .ref 248)]) h 2 rfl (by rw [ev2_95]; rfl) (by decide) rfl dX12_standing_95 ?_
  refine g_goto (tgt := 4) h (by decide) dX12_standing_98 ?_
  exact g_sub [2, 1, 0] rfl (hk4 _ _ _ _ hw)
def w_X12_standing_74 (post : Int32 → sI → sJ → Prop) (k4 : Int32 → Int32 → sI → sJ → Prop) (k17 : Int32 → Int32 → Int32 → Int32 → sI → sJ → Prop) (x1 : Int32) (x2 : Int32) (x4 : Int32) (s0 : Int32) (I : sI) (J : sJ) : Prop :=
  (∀ v4_75 : Int32, v4_75 = x4 + 1 → k17 x1 x2 s0 v4_75 I J)
set_option maxHeartbeats 4000000 in
set_option maxRecDepth 100000 in
theorem t_X12_standing_74 {X : sX} {post : Int32 → sI → sJ → Prop} (h : sOK X cX12_standing RX12 6 0 0) (hr : sRt X (some .int) (sPi post)) {k4 : Int32 → Int32 → sI → sJ → Prop} (hk4 : ∀ (x1 : Int32) (x2 : Int32) (I : sI) (J : sJ), k4 x1 x2 I J → sG X 6 4 [(0, .ref 248), (1, .int x1), (2, .int x2)] [] I J) {k17 : Int32 → Int32 → Int32 → Int32 → sI → sJ → Prop} (hk17 : ∀ (x1 : Int32) (x2 : Int32) (x3 : Int32) (x4 : Int32) (I : sI) (J : sJ), k17 x1 x2 x3 x4 I J → sG X 6 17 [(0, .ref 248), (1, .int x1), (2, .int x2), (3, .int x3), (4, .int x4)] [] I J) {x1 : Int32} {x2 : Int32} {x4 : Int32} {s0 : Int32} {I : sI} {J : sJ} (hw : w_X12_standing_74 post k4 k17 x1 x2 x4 s0 I J) : sG X 6 74 [(0, .ref 248), (1, .int x1), (2, .int x2), (4, .int x4)] [.int s0] I J := by
  unfold w_X12_standing_74 at hw
  refine g_istore_n (lo2 := [(3, .int s0), (0, .ref 248), (1, .int x1), (2, .int x2), (4, .int x4)]) h rfl (by decide) rfl dX12_standing_74 ?_
  obtain ⟨v4_75, ev4_75⟩ : ∃ z : Int32, z = x4 + 1 := ⟨_, rfl⟩
  replace hw := hw v4_75 ev4_75
  refine g_iinc (v := v4_75) (lo2 := [(4, .int v4_75), (3, .int s0), (0, .ref 248), (1, .int x1), (2, .int x2)]) h 4 rfl (by rw [ev4_75]; rfl) (by decide) rfl dX12_standing_75 ?_
  refine g_goto (tgt := 17) h (by decide) dX12_standing_78 ?_
  exact g_sub [2, 3, 4, 1, 0] rfl (hk17 _ _ _ _ _ _ hw)
def w_X12_standing_73 (post : Int32 → sI → sJ → Prop) (k4 : Int32 → Int32 → sI → sJ → Prop) (k17 : Int32 → Int32 → Int32 → Int32 → sI → sJ → Prop) (x1 : Int32) (x2 : Int32) (x4 : Int32) (I : sI) (J : sJ) : Prop :=
  w_X12_standing_74 post k4 k17 x1 x2 x4 0 I J
set_option maxHeartbeats 4000000 in
set_option maxRecDepth 100000 in
theorem t_X12_standing_73 {X : sX} {post : Int32 → sI → sJ → Prop} (h : sOK X cX12_standing RX12 6 0 0) (hr : sRt X (some .int) (sPi post)) {k4 : Int32 → Int32 → sI → sJ → Prop} (hk4 : ∀ (x1 : Int32) (x2 : Int32) (I : sI) (J : sJ), k4 x1 x2 I J → sG X 6 4 [(0, .ref 248), (1, .int x1), (2, .int x2)] [] I J) {k17 : Int32 → Int32 → Int32 → Int32 → sI → sJ → Prop} (hk17 : ∀ (x1 : Int32) (x2 : Int32) (x3 : Int32) (x4 : Int32) (I : sI) (J : sJ), k17 x1 x2 x3 x4 I J → sG X 6 17 [(0, .ref 248), (1, .int x1), (2, .int x2), (3, .int x3), (4, .int x4)] [] I J) {x1 : Int32} {x2 : Int32} {x4 : Int32} {I : sI} {J : sJ} (hw : w_X12_standing_73 post k4 k17 x1 x2 x4 I J) : sG X 6 73 [(0, .ref 248), (1, .int x1), (2, .int x2), (4, .int x4)] [] I J := by
  unfold w_X12_standing_73 at hw
  refine g_iconst (v := 0) h (by decide) dX12_standing_73 ?_
  exact g_sub [0, 1, 2, 3] rfl (t_X12_standing_74 h hr hk4 hk17 hw)
def w_X12_standing_69 (post : Int32 → sI → sJ → Prop) (k4 : Int32 → Int32 → sI → sJ → Prop) (k17 : Int32 → Int32 → Int32 → Int32 → sI → sJ → Prop) (x1 : Int32) (x2 : Int32) (x4 : Int32) (I : sI) (J : sJ) : Prop :=
  w_X12_standing_74 post k4 k17 x1 x2 x4 1 I J
set_option maxHeartbeats 4000000 in
set_option maxRecDepth 100000 in
theorem t_X12_standing_69 {X : sX} {post : Int32 → sI → sJ → Prop} (h : sOK X cX12_standing RX12 6 0 0) (hr : sRt X (some .int) (sPi post)) {k4 : Int32 → Int32 → sI → sJ → Prop} (hk4 : ∀ (x1 : Int32) (x2 : Int32) (I : sI) (J : sJ), k4 x1 x2 I J → sG X 6 4 [(0, .ref 248), (1, .int x1), (2, .int x2)] [] I J) {k17 : Int32 → Int32 → Int32 → Int32 → sI → sJ → Prop} (hk17 : ∀ (x1 : Int32) (x2 : Int32) (x3 : Int32) (x4 : Int32) (I : sI) (J : sJ), k17 x1 x2 x3 x4 I J → sG X 6 17 [(0, .ref 248), (1, .int x1), (2, .int x2), (3, .int x3), (4, .int x4)] [] I J) {x1 : Int32} {x2 : Int32} {x4 : Int32} {I : sI} {J : sJ} (hw : w_X12_standing_69 post k4 k17 x1 x2 x4 I J) : sG X 6 69 [(0, .ref 248), (1, .int x1), (2, .int x2), (4, .int x4)] [] I J := by
  unfold w_X12_standing_69 at hw
  refine g_iconst (v := 1) h (by decide) dX12_standing_69 ?_
  refine g_goto (tgt := 74) h (by decide) dX12_standing_70 ?_
  exact g_sub [0, 1, 2, 3] rfl (t_X12_standing_74 h hr hk4 hk17 hw)
def w_X12_standing_17_s (post : Int32 → sI → sJ → Prop) (k4 : Int32 → Int32 → sI → sJ → Prop) (k17 : Int32 → Int32 → Int32 → Int32 → sI → sJ → Prop) (x1 : Int32) (x2 : Int32) (x3 : Int32) (x4 : Int32) (I : sI) (J : sJ) : Prop :=
  ((12 ≤ x4 → ((x3 = 0 → w_X12_standing_93 post k4 x2 0 x1 I J) ∧ (¬ x3 = 0 → w_X12_standing_93 post k4 x2 (1 <<< (x2 &&& 31)) x1 I J))) ∧ (¬ 12 ≤ x4 → (vp_in ((12 * x2) + x4) 120 ∧ (∀ v5_36 : Int32, v5_36 = I 275 (Int32.toNatClampNeg ((12 * x2) + x4)) → ((x3 = 0 → w_X12_standing_73 post k4 k17 x1 x2 x4 I J) ∧ (¬ x3 = 0 → ((v5_36 = 0 → w_X12_standing_69 post k4 k17 x1 x2 x4 I J) ∧ (¬ v5_36 = 0 → (vp_in x4 12 ∧ (((I 276 (Int32.toNatClampNeg x4)) = 0 → w_X12_standing_69 post k4 k17 x1 x2 x4 I J) ∧ (¬ (I 276 (Int32.toNatClampNeg x4)) = 0 → (vp_in x4 12 ∧ ((¬ v5_36 = (I 276 (Int32.toNatClampNeg x4)) → w_X12_standing_73 post k4 k17 x1 x2 x4 I J) ∧ (v5_36 = (I 276 (Int32.toNatClampNeg x4)) → w_X12_standing_69 post k4 k17 x1 x2 x4 I J))))))))))))))
def w_X12_standing_17_n (post : Int32 → sI → sJ → Prop) (k4 : Int32 → Int32 → sI → sJ → Prop) : Nat → Int32 → Int32 → Int32 → Int32 → sI → sJ → Prop
  | 0 => fun _ _ _ _ _ _ => False
  | n + 1 => fun x1 x2 x3 x4 I J => w_X12_standing_17_s post k4 (w_X12_standing_17_n post k4 n) x1 x2 x3 x4 I J
def w_X12_standing_17 (post : Int32 → sI → sJ → Prop) (k4 : Int32 → Int32 → sI → sJ → Prop) (x1 : Int32) (x2 : Int32) (x3 : Int32) (x4 : Int32) (I : sI) (J : sJ) : Prop := ∃ n, w_X12_standing_17_n post k4 n x1 x2 x3 x4 I J
set_option maxHeartbeats 4000000 in
set_option maxRecDepth 100000 in
theorem t_X12_standing_17_s {X : sX} {post : Int32 → sI → sJ → Prop} (h : sOK X cX12_standing RX12 6 0 0) (hr : sRt X (some .int) (sPi post)) {k4 : Int32 → Int32 → sI → sJ → Prop} (hk4 : ∀ (x1 : Int32) (x2 : Int32) (I : sI) (J : sJ), k4 x1 x2 I J → sG X 6 4 [(0, .ref 248), (1, .int x1), (2, .int x2)] [] I J) {k17 : Int32 → Int32 → Int32 → Int32 → sI → sJ → Prop} (hk17 : ∀ (x1 : Int32) (x2 : Int32) (x3 : Int32) (x4 : Int32) (I : sI) (J : sJ), k17 x1 x2 x3 x4 I J → sG X 6 17 [(0, .ref 248), (1, .int x1), (2, .int x2), (3, .int x3), (4, .int x4)] [] I J) {x1 : Int32} {x2 : Int32} {x3 : Int32} {x4 : Int32} {I : sI} {J : sJ} (hw : w_X12_standing_17_s post k4 k17 x1 x2 x3 x4 I J) : sG X 6 17 [(0, .ref 248), (1, .int x1), (2, .int x2), (3, .int x3), (4, .int x4)] [] I J := by
  unfold w_X12_standing_17_s at hw
  refine g_iload h 4 rfl dX12_standing_17 ?_
  refine g_bipush (v := 12) h (by decide) dX12_standing_19 ?_
  refine g_icmp_ge (tgt := 81) h (by decide) dX12_standing_21 (fun q21 => ?_) (fun q21 => ?_)
  · replace hw := hw.1 q21
    refine g_iload_n h rfl 1 rfl dX12_standing_81 ?_
    refine g_iload_n h rfl 3 rfl dX12_standing_82 ?_
    refine g_if_eq (tgt := 92) h (by decide) dX12_standing_83 (fun q83 => ?_) (fun q83 => ?_)
    · replace hw := hw.1 q83
      refine g_iconst (v := 0) h (by decide) dX12_standing_92 ?_
      exact g_sub [0, 2] rfl (t_X12_standing_93 h hr hk4 hw)
    · replace hw := hw.2 q83
      refine g_iconst (v := 1) h (by decide) dX12_standing_86 ?_
      refine g_iload_n h rfl 2 rfl dX12_standing_87 ?_
      refine g_ishl h dX12_standing_88 ?_
      refine g_goto (tgt := 93) h (by decide) dX12_standing_89 ?_
      exact g_sub [0, 2] rfl (t_X12_standing_93 h hr hk4 hw)
  · replace hw := hw.2 q21
    refine g_aload_n h rfl 0 rfl dX12_standing_24 ?_
    refine g_get h is_248 fl_X12_359 fr_248_47 dX12_standing_25 ?_
    refine g_bipush (v := 12) h (by decide) dX12_standing_28 ?_
    refine g_iload_n h rfl 2 rfl dX12_standing_30 ?_
    refine g_imul h dX12_standing_31 ?_
    refine g_iload h 4 rfl dX12_standing_32 ?_
    refine g_iadd h dX12_standing_34 ?_
    obtain ⟨hi35, hw⟩ := hw
    refine g_iald h ar_275 hi35 dX12_standing_35 ?_
    refine g_ni (fun v5_36 ev5_36 => ?_)
    replace hw := hw v5_36 ev5_36
    refine g_istore (lo2 := [(5, .int v5_36), (0, .ref 248), (1, .int x1), (2, .int x2), (3, .int x3), (4, .int x4)]) h (by decide) rfl dX12_standing_36 ?_
    refine g_iload_n h rfl 4 rfl dX12_standing_38 ?_
    refine g_if_eq (tgt := 73) h (by decide) dX12_standing_39 (fun q39 => ?_) (fun q39 => ?_)
    · replace hw := hw.1 q39
      exact g_sub [1, 2, 3, 5] rfl (t_X12_standing_73 h hr hk4 hk17 hw)
    · replace hw := hw.2 q39
      refine g_iload h 0 rfl dX12_standing_42 ?_
      refine g_if_eq (tgt := 69) h (by decide) dX12_standing_44 (fun q44 => ?_) (fun q44 => ?_)
      · replace hw := hw.1 q44
        exact g_sub [1, 2, 3, 5] rfl (t_X12_standing_69 h hr hk4 hk17 hw)
      · replace hw := hw.2 q44
        refine g_aload_n h rfl 1 rfl dX12_standing_47 ?_
        refine g_get h is_248 fl_X12_365 fr_248_48 dX12_standing_48 ?_
        refine g_iload h 5 rfl dX12_standing_51 ?_
        obtain ⟨hi53, hw⟩ := hw
        refine g_iald h ar_276 hi53 dX12_standing_53 ?_
        refine g_if_eq (tgt := 69) h (by decide) dX12_standing_54 (fun q54 => ?_) (fun q54 => ?_)
        · replace hw := hw.1 q54
          exact g_sub [1, 2, 3, 5] rfl (t_X12_standing_69 h hr hk4 hk17 hw)
        · replace hw := hw.2 q54
          refine g_iload h 0 rfl dX12_standing_57 ?_
          refine g_aload_n h rfl 1 rfl dX12_standing_59 ?_
          refine g_get h is_248 fl_X12_365 fr_248_48 dX12_standing_60 ?_
          refine g_iload h 5 rfl dX12_standing_63 ?_
          obtain ⟨hi65, hw⟩ := hw
          refine g_iald h ar_276 hi65 dX12_standing_65 ?_
          refine g_icmp_ne (tgt := 73) h (by decide) dX12_standing_66 (fun q66 => ?_) (fun q66 => ?_)
          · replace hw := hw.1 q66
            exact g_sub [1, 2, 3, 5] rfl (t_X12_standing_73 h hr hk4 hk17 hw)
          · replace hw := hw.2 q66
            exact g_sub [1, 2, 3, 5] rfl (t_X12_standing_69 h hr hk4 hk17 hw)
theorem t_X12_standing_17 {X : sX} {post : Int32 → sI → sJ → Prop} (h : sOK X cX12_standing RX12 6 0 0) (hr : sRt X (some .int) (sPi post)) {k4 : Int32 → Int32 → sI → sJ → Prop} (hk4 : ∀ (x1 : Int32) (x2 : Int32) (I : sI) (J : sJ), k4 x1 x2 I J → sG X 6 4 [(0, .ref 248), (1, .int x1), (2, .int x2)] [] I J) {x1 : Int32} {x2 : Int32} {x3 : Int32} {x4 : Int32} {I : sI} {J : sJ} (hw : w_X12_standing_17 post k4 x1 x2 x3 x4 I J) : sG X 6 17 [(0, .ref 248), (1, .int x1), (2, .int x2), (3, .int x3), (4, .int x4)] [] I J := by
  obtain ⟨n, hw⟩ := hw
  induction n generalizing x1 x2 x3 x4 I J with
  | zero => exact hw.elim
  | succ n ih => exact t_X12_standing_17_s h hr hk4 (fun _ _ _ _ _ _ q => ih q) hw
def w_X12_standing_4_s (post : Int32 → sI → sJ → Prop) (k4 : Int32 → Int32 → sI → sJ → Prop) (x1 : Int32) (x2 : Int32) (I : sI) (J : sJ) : Prop :=
  (((I 248 46) ≤ x2 → post x1 I J) ∧ (¬ (I 248 46) ≤ x2 → w_X12_standing_17 post k4 x1 x2 1 0 I J))
def w_X12_standing_4_n (post : Int32 → sI → sJ → Prop) : Nat → Int32 → Int32 → sI → sJ → Prop
  | 0 => fun _ _ _ _ => False
  | n + 1 => fun x1 x2 I J => w_X12_standing_4_s post (w_X12_standing_4_n post n) x1 x2 I J
def w_X12_standing_4 (post : Int32 → sI → sJ → Prop) (x1 : Int32) (x2 : Int32) (I : sI) (J : sJ) : Prop := ∃ n, w_X12_standing_4_n post n x1 x2 I J
set_option maxHeartbeats 4000000 in
set_option maxRecDepth 100000 in
theorem t_X12_standing_4_s {X : sX} {post : Int32 → sI → sJ → Prop} (h : sOK X cX12_standing RX12 6 0 0) (hr : sRt X (some .int) (sPi post)) {k4 : Int32 → Int32 → sI → sJ → Prop} (hk4 : ∀ (x1 : Int32) (x2 : Int32) (I : sI) (J : sJ), k4 x1 x2 I J → sG X 6 4 [(0, .ref 248), (1, .int x1), (2, .int x2)] [] I J) {x1 : Int32} {x2 : Int32} {I : sI} {J : sJ} (hw : w_X12_standing_4_s post k4 x1 x2 I J) : sG X 6 4 [(0, .ref 248), (1, .int x1), (2, .int x2)] [] I J := by
  unfold w_X12_standing_4_s at hw
  refine g_iload_n h rfl 2 rfl dX12_standing_4 ?_
  refine g_aload_n h rfl 0 rfl dX12_standing_5 ?_
  refine g_get h is_248 fl_X12_353 rfl dX12_standing_6 ?_
  refine g_icmp_ge (tgt := 101) h (by decide) dX12_standing_9 (fun q9 => ?_) (fun q9 => ?_)
  · replace hw := hw.1 q9
    refine g_iload_n h rfl 1 rfl dX12_standing_101 ?_
    exact g_iret h hr dX12_standing_102 hw
  · replace hw := hw.2 q9
    refine g_iconst (v := 1) h (by decide) dX12_standing_12 ?_
    refine g_istore_n (lo2 := [(3, .int 1), (0, .ref 248), (1, .int x1), (2, .int x2)]) h rfl (by decide) rfl dX12_standing_13 ?_
    refine g_iconst (v := 0) h (by decide) dX12_standing_14 ?_
    refine g_istore (lo2 := [(4, .int 0), (3, .int 1), (0, .ref 248), (1, .int x1), (2, .int x2)]) h (by decide) rfl dX12_standing_15 ?_
    exact g_sub [2, 3, 4, 1, 0] rfl (t_X12_standing_17 h hr hk4 hw)
theorem t_X12_standing_4 {X : sX} {post : Int32 → sI → sJ → Prop} (h : sOK X cX12_standing RX12 6 0 0) (hr : sRt X (some .int) (sPi post)) {x1 : Int32} {x2 : Int32} {I : sI} {J : sJ} (hw : w_X12_standing_4 post x1 x2 I J) : sG X 6 4 [(0, .ref 248), (1, .int x1), (2, .int x2)] [] I J := by
  obtain ⟨n, hw⟩ := hw
  induction n generalizing x1 x2 I J with
  | zero => exact hw.elim
  | succ n ih => exact t_X12_standing_4_s h hr (fun _ _ _ _ q => ih q) hw
def w_X12_standing (I : sI) (J : sJ) (post : Int32 → sI → sJ → Prop) : Prop :=
  w_X12_standing_4 post 0 0 I J
set_option maxHeartbeats 4000000 in
set_option maxRecDepth 100000 in
theorem t_X12_standing {X : sX} {I : sI} {J : sJ} {post : Int32 → sI → sJ → Prop} (h : sOK X cX12_standing RX12 6 0 0) (hr : sRt X (some .int) (sPi post)) (hw : w_X12_standing I J post) : sG X 6 0 [(0, .ref 248)] [] I J := by
  unfold w_X12_standing at hw
  refine g_iconst (v := 0) h (by decide) dX12_standing_0 ?_
  refine g_istore_n (lo2 := [(1, .int 0), (0, .ref 248)]) h rfl (by decide) rfl dX12_standing_1 ?_
  refine g_iconst (v := 0) h (by decide) dX12_standing_2 ?_
  refine g_istore_n (lo2 := [(2, .int 0), (1, .int 0), (0, .ref 248)]) h rfl (by decide) rfl dX12_standing_3 ?_
  exact g_sub [2, 1, 0] rfl (t_X12_standing_4 h hr hw)
theorem c_X12_standing (X : sX) {I : sI} {J : sJ} {post : Int32 → sI → sJ → Prop} (hw : w_X12_standing I J post) : sCall X yX12_standing cX12_standing 6 (some .int) 0 0 [.ref 248] I J (sPi post) := sCall_of (by decide +kernel) (Nat.le_of_ble_eq_true rfl) (fun X h hr => t_X12_standing h hr hw)
theorem dX12_stand_0 : decode cX12_stand 0 = .ok (.aload_n 0, 1) := by decide +kernel
theorem dX12_stand_1 : decode cX12_stand 1 = .ok (.iconst 0, 1) := by decide +kernel
theorem dX12_stand_2 : decode cX12_stand 2 = .ok (.putfield 1, 3) := by decide +kernel
theorem dX12_stand_5 : decode cX12_stand 5 = .ok (.aload_n 0, 1) := by decide +kernel
theorem dX12_stand_6 : decode cX12_stand 6 = .ok (.invokevirtual 368, 3) := by decide +kernel
theorem dX12_stand_9 : decode cX12_stand 9 = .ok (.ireturn, 1) := by decide +kernel
def w_X12_stand (I : sI) (J : sJ) (post : Int32 → sI → sJ → Prop) : Prop :=
  (∀ I_2 : sI, I_2 = sUI I 248 0 0 → w_X12_standing I_2 J (fun (r_6 : Int32) (I_6 : sI) (J_6 : sJ) => (post r_6 I_6 J_6)))
set_option maxHeartbeats 4000000 in
set_option maxRecDepth 100000 in
theorem t_X12_stand {X : sX} {I : sI} {J : sJ} {post : Int32 → sI → sJ → Prop} (h : sOK X cX12_stand RX12 1 1 25) (hr : sRt X (some .int) (sPi post)) (hw : w_X12_stand I J post) : sG X 1 0 [(0, .ref 248)] [] I J := by
  unfold w_X12_stand at hw
  refine g_aload_n h rfl 0 rfl dX12_stand_0 ?_
  refine g_iconst (v := 0) h (by decide) dX12_stand_1 ?_
  refine g_putI h is_248 fl_X12_1 rfl rfl dX12_stand_2 ?_
  refine g_nI (fun I_2 eI_2 => ?_)
  replace hw := hw I_2 eI_2
  refine g_aload_n h rfl 0 rfl dX12_stand_5 ?_
  refine g_callV [] h (c_X12_standing X hw) sPi_v mw_X12_standing lk_X12_368 is_248 rfl rfl ⟨by decide, by decide⟩ (Nat.le_of_ble_eq_true rfl) dX12_stand_6 (sPi_k (fun r_6 I_6 J_6 hw => ?_))
  exact g_iret h hr dX12_stand_9 hw
theorem c_X12_stand (X : sX) {I : sI} {J : sJ} {post : Int32 → sI → sJ → Prop} (hw : w_X12_stand I J post) : sCall X yX12_stand cX12_stand 1 (some .int) 1 25 [.ref 248] I J (sPi post) := sCall_of (by decide +kernel) (Nat.le_of_ble_eq_true rfl) (fun X h hr => t_X12_stand h hr hw)
theorem dX12_risks_0 : decode cX12_risks 0 = .ok (.aload_n 0, 1) := by decide +kernel
theorem dX12_risks_1 : decode cX12_risks 1 = .ok (.iconst 0, 1) := by decide +kernel
theorem dX12_risks_2 : decode cX12_risks 2 = .ok (.putfield 1, 3) := by decide +kernel
theorem dX12_risks_5 : decode cX12_risks 5 = .ok (.aload_n 0, 1) := by decide +kernel
theorem dX12_risks_6 : decode cX12_risks 6 = .ok (.iload_n 1, 1) := by decide +kernel
theorem dX12_risks_7 : decode cX12_risks 7 = .ok (.invokevirtual 356, 3) := by decide +kernel
theorem dX12_risks_10 : decode cX12_risks 10 = .ok (.ifCond .ne 5, 3) := by decide +kernel
theorem dX12_risks_13 : decode cX12_risks 13 = .ok (.iconst (-1), 1) := by decide +kernel
theorem dX12_risks_14 : decode cX12_risks 14 = .ok (.ireturn, 1) := by decide +kernel
theorem dX12_risks_15 : decode cX12_risks 15 = .ok (.aload_n 0, 1) := by decide +kernel
theorem dX12_risks_16 : decode cX12_risks 16 = .ok (.invokevirtual 368, 3) := by decide +kernel
theorem dX12_risks_19 : decode cX12_risks 19 = .ok (.istore_n 2, 1) := by decide +kernel
theorem dX12_risks_20 : decode cX12_risks 20 = .ok (.iconst 0, 1) := by decide +kernel
theorem dX12_risks_21 : decode cX12_risks 21 = .ok (.istore_n 3, 1) := by decide +kernel
theorem dX12_risks_22 : decode cX12_risks 22 = .ok (.iconst 0, 1) := by decide +kernel
theorem dX12_risks_23 : decode cX12_risks 23 = .ok (.istore 4, 2) := by decide +kernel
theorem dX12_risks_25 : decode cX12_risks 25 = .ok (.iconst 0, 1) := by decide +kernel
theorem dX12_risks_26 : decode cX12_risks 26 = .ok (.istore 5, 2) := by decide +kernel
theorem dX12_risks_28 : decode cX12_risks 28 = .ok (.iload 5, 2) := by decide +kernel
theorem dX12_risks_30 : decode cX12_risks 30 = .ok (.bipush 12, 2) := by decide +kernel
theorem dX12_risks_32 : decode cX12_risks 32 = .ok (.if_icmp .ge 128, 3) := by decide +kernel
theorem dX12_risks_35 : decode cX12_risks 35 = .ok (.aload_n 0, 1) := by decide +kernel
theorem dX12_risks_36 : decode cX12_risks 36 = .ok (.getfield 359, 3) := by decide +kernel
theorem dX12_risks_39 : decode cX12_risks 39 = .ok (.bipush 12, 2) := by decide +kernel
theorem dX12_risks_41 : decode cX12_risks 41 = .ok (.iload_n 1, 1) := by decide +kernel
theorem dX12_risks_42 : decode cX12_risks 42 = .ok (.imul, 1) := by decide +kernel
theorem dX12_risks_43 : decode cX12_risks 43 = .ok (.iload 5, 2) := by decide +kernel
theorem dX12_risks_45 : decode cX12_risks 45 = .ok (.iadd, 1) := by decide +kernel
theorem dX12_risks_46 : decode cX12_risks 46 = .ok (.iaload, 1) := by decide +kernel
theorem dX12_risks_47 : decode cX12_risks 47 = .ok (.istore 6, 2) := by decide +kernel
theorem dX12_risks_49 : decode cX12_risks 49 = .ok (.aload_n 0, 1) := by decide +kernel
theorem dX12_risks_50 : decode cX12_risks 50 = .ok (.getfield 365, 3) := by decide +kernel
theorem dX12_risks_53 : decode cX12_risks 53 = .ok (.iload 5, 2) := by decide +kernel
theorem dX12_risks_55 : decode cX12_risks 55 = .ok (.iaload, 1) := by decide +kernel
theorem dX12_risks_56 : decode cX12_risks 56 = .ok (.ifCond .ne 98, 3) := by decide +kernel
theorem dX12_risks_59 : decode cX12_risks 59 = .ok (.iload 6, 2) := by decide +kernel
theorem dX12_risks_61 : decode cX12_risks 61 = .ok (.ifCond .ne 6, 3) := by decide +kernel
theorem dX12_risks_64 : decode cX12_risks 64 = .ok (.goto 90, 3) := by decide +kernel
theorem dX12_risks_67 : decode cX12_risks 67 = .ok (.iinc 3 1, 3) := by decide +kernel
theorem dX12_risks_70 : decode cX12_risks 70 = .ok (.iconst 1, 1) := by decide +kernel
theorem dX12_risks_71 : decode cX12_risks 71 = .ok (.istore 7, 2) := by decide +kernel
theorem dX12_risks_73 : decode cX12_risks 73 = .ok (.iconst 0, 1) := by decide +kernel
theorem dX12_risks_74 : decode cX12_risks 74 = .ok (.istore 8, 2) := by decide +kernel
theorem dX12_risks_76 : decode cX12_risks 76 = .ok (.iload 8, 2) := by decide +kernel
theorem dX12_risks_78 : decode cX12_risks 78 = .ok (.aload_n 0, 1) := by decide +kernel
theorem dX12_risks_79 : decode cX12_risks 79 = .ok (.getfield 353, 3) := by decide +kernel
theorem dX12_risks_82 : decode cX12_risks 82 = .ok (.if_icmp .ge 54, 3) := by decide +kernel
theorem dX12_risks_85 : decode cX12_risks 85 = .ok (.iload 7, 2) := by decide +kernel
theorem dX12_risks_87 : decode cX12_risks 87 = .ok (.ifCond .eq 40, 3) := by decide +kernel
theorem dX12_risks_90 : decode cX12_risks 90 = .ok (.iload 8, 2) := by decide +kernel
theorem dX12_risks_92 : decode cX12_risks 92 = .ok (.iload_n 1, 1) := by decide +kernel
theorem dX12_risks_93 : decode cX12_risks 93 = .ok (.if_icmp .eq 30, 3) := by decide +kernel
theorem dX12_risks_96 : decode cX12_risks 96 = .ok (.iload_n 2, 1) := by decide +kernel
theorem dX12_risks_97 : decode cX12_risks 97 = .ok (.iload 8, 2) := by decide +kernel
theorem dX12_risks_99 : decode cX12_risks 99 = .ok (.invokestatic 242, 3) := by decide +kernel
theorem dX12_risks_102 : decode cX12_risks 102 = .ok (.ifCond .eq 21, 3) := by decide +kernel
theorem dX12_risks_105 : decode cX12_risks 105 = .ok (.aload_n 0, 1) := by decide +kernel
theorem dX12_risks_106 : decode cX12_risks 106 = .ok (.getfield 359, 3) := by decide +kernel
theorem dX12_risks_109 : decode cX12_risks 109 = .ok (.bipush 12, 2) := by decide +kernel
theorem dX12_risks_111 : decode cX12_risks 111 = .ok (.iload 8, 2) := by decide +kernel
theorem dX12_risks_113 : decode cX12_risks 113 = .ok (.imul, 1) := by decide +kernel
theorem dX12_risks_114 : decode cX12_risks 114 = .ok (.iload 5, 2) := by decide +kernel
theorem dX12_risks_116 : decode cX12_risks 116 = .ok (.iadd, 1) := by decide +kernel
theorem dX12_risks_117 : decode cX12_risks 117 = .ok (.iaload, 1) := by decide +kernel
theorem dX12_risks_118 : decode cX12_risks 118 = .ok (.iload 6, 2) := by decide +kernel
theorem dX12_risks_120 : decode cX12_risks 120 = .ok (.if_icmp .eq 7, 3) := by decide +kernel
theorem dX12_risks_123 : decode cX12_risks 123 = .ok (.iconst 1, 1) := by decide +kernel
theorem dX12_risks_124 : decode cX12_risks 124 = .ok (.goto 4, 3) := by decide +kernel
theorem dX12_risks_127 : decode cX12_risks 127 = .ok (.iconst 0, 1) := by decide +kernel
theorem dX12_risks_128 : decode cX12_risks 128 = .ok (.istore 7, 2) := by decide +kernel
theorem dX12_risks_130 : decode cX12_risks 130 = .ok (.iinc 8 1, 3) := by decide +kernel
theorem dX12_risks_133 : decode cX12_risks 133 = .ok (.goto (-57), 3) := by decide +kernel
theorem dX12_risks_136 : decode cX12_risks 136 = .ok (.iload 4, 2) := by decide +kernel
theorem dX12_risks_138 : decode cX12_risks 138 = .ok (.iload 7, 2) := by decide +kernel
theorem dX12_risks_140 : decode cX12_risks 140 = .ok (.ifCond .eq 10, 3) := by decide +kernel
theorem dX12_risks_143 : decode cX12_risks 143 = .ok (.iconst 1, 1) := by decide +kernel
theorem dX12_risks_144 : decode cX12_risks 144 = .ok (.iload 5, 2) := by decide +kernel
theorem dX12_risks_146 : decode cX12_risks 146 = .ok (.ishl, 1) := by decide +kernel
theorem dX12_risks_147 : decode cX12_risks 147 = .ok (.goto 4, 3) := by decide +kernel
theorem dX12_risks_150 : decode cX12_risks 150 = .ok (.iconst 0, 1) := by decide +kernel
theorem dX12_risks_151 : decode cX12_risks 151 = .ok (.ior, 1) := by decide +kernel
theorem dX12_risks_152 : decode cX12_risks 152 = .ok (.istore 4, 2) := by decide +kernel
theorem dX12_risks_154 : decode cX12_risks 154 = .ok (.iinc 5 1, 3) := by decide +kernel
theorem dX12_risks_157 : decode cX12_risks 157 = .ok (.goto (-129), 3) := by decide +kernel
theorem dX12_risks_160 : decode cX12_risks 160 = .ok (.aload_n 0, 1) := by decide +kernel
theorem dX12_risks_161 : decode cX12_risks 161 = .ok (.iconst 0, 1) := by decide +kernel
theorem dX12_risks_162 : decode cX12_risks 162 = .ok (.putfield 11, 3) := by decide +kernel
theorem dX12_risks_165 : decode cX12_risks 165 = .ok (.aload_n 0, 1) := by decide +kernel
theorem dX12_risks_166 : decode cX12_risks 166 = .ok (.iload 4, 2) := by decide +kernel
theorem dX12_risks_168 : decode cX12_risks 168 = .ok (.i2l, 1) := by decide +kernel
theorem dX12_risks_169 : decode cX12_risks 169 = .ok (.invokevirtual 18, 3) := by decide +kernel
theorem dX12_risks_172 : decode cX12_risks 172 = .ok (.iload_n 3, 1) := by decide +kernel
theorem dX12_risks_173 : decode cX12_risks 173 = .ok (.ireturn, 1) := by decide +kernel
def w_X12_risks_154 (post : Int32 → sI → sJ → Prop) (k28 : Int32 → Int32 → Int32 → Int32 → Int32 → sI → sJ → Prop) (x1 : Int32) (x2 : Int32) (x3 : Int32) (x4 : Int32) (x5 : Int32) (I : sI) (J : sJ) : Prop :=
  (∀ v5_154 : Int32, v5_154 = x5 + 1 → k28 x1 x2 x3 x4 v5_154 I J)
set_option maxHeartbeats 4000000 in
set_option maxRecDepth 100000 in
theorem t_X12_risks_154 {X : sX} {post : Int32 → sI → sJ → Prop} (h : sOK X cX12_risks RX12 9 2 46) (hr : sRt X (some .int) (sPi post)) {k28 : Int32 → Int32 → Int32 → Int32 → Int32 → sI → sJ → Prop} (hk28 : ∀ (x1 : Int32) (x2 : Int32) (x3 : Int32) (x4 : Int32) (x5 : Int32) (I : sI) (J : sJ), k28 x1 x2 x3 x4 x5 I J → sG X 9 28 [(0, .ref 248), (1, .int x1), (2, .int x2), (3, .int x3), (4, .int x4), (5, .int x5)] [] I J) {x1 : Int32} {x2 : Int32} {x3 : Int32} {x4 : Int32} {x5 : Int32} {I : sI} {J : sJ} (hw : w_X12_risks_154 post k28 x1 x2 x3 x4 x5 I J) : sG X 9 154 [(0, .ref 248), (1, .int x1), (2, .int x2), (3, .int x3), (4, .int x4), (5, .int x5)] [] I J := by
  unfold w_X12_risks_154 at hw
  obtain ⟨v5_154, ev5_154⟩ : ∃ z : Int32, z = x5 + 1 := ⟨_, rfl⟩
  replace hw := hw v5_154 ev5_154
  refine g_iinc (v := v5_154) (lo2 := [(5, .int v5_154), (0, .ref 248), (1, .int x1), (2, .int x2), (3, .int x3), (4, .int x4)]) h 5 rfl (by rw [ev5_154]; rfl) (by decide) rfl dX12_risks_154 ?_
  refine g_goto (tgt := 28) h (by decide) dX12_risks_157 ?_
  exact g_sub [1, 2, 3, 4, 5, 0] rfl (hk28 _ _ _ _ _ _ _ hw)
def w_X12_risks_151 (post : Int32 → sI → sJ → Prop) (k28 : Int32 → Int32 → Int32 → Int32 → Int32 → sI → sJ → Prop) (x1 : Int32) (x2 : Int32) (x3 : Int32) (x5 : Int32) (s0 : Int32) (s1 : Int32) (I : sI) (J : sJ) : Prop :=
  (∀ v4_152 : Int32, v4_152 = s1 ||| s0 → w_X12_risks_154 post k28 x1 x2 x3 v4_152 x5 I J)
set_option maxHeartbeats 4000000 in
set_option maxRecDepth 100000 in
theorem t_X12_risks_151 {X : sX} {post : Int32 → sI → sJ → Prop} (h : sOK X cX12_risks RX12 9 2 46) (hr : sRt X (some .int) (sPi post)) {k28 : Int32 → Int32 → Int32 → Int32 → Int32 → sI → sJ → Prop} (hk28 : ∀ (x1 : Int32) (x2 : Int32) (x3 : Int32) (x4 : Int32) (x5 : Int32) (I : sI) (J : sJ), k28 x1 x2 x3 x4 x5 I J → sG X 9 28 [(0, .ref 248), (1, .int x1), (2, .int x2), (3, .int x3), (4, .int x4), (5, .int x5)] [] I J) {x1 : Int32} {x2 : Int32} {x3 : Int32} {x5 : Int32} {s0 : Int32} {s1 : Int32} {I : sI} {J : sJ} (hw : w_X12_risks_151 post k28 x1 x2 x3 x5 s0 s1 I J) : sG X 9 151 [(0, .ref 248), (1, .int x1), (2, .int x2), (3, .int x3), (5, .int x5)] [.int s0, .int s1] I J := by
  unfold w_X12_risks_151 at hw
  refine g_ior h dX12_risks_151 ?_
  refine g_ni (fun v4_152 ev4_152 => ?_)
  replace hw := hw v4_152 ev4_152
  refine g_istore (lo2 := [(4, .int v4_152), (0, .ref 248), (1, .int x1), (2, .int x2), (3, .int x3), (5, .int x5)]) h (by decide) rfl dX12_risks_152 ?_
  exact g_sub [1, 2, 3, 4, 0, 5] rfl (t_X12_risks_154 h hr hk28 hw)
def w_X12_risks_128 (post : Int32 → sI → sJ → Prop) (k28 : Int32 → Int32 → Int32 → Int32 → Int32 → sI → sJ → Prop) (k76 : Int32 → Int32 → Int32 → Int32 → Int32 → Int32 → Int32 → Int32 → sI → sJ → Prop) (x1 : Int32) (x2 : Int32) (x3 : Int32) (x4 : Int32) (x5 : Int32) (x6 : Int32) (x8 : Int32) (s0 : Int32) (I : sI) (J : sJ) : Prop :=
  (∀ v8_130 : Int32, v8_130 = x8 + 1 → k76 x1 x2 x3 x4 x5 x6 s0 v8_130 I J)
set_option maxHeartbeats 4000000 in
set_option maxRecDepth 100000 in
theorem t_X12_risks_128 {X : sX} {post : Int32 → sI → sJ → Prop} (h : sOK X cX12_risks RX12 9 2 46) (hr : sRt X (some .int) (sPi post)) {k28 : Int32 → Int32 → Int32 → Int32 → Int32 → sI → sJ → Prop} (hk28 : ∀ (x1 : Int32) (x2 : Int32) (x3 : Int32) (x4 : Int32) (x5 : Int32) (I : sI) (J : sJ), k28 x1 x2 x3 x4 x5 I J → sG X 9 28 [(0, .ref 248), (1, .int x1), (2, .int x2), (3, .int x3), (4, .int x4), (5, .int x5)] [] I J) {k76 : Int32 → Int32 → Int32 → Int32 → Int32 → Int32 → Int32 → Int32 → sI → sJ → Prop} (hk76 : ∀ (x1 : Int32) (x2 : Int32) (x3 : Int32) (x4 : Int32) (x5 : Int32) (x6 : Int32) (x7 : Int32) (x8 : Int32) (I : sI) (J : sJ), k76 x1 x2 x3 x4 x5 x6 x7 x8 I J → sG X 9 76 [(0, .ref 248), (1, .int x1), (2, .int x2), (3, .int x3), (4, .int x4), (5, .int x5), (6, .int x6), (7, .int x7), (8, .int x8)] [] I J) {x1 : Int32} {x2 : Int32} {x3 : Int32} {x4 : Int32} {x5 : Int32} {x6 : Int32} {x8 : Int32} {s0 : Int32} {I : sI} {J : sJ} (hw : w_X12_risks_128 post k28 k76 x1 x2 x3 x4 x5 x6 x8 s0 I J) : sG X 9 128 [(0, .ref 248), (1, .int x1), (2, .int x2), (3, .int x3), (4, .int x4), (5, .int x5), (6, .int x6), (8, .int x8)] [.int s0] I J := by
  unfold w_X12_risks_128 at hw
  refine g_istore (lo2 := [(7, .int s0), (0, .ref 248), (1, .int x1), (2, .int x2), (3, .int x3), (4, .int x4), (5, .int x5), (6, .int x6), (8, .int x8)]) h (by decide) rfl dX12_risks_128 ?_
  obtain ⟨v8_130, ev8_130⟩ : ∃ z : Int32, z = x8 + 1 := ⟨_, rfl⟩
  replace hw := hw v8_130 ev8_130
  refine g_iinc (v := v8_130) (lo2 := [(8, .int v8_130), (7, .int s0), (0, .ref 248), (1, .int x1), (2, .int x2), (3, .int x3), (4, .int x4), (5, .int x5), (6, .int x6)]) h 8 rfl (by rw [ev8_130]; rfl) (by decide) rfl dX12_risks_130 ?_
  refine g_goto (tgt := 76) h (by decide) dX12_risks_133 ?_
  exact g_sub [2, 3, 4, 5, 6, 7, 8, 1, 0] rfl (hk76 _ _ _ _ _ _ _ _ _ _ hw)
def w_X12_risks_127 (post : Int32 → sI → sJ → Prop) (k28 : Int32 → Int32 → Int32 → Int32 → Int32 → sI → sJ → Prop) (k76 : Int32 → Int32 → Int32 → Int32 → Int32 → Int32 → Int32 → Int32 → sI → sJ → Prop) (x1 : Int32) (x2 : Int32) (x3 : Int32) (x4 : Int32) (x5 : Int32) (x6 : Int32) (x8 : Int32) (I : sI) (J : sJ) : Prop :=
  w_X12_risks_128 post k28 k76 x1 x2 x3 x4 x5 x6 x8 0 I J
set_option maxHeartbeats 4000000 in
set_option maxRecDepth 100000 in
theorem t_X12_risks_127 {X : sX} {post : Int32 → sI → sJ → Prop} (h : sOK X cX12_risks RX12 9 2 46) (hr : sRt X (some .int) (sPi post)) {k28 : Int32 → Int32 → Int32 → Int32 → Int32 → sI → sJ → Prop} (hk28 : ∀ (x1 : Int32) (x2 : Int32) (x3 : Int32) (x4 : Int32) (x5 : Int32) (I : sI) (J : sJ), k28 x1 x2 x3 x4 x5 I J → sG X 9 28 [(0, .ref 248), (1, .int x1), (2, .int x2), (3, .int x3), (4, .int x4), (5, .int x5)] [] I J) {k76 : Int32 → Int32 → Int32 → Int32 → Int32 → Int32 → Int32 → Int32 → sI → sJ → Prop} (hk76 : ∀ (x1 : Int32) (x2 : Int32) (x3 : Int32) (x4 : Int32) (x5 : Int32) (x6 : Int32) (x7 : Int32) (x8 : Int32) (I : sI) (J : sJ), k76 x1 x2 x3 x4 x5 x6 x7 x8 I J → sG X 9 76 [(0, .ref 248), (1, .int x1), (2, .int x2), (3, .int x3), (4, .int x4), (5, .int x5), (6, .int x6), (7, .int x7), (8, .int x8)] [] I J) {x1 : Int32} {x2 : Int32} {x3 : Int32} {x4 : Int32} {x5 : Int32} {x6 : Int32} {x8 : Int32} {I : sI} {J : sJ} (hw : w_X12_risks_127 post k28 k76 x1 x2 x3 x4 x5 x6 x8 I J) : sG X 9 127 [(0, .ref 248), (1, .int x1), (2, .int x2), (3, .int x3), (4, .int x4), (5, .int x5), (6, .int x6), (8, .int x8)] [] I J := by
  unfold w_X12_risks_127 at hw
  refine g_iconst (v := 0) h (by decide) dX12_risks_127 ?_
  exact g_sub [0, 1, 2, 3, 4, 5, 6, 7] rfl (t_X12_risks_128 h hr hk28 hk76 hw)
def w_X12_risks_123 (post : Int32 → sI → sJ → Prop) (k28 : Int32 → Int32 → Int32 → Int32 → Int32 → sI → sJ → Prop) (k76 : Int32 → Int32 → Int32 → Int32 → Int32 → Int32 → Int32 → Int32 → sI → sJ → Prop) (x1 : Int32) (x2 : Int32) (x3 : Int32) (x4 : Int32) (x5 : Int32) (x6 : Int32) (x8 : Int32) (I : sI) (J : sJ) : Prop :=
  w_X12_risks_128 post k28 k76 x1 x2 x3 x4 x5 x6 x8 1 I J
set_option maxHeartbeats 4000000 in
set_option maxRecDepth 100000 in
theorem t_X12_risks_123 {X : sX} {post : Int32 → sI → sJ → Prop} (h : sOK X cX12_risks RX12 9 2 46) (hr : sRt X (some .int) (sPi post)) {k28 : Int32 → Int32 → Int32 → Int32 → Int32 → sI → sJ → Prop} (hk28 : ∀ (x1 : Int32) (x2 : Int32) (x3 : Int32) (x4 : Int32) (x5 : Int32) (I : sI) (J : sJ), k28 x1 x2 x3 x4 x5 I J → sG X 9 28 [(0, .ref 248), (1, .int x1), (2, .int x2), (3, .int x3), (4, .int x4), (5, .int x5)] [] I J) {k76 : Int32 → Int32 → Int32 → Int32 → Int32 → Int32 → Int32 → Int32 → sI → sJ → Prop} (hk76 : ∀ (x1 : Int32) (x2 : Int32) (x3 : Int32) (x4 : Int32) (x5 : Int32) (x6 : Int32) (x7 : Int32) (x8 : Int32) (I : sI) (J : sJ), k76 x1 x2 x3 x4 x5 x6 x7 x8 I J → sG X 9 76 [(0, .ref 248), (1, .int x1), (2, .int x2), (3, .int x3), (4, .int x4), (5, .int x5), (6, .int x6), (7, .int x7), (8, .int x8)] [] I J) {x1 : Int32} {x2 : Int32} {x3 : Int32} {x4 : Int32} {x5 : Int32} {x6 : Int32} {x8 : Int32} {I : sI} {J : sJ} (hw : w_X12_risks_123 post k28 k76 x1 x2 x3 x4 x5 x6 x8 I J) : sG X 9 123 [(0, .ref 248), (1, .int x1), (2, .int x2), (3, .int x3), (4, .int x4), (5, .int x5), (6, .int x6), (8, .int x8)] [] I J := by
  unfold w_X12_risks_123 at hw
  refine g_iconst (v := 1) h (by decide) dX12_risks_123 ?_
  refine g_goto (tgt := 128) h (by decide) dX12_risks_124 ?_
  exact g_sub [0, 1, 2, 3, 4, 5, 6, 7] rfl (t_X12_risks_128 h hr hk28 hk76 hw)
def w_X12_risks_76_s (post : Int32 → sI → sJ → Prop) (k28 : Int32 → Int32 → Int32 → Int32 → Int32 → sI → sJ → Prop) (k76 : Int32 → Int32 → Int32 → Int32 → Int32 → Int32 → Int32 → Int32 → sI → sJ → Prop) (x1 : Int32) (x2 : Int32) (x3 : Int32) (x4 : Int32) (x5 : Int32) (x6 : Int32) (x7 : Int32) (x8 : Int32) (I : sI) (J : sJ) : Prop :=
  (((I 248 46) ≤ x8 → ((x7 = 0 → w_X12_risks_151 post k28 x1 x2 x3 x5 0 x4 I J) ∧ (¬ x7 = 0 → w_X12_risks_151 post k28 x1 x2 x3 x5 (1 <<< (x5 &&& 31)) x4 I J))) ∧ (¬ (I 248 46) ≤ x8 → ((x7 = 0 → w_X12_risks_127 post k28 k76 x1 x2 x3 x4 x5 x6 x8 I J) ∧ (¬ x7 = 0 → ((x8 = x1 → w_X12_risks_123 post k28 k76 x1 x2 x3 x4 x5 x6 x8 I J) ∧ (¬ x8 = x1 → w_X12_has x2 x8 I J (fun (r_99 : Int32) (I_99 : sI) (J_99 : sJ) => (((r_99 = 0 → w_X12_risks_123 post k28 k76 x1 x2 x3 x4 x5 x6 x8 I_99 J_99) ∧ (¬ r_99 = 0 → (vp_in ((12 * x8) + x5) 120 ∧ (((I_99 275 (Int32.toNatClampNeg ((12 * x8) + x5))) = x6 → w_X12_risks_127 post k28 k76 x1 x2 x3 x4 x5 x6 x8 I_99 J_99) ∧ (¬ (I_99 275 (Int32.toNatClampNeg ((12 * x8) + x5))) = x6 → w_X12_risks_123 post k28 k76 x1 x2 x3 x4 x5 x6 x8 I_99 J_99)))))))))))))
def w_X12_risks_76_n (post : Int32 → sI → sJ → Prop) (k28 : Int32 → Int32 → Int32 → Int32 → Int32 → sI → sJ → Prop) : Nat → Int32 → Int32 → Int32 → Int32 → Int32 → Int32 → Int32 → Int32 → sI → sJ → Prop
  | 0 => fun _ _ _ _ _ _ _ _ _ _ => False
  | n + 1 => fun x1 x2 x3 x4 x5 x6 x7 x8 I J => w_X12_risks_76_s post k28 (w_X12_risks_76_n post k28 n) x1 x2 x3 x4 x5 x6 x7 x8 I J
def w_X12_risks_76 (post : Int32 → sI → sJ → Prop) (k28 : Int32 → Int32 → Int32 → Int32 → Int32 → sI → sJ → Prop) (x1 : Int32) (x2 : Int32) (x3 : Int32) (x4 : Int32) (x5 : Int32) (x6 : Int32) (x7 : Int32) (x8 : Int32) (I : sI) (J : sJ) : Prop := ∃ n, w_X12_risks_76_n post k28 n x1 x2 x3 x4 x5 x6 x7 x8 I J
set_option maxHeartbeats 4000000 in
set_option maxRecDepth 100000 in
theorem t_X12_risks_76_s {X : sX} {post : Int32 → sI → sJ → Prop} (h : sOK X cX12_risks RX12 9 2 46) (hr : sRt X (some .int) (sPi post)) {k28 : Int32 → Int32 → Int32 → Int32 → Int32 → sI → sJ → Prop} (hk28 : ∀ (x1 : Int32) (x2 : Int32) (x3 : Int32) (x4 : Int32) (x5 : Int32) (I : sI) (J : sJ), k28 x1 x2 x3 x4 x5 I J → sG X 9 28 [(0, .ref 248), (1, .int x1), (2, .int x2), (3, .int x3), (4, .int x4), (5, .int x5)] [] I J) {k76 : Int32 → Int32 → Int32 → Int32 → Int32 → Int32 → Int32 → Int32 → sI → sJ → Prop} (hk76 : ∀ (x1 : Int32) (x2 : Int32) (x3 : Int32) (x4 : Int32) (x5 : Int32) (x6 : Int32) (x7 : Int32) (x8 : Int32) (I : sI) (J : sJ), k76 x1 x2 x3 x4 x5 x6 x7 x8 I J → sG X 9 76 [(0, .ref 248), (1, .int x1), (2, .int x2), (3, .int x3), (4, .int x4), (5, .int x5), (6, .int x6), (7, .int x7), (8, .int x8)] [] I J) {x1 : Int32} {x2 : Int32} {x3 : Int32} {x4 : Int32} {x5 : Int32} {x6 : Int32} {x7 : Int32} {x8 : Int32} {I : sI} {J : sJ} (hw : w_X12_risks_76_s post k28 k76 x1 x2 x3 x4 x5 x6 x7 x8 I J) : sG X 9 76 [(0, .ref 248), (1, .int x1), (2, .int x2), (3, .int x3), (4, .int x4), (5, .int x5), (6, .int x6), (7, .int x7), (8, .int x8)] [] I J := by
  unfold w_X12_risks_76_s at hw
  refine g_iload h 8 rfl dX12_risks_76 ?_
  refine g_aload_n h rfl 0 rfl dX12_risks_78 ?_
  refine g_get h is_248 fl_X12_353 rfl dX12_risks_79 ?_
  refine g_icmp_ge (tgt := 136) h (by decide) dX12_risks_82 (fun q82 => ?_) (fun q82 => ?_)
  · replace hw := hw.1 q82
    refine g_iload h 4 rfl dX12_risks_136 ?_
    refine g_iload h 7 rfl dX12_risks_138 ?_
    refine g_if_eq (tgt := 150) h (by decide) dX12_risks_140 (fun q140 => ?_) (fun q140 => ?_)
    · replace hw := hw.1 q140
      refine g_iconst (v := 0) h (by decide) dX12_risks_150 ?_
      exact g_sub [0, 1, 2, 3, 5] rfl (t_X12_risks_151 h hr hk28 hw)
    · replace hw := hw.2 q140
      refine g_iconst (v := 1) h (by decide) dX12_risks_143 ?_
      refine g_iload h 5 rfl dX12_risks_144 ?_
      refine g_ishl h dX12_risks_146 ?_
      refine g_goto (tgt := 151) h (by decide) dX12_risks_147 ?_
      exact g_sub [0, 1, 2, 3, 5] rfl (t_X12_risks_151 h hr hk28 hw)
  · replace hw := hw.2 q82
    refine g_iload h 7 rfl dX12_risks_85 ?_
    refine g_if_eq (tgt := 127) h (by decide) dX12_risks_87 (fun q87 => ?_) (fun q87 => ?_)
    · replace hw := hw.1 q87
      exact g_sub [0, 1, 2, 3, 4, 5, 6, 8] rfl (t_X12_risks_127 h hr hk28 hk76 hw)
    · replace hw := hw.2 q87
      refine g_iload h 8 rfl dX12_risks_90 ?_
      refine g_iload_n h rfl 1 rfl dX12_risks_92 ?_
      refine g_icmp_eq (tgt := 123) h (by decide) dX12_risks_93 (fun q93 => ?_) (fun q93 => ?_)
      · replace hw := hw.1 q93
        exact g_sub [0, 1, 2, 3, 4, 5, 6, 8] rfl (t_X12_risks_123 h hr hk28 hk76 hw)
      · replace hw := hw.2 q93
        refine g_iload_n h rfl 2 rfl dX12_risks_96 ?_
        refine g_iload h 8 rfl dX12_risks_97 ?_
        refine g_callS [.int x2, .int x8] h (c_X12_has X hw) sPi_v mw_X12_has lk_X12_242 rfl ⟨by decide, by decide⟩ (Nat.le_of_ble_eq_true rfl) dX12_risks_99 (sPi_k (fun r_99 I_99 J_99 hw => ?_))
        refine g_if_eq (tgt := 123) h (by decide) dX12_risks_102 (fun q102 => ?_) (fun q102 => ?_)
        · replace hw := hw.1 q102
          exact g_sub [0, 1, 2, 3, 4, 5, 6, 8] rfl (t_X12_risks_123 h hr hk28 hk76 hw)
        · replace hw := hw.2 q102
          refine g_aload_n h rfl 0 rfl dX12_risks_105 ?_
          refine g_get h is_248 fl_X12_359 fr_248_47 dX12_risks_106 ?_
          refine g_bipush (v := 12) h (by decide) dX12_risks_109 ?_
          refine g_iload h 8 rfl dX12_risks_111 ?_
          refine g_imul h dX12_risks_113 ?_
          refine g_iload h 5 rfl dX12_risks_114 ?_
          refine g_iadd h dX12_risks_116 ?_
          obtain ⟨hi117, hw⟩ := hw
          refine g_iald h ar_275 hi117 dX12_risks_117 ?_
          refine g_iload h 6 rfl dX12_risks_118 ?_
          refine g_icmp_eq (tgt := 127) h (by decide) dX12_risks_120 (fun q120 => ?_) (fun q120 => ?_)
          · replace hw := hw.1 q120
            exact g_sub [0, 1, 2, 3, 4, 5, 6, 8] rfl (t_X12_risks_127 h hr hk28 hk76 hw)
          · replace hw := hw.2 q120
            exact g_sub [0, 1, 2, 3, 4, 5, 6, 8] rfl (t_X12_risks_123 h hr hk28 hk76 hw)
theorem t_X12_risks_76 {X : sX} {post : Int32 → sI → sJ → Prop} (h : sOK X cX12_risks RX12 9 2 46) (hr : sRt X (some .int) (sPi post)) {k28 : Int32 → Int32 → Int32 → Int32 → Int32 → sI → sJ → Prop} (hk28 : ∀ (x1 : Int32) (x2 : Int32) (x3 : Int32) (x4 : Int32) (x5 : Int32) (I : sI) (J : sJ), k28 x1 x2 x3 x4 x5 I J → sG X 9 28 [(0, .ref 248), (1, .int x1), (2, .int x2), (3, .int x3), (4, .int x4), (5, .int x5)] [] I J) {x1 : Int32} {x2 : Int32} {x3 : Int32} {x4 : Int32} {x5 : Int32} {x6 : Int32} {x7 : Int32} {x8 : Int32} {I : sI} {J : sJ} (hw : w_X12_risks_76 post k28 x1 x2 x3 x4 x5 x6 x7 x8 I J) : sG X 9 76 [(0, .ref 248), (1, .int x1), (2, .int x2), (3, .int x3), (4, .int x4), (5, .int x5), (6, .int x6), (7, .int x7), (8, .int x8)] [] I J := by
  obtain ⟨n, hw⟩ := hw
  induction n generalizing x1 x2 x3 x4 x5 x6 x7 x8 I J with
  | zero => exact hw.elim
  | succ n ih => exact t_X12_risks_76_s h hr hk28 (fun _ _ _ _ _ _ _ _ _ _ q => ih q) hw
def w_X12_risks_28_s (post : Int32 → sI → sJ → Prop) (k28 : Int32 → Int32 → Int32 → Int32 → Int32 → sI → sJ → Prop) (x1 : Int32) (x2 : Int32) (x3 : Int32) (x4 : Int32) (x5 : Int32) (I : sI) (J : sJ) : Prop :=
  ((12 ≤ x5 → (∀ I_162 : sI, I_162 = sUI I 248 1 0 → w_X12_enters (Int32.toInt64 x4) I_162 J (fun (I_169 : sI) (J_169 : sJ) => (post x3 I_169 J_169)))) ∧ (¬ 12 ≤ x5 → (vp_in ((12 * x1) + x5) 120 ∧ (∀ v6_47 : Int32, v6_47 = I 275 (Int32.toNatClampNeg ((12 * x1) + x5)) → (vp_in x5 12 ∧ ((¬ (I 276 (Int32.toNatClampNeg x5)) = 0 → w_X12_risks_154 post k28 x1 x2 x3 x4 x5 I J) ∧ ((I 276 (Int32.toNatClampNeg x5)) = 0 → ((¬ v6_47 = 0 → (∀ v3_67 : Int32, v3_67 = x3 + 1 → w_X12_risks_76 post k28 x1 x2 v3_67 x4 x5 v6_47 1 0 I J)) ∧ (v6_47 = 0 → w_X12_risks_154 post k28 x1 x2 x3 x4 x5 I J)))))))))
def w_X12_risks_28_n (post : Int32 → sI → sJ → Prop) : Nat → Int32 → Int32 → Int32 → Int32 → Int32 → sI → sJ → Prop
  | 0 => fun _ _ _ _ _ _ _ => False
  | n + 1 => fun x1 x2 x3 x4 x5 I J => w_X12_risks_28_s post (w_X12_risks_28_n post n) x1 x2 x3 x4 x5 I J
def w_X12_risks_28 (post : Int32 → sI → sJ → Prop) (x1 : Int32) (x2 : Int32) (x3 : Int32) (x4 : Int32) (x5 : Int32) (I : sI) (J : sJ) : Prop := ∃ n, w_X12_risks_28_n post n x1 x2 x3 x4 x5 I J
set_option maxHeartbeats 4000000 in
set_option maxRecDepth 100000 in
theorem t_X12_risks_28_s {X : sX} {post : Int32 → sI → sJ → Prop} (h : sOK X cX12_risks RX12 9 2 46) (hr : sRt X (some .int) (sPi post)) {k28 : Int32 → Int32 → Int32 → Int32 → Int32 → sI → sJ → Prop} (hk28 : ∀ (x1 : Int32) (x2 : Int32) (x3 : Int32) (x4 : Int32) (x5 : Int32) (I : sI) (J : sJ), k28 x1 x2 x3 x4 x5 I J → sG X 9 28 [(0, .ref 248), (1, .int x1), (2, .int x2), (3, .int x3), (4, .int x4), (5, .int x5)] [] I J) {x1 : Int32} {x2 : Int32} {x3 : Int32} {x4 : Int32} {x5 : Int32} {I : sI} {J : sJ} (hw : w_X12_risks_28_s post k28 x1 x2 x3 x4 x5 I J) : sG X 9 28 [(0, .ref 248), (1, .int x1), (2, .int x2), (3, .int x3), (4, .int x4), (5, .int x5)] [] I J := by
  unfold w_X12_risks_28_s at hw
  refine g_iload h 5 rfl dX12_risks_28 ?_
  refine g_bipush (v := 12) h (by decide) dX12_risks_30 ?_
  refine g_icmp_ge (tgt := 160) h (by decide) dX12_risks_32 (fun q32 => ?_) (fun q32 => ?_)
  · replace hw := hw.1 q32
    refine g_aload_n h rfl 0 rfl dX12_risks_160 ?_
    refine g_iconst (v := 0) h (by decide) dX12_risks_161 ?_
    refine g_putI h is_248 fl_X12_11 rfl rfl dX12_risks_162 ?_
    refine g_nI (fun I_162 eI_162 => ?_)
    replace hw := hw I_162 eI_162
    refine g_aload_n h rfl 0 rfl dX12_risks_165 ?_
    refine g_iload h 4 rfl dX12_risks_166 ?_
    refine g_i2l h dX12_risks_168 ?_
    refine g_callV [.long (Int32.toInt64 x4)] h (c_X12_enters X hw) sPv_v mw_X12_enters lk_X12_18 is_248 rfl rfl ⟨by decide, by decide⟩ (Nat.le_of_ble_eq_true rfl) dX12_risks_169 (sPv_k (fun I_169 J_169 hw => ?_))
    refine g_iload_n h rfl 3 rfl dX12_risks_172 ?_
    exact g_iret h hr dX12_risks_173 hw
  · replace hw := hw.2 q32
    refine g_aload_n h rfl 0 rfl dX12_risks_35 ?_
    refine g_get h is_248 fl_X12_359 fr_248_47 dX12_risks_36 ?_
    refine g_bipush (v := 12) h (by decide) dX12_risks_39 ?_
    refine g_iload_n h rfl 1 rfl dX12_risks_41 ?_
    refine g_imul h dX12_risks_42 ?_
    refine g_iload h 5 rfl dX12_risks_43 ?_
    refine g_iadd h dX12_risks_45 ?_
    obtain ⟨hi46, hw⟩ := hw
    refine g_iald h ar_275 hi46 dX12_risks_46 ?_
    refine g_ni (fun v6_47 ev6_47 => ?_)
    replace hw := hw v6_47 ev6_47
    refine g_istore (lo2 := [(6, .int v6_47), (0, .ref 248), (1, .int x1), (2, .int x2), (3, .int x3), (4, .int x4), (5, .int x5)]) h (by decide) rfl dX12_risks_47 ?_
    refine g_aload_n h rfl 1 rfl dX12_risks_49 ?_
    refine g_get h is_248 fl_X12_365 fr_248_48 dX12_risks_50 ?_
    refine g_iload h 6 rfl dX12_risks_53 ?_
    obtain ⟨hi55, hw⟩ := hw
    refine g_iald h ar_276 hi55 dX12_risks_55 ?_
    refine g_if_ne (tgt := 154) h (by decide) dX12_risks_56 (fun q56 => ?_) (fun q56 => ?_)
    · replace hw := hw.1 q56
      exact g_sub [1, 2, 3, 4, 5, 6] rfl (t_X12_risks_154 h hr hk28 hw)
    · replace hw := hw.2 q56
      refine g_iload h 0 rfl dX12_risks_59 ?_
      refine g_if_ne (tgt := 67) h (by decide) dX12_risks_61 (fun q61 => ?_) (fun q61 => ?_)
      · replace hw := hw.1 q61
        obtain ⟨v3_67, ev3_67⟩ : ∃ z : Int32, z = x3 + 1 := ⟨_, rfl⟩
        replace hw := hw v3_67 ev3_67
        refine g_iinc (v := v3_67) (lo2 := [(3, .int v3_67), (6, .int v6_47), (0, .ref 248), (1, .int x1), (2, .int x2), (4, .int x4), (5, .int x5)]) h 4 rfl (by rw [ev3_67]; rfl) (by decide) rfl dX12_risks_67 ?_
        refine g_iconst (v := 1) h (by decide) dX12_risks_70 ?_
        refine g_istore (lo2 := [(7, .int 1), (3, .int v3_67), (6, .int v6_47), (0, .ref 248), (1, .int x1), (2, .int x2), (4, .int x4), (5, .int x5)]) h (by decide) rfl dX12_risks_71 ?_
        refine g_iconst (v := 0) h (by decide) dX12_risks_73 ?_
        refine g_istore (lo2 := [(8, .int 0), (7, .int 1), (3, .int v3_67), (6, .int v6_47), (0, .ref 248), (1, .int x1), (2, .int x2), (4, .int x4), (5, .int x5)]) h (by decide) rfl dX12_risks_74 ?_
        exact g_sub [4, 5, 6, 2, 7, 8, 3, 1, 0] rfl (t_X12_risks_76 h hr hk28 hw)
      · replace hw := hw.2 q61
        refine g_goto (tgt := 154) h (by decide) dX12_risks_64 ?_
        exact g_sub [1, 2, 3, 4, 5, 6] rfl (t_X12_risks_154 h hr hk28 hw)
theorem t_X12_risks_28 {X : sX} {post : Int32 → sI → sJ → Prop} (h : sOK X cX12_risks RX12 9 2 46) (hr : sRt X (some .int) (sPi post)) {x1 : Int32} {x2 : Int32} {x3 : Int32} {x4 : Int32} {x5 : Int32} {I : sI} {J : sJ} (hw : w_X12_risks_28 post x1 x2 x3 x4 x5 I J) : sG X 9 28 [(0, .ref 248), (1, .int x1), (2, .int x2), (3, .int x3), (4, .int x4), (5, .int x5)] [] I J := by
  obtain ⟨n, hw⟩ := hw
  induction n generalizing x1 x2 x3 x4 x5 I J with
  | zero => exact hw.elim
  | succ n ih => exact t_X12_risks_28_s h hr (fun _ _ _ _ _ _ _ q => ih q) hw
def w_X12_risks (a1 : Int32) (I : sI) (J : sJ) (post : Int32 → sI → sJ → Prop) : Prop :=
  (∀ I_2 : sI, I_2 = sUI I 248 0 0 → w_X12_isClaim a1 I_2 J (fun (r_7 : Int32) (I_7 : sI) (J_7 : sJ) => (((¬ r_7 = 0 → w_X12_standing I_7 J_7 (fun (r_16 : Int32) (I_16 : sI) (J_16 : sJ) => (w_X12_risks_28 post a1 r_16 0 0 0 I_16 J_16))) ∧ (r_7 = 0 → post (-1) I_7 J_7)))))
set_option maxHeartbeats 4000000 in
set_option maxRecDepth 100000 in
theorem t_X12_risks {X : sX} {a1 : Int32} {I : sI} {J : sJ} {post : Int32 → sI → sJ → Prop} (h : sOK X cX12_risks RX12 9 2 46) (hr : sRt X (some .int) (sPi post)) (hw : w_X12_risks a1 I J post) : sG X 9 0 [(0, .ref 248), (1, .int a1)] [] I J := by
  unfold w_X12_risks at hw
  refine g_aload_n h rfl 0 rfl dX12_risks_0 ?_
  refine g_iconst (v := 0) h (by decide) dX12_risks_1 ?_
  refine g_putI h is_248 fl_X12_1 rfl rfl dX12_risks_2 ?_
  refine g_nI (fun I_2 eI_2 => ?_)
  replace hw := hw I_2 eI_2
  refine g_aload_n h rfl 0 rfl dX12_risks_5 ?_
  refine g_iload_n h rfl 1 rfl dX12_risks_6 ?_
  refine g_callV [.int a1] h (c_X12_isClaim X hw) sPi_v mw_X12_isClaim lk_X12_356 is_248 rfl rfl ⟨by decide, by decide⟩ (Nat.le_of_ble_eq_true rfl) dX12_risks_7 (sPi_k (fun r_7 I_7 J_7 hw => ?_))
  refine g_if_ne (tgt := 15) h (by decide) dX12_risks_10 (fun q10 => ?_) (fun q10 => ?_)
  · replace hw := hw.1 q10
    refine g_aload_n h rfl 0 rfl dX12_risks_15 ?_
    refine g_callV [] h (c_X12_standing X hw) sPi_v mw_X12_standing lk_X12_368 is_248 rfl rfl ⟨by decide, by decide⟩ (Nat.le_of_ble_eq_true rfl) dX12_risks_16 (sPi_k (fun r_16 I_16 J_16 hw => ?_))
    refine g_istore_n (lo2 := [(2, .int r_16), (0, .ref 248), (1, .int a1)]) h rfl (by decide) rfl dX12_risks_19 ?_
    refine g_iconst (v := 0) h (by decide) dX12_risks_20 ?_
    refine g_istore_n (lo2 := [(3, .int 0), (2, .int r_16), (0, .ref 248), (1, .int a1)]) h rfl (by decide) rfl dX12_risks_21 ?_
    refine g_iconst (v := 0) h (by decide) dX12_risks_22 ?_
    refine g_istore (lo2 := [(4, .int 0), (3, .int 0), (2, .int r_16), (0, .ref 248), (1, .int a1)]) h (by decide) rfl dX12_risks_23 ?_
    refine g_iconst (v := 0) h (by decide) dX12_risks_25 ?_
    refine g_istore (lo2 := [(5, .int 0), (4, .int 0), (3, .int 0), (2, .int r_16), (0, .ref 248), (1, .int a1)]) h (by decide) rfl dX12_risks_26 ?_
    exact g_sub [4, 5, 3, 2, 1, 0] rfl (t_X12_risks_28 h hr hw)
  · replace hw := hw.2 q10
    refine g_iconst (v := (-1)) h (by decide) dX12_risks_13 ?_
    exact g_iret h hr dX12_risks_14 hw
theorem c_X12_risks (X : sX) {a1 : Int32} {I : sI} {J : sJ} {post : Int32 → sI → sJ → Prop} (hw : w_X12_risks a1 I J post) : sCall X yX12_risks cX12_risks 9 (some .int) 2 46 [.ref 248, .int a1] I J (sPi post) := sCall_of (by decide +kernel) (Nat.le_of_ble_eq_true rfl) (fun X h hr => t_X12_risks h hr hw)
theorem dX12_idle_0 : decode cX12_idle 0 = .ok (.aload_n 0, 1) := by decide +kernel
theorem dX12_idle_1 : decode cX12_idle 1 = .ok (.iconst 0, 1) := by decide +kernel
theorem dX12_idle_2 : decode cX12_idle 2 = .ok (.putfield 1, 3) := by decide +kernel
theorem dX12_idle_5 : decode cX12_idle 5 = .ok (.aload_n 0, 1) := by decide +kernel
theorem dX12_idle_6 : decode cX12_idle 6 = .ok (.invokevirtual 368, 3) := by decide +kernel
theorem dX12_idle_9 : decode cX12_idle 9 = .ok (.istore_n 1, 1) := by decide +kernel
theorem dX12_idle_10 : decode cX12_idle 10 = .ok (.iconst 0, 1) := by decide +kernel
theorem dX12_idle_11 : decode cX12_idle 11 = .ok (.istore_n 2, 1) := by decide +kernel
theorem dX12_idle_12 : decode cX12_idle 12 = .ok (.iload_n 2, 1) := by decide +kernel
theorem dX12_idle_13 : decode cX12_idle 13 = .ok (.aload_n 0, 1) := by decide +kernel
theorem dX12_idle_14 : decode cX12_idle 14 = .ok (.getfield 353, 3) := by decide +kernel
theorem dX12_idle_17 : decode cX12_idle 17 = .ok (.if_icmp .ge 58, 3) := by decide +kernel
theorem dX12_idle_20 : decode cX12_idle 20 = .ok (.iconst 0, 1) := by decide +kernel
theorem dX12_idle_21 : decode cX12_idle 21 = .ok (.istore_n 3, 1) := by decide +kernel
theorem dX12_idle_22 : decode cX12_idle 22 = .ok (.iload_n 3, 1) := by decide +kernel
theorem dX12_idle_23 : decode cX12_idle 23 = .ok (.bipush 12, 2) := by decide +kernel
theorem dX12_idle_25 : decode cX12_idle 25 = .ok (.if_icmp .ge 44, 3) := by decide +kernel
theorem dX12_idle_28 : decode cX12_idle 28 = .ok (.iload_n 1, 1) := by decide +kernel
theorem dX12_idle_29 : decode cX12_idle 29 = .ok (.aload_n 0, 1) := by decide +kernel
theorem dX12_idle_30 : decode cX12_idle 30 = .ok (.getfield 365, 3) := by decide +kernel
theorem dX12_idle_33 : decode cX12_idle 33 = .ok (.iload_n 3, 1) := by decide +kernel
theorem dX12_idle_34 : decode cX12_idle 34 = .ok (.iaload, 1) := by decide +kernel
theorem dX12_idle_35 : decode cX12_idle 35 = .ok (.ifCond .ne 25, 3) := by decide +kernel
theorem dX12_idle_38 : decode cX12_idle 38 = .ok (.aload_n 0, 1) := by decide +kernel
theorem dX12_idle_39 : decode cX12_idle 39 = .ok (.getfield 359, 3) := by decide +kernel
theorem dX12_idle_42 : decode cX12_idle 42 = .ok (.bipush 12, 2) := by decide +kernel
theorem dX12_idle_44 : decode cX12_idle 44 = .ok (.iload_n 2, 1) := by decide +kernel
theorem dX12_idle_45 : decode cX12_idle 45 = .ok (.imul, 1) := by decide +kernel
theorem dX12_idle_46 : decode cX12_idle 46 = .ok (.iload_n 3, 1) := by decide +kernel
theorem dX12_idle_47 : decode cX12_idle 47 = .ok (.iadd, 1) := by decide +kernel
theorem dX12_idle_48 : decode cX12_idle 48 = .ok (.iaload, 1) := by decide +kernel
theorem dX12_idle_49 : decode cX12_idle 49 = .ok (.ifCond .le 11, 3) := by decide +kernel
theorem dX12_idle_52 : decode cX12_idle 52 = .ok (.iconst 1, 1) := by decide +kernel
theorem dX12_idle_53 : decode cX12_idle 53 = .ok (.iload_n 2, 1) := by decide +kernel
theorem dX12_idle_54 : decode cX12_idle 54 = .ok (.ishl, 1) := by decide +kernel
theorem dX12_idle_55 : decode cX12_idle 55 = .ok (.iconst (-1), 1) := by decide +kernel
theorem dX12_idle_56 : decode cX12_idle 56 = .ok (.ixor, 1) := by decide +kernel
theorem dX12_idle_57 : decode cX12_idle 57 = .ok (.goto 4, 3) := by decide +kernel
theorem dX12_idle_60 : decode cX12_idle 60 = .ok (.iconst (-1), 1) := by decide +kernel
theorem dX12_idle_61 : decode cX12_idle 61 = .ok (.iand, 1) := by decide +kernel
theorem dX12_idle_62 : decode cX12_idle 62 = .ok (.istore_n 1, 1) := by decide +kernel
theorem dX12_idle_63 : decode cX12_idle 63 = .ok (.iinc 3 1, 3) := by decide +kernel
theorem dX12_idle_66 : decode cX12_idle 66 = .ok (.goto (-44), 3) := by decide +kernel
theorem dX12_idle_69 : decode cX12_idle 69 = .ok (.iinc 2 1, 3) := by decide +kernel
theorem dX12_idle_72 : decode cX12_idle 72 = .ok (.goto (-60), 3) := by decide +kernel
theorem dX12_idle_75 : decode cX12_idle 75 = .ok (.iload_n 1, 1) := by decide +kernel
theorem dX12_idle_76 : decode cX12_idle 76 = .ok (.ireturn, 1) := by decide +kernel
def w_X12_idle_61 (post : Int32 → sI → sJ → Prop) (k12 : Int32 → Int32 → sI → sJ → Prop) (k22 : Int32 → Int32 → Int32 → sI → sJ → Prop) (x2 : Int32) (x3 : Int32) (s0 : Int32) (s1 : Int32) (I : sI) (J : sJ) : Prop :=
  (∀ v1_62 : Int32, v1_62 = s1 &&& s0 → (∀ v3_63 : Int32, v3_63 = x3 + 1 → k22 v1_62 x2 v3_63 I J))
set_option maxHeartbeats 4000000 in
set_option maxRecDepth 100000 in
theorem t_X12_idle_61 {X : sX} {post : Int32 → sI → sJ → Prop} (h : sOK X cX12_idle RX12 4 1 25) (hr : sRt X (some .int) (sPi post)) {k12 : Int32 → Int32 → sI → sJ → Prop} (hk12 : ∀ (x1 : Int32) (x2 : Int32) (I : sI) (J : sJ), k12 x1 x2 I J → sG X 4 12 [(0, .ref 248), (1, .int x1), (2, .int x2)] [] I J) {k22 : Int32 → Int32 → Int32 → sI → sJ → Prop} (hk22 : ∀ (x1 : Int32) (x2 : Int32) (x3 : Int32) (I : sI) (J : sJ), k22 x1 x2 x3 I J → sG X 4 22 [(0, .ref 248), (1, .int x1), (2, .int x2), (3, .int x3)] [] I J) {x2 : Int32} {x3 : Int32} {s0 : Int32} {s1 : Int32} {I : sI} {J : sJ} (hw : w_X12_idle_61 post k12 k22 x2 x3 s0 s1 I J) : sG X 4 61 [(0, .ref 248), (2, .int x2), (3, .int x3)] [.int s0, .int s1] I J := by
  unfold w_X12_idle_61 at hw
  refine g_iand h dX12_idle_61 ?_
  refine g_ni (fun v1_62 ev1_62 => ?_)
  replace hw := hw v1_62 ev1_62
  refine g_istore_n (lo2 := [(1, .int v1_62), (0, .ref 248), (2, .int x2), (3, .int x3)]) h rfl (by decide) rfl dX12_idle_62 ?_
  obtain ⟨v3_63, ev3_63⟩ : ∃ z : Int32, z = x3 + 1 := ⟨_, rfl⟩
  replace hw := hw v3_63 ev3_63
  refine g_iinc (v := v3_63) (lo2 := [(3, .int v3_63), (1, .int v1_62), (0, .ref 248), (2, .int x2)]) h 3 rfl (by rw [ev3_63]; rfl) (by decide) rfl dX12_idle_63 ?_
  refine g_goto (tgt := 22) h (by decide) dX12_idle_66 ?_
  exact g_sub [2, 1, 3, 0] rfl (hk22 _ _ _ _ _ hw)
def w_X12_idle_60 (post : Int32 → sI → sJ → Prop) (k12 : Int32 → Int32 → sI → sJ → Prop) (k22 : Int32 → Int32 → Int32 → sI → sJ → Prop) (x2 : Int32) (x3 : Int32) (s0 : Int32) (I : sI) (J : sJ) : Prop :=
  w_X12_idle_61 post k12 k22 x2 x3 (-1) s0 I J
set_option maxHeartbeats 4000000 in
set_option maxRecDepth 100000 in
theorem t_X12_idle_60 {X : sX} {post : Int32 → sI → sJ → Prop} (h : sOK X cX12_idle RX12 4 1 25) (hr : sRt X (some .int) (sPi post)) {k12 : Int32 → Int32 → sI → sJ → Prop} (hk12 : ∀ (x1 : Int32) (x2 : Int32) (I : sI) (J : sJ), k12 x1 x2 I J → sG X 4 12 [(0, .ref 248), (1, .int x1), (2, .int x2)] [] I J) {k22 : Int32 → Int32 → Int32 → sI → sJ → Prop} (hk22 : ∀ (x1 : Int32) (x2 : Int32) (x3 : Int32) (I : sI) (J : sJ), k22 x1 x2 x3 I J → sG X 4 22 [(0, .ref 248), (1, .int x1), (2, .int x2), (3, .int x3)] [] I J) {x2 : Int32} {x3 : Int32} {s0 : Int32} {I : sI} {J : sJ} (hw : w_X12_idle_60 post k12 k22 x2 x3 s0 I J) : sG X 4 60 [(0, .ref 248), (2, .int x2), (3, .int x3)] [.int s0] I J := by
  unfold w_X12_idle_60 at hw
  refine g_iconst (v := (-1)) h (by decide) dX12_idle_60 ?_
  exact g_sub [0, 1, 2] rfl (t_X12_idle_61 h hr hk12 hk22 hw)
def w_X12_idle_22_s (post : Int32 → sI → sJ → Prop) (k12 : Int32 → Int32 → sI → sJ → Prop) (k22 : Int32 → Int32 → Int32 → sI → sJ → Prop) (x1 : Int32) (x2 : Int32) (x3 : Int32) (I : sI) (J : sJ) : Prop :=
  ((12 ≤ x3 → (∀ v2_69 : Int32, v2_69 = x2 + 1 → k12 x1 v2_69 I J)) ∧ (¬ 12 ≤ x3 → (vp_in x3 12 ∧ ((¬ (I 276 (Int32.toNatClampNeg x3)) = 0 → w_X12_idle_60 post k12 k22 x2 x3 x1 I J) ∧ ((I 276 (Int32.toNatClampNeg x3)) = 0 → (vp_in ((12 * x2) + x3) 120 ∧ (((I 275 (Int32.toNatClampNeg ((12 * x2) + x3))) ≤ 0 → w_X12_idle_60 post k12 k22 x2 x3 x1 I J) ∧ (¬ (I 275 (Int32.toNatClampNeg ((12 * x2) + x3))) ≤ 0 → w_X12_idle_61 post k12 k22 x2 x3 ((1 <<< (x2 &&& 31)) ^^^ (-1)) x1 I J))))))))
def w_X12_idle_22_n (post : Int32 → sI → sJ → Prop) (k12 : Int32 → Int32 → sI → sJ → Prop) : Nat → Int32 → Int32 → Int32 → sI → sJ → Prop
  | 0 => fun _ _ _ _ _ => False
  | n + 1 => fun x1 x2 x3 I J => w_X12_idle_22_s post k12 (w_X12_idle_22_n post k12 n) x1 x2 x3 I J
def w_X12_idle_22 (post : Int32 → sI → sJ → Prop) (k12 : Int32 → Int32 → sI → sJ → Prop) (x1 : Int32) (x2 : Int32) (x3 : Int32) (I : sI) (J : sJ) : Prop := ∃ n, w_X12_idle_22_n post k12 n x1 x2 x3 I J
set_option maxHeartbeats 4000000 in
set_option maxRecDepth 100000 in
theorem t_X12_idle_22_s {X : sX} {post : Int32 → sI → sJ → Prop} (h : sOK X cX12_idle RX12 4 1 25) (hr : sRt X (some .int) (sPi post)) {k12 : Int32 → Int32 → sI → sJ → Prop} (hk12 : ∀ (x1 : Int32) (x2 : Int32) (I : sI) (J : sJ), k12 x1 x2 I J → sG X 4 12 [(0, .ref 248), (1, .int x1), (2, .int x2)] [] I J) {k22 : Int32 → Int32 → Int32 → sI → sJ → Prop} (hk22 : ∀ (x1 : Int32) (x2 : Int32) (x3 : Int32) (I : sI) (J : sJ), k22 x1 x2 x3 I J → sG X 4 22 [(0, .ref 248), (1, .int x1), (2, .int x2), (3, .int x3)] [] I J) {x1 : Int32} {x2 : Int32} {x3 : Int32} {I : sI} {J : sJ} (hw : w_X12_idle_22_s post k12 k22 x1 x2 x3 I J) : sG X 4 22 [(0, .ref 248), (1, .int x1), (2, .int x2), (3, .int x3)] [] I J := by
  unfold w_X12_idle_22_s at hw
  refine g_iload_n h rfl 3 rfl dX12_idle_22 ?_
  refine g_bipush (v := 12) h (by decide) dX12_idle_23 ?_
  refine g_icmp_ge (tgt := 69) h (by decide) dX12_idle_25 (fun q25 => ?_) (fun q25 => ?_)
  · replace hw := hw.1 q25
    obtain ⟨v2_69, ev2_69⟩ : ∃ z : Int32, z = x2 + 1 := ⟨_, rfl⟩
    replace hw := hw v2_69 ev2_69
    refine g_iinc (v := v2_69) (lo2 := [(2, .int v2_69), (0, .ref 248), (1, .int x1), (3, .int x3)]) h 2 rfl (by rw [ev2_69]; rfl) (by decide) rfl dX12_idle_69 ?_
    refine g_goto (tgt := 12) h (by decide) dX12_idle_72 ?_
    exact g_sub [1, 2, 0] rfl (hk12 _ _ _ _ hw)
  · replace hw := hw.2 q25
    refine g_iload_n h rfl 1 rfl dX12_idle_28 ?_
    refine g_aload_n h rfl 0 rfl dX12_idle_29 ?_
    refine g_get h is_248 fl_X12_365 fr_248_48 dX12_idle_30 ?_
    refine g_iload_n h rfl 3 rfl dX12_idle_33 ?_
    obtain ⟨hi34, hw⟩ := hw
    refine g_iald h ar_276 hi34 dX12_idle_34 ?_
    refine g_if_ne (tgt := 60) h (by decide) dX12_idle_35 (fun q35 => ?_) (fun q35 => ?_)
    · replace hw := hw.1 q35
      exact g_sub [0, 2, 3] rfl (t_X12_idle_60 h hr hk12 hk22 hw)
    · replace hw := hw.2 q35
      refine g_aload_n h rfl 0 rfl dX12_idle_38 ?_
      refine g_get h is_248 fl_X12_359 fr_248_47 dX12_idle_39 ?_
      refine g_bipush (v := 12) h (by decide) dX12_idle_42 ?_
      refine g_iload_n h rfl 2 rfl dX12_idle_44 ?_
      refine g_imul h dX12_idle_45 ?_
      refine g_iload_n h rfl 3 rfl dX12_idle_46 ?_
      refine g_iadd h dX12_idle_47 ?_
      obtain ⟨hi48, hw⟩ := hw
      refine g_iald h ar_275 hi48 dX12_idle_48 ?_
      refine g_if_le (tgt := 60) h (by decide) dX12_idle_49 (fun q49 => ?_) (fun q49 => ?_)
      · replace hw := hw.1 q49
        exact g_sub [0, 2, 3] rfl (t_X12_idle_60 h hr hk12 hk22 hw)
      · replace hw := hw.2 q49
        refine g_iconst (v := 1) h (by decide) dX12_idle_52 ?_
        refine g_iload_n h rfl 2 rfl dX12_idle_53 ?_
        refine g_ishl h dX12_idle_54 ?_
        refine g_iconst (v := (-1)) h (by decide) dX12_idle_55 ?_
        refine g_ixor h dX12_idle_56 ?_
        refine g_goto (tgt := 61) h (by decide) dX12_idle_57 ?_
        exact g_sub [0, 2, 3] rfl (t_X12_idle_61 h hr hk12 hk22 hw)
theorem t_X12_idle_22 {X : sX} {post : Int32 → sI → sJ → Prop} (h : sOK X cX12_idle RX12 4 1 25) (hr : sRt X (some .int) (sPi post)) {k12 : Int32 → Int32 → sI → sJ → Prop} (hk12 : ∀ (x1 : Int32) (x2 : Int32) (I : sI) (J : sJ), k12 x1 x2 I J → sG X 4 12 [(0, .ref 248), (1, .int x1), (2, .int x2)] [] I J) {x1 : Int32} {x2 : Int32} {x3 : Int32} {I : sI} {J : sJ} (hw : w_X12_idle_22 post k12 x1 x2 x3 I J) : sG X 4 22 [(0, .ref 248), (1, .int x1), (2, .int x2), (3, .int x3)] [] I J := by
  obtain ⟨n, hw⟩ := hw
  induction n generalizing x1 x2 x3 I J with
  | zero => exact hw.elim
  | succ n ih => exact t_X12_idle_22_s h hr hk12 (fun _ _ _ _ _ q => ih q) hw
def w_X12_idle_12_s (post : Int32 → sI → sJ → Prop) (k12 : Int32 → Int32 → sI → sJ → Prop) (x1 : Int32) (x2 : Int32) (I : sI) (J : sJ) : Prop :=
  (((I 248 46) ≤ x2 → post x1 I J) ∧ (¬ (I 248 46) ≤ x2 → w_X12_idle_22 post k12 x1 x2 0 I J))
def w_X12_idle_12_n (post : Int32 → sI → sJ → Prop) : Nat → Int32 → Int32 → sI → sJ → Prop
  | 0 => fun _ _ _ _ => False
  | n + 1 => fun x1 x2 I J => w_X12_idle_12_s post (w_X12_idle_12_n post n) x1 x2 I J
def w_X12_idle_12 (post : Int32 → sI → sJ → Prop) (x1 : Int32) (x2 : Int32) (I : sI) (J : sJ) : Prop := ∃ n, w_X12_idle_12_n post n x1 x2 I J
set_option maxHeartbeats 4000000 in
set_option maxRecDepth 100000 in
theorem t_X12_idle_12_s {X : sX} {post : Int32 → sI → sJ → Prop} (h : sOK X cX12_idle RX12 4 1 25) (hr : sRt X (some .int) (sPi post)) {k12 : Int32 → Int32 → sI → sJ → Prop} (hk12 : ∀ (x1 : Int32) (x2 : Int32) (I : sI) (J : sJ), k12 x1 x2 I J → sG X 4 12 [(0, .ref 248), (1, .int x1), (2, .int x2)] [] I J) {x1 : Int32} {x2 : Int32} {I : sI} {J : sJ} (hw : w_X12_idle_12_s post k12 x1 x2 I J) : sG X 4 12 [(0, .ref 248), (1, .int x1), (2, .int x2)] [] I J := by
  unfold w_X12_idle_12_s at hw
  refine g_iload_n h rfl 2 rfl dX12_idle_12 ?_
  refine g_aload_n h rfl 0 rfl dX12_idle_13 ?_
  refine g_get h is_248 fl_X12_353 rfl dX12_idle_14 ?_
  refine g_icmp_ge (tgt := 75) h (by decide) dX12_idle_17 (fun q17 => ?_) (fun q17 => ?_)
  · replace hw := hw.1 q17
    refine g_iload_n h rfl 1 rfl dX12_idle_75 ?_
    exact g_iret h hr dX12_idle_76 hw
  · replace hw := hw.2 q17
    refine g_iconst (v := 0) h (by decide) dX12_idle_20 ?_
    refine g_istore_n (lo2 := [(3, .int 0), (0, .ref 248), (1, .int x1), (2, .int x2)]) h rfl (by decide) rfl dX12_idle_21 ?_
    exact g_sub [1, 2, 3, 0] rfl (t_X12_idle_22 h hr hk12 hw)
theorem t_X12_idle_12 {X : sX} {post : Int32 → sI → sJ → Prop} (h : sOK X cX12_idle RX12 4 1 25) (hr : sRt X (some .int) (sPi post)) {x1 : Int32} {x2 : Int32} {I : sI} {J : sJ} (hw : w_X12_idle_12 post x1 x2 I J) : sG X 4 12 [(0, .ref 248), (1, .int x1), (2, .int x2)] [] I J := by
  obtain ⟨n, hw⟩ := hw
  induction n generalizing x1 x2 I J with
  | zero => exact hw.elim
  | succ n ih => exact t_X12_idle_12_s h hr (fun _ _ _ _ q => ih q) hw
def w_X12_idle (I : sI) (J : sJ) (post : Int32 → sI → sJ → Prop) : Prop :=
  (∀ I_2 : sI, I_2 = sUI I 248 0 0 → w_X12_standing I_2 J (fun (r_6 : Int32) (I_6 : sI) (J_6 : sJ) => (w_X12_idle_12 post r_6 0 I_6 J_6)))
set_option maxHeartbeats 4000000 in
set_option maxRecDepth 100000 in
theorem t_X12_idle {X : sX} {I : sI} {J : sJ} {post : Int32 → sI → sJ → Prop} (h : sOK X cX12_idle RX12 4 1 25) (hr : sRt X (some .int) (sPi post)) (hw : w_X12_idle I J post) : sG X 4 0 [(0, .ref 248)] [] I J := by
  unfold w_X12_idle at hw
  refine g_aload_n h rfl 0 rfl dX12_idle_0 ?_
  refine g_iconst (v := 0) h (by decide) dX12_idle_1 ?_
  refine g_putI h is_248 fl_X12_1 rfl rfl dX12_idle_2 ?_
  refine g_nI (fun I_2 eI_2 => ?_)
  replace hw := hw I_2 eI_2
  refine g_aload_n h rfl 0 rfl dX12_idle_5 ?_
  refine g_callV [] h (c_X12_standing X hw) sPi_v mw_X12_standing lk_X12_368 is_248 rfl rfl ⟨by decide, by decide⟩ (Nat.le_of_ble_eq_true rfl) dX12_idle_6 (sPi_k (fun r_6 I_6 J_6 hw => ?_))
  refine g_istore_n (lo2 := [(1, .int r_6), (0, .ref 248)]) h rfl (by decide) rfl dX12_idle_9 ?_
  refine g_iconst (v := 0) h (by decide) dX12_idle_10 ?_
  refine g_istore_n (lo2 := [(2, .int 0), (1, .int r_6), (0, .ref 248)]) h rfl (by decide) rfl dX12_idle_11 ?_
  exact g_sub [2, 1, 0] rfl (t_X12_idle_12 h hr hw)
theorem c_X12_idle (X : sX) {I : sI} {J : sJ} {post : Int32 → sI → sJ → Prop} (hw : w_X12_idle I J post) : sCall X yX12_idle cX12_idle 4 (some .int) 1 25 [.ref 248] I J (sPi post) := sCall_of (by decide +kernel) (Nat.le_of_ble_eq_true rfl) (fun X h hr => t_X12_idle h hr hw)
theorem dX12_leftOf_0 : decode cX12_leftOf 0 = .ok (.iconst 0, 1) := by decide +kernel
theorem dX12_leftOf_1 : decode cX12_leftOf 1 = .ok (.istore 4, 2) := by decide +kernel
theorem dX12_leftOf_3 : decode cX12_leftOf 3 = .ok (.iconst 0, 1) := by decide +kernel
theorem dX12_leftOf_4 : decode cX12_leftOf 4 = .ok (.istore 5, 2) := by decide +kernel
theorem dX12_leftOf_6 : decode cX12_leftOf 6 = .ok (.iload 5, 2) := by decide +kernel
theorem dX12_leftOf_8 : decode cX12_leftOf 8 = .ok (.aload_n 0, 1) := by decide +kernel
theorem dX12_leftOf_9 : decode cX12_leftOf 9 = .ok (.getfield 353, 3) := by decide +kernel
theorem dX12_leftOf_12 : decode cX12_leftOf 12 = .ok (.if_icmp .ge 56, 3) := by decide +kernel
theorem dX12_leftOf_15 : decode cX12_leftOf 15 = .ok (.aload_n 0, 1) := by decide +kernel
theorem dX12_leftOf_16 : decode cX12_leftOf 16 = .ok (.getfield 359, 3) := by decide +kernel
theorem dX12_leftOf_19 : decode cX12_leftOf 19 = .ok (.bipush 12, 2) := by decide +kernel
theorem dX12_leftOf_21 : decode cX12_leftOf 21 = .ok (.iload 5, 2) := by decide +kernel
theorem dX12_leftOf_23 : decode cX12_leftOf 23 = .ok (.imul, 1) := by decide +kernel
theorem dX12_leftOf_24 : decode cX12_leftOf 24 = .ok (.iload_n 2, 1) := by decide +kernel
theorem dX12_leftOf_25 : decode cX12_leftOf 25 = .ok (.iadd, 1) := by decide +kernel
theorem dX12_leftOf_26 : decode cX12_leftOf 26 = .ok (.iaload, 1) := by decide +kernel
theorem dX12_leftOf_27 : decode cX12_leftOf 27 = .ok (.istore 6, 2) := by decide +kernel
theorem dX12_leftOf_29 : decode cX12_leftOf 29 = .ok (.iload 4, 2) := by decide +kernel
theorem dX12_leftOf_31 : decode cX12_leftOf 31 = .ok (.iload_n 1, 1) := by decide +kernel
theorem dX12_leftOf_32 : decode cX12_leftOf 32 = .ok (.iload 5, 2) := by decide +kernel
theorem dX12_leftOf_34 : decode cX12_leftOf 34 = .ok (.invokestatic 242, 3) := by decide +kernel
theorem dX12_leftOf_37 : decode cX12_leftOf 37 = .ok (.ifCond .eq 21, 3) := by decide +kernel
theorem dX12_leftOf_40 : decode cX12_leftOf 40 = .ok (.iload 6, 2) := by decide +kernel
theorem dX12_leftOf_42 : decode cX12_leftOf 42 = .ok (.ifCond .eq 9, 3) := by decide +kernel
theorem dX12_leftOf_45 : decode cX12_leftOf 45 = .ok (.iload 6, 2) := by decide +kernel
theorem dX12_leftOf_47 : decode cX12_leftOf 47 = .ok (.iload_n 3, 1) := by decide +kernel
theorem dX12_leftOf_48 : decode cX12_leftOf 48 = .ok (.if_icmp .ne 10, 3) := by decide +kernel
theorem dX12_leftOf_51 : decode cX12_leftOf 51 = .ok (.iconst 1, 1) := by decide +kernel
theorem dX12_leftOf_52 : decode cX12_leftOf 52 = .ok (.iload 5, 2) := by decide +kernel
theorem dX12_leftOf_54 : decode cX12_leftOf 54 = .ok (.ishl, 1) := by decide +kernel
theorem dX12_leftOf_55 : decode cX12_leftOf 55 = .ok (.goto 4, 3) := by decide +kernel
theorem dX12_leftOf_58 : decode cX12_leftOf 58 = .ok (.iconst 0, 1) := by decide +kernel
theorem dX12_leftOf_59 : decode cX12_leftOf 59 = .ok (.ior, 1) := by decide +kernel
theorem dX12_leftOf_60 : decode cX12_leftOf 60 = .ok (.istore 4, 2) := by decide +kernel
theorem dX12_leftOf_62 : decode cX12_leftOf 62 = .ok (.iinc 5 1, 3) := by decide +kernel
theorem dX12_leftOf_65 : decode cX12_leftOf 65 = .ok (.goto (-59), 3) := by decide +kernel
theorem dX12_leftOf_68 : decode cX12_leftOf 68 = .ok (.iload 4, 2) := by decide +kernel
theorem dX12_leftOf_70 : decode cX12_leftOf 70 = .ok (.ireturn, 1) := by decide +kernel
def w_X12_leftOf_59 (post : Int32 → sI → sJ → Prop) (k6 : Int32 → Int32 → Int32 → Int32 → Int32 → sI → sJ → Prop) (x1 : Int32) (x2 : Int32) (x3 : Int32) (x5 : Int32) (s0 : Int32) (s1 : Int32) (I : sI) (J : sJ) : Prop :=
  (∀ v4_60 : Int32, v4_60 = s1 ||| s0 → (∀ v5_62 : Int32, v5_62 = x5 + 1 → k6 x1 x2 x3 v4_60 v5_62 I J))
set_option maxHeartbeats 4000000 in
set_option maxRecDepth 100000 in
theorem t_X12_leftOf_59 {X : sX} {post : Int32 → sI → sJ → Prop} (h : sOK X cX12_leftOf RX12 7 1 21) (hr : sRt X (some .int) (sPi post)) {k6 : Int32 → Int32 → Int32 → Int32 → Int32 → sI → sJ → Prop} (hk6 : ∀ (x1 : Int32) (x2 : Int32) (x3 : Int32) (x4 : Int32) (x5 : Int32) (I : sI) (J : sJ), k6 x1 x2 x3 x4 x5 I J → sG X 7 6 [(0, .ref 248), (1, .int x1), (2, .int x2), (3, .int x3), (4, .int x4), (5, .int x5)] [] I J) {x1 : Int32} {x2 : Int32} {x3 : Int32} {x5 : Int32} {s0 : Int32} {s1 : Int32} {I : sI} {J : sJ} (hw : w_X12_leftOf_59 post k6 x1 x2 x3 x5 s0 s1 I J) : sG X 7 59 [(0, .ref 248), (1, .int x1), (2, .int x2), (3, .int x3), (5, .int x5)] [.int s0, .int s1] I J := by
  unfold w_X12_leftOf_59 at hw
  refine g_ior h dX12_leftOf_59 ?_
  refine g_ni (fun v4_60 ev4_60 => ?_)
  replace hw := hw v4_60 ev4_60
  refine g_istore (lo2 := [(4, .int v4_60), (0, .ref 248), (1, .int x1), (2, .int x2), (3, .int x3), (5, .int x5)]) h (by decide) rfl dX12_leftOf_60 ?_
  obtain ⟨v5_62, ev5_62⟩ : ∃ z : Int32, z = x5 + 1 := ⟨_, rfl⟩
  replace hw := hw v5_62 ev5_62
  refine g_iinc (v := v5_62) (lo2 := [(5, .int v5_62), (4, .int v4_60), (0, .ref 248), (1, .int x1), (2, .int x2), (3, .int x3)]) h 5 rfl (by rw [ev5_62]; rfl) (by decide) rfl dX12_leftOf_62 ?_
  refine g_goto (tgt := 6) h (by decide) dX12_leftOf_65 ?_
  exact g_sub [2, 3, 4, 5, 1, 0] rfl (hk6 _ _ _ _ _ _ _ hw)
def w_X12_leftOf_58 (post : Int32 → sI → sJ → Prop) (k6 : Int32 → Int32 → Int32 → Int32 → Int32 → sI → sJ → Prop) (x1 : Int32) (x2 : Int32) (x3 : Int32) (x5 : Int32) (s0 : Int32) (I : sI) (J : sJ) : Prop :=
  w_X12_leftOf_59 post k6 x1 x2 x3 x5 0 s0 I J
set_option maxHeartbeats 4000000 in
set_option maxRecDepth 100000 in
theorem t_X12_leftOf_58 {X : sX} {post : Int32 → sI → sJ → Prop} (h : sOK X cX12_leftOf RX12 7 1 21) (hr : sRt X (some .int) (sPi post)) {k6 : Int32 → Int32 → Int32 → Int32 → Int32 → sI → sJ → Prop} (hk6 : ∀ (x1 : Int32) (x2 : Int32) (x3 : Int32) (x4 : Int32) (x5 : Int32) (I : sI) (J : sJ), k6 x1 x2 x3 x4 x5 I J → sG X 7 6 [(0, .ref 248), (1, .int x1), (2, .int x2), (3, .int x3), (4, .int x4), (5, .int x5)] [] I J) {x1 : Int32} {x2 : Int32} {x3 : Int32} {x5 : Int32} {s0 : Int32} {I : sI} {J : sJ} (hw : w_X12_leftOf_58 post k6 x1 x2 x3 x5 s0 I J) : sG X 7 58 [(0, .ref 248), (1, .int x1), (2, .int x2), (3, .int x3), (5, .int x5)] [.int s0] I J := by
  unfold w_X12_leftOf_58 at hw
  refine g_iconst (v := 0) h (by decide) dX12_leftOf_58 ?_
  exact g_sub [0, 1, 2, 3, 4] rfl (t_X12_leftOf_59 h hr hk6 hw)
def w_X12_leftOf_51 (post : Int32 → sI → sJ → Prop) (k6 : Int32 → Int32 → Int32 → Int32 → Int32 → sI → sJ → Prop) (x1 : Int32) (x2 : Int32) (x3 : Int32) (x5 : Int32) (s0 : Int32) (I : sI) (J : sJ) : Prop :=
  w_X12_leftOf_59 post k6 x1 x2 x3 x5 (1 <<< (x5 &&& 31)) s0 I J
set_option maxHeartbeats 4000000 in
set_option maxRecDepth 100000 in
theorem t_X12_leftOf_51 {X : sX} {post : Int32 → sI → sJ → Prop} (h : sOK X cX12_leftOf RX12 7 1 21) (hr : sRt X (some .int) (sPi post)) {k6 : Int32 → Int32 → Int32 → Int32 → Int32 → sI → sJ → Prop} (hk6 : ∀ (x1 : Int32) (x2 : Int32) (x3 : Int32) (x4 : Int32) (x5 : Int32) (I : sI) (J : sJ), k6 x1 x2 x3 x4 x5 I J → sG X 7 6 [(0, .ref 248), (1, .int x1), (2, .int x2), (3, .int x3), (4, .int x4), (5, .int x5)] [] I J) {x1 : Int32} {x2 : Int32} {x3 : Int32} {x5 : Int32} {s0 : Int32} {I : sI} {J : sJ} (hw : w_X12_leftOf_51 post k6 x1 x2 x3 x5 s0 I J) : sG X 7 51 [(0, .ref 248), (1, .int x1), (2, .int x2), (3, .int x3), (5, .int x5)] [.int s0] I J := by
  unfold w_X12_leftOf_51 at hw
  refine g_iconst (v := 1) h (by decide) dX12_leftOf_51 ?_
  refine g_iload h 4 rfl dX12_leftOf_52 ?_
  refine g_ishl h dX12_leftOf_54 ?_
  refine g_goto (tgt := 59) h (by decide) dX12_leftOf_55 ?_
  exact g_sub [0, 1, 2, 3, 4] rfl (t_X12_leftOf_59 h hr hk6 hw)
def w_X12_leftOf_6_s (post : Int32 → sI → sJ → Prop) (k6 : Int32 → Int32 → Int32 → Int32 → Int32 → sI → sJ → Prop) (x1 : Int32) (x2 : Int32) (x3 : Int32) (x4 : Int32) (x5 : Int32) (I : sI) (J : sJ) : Prop :=
  (((I 248 46) ≤ x5 → post x4 I J) ∧ (¬ (I 248 46) ≤ x5 → (vp_in ((12 * x5) + x2) 120 ∧ (∀ v6_27 : Int32, v6_27 = I 275 (Int32.toNatClampNeg ((12 * x5) + x2)) → w_X12_has x1 x5 I J (fun (r_34 : Int32) (I_34 : sI) (J_34 : sJ) => (((r_34 = 0 → w_X12_leftOf_58 post k6 x1 x2 x3 x5 x4 I_34 J_34) ∧ (¬ r_34 = 0 → ((v6_27 = 0 → w_X12_leftOf_51 post k6 x1 x2 x3 x5 x4 I_34 J_34) ∧ (¬ v6_27 = 0 → ((¬ v6_27 = x3 → w_X12_leftOf_58 post k6 x1 x2 x3 x5 x4 I_34 J_34) ∧ (v6_27 = x3 → w_X12_leftOf_51 post k6 x1 x2 x3 x5 x4 I_34 J_34))))))))))))
def w_X12_leftOf_6_n (post : Int32 → sI → sJ → Prop) : Nat → Int32 → Int32 → Int32 → Int32 → Int32 → sI → sJ → Prop
  | 0 => fun _ _ _ _ _ _ _ => False
  | n + 1 => fun x1 x2 x3 x4 x5 I J => w_X12_leftOf_6_s post (w_X12_leftOf_6_n post n) x1 x2 x3 x4 x5 I J
def w_X12_leftOf_6 (post : Int32 → sI → sJ → Prop) (x1 : Int32) (x2 : Int32) (x3 : Int32) (x4 : Int32) (x5 : Int32) (I : sI) (J : sJ) : Prop := ∃ n, w_X12_leftOf_6_n post n x1 x2 x3 x4 x5 I J
set_option maxHeartbeats 4000000 in
set_option maxRecDepth 100000 in
theorem t_X12_leftOf_6_s {X : sX} {post : Int32 → sI → sJ → Prop} (h : sOK X cX12_leftOf RX12 7 1 21) (hr : sRt X (some .int) (sPi post)) {k6 : Int32 → Int32 → Int32 → Int32 → Int32 → sI → sJ → Prop} (hk6 : ∀ (x1 : Int32) (x2 : Int32) (x3 : Int32) (x4 : Int32) (x5 : Int32) (I : sI) (J : sJ), k6 x1 x2 x3 x4 x5 I J → sG X 7 6 [(0, .ref 248), (1, .int x1), (2, .int x2), (3, .int x3), (4, .int x4), (5, .int x5)] [] I J) {x1 : Int32} {x2 : Int32} {x3 : Int32} {x4 : Int32} {x5 : Int32} {I : sI} {J : sJ} (hw : w_X12_leftOf_6_s post k6 x1 x2 x3 x4 x5 I J) : sG X 7 6 [(0, .ref 248), (1, .int x1), (2, .int x2), (3, .int x3), (4, .int x4), (5, .int x5)] [] I J := by
  unfold w_X12_leftOf_6_s at hw
  refine g_iload h 5 rfl dX12_leftOf_6 ?_
  refine g_aload_n h rfl 0 rfl dX12_leftOf_8 ?_
  refine g_get h is_248 fl_X12_353 rfl dX12_leftOf_9 ?_
  refine g_icmp_ge (tgt := 68) h (by decide) dX12_leftOf_12 (fun q12 => ?_) (fun q12 => ?_)
  · replace hw := hw.1 q12
    refine g_iload h 4 rfl dX12_leftOf_68 ?_
    exact g_iret h hr dX12_leftOf_70 hw
  · replace hw := hw.2 q12
    refine g_aload_n h rfl 0 rfl dX12_leftOf_15 ?_
    refine g_get h is_248 fl_X12_359 fr_248_47 dX12_leftOf_16 ?_
    refine g_bipush (v := 12) h (by decide) dX12_leftOf_19 ?_
    refine g_iload h 5 rfl dX12_leftOf_21 ?_
    refine g_imul h dX12_leftOf_23 ?_
    refine g_iload_n h rfl 2 rfl dX12_leftOf_24 ?_
    refine g_iadd h dX12_leftOf_25 ?_
    obtain ⟨hi26, hw⟩ := hw
    refine g_iald h ar_275 hi26 dX12_leftOf_26 ?_
    refine g_ni (fun v6_27 ev6_27 => ?_)
    replace hw := hw v6_27 ev6_27
    refine g_istore (lo2 := [(6, .int v6_27), (0, .ref 248), (1, .int x1), (2, .int x2), (3, .int x3), (4, .int x4), (5, .int x5)]) h (by decide) rfl dX12_leftOf_27 ?_
    refine g_iload h 5 rfl dX12_leftOf_29 ?_
    refine g_iload_n h rfl 2 rfl dX12_leftOf_31 ?_
    refine g_iload h 6 rfl dX12_leftOf_32 ?_
    refine g_callS [.int x1, .int x5] h (c_X12_has X hw) sPi_v mw_X12_has lk_X12_242 rfl ⟨by decide, by decide⟩ (Nat.le_of_ble_eq_true rfl) dX12_leftOf_34 (sPi_k (fun r_34 I_34 J_34 hw => ?_))
    refine g_if_eq (tgt := 58) h (by decide) dX12_leftOf_37 (fun q37 => ?_) (fun q37 => ?_)
    · replace hw := hw.1 q37
      exact g_sub [1, 2, 3, 4, 6] rfl (t_X12_leftOf_58 h hr hk6 hw)
    · replace hw := hw.2 q37
      refine g_iload h 0 rfl dX12_leftOf_40 ?_
      refine g_if_eq (tgt := 51) h (by decide) dX12_leftOf_42 (fun q42 => ?_) (fun q42 => ?_)
      · replace hw := hw.1 q42
        exact g_sub [1, 2, 3, 4, 6] rfl (t_X12_leftOf_51 h hr hk6 hw)
      · replace hw := hw.2 q42
        refine g_iload h 0 rfl dX12_leftOf_45 ?_
        refine g_iload_n h rfl 4 rfl dX12_leftOf_47 ?_
        refine g_icmp_ne (tgt := 58) h (by decide) dX12_leftOf_48 (fun q48 => ?_) (fun q48 => ?_)
        · replace hw := hw.1 q48
          exact g_sub [1, 2, 3, 4, 6] rfl (t_X12_leftOf_58 h hr hk6 hw)
        · replace hw := hw.2 q48
          exact g_sub [1, 2, 3, 4, 6] rfl (t_X12_leftOf_51 h hr hk6 hw)
theorem t_X12_leftOf_6 {X : sX} {post : Int32 → sI → sJ → Prop} (h : sOK X cX12_leftOf RX12 7 1 21) (hr : sRt X (some .int) (sPi post)) {x1 : Int32} {x2 : Int32} {x3 : Int32} {x4 : Int32} {x5 : Int32} {I : sI} {J : sJ} (hw : w_X12_leftOf_6 post x1 x2 x3 x4 x5 I J) : sG X 7 6 [(0, .ref 248), (1, .int x1), (2, .int x2), (3, .int x3), (4, .int x4), (5, .int x5)] [] I J := by
  obtain ⟨n, hw⟩ := hw
  induction n generalizing x1 x2 x3 x4 x5 I J with
  | zero => exact hw.elim
  | succ n ih => exact t_X12_leftOf_6_s h hr (fun _ _ _ _ _ _ _ q => ih q) hw
def w_X12_leftOf (a1 : Int32) (a2 : Int32) (a3 : Int32) (I : sI) (J : sJ) (post : Int32 → sI → sJ → Prop) : Prop :=
  w_X12_leftOf_6 post a1 a2 a3 0 0 I J
set_option maxHeartbeats 4000000 in
set_option maxRecDepth 100000 in
theorem t_X12_leftOf {X : sX} {a1 : Int32} {a2 : Int32} {a3 : Int32} {I : sI} {J : sJ} {post : Int32 → sI → sJ → Prop} (h : sOK X cX12_leftOf RX12 7 1 21) (hr : sRt X (some .int) (sPi post)) (hw : w_X12_leftOf a1 a2 a3 I J post) : sG X 7 0 [(0, .ref 248), (1, .int a1), (2, .int a2), (3, .int a3)] [] I J := by
  unfold w_X12_leftOf at hw
  refine g_iconst (v := 0) h (by decide) dX12_leftOf_0 ?_
  refine g_istore (lo2 := [(4, .int 0), (0, .ref 248), (1, .int a1), (2, .int a2), (3, .int a3)]) h (by decide) rfl dX12_leftOf_1 ?_
  refine g_iconst (v := 0) h (by decide) dX12_leftOf_3 ?_
  refine g_istore (lo2 := [(5, .int 0), (4, .int 0), (0, .ref 248), (1, .int a1), (2, .int a2), (3, .int a3)]) h (by decide) rfl dX12_leftOf_4 ?_
  exact g_sub [2, 3, 4, 5, 1, 0] rfl (t_X12_leftOf_6 h hr hw)
theorem c_X12_leftOf (X : sX) {a1 : Int32} {a2 : Int32} {a3 : Int32} {I : sI} {J : sJ} {post : Int32 → sI → sJ → Prop} (hw : w_X12_leftOf a1 a2 a3 I J post) : sCall X yX12_leftOf cX12_leftOf 7 (some .int) 1 21 [.ref 248, .int a1, .int a2, .int a3] I J (sPi post) := sCall_of (by decide +kernel) (Nat.le_of_ble_eq_true rfl) (fun X h hr => t_X12_leftOf h hr hw)
theorem dX12_seek_0 : decode cX12_seek 0 = .ok (.aload_n 0, 1) := by decide +kernel
theorem dX12_seek_1 : decode cX12_seek 1 = .ok (.iconst 0, 1) := by decide +kernel
theorem dX12_seek_2 : decode cX12_seek 2 = .ok (.putfield 1, 3) := by decide +kernel
theorem dX12_seek_5 : decode cX12_seek 5 = .ok (.aload_n 0, 1) := by decide +kernel
theorem dX12_seek_6 : decode cX12_seek 6 = .ok (.invokevirtual 368, 3) := by decide +kernel
theorem dX12_seek_9 : decode cX12_seek 9 = .ok (.istore_n 1, 1) := by decide +kernel
theorem dX12_seek_10 : decode cX12_seek 10 = .ok (.iload_n 1, 1) := by decide +kernel
theorem dX12_seek_11 : decode cX12_seek 11 = .ok (.ifCond .ne 5, 3) := by decide +kernel
theorem dX12_seek_14 : decode cX12_seek 14 = .ok (.iconst (-1), 1) := by decide +kernel
theorem dX12_seek_15 : decode cX12_seek 15 = .ok (.ireturn, 1) := by decide +kernel
theorem dX12_seek_16 : decode cX12_seek 16 = .ok (.bipush (-2), 2) := by decide +kernel
theorem dX12_seek_18 : decode cX12_seek 18 = .ok (.istore_n 2, 1) := by decide +kernel
theorem dX12_seek_19 : decode cX12_seek 19 = .ok (.iconst 0, 1) := by decide +kernel
theorem dX12_seek_20 : decode cX12_seek 20 = .ok (.istore_n 3, 1) := by decide +kernel
theorem dX12_seek_21 : decode cX12_seek 21 = .ok (.iconst 0, 1) := by decide +kernel
theorem dX12_seek_22 : decode cX12_seek 22 = .ok (.istore 4, 2) := by decide +kernel
theorem dX12_seek_24 : decode cX12_seek 24 = .ok (.iload 4, 2) := by decide +kernel
theorem dX12_seek_26 : decode cX12_seek 26 = .ok (.bipush 12, 2) := by decide +kernel
theorem dX12_seek_28 : decode cX12_seek 28 = .ok (.if_icmp .ge 65, 3) := by decide +kernel
theorem dX12_seek_31 : decode cX12_seek 31 = .ok (.aload_n 0, 1) := by decide +kernel
theorem dX12_seek_32 : decode cX12_seek 32 = .ok (.getfield 365, 3) := by decide +kernel
theorem dX12_seek_35 : decode cX12_seek 35 = .ok (.iload 4, 2) := by decide +kernel
theorem dX12_seek_37 : decode cX12_seek 37 = .ok (.iaload, 1) := by decide +kernel
theorem dX12_seek_38 : decode cX12_seek 38 = .ok (.ifCond .eq 6, 3) := by decide +kernel
theorem dX12_seek_41 : decode cX12_seek 41 = .ok (.goto 46, 3) := by decide +kernel
theorem dX12_seek_44 : decode cX12_seek 44 = .ok (.aload_n 0, 1) := by decide +kernel
theorem dX12_seek_45 : decode cX12_seek 45 = .ok (.iload_n 1, 1) := by decide +kernel
theorem dX12_seek_46 : decode cX12_seek 46 = .ok (.iload 4, 2) := by decide +kernel
theorem dX12_seek_48 : decode cX12_seek 48 = .ok (.iconst 1, 1) := by decide +kernel
theorem dX12_seek_49 : decode cX12_seek 49 = .ok (.invokevirtual 371, 3) := by decide +kernel
theorem dX12_seek_52 : decode cX12_seek 52 = .ok (.invokestatic 278, 3) := by decide +kernel
theorem dX12_seek_55 : decode cX12_seek 55 = .ok (.aload_n 0, 1) := by decide +kernel
theorem dX12_seek_56 : decode cX12_seek 56 = .ok (.iload_n 1, 1) := by decide +kernel
theorem dX12_seek_57 : decode cX12_seek 57 = .ok (.iload 4, 2) := by decide +kernel
theorem dX12_seek_59 : decode cX12_seek 59 = .ok (.iconst 2, 1) := by decide +kernel
theorem dX12_seek_60 : decode cX12_seek 60 = .ok (.invokevirtual 371, 3) := by decide +kernel
theorem dX12_seek_63 : decode cX12_seek 63 = .ok (.invokestatic 278, 3) := by decide +kernel
theorem dX12_seek_66 : decode cX12_seek 66 = .ok (.invokestatic 237, 3) := by decide +kernel
theorem dX12_seek_69 : decode cX12_seek 69 = .ok (.istore 5, 2) := by decide +kernel
theorem dX12_seek_71 : decode cX12_seek 71 = .ok (.iload_n 2, 1) := by decide +kernel
theorem dX12_seek_72 : decode cX12_seek 72 = .ok (.ifCond .lt 9, 3) := by decide +kernel
theorem dX12_seek_75 : decode cX12_seek 75 = .ok (.iload 5, 2) := by decide +kernel
theorem dX12_seek_77 : decode cX12_seek 77 = .ok (.iload_n 3, 1) := by decide +kernel
theorem dX12_seek_78 : decode cX12_seek 78 = .ok (.if_icmp .ge 9, 3) := by decide +kernel
theorem dX12_seek_81 : decode cX12_seek 81 = .ok (.iload 4, 2) := by decide +kernel
theorem dX12_seek_83 : decode cX12_seek 83 = .ok (.istore_n 2, 1) := by decide +kernel
theorem dX12_seek_84 : decode cX12_seek 84 = .ok (.iload 5, 2) := by decide +kernel
theorem dX12_seek_86 : decode cX12_seek 86 = .ok (.istore_n 3, 1) := by decide +kernel
theorem dX12_seek_87 : decode cX12_seek 87 = .ok (.iinc 4 1, 3) := by decide +kernel
theorem dX12_seek_90 : decode cX12_seek 90 = .ok (.goto (-66), 3) := by decide +kernel
theorem dX12_seek_93 : decode cX12_seek 93 = .ok (.iload_n 2, 1) := by decide +kernel
theorem dX12_seek_94 : decode cX12_seek 94 = .ok (.ifCond .lt 14, 3) := by decide +kernel
theorem dX12_seek_97 : decode cX12_seek 97 = .ok (.aload_n 0, 1) := by decide +kernel
theorem dX12_seek_98 : decode cX12_seek 98 = .ok (.iconst 0, 1) := by decide +kernel
theorem dX12_seek_99 : decode cX12_seek 99 = .ok (.putfield 11, 3) := by decide +kernel
theorem dX12_seek_102 : decode cX12_seek 102 = .ok (.aload_n 0, 1) := by decide +kernel
theorem dX12_seek_103 : decode cX12_seek 103 = .ok (.iload_n 3, 1) := by decide +kernel
theorem dX12_seek_104 : decode cX12_seek 104 = .ok (.i2l, 1) := by decide +kernel
theorem dX12_seek_105 : decode cX12_seek 105 = .ok (.invokevirtual 18, 3) := by decide +kernel
theorem dX12_seek_108 : decode cX12_seek 108 = .ok (.iload_n 2, 1) := by decide +kernel
theorem dX12_seek_109 : decode cX12_seek 109 = .ok (.ireturn, 1) := by decide +kernel
def w_X12_seek_87 (post : Int32 → sI → sJ → Prop) (k24 : Int32 → Int32 → Int32 → Int32 → sI → sJ → Prop) (x1 : Int32) (x2 : Int32) (x3 : Int32) (x4 : Int32) (I : sI) (J : sJ) : Prop :=
  (∀ v4_87 : Int32, v4_87 = x4 + 1 → k24 x1 x2 x3 v4_87 I J)
set_option maxHeartbeats 4000000 in
set_option maxRecDepth 100000 in
theorem t_X12_seek_87 {X : sX} {post : Int32 → sI → sJ → Prop} (h : sOK X cX12_seek RX12 6 2 47) (hr : sRt X (some .int) (sPi post)) {k24 : Int32 → Int32 → Int32 → Int32 → sI → sJ → Prop} (hk24 : ∀ (x1 : Int32) (x2 : Int32) (x3 : Int32) (x4 : Int32) (I : sI) (J : sJ), k24 x1 x2 x3 x4 I J → sG X 6 24 [(0, .ref 248), (1, .int x1), (2, .int x2), (3, .int x3), (4, .int x4)] [] I J) {x1 : Int32} {x2 : Int32} {x3 : Int32} {x4 : Int32} {I : sI} {J : sJ} (hw : w_X12_seek_87 post k24 x1 x2 x3 x4 I J) : sG X 6 87 [(0, .ref 248), (1, .int x1), (2, .int x2), (3, .int x3), (4, .int x4)] [] I J := by
  unfold w_X12_seek_87 at hw
  obtain ⟨v4_87, ev4_87⟩ : ∃ z : Int32, z = x4 + 1 := ⟨_, rfl⟩
  replace hw := hw v4_87 ev4_87
  refine g_iinc (v := v4_87) (lo2 := [(4, .int v4_87), (0, .ref 248), (1, .int x1), (2, .int x2), (3, .int x3)]) h 4 rfl (by rw [ev4_87]; rfl) (by decide) rfl dX12_seek_87 ?_
  refine g_goto (tgt := 24) h (by decide) dX12_seek_90 ?_
  exact g_sub [1, 2, 3, 4, 0] rfl (hk24 _ _ _ _ _ _ hw)
def w_X12_seek_81 (post : Int32 → sI → sJ → Prop) (k24 : Int32 → Int32 → Int32 → Int32 → sI → sJ → Prop) (x1 : Int32) (x4 : Int32) (x5 : Int32) (I : sI) (J : sJ) : Prop :=
  w_X12_seek_87 post k24 x1 x4 x5 x4 I J
set_option maxHeartbeats 4000000 in
set_option maxRecDepth 100000 in
theorem t_X12_seek_81 {X : sX} {post : Int32 → sI → sJ → Prop} (h : sOK X cX12_seek RX12 6 2 47) (hr : sRt X (some .int) (sPi post)) {k24 : Int32 → Int32 → Int32 → Int32 → sI → sJ → Prop} (hk24 : ∀ (x1 : Int32) (x2 : Int32) (x3 : Int32) (x4 : Int32) (I : sI) (J : sJ), k24 x1 x2 x3 x4 I J → sG X 6 24 [(0, .ref 248), (1, .int x1), (2, .int x2), (3, .int x3), (4, .int x4)] [] I J) {x1 : Int32} {x4 : Int32} {x5 : Int32} {I : sI} {J : sJ} (hw : w_X12_seek_81 post k24 x1 x4 x5 I J) : sG X 6 81 [(0, .ref 248), (1, .int x1), (4, .int x4), (5, .int x5)] [] I J := by
  unfold w_X12_seek_81 at hw
  refine g_iload h 2 rfl dX12_seek_81 ?_
  refine g_istore_n (lo2 := [(2, .int x4), (0, .ref 248), (1, .int x1), (4, .int x4), (5, .int x5)]) h rfl (by decide) rfl dX12_seek_83 ?_
  refine g_iload h 4 rfl dX12_seek_84 ?_
  refine g_istore_n (lo2 := [(3, .int x5), (2, .int x4), (0, .ref 248), (1, .int x1), (4, .int x4), (5, .int x5)]) h rfl (by decide) rfl dX12_seek_86 ?_
  exact g_sub [2, 3, 1, 0, 4] rfl (t_X12_seek_87 h hr hk24 hw)
def w_X12_seek_24_s (post : Int32 → sI → sJ → Prop) (k24 : Int32 → Int32 → Int32 → Int32 → sI → sJ → Prop) (x1 : Int32) (x2 : Int32) (x3 : Int32) (x4 : Int32) (I : sI) (J : sJ) : Prop :=
  ((12 ≤ x4 → ((x2 < 0 → post x2 I J) ∧ (¬ x2 < 0 → (∀ I_99 : sI, I_99 = sUI I 248 1 0 → w_X12_enters (Int32.toInt64 x3) I_99 J (fun (I_105 : sI) (J_105 : sJ) => (post x2 I_105 J_105)))))) ∧ (¬ 12 ≤ x4 → (vp_in x4 12 ∧ (((I 276 (Int32.toNatClampNeg x4)) = 0 → w_X12_leftOf x1 x4 1 I J (fun (r_49 : Int32) (I_49 : sI) (J_49 : sJ) => (w_J6_bitCount_0f7a4 r_49 I_49 J_49 (fun (r_52 : Int32) (I_52 : sI) (J_52 : sJ) => (w_X12_leftOf x1 x4 2 I_52 J_52 (fun (r_60 : Int32) (I_60 : sI) (J_60 : sJ) => (w_J6_bitCount_0f7a4 r_60 I_60 J_60 (fun (r_63 : Int32) (I_63 : sI) (J_63 : sJ) => (w_J9_max_7cf53 r_52 r_63 I_63 J_63 (fun (r_66 : Int32) (I_66 : sI) (J_66 : sJ) => (((x2 < 0 → w_X12_seek_81 post k24 x1 x4 r_66 I_66 J_66) ∧ (¬ x2 < 0 → ((x3 ≤ r_66 → w_X12_seek_87 post k24 x1 x2 x3 x4 I_66 J_66) ∧ (¬ x3 ≤ r_66 → w_X12_seek_81 post k24 x1 x4 r_66 I_66 J_66))))))))))))))) ∧ (¬ (I 276 (Int32.toNatClampNeg x4)) = 0 → w_X12_seek_87 post k24 x1 x2 x3 x4 I J)))))
def w_X12_seek_24_n (post : Int32 → sI → sJ → Prop) : Nat → Int32 → Int32 → Int32 → Int32 → sI → sJ → Prop
  | 0 => fun _ _ _ _ _ _ => False
  | n + 1 => fun x1 x2 x3 x4 I J => w_X12_seek_24_s post (w_X12_seek_24_n post n) x1 x2 x3 x4 I J
def w_X12_seek_24 (post : Int32 → sI → sJ → Prop) (x1 : Int32) (x2 : Int32) (x3 : Int32) (x4 : Int32) (I : sI) (J : sJ) : Prop := ∃ n, w_X12_seek_24_n post n x1 x2 x3 x4 I J
set_option maxHeartbeats 4000000 in
set_option maxRecDepth 100000 in
theorem t_X12_seek_24_s {X : sX} {post : Int32 → sI → sJ → Prop} (h : sOK X cX12_seek RX12 6 2 47) (hr : sRt X (some .int) (sPi post)) {k24 : Int32 → Int32 → Int32 → Int32 → sI → sJ → Prop} (hk24 : ∀ (x1 : Int32) (x2 : Int32) (x3 : Int32) (x4 : Int32) (I : sI) (J : sJ), k24 x1 x2 x3 x4 I J → sG X 6 24 [(0, .ref 248), (1, .int x1), (2, .int x2), (3, .int x3), (4, .int x4)] [] I J) {x1 : Int32} {x2 : Int32} {x3 : Int32} {x4 : Int32} {I : sI} {J : sJ} (hw : w_X12_seek_24_s post k24 x1 x2 x3 x4 I J) : sG X 6 24 [(0, .ref 248), (1, .int x1), (2, .int x2), (3, .int x3), (4, .int x4)] [] I J := by
  unfold w_X12_seek_24_s at hw
  refine g_iload h 4 rfl dX12_seek_24 ?_
  refine g_bipush (v := 12) h (by decide) dX12_seek_26 ?_
  refine g_icmp_ge (tgt := 93) h (by decide) dX12_seek_28 (fun q28 => ?_) (fun q28 => ?_)
  · replace hw := hw.1 q28
    refine g_iload_n h rfl 2 rfl dX12_seek_93 ?_
    refine g_if_lt (tgt := 108) h (by decide) dX12_seek_94 (fun q94 => ?_) (fun q94 => ?_)
    · replace hw := hw.1 q94
      refine g_iload_n h rfl 2 rfl dX12_seek_108 ?_
      exact g_iret h hr dX12_seek_109 hw
    · replace hw := hw.2 q94
      refine g_aload_n h rfl 0 rfl dX12_seek_97 ?_
      refine g_iconst (v := 0) h (by decide) dX12_seek_98 ?_
      refine g_putI h is_248 fl_X12_11 rfl rfl dX12_seek_99 ?_
      refine g_nI (fun I_99 eI_99 => ?_)
      replace hw := hw I_99 eI_99
      refine g_aload_n h rfl 0 rfl dX12_seek_102 ?_
      refine g_iload_n h rfl 3 rfl dX12_seek_103 ?_
      refine g_i2l h dX12_seek_104 ?_
      refine g_callV [.long (Int32.toInt64 x3)] h (c_X12_enters X hw) sPv_v mw_X12_enters lk_X12_18 is_248 rfl rfl ⟨by decide, by decide⟩ (Nat.le_of_ble_eq_true rfl) dX12_seek_105 (sPv_k (fun I_105 J_105 hw => ?_))
      refine g_iload_n h rfl 2 rfl dX12_seek_108 ?_
      exact g_iret h hr dX12_seek_109 hw
  · replace hw := hw.2 q28
    refine g_aload_n h rfl 0 rfl dX12_seek_31 ?_
    refine g_get h is_248 fl_X12_365 fr_248_48 dX12_seek_32 ?_
    refine g_iload h 4 rfl dX12_seek_35 ?_
    obtain ⟨hi37, hw⟩ := hw
    refine g_iald h ar_276 hi37 dX12_seek_37 ?_
    refine g_if_eq (tgt := 44) h (by decide) dX12_seek_38 (fun q38 => ?_) (fun q38 => ?_)
    · replace hw := hw.1 q38
      refine g_aload_n h rfl 0 rfl dX12_seek_44 ?_
      refine g_iload_n h rfl 1 rfl dX12_seek_45 ?_
      refine g_iload h 4 rfl dX12_seek_46 ?_
      refine g_iconst (v := 1) h (by decide) dX12_seek_48 ?_
      refine g_callV [.int x1, .int x4, .int 1] h (c_X12_leftOf X hw) sPi_v mw_X12_leftOf lk_X12_371 is_248 rfl rfl ⟨by decide, by decide⟩ (Nat.le_of_ble_eq_true rfl) dX12_seek_49 (sPi_k (fun r_49 I_49 J_49 hw => ?_))
      refine g_callS [.int r_49] h (c_J6_bitCount_0f7a4 X hw) sPi_v mw_J6_bitCount_0f7a4 lk_X12_278 rfl ⟨by decide, by decide⟩ (Nat.le_of_ble_eq_true rfl) dX12_seek_52 (sPi_k (fun r_52 I_52 J_52 hw => ?_))
      refine g_aload_n h rfl 0 rfl dX12_seek_55 ?_
      refine g_iload_n h rfl 1 rfl dX12_seek_56 ?_
      refine g_iload h 4 rfl dX12_seek_57 ?_
      refine g_iconst (v := 2) h (by decide) dX12_seek_59 ?_
      refine g_callV [.int x1, .int x4, .int 2] h (c_X12_leftOf X hw) sPi_v mw_X12_leftOf lk_X12_371 is_248 rfl rfl ⟨by decide, by decide⟩ (Nat.le_of_ble_eq_true rfl) dX12_seek_60 (sPi_k (fun r_60 I_60 J_60 hw => ?_))
      refine g_callS [.int r_60] h (c_J6_bitCount_0f7a4 X hw) sPi_v mw_J6_bitCount_0f7a4 lk_X12_278 rfl ⟨by decide, by decide⟩ (Nat.le_of_ble_eq_true rfl) dX12_seek_63 (sPi_k (fun r_63 I_63 J_63 hw => ?_))
      refine g_callS [.int r_52, .int r_63] h (c_J9_max_7cf53 X hw) sPi_v mw_J9_max_7cf53 lk_X12_237 rfl ⟨by decide, by decide⟩ (Nat.le_of_ble_eq_true rfl) dX12_seek_66 (sPi_k (fun r_66 I_66 J_66 hw => ?_))
      refine g_istore (lo2 := [(5, .int r_66), (0, .ref 248), (1, .int x1), (2, .int x2), (3, .int x3), (4, .int x4)]) h (by decide) rfl dX12_seek_69 ?_
      refine g_iload_n h rfl 3 rfl dX12_seek_71 ?_
      refine g_if_lt (tgt := 81) h (by decide) dX12_seek_72 (fun q72 => ?_) (fun q72 => ?_)
      · replace hw := hw.1 q72
        exact g_sub [1, 2, 5, 0] rfl (t_X12_seek_81 h hr hk24 hw)
      · replace hw := hw.2 q72
        refine g_iload h 0 rfl dX12_seek_75 ?_
        refine g_iload_n h rfl 4 rfl dX12_seek_77 ?_
        refine g_icmp_ge (tgt := 87) h (by decide) dX12_seek_78 (fun q78 => ?_) (fun q78 => ?_)
        · replace hw := hw.1 q78
          exact g_sub [1, 2, 3, 4, 5] rfl (t_X12_seek_87 h hr hk24 hw)
        · replace hw := hw.2 q78
          exact g_sub [1, 2, 5, 0] rfl (t_X12_seek_81 h hr hk24 hw)
    · replace hw := hw.2 q38
      refine g_goto (tgt := 87) h (by decide) dX12_seek_41 ?_
      exact g_sub [0, 1, 2, 3, 4] rfl (t_X12_seek_87 h hr hk24 hw)
theorem t_X12_seek_24 {X : sX} {post : Int32 → sI → sJ → Prop} (h : sOK X cX12_seek RX12 6 2 47) (hr : sRt X (some .int) (sPi post)) {x1 : Int32} {x2 : Int32} {x3 : Int32} {x4 : Int32} {I : sI} {J : sJ} (hw : w_X12_seek_24 post x1 x2 x3 x4 I J) : sG X 6 24 [(0, .ref 248), (1, .int x1), (2, .int x2), (3, .int x3), (4, .int x4)] [] I J := by
  obtain ⟨n, hw⟩ := hw
  induction n generalizing x1 x2 x3 x4 I J with
  | zero => exact hw.elim
  | succ n ih => exact t_X12_seek_24_s h hr (fun _ _ _ _ _ _ q => ih q) hw
def w_X12_seek (I : sI) (J : sJ) (post : Int32 → sI → sJ → Prop) : Prop :=
  (∀ I_2 : sI, I_2 = sUI I 248 0 0 → w_X12_standing I_2 J (fun (r_6 : Int32) (I_6 : sI) (J_6 : sJ) => (((¬ r_6 = 0 → w_X12_seek_24 post r_6 (-2) 0 0 I_6 J_6) ∧ (r_6 = 0 → post (-1) I_6 J_6)))))
set_option maxHeartbeats 4000000 in
set_option maxRecDepth 100000 in
theorem t_X12_seek {X : sX} {I : sI} {J : sJ} {post : Int32 → sI → sJ → Prop} (h : sOK X cX12_seek RX12 6 2 47) (hr : sRt X (some .int) (sPi post)) (hw : w_X12_seek I J post) : sG X 6 0 [(0, .ref 248)] [] I J := by
  unfold w_X12_seek at hw
  refine g_aload_n h rfl 0 rfl dX12_seek_0 ?_
  refine g_iconst (v := 0) h (by decide) dX12_seek_1 ?_
  refine g_putI h is_248 fl_X12_1 rfl rfl dX12_seek_2 ?_
  refine g_nI (fun I_2 eI_2 => ?_)
  replace hw := hw I_2 eI_2
  refine g_aload_n h rfl 0 rfl dX12_seek_5 ?_
  refine g_callV [] h (c_X12_standing X hw) sPi_v mw_X12_standing lk_X12_368 is_248 rfl rfl ⟨by decide, by decide⟩ (Nat.le_of_ble_eq_true rfl) dX12_seek_6 (sPi_k (fun r_6 I_6 J_6 hw => ?_))
  refine g_istore_n (lo2 := [(1, .int r_6), (0, .ref 248)]) h rfl (by decide) rfl dX12_seek_9 ?_
  refine g_iload_n h rfl 0 rfl dX12_seek_10 ?_
  refine g_if_ne (tgt := 16) h (by decide) dX12_seek_11 (fun q11 => ?_) (fun q11 => ?_)
  · replace hw := hw.1 q11
    refine g_bipush (v := (-2)) h (by decide) dX12_seek_16 ?_
    refine g_istore_n (lo2 := [(2, .int (-2)), (1, .int r_6), (0, .ref 248)]) h rfl (by decide) rfl dX12_seek_18 ?_
    refine g_iconst (v := 0) h (by decide) dX12_seek_19 ?_
    refine g_istore_n (lo2 := [(3, .int 0), (2, .int (-2)), (1, .int r_6), (0, .ref 248)]) h rfl (by decide) rfl dX12_seek_20 ?_
    refine g_iconst (v := 0) h (by decide) dX12_seek_21 ?_
    refine g_istore (lo2 := [(4, .int 0), (3, .int 0), (2, .int (-2)), (1, .int r_6), (0, .ref 248)]) h (by decide) rfl dX12_seek_22 ?_
    exact g_sub [4, 3, 2, 1, 0] rfl (t_X12_seek_24 h hr hw)
  · replace hw := hw.2 q11
    refine g_iconst (v := (-1)) h (by decide) dX12_seek_14 ?_
    exact g_iret h hr dX12_seek_15 hw
theorem c_X12_seek (X : sX) {I : sI} {J : sJ} {post : Int32 → sI → sJ → Prop} (hw : w_X12_seek I J post) : sCall X yX12_seek cX12_seek 6 (some .int) 2 47 [.ref 248] I J (sPi post) := sCall_of (by decide +kernel) (Nat.le_of_ble_eq_true rfl) (fun X h hr => t_X12_seek h hr hw)
theorem dX12_parts_0 : decode cX12_parts 0 = .ok (.iconst 0, 1) := by decide +kernel
theorem dX12_parts_1 : decode cX12_parts 1 = .ok (.istore 4, 2) := by decide +kernel
theorem dX12_parts_3 : decode cX12_parts 3 = .ok (.iconst 0, 1) := by decide +kernel
theorem dX12_parts_4 : decode cX12_parts 4 = .ok (.istore 5, 2) := by decide +kernel
theorem dX12_parts_6 : decode cX12_parts 6 = .ok (.iload 5, 2) := by decide +kernel
theorem dX12_parts_8 : decode cX12_parts 8 = .ok (.bipush 12, 2) := by decide +kernel
theorem dX12_parts_10 : decode cX12_parts 10 = .ok (.if_icmp .ge 88, 3) := by decide +kernel
theorem dX12_parts_13 : decode cX12_parts 13 = .ok (.iload 4, 2) := by decide +kernel
theorem dX12_parts_15 : decode cX12_parts 15 = .ok (.ifCond .ne 70, 3) := by decide +kernel
theorem dX12_parts_18 : decode cX12_parts 18 = .ok (.iload_n 1, 1) := by decide +kernel
theorem dX12_parts_19 : decode cX12_parts 19 = .ok (.iload 5, 2) := by decide +kernel
theorem dX12_parts_21 : decode cX12_parts 21 = .ok (.invokestatic 242, 3) := by decide +kernel
theorem dX12_parts_24 : decode cX12_parts 24 = .ok (.ifCond .eq 65, 3) := by decide +kernel
theorem dX12_parts_27 : decode cX12_parts 27 = .ok (.aload_n 0, 1) := by decide +kernel
theorem dX12_parts_28 : decode cX12_parts 28 = .ok (.getfield 359, 3) := by decide +kernel
theorem dX12_parts_31 : decode cX12_parts 31 = .ok (.bipush 12, 2) := by decide +kernel
theorem dX12_parts_33 : decode cX12_parts 33 = .ok (.iload_n 2, 1) := by decide +kernel
theorem dX12_parts_34 : decode cX12_parts 34 = .ok (.imul, 1) := by decide +kernel
theorem dX12_parts_35 : decode cX12_parts 35 = .ok (.iload 5, 2) := by decide +kernel
theorem dX12_parts_37 : decode cX12_parts 37 = .ok (.iadd, 1) := by decide +kernel
theorem dX12_parts_38 : decode cX12_parts 38 = .ok (.iaload, 1) := by decide +kernel
theorem dX12_parts_39 : decode cX12_parts 39 = .ok (.aload_n 0, 1) := by decide +kernel
theorem dX12_parts_40 : decode cX12_parts 40 = .ok (.getfield 359, 3) := by decide +kernel
theorem dX12_parts_43 : decode cX12_parts 43 = .ok (.bipush 12, 2) := by decide +kernel
theorem dX12_parts_45 : decode cX12_parts 45 = .ok (.iload_n 3, 1) := by decide +kernel
theorem dX12_parts_46 : decode cX12_parts 46 = .ok (.imul, 1) := by decide +kernel
theorem dX12_parts_47 : decode cX12_parts 47 = .ok (.iload 5, 2) := by decide +kernel
theorem dX12_parts_49 : decode cX12_parts 49 = .ok (.iadd, 1) := by decide +kernel
theorem dX12_parts_50 : decode cX12_parts 50 = .ok (.iaload, 1) := by decide +kernel
theorem dX12_parts_51 : decode cX12_parts 51 = .ok (.iadd, 1) := by decide +kernel
theorem dX12_parts_52 : decode cX12_parts 52 = .ok (.iconst 3, 1) := by decide +kernel
theorem dX12_parts_53 : decode cX12_parts 53 = .ok (.if_icmp .ne 36, 3) := by decide +kernel
theorem dX12_parts_56 : decode cX12_parts 56 = .ok (.aload_n 0, 1) := by decide +kernel
theorem dX12_parts_57 : decode cX12_parts 57 = .ok (.getfield 359, 3) := by decide +kernel
theorem dX12_parts_60 : decode cX12_parts 60 = .ok (.bipush 12, 2) := by decide +kernel
theorem dX12_parts_62 : decode cX12_parts 62 = .ok (.iload_n 2, 1) := by decide +kernel
theorem dX12_parts_63 : decode cX12_parts 63 = .ok (.imul, 1) := by decide +kernel
theorem dX12_parts_64 : decode cX12_parts 64 = .ok (.iload 5, 2) := by decide +kernel
theorem dX12_parts_66 : decode cX12_parts 66 = .ok (.iadd, 1) := by decide +kernel
theorem dX12_parts_67 : decode cX12_parts 67 = .ok (.iaload, 1) := by decide +kernel
theorem dX12_parts_68 : decode cX12_parts 68 = .ok (.aload_n 0, 1) := by decide +kernel
theorem dX12_parts_69 : decode cX12_parts 69 = .ok (.getfield 359, 3) := by decide +kernel
theorem dX12_parts_72 : decode cX12_parts 72 = .ok (.bipush 12, 2) := by decide +kernel
theorem dX12_parts_74 : decode cX12_parts 74 = .ok (.iload_n 3, 1) := by decide +kernel
theorem dX12_parts_75 : decode cX12_parts 75 = .ok (.imul, 1) := by decide +kernel
theorem dX12_parts_76 : decode cX12_parts 76 = .ok (.iload 5, 2) := by decide +kernel
theorem dX12_parts_78 : decode cX12_parts 78 = .ok (.iadd, 1) := by decide +kernel
theorem dX12_parts_79 : decode cX12_parts 79 = .ok (.iaload, 1) := by decide +kernel
theorem dX12_parts_80 : decode cX12_parts 80 = .ok (.imul, 1) := by decide +kernel
theorem dX12_parts_81 : decode cX12_parts 81 = .ok (.iconst 2, 1) := by decide +kernel
theorem dX12_parts_82 : decode cX12_parts 82 = .ok (.if_icmp .ne 7, 3) := by decide +kernel
theorem dX12_parts_85 : decode cX12_parts 85 = .ok (.iconst 1, 1) := by decide +kernel
theorem dX12_parts_86 : decode cX12_parts 86 = .ok (.goto 4, 3) := by decide +kernel
theorem dX12_parts_89 : decode cX12_parts 89 = .ok (.iconst 0, 1) := by decide +kernel
theorem dX12_parts_90 : decode cX12_parts 90 = .ok (.istore 4, 2) := by decide +kernel
theorem dX12_parts_92 : decode cX12_parts 92 = .ok (.iinc 5 1, 3) := by decide +kernel
theorem dX12_parts_95 : decode cX12_parts 95 = .ok (.goto (-89), 3) := by decide +kernel
theorem dX12_parts_98 : decode cX12_parts 98 = .ok (.iload 4, 2) := by decide +kernel
theorem dX12_parts_100 : decode cX12_parts 100 = .ok (.ireturn, 1) := by decide +kernel
def w_X12_parts_90 (post : Int32 → sI → sJ → Prop) (k6 : Int32 → Int32 → Int32 → Int32 → Int32 → sI → sJ → Prop) (x1 : Int32) (x2 : Int32) (x3 : Int32) (x5 : Int32) (s0 : Int32) (I : sI) (J : sJ) : Prop :=
  (∀ v5_92 : Int32, v5_92 = x5 + 1 → k6 x1 x2 x3 s0 v5_92 I J)
set_option maxHeartbeats 4000000 in
set_option maxRecDepth 100000 in
theorem t_X12_parts_90 {X : sX} {post : Int32 → sI → sJ → Prop} (h : sOK X cX12_parts RX12 6 1 21) (hr : sRt X (some .boolean) (sPi post)) {k6 : Int32 → Int32 → Int32 → Int32 → Int32 → sI → sJ → Prop} (hk6 : ∀ (x1 : Int32) (x2 : Int32) (x3 : Int32) (x4 : Int32) (x5 : Int32) (I : sI) (J : sJ), k6 x1 x2 x3 x4 x5 I J → sG X 6 6 [(0, .ref 248), (1, .int x1), (2, .int x2), (3, .int x3), (4, .int x4), (5, .int x5)] [] I J) {x1 : Int32} {x2 : Int32} {x3 : Int32} {x5 : Int32} {s0 : Int32} {I : sI} {J : sJ} (hw : w_X12_parts_90 post k6 x1 x2 x3 x5 s0 I J) : sG X 6 90 [(0, .ref 248), (1, .int x1), (2, .int x2), (3, .int x3), (5, .int x5)] [.int s0] I J := by
  unfold w_X12_parts_90 at hw
  refine g_istore (lo2 := [(4, .int s0), (0, .ref 248), (1, .int x1), (2, .int x2), (3, .int x3), (5, .int x5)]) h (by decide) rfl dX12_parts_90 ?_
  obtain ⟨v5_92, ev5_92⟩ : ∃ z : Int32, z = x5 + 1 := ⟨_, rfl⟩
  replace hw := hw v5_92 ev5_92
  refine g_iinc (v := v5_92) (lo2 := [(5, .int v5_92), (4, .int s0), (0, .ref 248), (1, .int x1), (2, .int x2), (3, .int x3)]) h 5 rfl (by rw [ev5_92]; rfl) (by decide) rfl dX12_parts_92 ?_
  refine g_goto (tgt := 6) h (by decide) dX12_parts_95 ?_
  exact g_sub [2, 3, 4, 5, 1, 0] rfl (hk6 _ _ _ _ _ _ _ hw)
def w_X12_parts_85 (post : Int32 → sI → sJ → Prop) (k6 : Int32 → Int32 → Int32 → Int32 → Int32 → sI → sJ → Prop) (x1 : Int32) (x2 : Int32) (x3 : Int32) (x5 : Int32) (I : sI) (J : sJ) : Prop :=
  w_X12_parts_90 post k6 x1 x2 x3 x5 1 I J
set_option maxHeartbeats 4000000 in
set_option maxRecDepth 100000 in
theorem t_X12_parts_85 {X : sX} {post : Int32 → sI → sJ → Prop} (h : sOK X cX12_parts RX12 6 1 21) (hr : sRt X (some .boolean) (sPi post)) {k6 : Int32 → Int32 → Int32 → Int32 → Int32 → sI → sJ → Prop} (hk6 : ∀ (x1 : Int32) (x2 : Int32) (x3 : Int32) (x4 : Int32) (x5 : Int32) (I : sI) (J : sJ), k6 x1 x2 x3 x4 x5 I J → sG X 6 6 [(0, .ref 248), (1, .int x1), (2, .int x2), (3, .int x3), (4, .int x4), (5, .int x5)] [] I J) {x1 : Int32} {x2 : Int32} {x3 : Int32} {x5 : Int32} {I : sI} {J : sJ} (hw : w_X12_parts_85 post k6 x1 x2 x3 x5 I J) : sG X 6 85 [(0, .ref 248), (1, .int x1), (2, .int x2), (3, .int x3), (5, .int x5)] [] I J := by
  unfold w_X12_parts_85 at hw
  refine g_iconst (v := 1) h (by decide) dX12_parts_85 ?_
  refine g_goto (tgt := 90) h (by decide) dX12_parts_86 ?_
  exact g_sub [0, 1, 2, 3, 4] rfl (t_X12_parts_90 h hr hk6 hw)
def w_X12_parts_89 (post : Int32 → sI → sJ → Prop) (k6 : Int32 → Int32 → Int32 → Int32 → Int32 → sI → sJ → Prop) (x1 : Int32) (x2 : Int32) (x3 : Int32) (x5 : Int32) (I : sI) (J : sJ) : Prop :=
  w_X12_parts_90 post k6 x1 x2 x3 x5 0 I J
set_option maxHeartbeats 4000000 in
set_option maxRecDepth 100000 in
theorem t_X12_parts_89 {X : sX} {post : Int32 → sI → sJ → Prop} (h : sOK X cX12_parts RX12 6 1 21) (hr : sRt X (some .boolean) (sPi post)) {k6 : Int32 → Int32 → Int32 → Int32 → Int32 → sI → sJ → Prop} (hk6 : ∀ (x1 : Int32) (x2 : Int32) (x3 : Int32) (x4 : Int32) (x5 : Int32) (I : sI) (J : sJ), k6 x1 x2 x3 x4 x5 I J → sG X 6 6 [(0, .ref 248), (1, .int x1), (2, .int x2), (3, .int x3), (4, .int x4), (5, .int x5)] [] I J) {x1 : Int32} {x2 : Int32} {x3 : Int32} {x5 : Int32} {I : sI} {J : sJ} (hw : w_X12_parts_89 post k6 x1 x2 x3 x5 I J) : sG X 6 89 [(0, .ref 248), (1, .int x1), (2, .int x2), (3, .int x3), (5, .int x5)] [] I J := by
  unfold w_X12_parts_89 at hw
  refine g_iconst (v := 0) h (by decide) dX12_parts_89 ?_
  exact g_sub [0, 1, 2, 3, 4] rfl (t_X12_parts_90 h hr hk6 hw)
def w_X12_parts_6_s (post : Int32 → sI → sJ → Prop) (k6 : Int32 → Int32 → Int32 → Int32 → Int32 → sI → sJ → Prop) (x1 : Int32) (x2 : Int32) (x3 : Int32) (x4 : Int32) (x5 : Int32) (I : sI) (J : sJ) : Prop :=
  ((12 ≤ x5 → (sZ x4 ∧ post x4 I J)) ∧ (¬ 12 ≤ x5 → ((¬ x4 = 0 → w_X12_parts_85 post k6 x1 x2 x3 x5 I J) ∧ (x4 = 0 → w_X12_has x1 x5 I J (fun (r_21 : Int32) (I_21 : sI) (J_21 : sJ) => (((r_21 = 0 → w_X12_parts_89 post k6 x1 x2 x3 x5 I_21 J_21) ∧ (¬ r_21 = 0 → (vp_in ((12 * x2) + x5) 120 ∧ (vp_in ((12 * x3) + x5) 120 ∧ ((¬ ((I_21 275 (Int32.toNatClampNeg ((12 * x2) + x5))) + (I_21 275 (Int32.toNatClampNeg ((12 * x3) + x5)))) = 3 → w_X12_parts_89 post k6 x1 x2 x3 x5 I_21 J_21) ∧ (((I_21 275 (Int32.toNatClampNeg ((12 * x2) + x5))) + (I_21 275 (Int32.toNatClampNeg ((12 * x3) + x5)))) = 3 → (vp_in ((12 * x2) + x5) 120 ∧ (vp_in ((12 * x3) + x5) 120 ∧ ((¬ ((I_21 275 (Int32.toNatClampNeg ((12 * x2) + x5))) * (I_21 275 (Int32.toNatClampNeg ((12 * x3) + x5)))) = 2 → w_X12_parts_89 post k6 x1 x2 x3 x5 I_21 J_21) ∧ (((I_21 275 (Int32.toNatClampNeg ((12 * x2) + x5))) * (I_21 275 (Int32.toNatClampNeg ((12 * x3) + x5)))) = 2 → w_X12_parts_85 post k6 x1 x2 x3 x5 I_21 J_21))))))))))))))))
def w_X12_parts_6_n (post : Int32 → sI → sJ → Prop) : Nat → Int32 → Int32 → Int32 → Int32 → Int32 → sI → sJ → Prop
  | 0 => fun _ _ _ _ _ _ _ => False
  | n + 1 => fun x1 x2 x3 x4 x5 I J => w_X12_parts_6_s post (w_X12_parts_6_n post n) x1 x2 x3 x4 x5 I J
def w_X12_parts_6 (post : Int32 → sI → sJ → Prop) (x1 : Int32) (x2 : Int32) (x3 : Int32) (x4 : Int32) (x5 : Int32) (I : sI) (J : sJ) : Prop := ∃ n, w_X12_parts_6_n post n x1 x2 x3 x4 x5 I J
set_option maxHeartbeats 4000000 in
set_option maxRecDepth 100000 in
theorem t_X12_parts_6_s {X : sX} {post : Int32 → sI → sJ → Prop} (h : sOK X cX12_parts RX12 6 1 21) (hr : sRt X (some .boolean) (sPi post)) {k6 : Int32 → Int32 → Int32 → Int32 → Int32 → sI → sJ → Prop} (hk6 : ∀ (x1 : Int32) (x2 : Int32) (x3 : Int32) (x4 : Int32) (x5 : Int32) (I : sI) (J : sJ), k6 x1 x2 x3 x4 x5 I J → sG X 6 6 [(0, .ref 248), (1, .int x1), (2, .int x2), (3, .int x3), (4, .int x4), (5, .int x5)] [] I J) {x1 : Int32} {x2 : Int32} {x3 : Int32} {x4 : Int32} {x5 : Int32} {I : sI} {J : sJ} (hw : w_X12_parts_6_s post k6 x1 x2 x3 x4 x5 I J) : sG X 6 6 [(0, .ref 248), (1, .int x1), (2, .int x2), (3, .int x3), (4, .int x4), (5, .int x5)] [] I J := by
  unfold w_X12_parts_6_s at hw
  refine g_iload h 5 rfl dX12_parts_6 ?_
  refine g_bipush (v := 12) h (by decide) dX12_parts_8 ?_
  refine g_icmp_ge (tgt := 98) h (by decide) dX12_parts_10 (fun q10 => ?_) (fun q10 => ?_)
  · replace hw := hw.1 q10
    refine g_iload h 4 rfl dX12_parts_98 ?_
    exact g_zret h hr hw.1 dX12_parts_100 hw.2
  · replace hw := hw.2 q10
    refine g_iload h 4 rfl dX12_parts_13 ?_
    refine g_if_ne (tgt := 85) h (by decide) dX12_parts_15 (fun q15 => ?_) (fun q15 => ?_)
    · replace hw := hw.1 q15
      exact g_sub [0, 1, 2, 3, 5] rfl (t_X12_parts_85 h hr hk6 hw)
    · replace hw := hw.2 q15
      refine g_iload_n h rfl 1 rfl dX12_parts_18 ?_
      refine g_iload h 5 rfl dX12_parts_19 ?_
      refine g_callS [.int x1, .int x5] h (c_X12_has X hw) sPi_v mw_X12_has lk_X12_242 rfl ⟨by decide, by decide⟩ (Nat.le_of_ble_eq_true rfl) dX12_parts_21 (sPi_k (fun r_21 I_21 J_21 hw => ?_))
      refine g_if_eq (tgt := 89) h (by decide) dX12_parts_24 (fun q24 => ?_) (fun q24 => ?_)
      · replace hw := hw.1 q24
        exact g_sub [0, 1, 2, 3, 5] rfl (t_X12_parts_89 h hr hk6 hw)
      · replace hw := hw.2 q24
        refine g_aload_n h rfl 0 rfl dX12_parts_27 ?_
        refine g_get h is_248 fl_X12_359 fr_248_47 dX12_parts_28 ?_
        refine g_bipush (v := 12) h (by decide) dX12_parts_31 ?_
        refine g_iload_n h rfl 2 rfl dX12_parts_33 ?_
        refine g_imul h dX12_parts_34 ?_
        refine g_iload h 5 rfl dX12_parts_35 ?_
        refine g_iadd h dX12_parts_37 ?_
        obtain ⟨hi38, hw⟩ := hw
        refine g_iald h ar_275 hi38 dX12_parts_38 ?_
        refine g_aload_n h rfl 0 rfl dX12_parts_39 ?_
        refine g_get h is_248 fl_X12_359 fr_248_47 dX12_parts_40 ?_
        refine g_bipush (v := 12) h (by decide) dX12_parts_43 ?_
        refine g_iload_n h rfl 3 rfl dX12_parts_45 ?_
        refine g_imul h dX12_parts_46 ?_
        refine g_iload h 5 rfl dX12_parts_47 ?_
        refine g_iadd h dX12_parts_49 ?_
        obtain ⟨hi50, hw⟩ := hw
        refine g_iald h ar_275 hi50 dX12_parts_50 ?_
        refine g_iadd h dX12_parts_51 ?_
        refine g_iconst (v := 3) h (by decide) dX12_parts_52 ?_
        refine g_icmp_ne (tgt := 89) h (by decide) dX12_parts_53 (fun q53 => ?_) (fun q53 => ?_)
        · replace hw := hw.1 q53
          exact g_sub [0, 1, 2, 3, 5] rfl (t_X12_parts_89 h hr hk6 hw)
        · replace hw := hw.2 q53
          refine g_aload_n h rfl 0 rfl dX12_parts_56 ?_
          refine g_get h is_248 fl_X12_359 fr_248_47 dX12_parts_57 ?_
          refine g_bipush (v := 12) h (by decide) dX12_parts_60 ?_
          refine g_iload_n h rfl 2 rfl dX12_parts_62 ?_
          refine g_imul h dX12_parts_63 ?_
          refine g_iload h 5 rfl dX12_parts_64 ?_
          refine g_iadd h dX12_parts_66 ?_
          obtain ⟨hi67, hw⟩ := hw
          refine g_iald h ar_275 hi67 dX12_parts_67 ?_
          refine g_aload_n h rfl 0 rfl dX12_parts_68 ?_
          refine g_get h is_248 fl_X12_359 fr_248_47 dX12_parts_69 ?_
          refine g_bipush (v := 12) h (by decide) dX12_parts_72 ?_
          refine g_iload_n h rfl 3 rfl dX12_parts_74 ?_
          refine g_imul h dX12_parts_75 ?_
          refine g_iload h 5 rfl dX12_parts_76 ?_
          refine g_iadd h dX12_parts_78 ?_
          obtain ⟨hi79, hw⟩ := hw
          refine g_iald h ar_275 hi79 dX12_parts_79 ?_
          refine g_imul h dX12_parts_80 ?_
          refine g_iconst (v := 2) h (by decide) dX12_parts_81 ?_
          refine g_icmp_ne (tgt := 89) h (by decide) dX12_parts_82 (fun q82 => ?_) (fun q82 => ?_)
          · replace hw := hw.1 q82
            exact g_sub [0, 1, 2, 3, 5] rfl (t_X12_parts_89 h hr hk6 hw)
          · replace hw := hw.2 q82
            exact g_sub [0, 1, 2, 3, 5] rfl (t_X12_parts_85 h hr hk6 hw)
theorem t_X12_parts_6 {X : sX} {post : Int32 → sI → sJ → Prop} (h : sOK X cX12_parts RX12 6 1 21) (hr : sRt X (some .boolean) (sPi post)) {x1 : Int32} {x2 : Int32} {x3 : Int32} {x4 : Int32} {x5 : Int32} {I : sI} {J : sJ} (hw : w_X12_parts_6 post x1 x2 x3 x4 x5 I J) : sG X 6 6 [(0, .ref 248), (1, .int x1), (2, .int x2), (3, .int x3), (4, .int x4), (5, .int x5)] [] I J := by
  obtain ⟨n, hw⟩ := hw
  induction n generalizing x1 x2 x3 x4 x5 I J with
  | zero => exact hw.elim
  | succ n ih => exact t_X12_parts_6_s h hr (fun _ _ _ _ _ _ _ q => ih q) hw
def w_X12_parts (a1 : Int32) (a2 : Int32) (a3 : Int32) (I : sI) (J : sJ) (post : Int32 → sI → sJ → Prop) : Prop :=
  w_X12_parts_6 post a1 a2 a3 0 0 I J
set_option maxHeartbeats 4000000 in
set_option maxRecDepth 100000 in
theorem t_X12_parts {X : sX} {a1 : Int32} {a2 : Int32} {a3 : Int32} {I : sI} {J : sJ} {post : Int32 → sI → sJ → Prop} (h : sOK X cX12_parts RX12 6 1 21) (hr : sRt X (some .boolean) (sPi post)) (hw : w_X12_parts a1 a2 a3 I J post) : sG X 6 0 [(0, .ref 248), (1, .int a1), (2, .int a2), (3, .int a3)] [] I J := by
  unfold w_X12_parts at hw
  refine g_iconst (v := 0) h (by decide) dX12_parts_0 ?_
  refine g_istore (lo2 := [(4, .int 0), (0, .ref 248), (1, .int a1), (2, .int a2), (3, .int a3)]) h (by decide) rfl dX12_parts_1 ?_
  refine g_iconst (v := 0) h (by decide) dX12_parts_3 ?_
  refine g_istore (lo2 := [(5, .int 0), (4, .int 0), (0, .ref 248), (1, .int a1), (2, .int a2), (3, .int a3)]) h (by decide) rfl dX12_parts_4 ?_
  exact g_sub [2, 3, 4, 5, 1, 0] rfl (t_X12_parts_6 h hr hw)
theorem c_X12_parts (X : sX) {a1 : Int32} {a2 : Int32} {a3 : Int32} {I : sI} {J : sJ} {post : Int32 → sI → sJ → Prop} (hw : w_X12_parts a1 a2 a3 I J post) : sCall X yX12_parts cX12_parts 6 (some .boolean) 1 21 [.ref 248, .int a1, .int a2, .int a3] I J (sPi post) := sCall_of (by decide +kernel) (Nat.le_of_ble_eq_true rfl) (fun X h hr => t_X12_parts h hr hw)
theorem dX12_unknown_0 : decode cX12_unknown 0 = .ok (.iconst 0, 1) := by decide +kernel
theorem dX12_unknown_1 : decode cX12_unknown 1 = .ok (.istore_n 1, 1) := by decide +kernel
theorem dX12_unknown_2 : decode cX12_unknown 2 = .ok (.iconst 0, 1) := by decide +kernel
theorem dX12_unknown_3 : decode cX12_unknown 3 = .ok (.istore_n 2, 1) := by decide +kernel
theorem dX12_unknown_4 : decode cX12_unknown 4 = .ok (.iload_n 2, 1) := by decide +kernel
theorem dX12_unknown_5 : decode cX12_unknown 5 = .ok (.bipush 12, 2) := by decide +kernel
theorem dX12_unknown_7 : decode cX12_unknown 7 = .ok (.if_icmp .ge 28, 3) := by decide +kernel
theorem dX12_unknown_10 : decode cX12_unknown 10 = .ok (.iload_n 1, 1) := by decide +kernel
theorem dX12_unknown_11 : decode cX12_unknown 11 = .ok (.aload_n 0, 1) := by decide +kernel
theorem dX12_unknown_12 : decode cX12_unknown 12 = .ok (.getfield 365, 3) := by decide +kernel
theorem dX12_unknown_15 : decode cX12_unknown 15 = .ok (.iload_n 2, 1) := by decide +kernel
theorem dX12_unknown_16 : decode cX12_unknown 16 = .ok (.iaload, 1) := by decide +kernel
theorem dX12_unknown_17 : decode cX12_unknown 17 = .ok (.ifCond .ne 9, 3) := by decide +kernel
theorem dX12_unknown_20 : decode cX12_unknown 20 = .ok (.iconst 1, 1) := by decide +kernel
theorem dX12_unknown_21 : decode cX12_unknown 21 = .ok (.iload_n 2, 1) := by decide +kernel
theorem dX12_unknown_22 : decode cX12_unknown 22 = .ok (.ishl, 1) := by decide +kernel
theorem dX12_unknown_23 : decode cX12_unknown 23 = .ok (.goto 4, 3) := by decide +kernel
theorem dX12_unknown_26 : decode cX12_unknown 26 = .ok (.iconst 0, 1) := by decide +kernel
theorem dX12_unknown_27 : decode cX12_unknown 27 = .ok (.ior, 1) := by decide +kernel
theorem dX12_unknown_28 : decode cX12_unknown 28 = .ok (.istore_n 1, 1) := by decide +kernel
theorem dX12_unknown_29 : decode cX12_unknown 29 = .ok (.iinc 2 1, 3) := by decide +kernel
theorem dX12_unknown_32 : decode cX12_unknown 32 = .ok (.goto (-28), 3) := by decide +kernel
theorem dX12_unknown_35 : decode cX12_unknown 35 = .ok (.iload_n 1, 1) := by decide +kernel
theorem dX12_unknown_36 : decode cX12_unknown 36 = .ok (.ireturn, 1) := by decide +kernel
def w_X12_unknown_27 (post : Int32 → sI → sJ → Prop) (k4 : Int32 → Int32 → sI → sJ → Prop) (x2 : Int32) (s0 : Int32) (s1 : Int32) (I : sI) (J : sJ) : Prop :=
  (∀ v1_28 : Int32, v1_28 = s1 ||| s0 → (∀ v2_29 : Int32, v2_29 = x2 + 1 → k4 v1_28 v2_29 I J))
set_option maxHeartbeats 4000000 in
set_option maxRecDepth 100000 in
theorem t_X12_unknown_27 {X : sX} {post : Int32 → sI → sJ → Prop} (h : sOK X cX12_unknown RX12 3 0 0) (hr : sRt X (some .int) (sPi post)) {k4 : Int32 → Int32 → sI → sJ → Prop} (hk4 : ∀ (x1 : Int32) (x2 : Int32) (I : sI) (J : sJ), k4 x1 x2 I J → sG X 3 4 [(0, .ref 248), (1, .int x1), (2, .int x2)] [] I J) {x2 : Int32} {s0 : Int32} {s1 : Int32} {I : sI} {J : sJ} (hw : w_X12_unknown_27 post k4 x2 s0 s1 I J) : sG X 3 27 [(0, .ref 248), (2, .int x2)] [.int s0, .int s1] I J := by
  unfold w_X12_unknown_27 at hw
  refine g_ior h dX12_unknown_27 ?_
  refine g_ni (fun v1_28 ev1_28 => ?_)
  replace hw := hw v1_28 ev1_28
  refine g_istore_n (lo2 := [(1, .int v1_28), (0, .ref 248), (2, .int x2)]) h rfl (by decide) rfl dX12_unknown_28 ?_
  obtain ⟨v2_29, ev2_29⟩ : ∃ z : Int32, z = x2 + 1 := ⟨_, rfl⟩
  replace hw := hw v2_29 ev2_29
  refine g_iinc (v := v2_29) (lo2 := [(2, .int v2_29), (1, .int v1_28), (0, .ref 248)]) h 2 rfl (by rw [ev2_29]; rfl) (by decide) rfl dX12_unknown_29 ?_
  refine g_goto (tgt := 4) h (by decide) dX12_unknown_32 ?_
  exact g_sub [2, 1, 0] rfl (hk4 _ _ _ _ hw)
def w_X12_unknown_4_s (post : Int32 → sI → sJ → Prop) (k4 : Int32 → Int32 → sI → sJ → Prop) (x1 : Int32) (x2 : Int32) (I : sI) (J : sJ) : Prop :=
  ((12 ≤ x2 → post x1 I J) ∧ (¬ 12 ≤ x2 → (vp_in x2 12 ∧ ((¬ (I 276 (Int32.toNatClampNeg x2)) = 0 → w_X12_unknown_27 post k4 x2 0 x1 I J) ∧ ((I 276 (Int32.toNatClampNeg x2)) = 0 → w_X12_unknown_27 post k4 x2 (1 <<< (x2 &&& 31)) x1 I J)))))
def w_X12_unknown_4_n (post : Int32 → sI → sJ → Prop) : Nat → Int32 → Int32 → sI → sJ → Prop
  | 0 => fun _ _ _ _ => False
  | n + 1 => fun x1 x2 I J => w_X12_unknown_4_s post (w_X12_unknown_4_n post n) x1 x2 I J
def w_X12_unknown_4 (post : Int32 → sI → sJ → Prop) (x1 : Int32) (x2 : Int32) (I : sI) (J : sJ) : Prop := ∃ n, w_X12_unknown_4_n post n x1 x2 I J
set_option maxHeartbeats 4000000 in
set_option maxRecDepth 100000 in
theorem t_X12_unknown_4_s {X : sX} {post : Int32 → sI → sJ → Prop} (h : sOK X cX12_unknown RX12 3 0 0) (hr : sRt X (some .int) (sPi post)) {k4 : Int32 → Int32 → sI → sJ → Prop} (hk4 : ∀ (x1 : Int32) (x2 : Int32) (I : sI) (J : sJ), k4 x1 x2 I J → sG X 3 4 [(0, .ref 248), (1, .int x1), (2, .int x2)] [] I J) {x1 : Int32} {x2 : Int32} {I : sI} {J : sJ} (hw : w_X12_unknown_4_s post k4 x1 x2 I J) : sG X 3 4 [(0, .ref 248), (1, .int x1), (2, .int x2)] [] I J := by
  unfold w_X12_unknown_4_s at hw
  refine g_iload_n h rfl 2 rfl dX12_unknown_4 ?_
  refine g_bipush (v := 12) h (by decide) dX12_unknown_5 ?_
  refine g_icmp_ge (tgt := 35) h (by decide) dX12_unknown_7 (fun q7 => ?_) (fun q7 => ?_)
  · replace hw := hw.1 q7
    refine g_iload_n h rfl 1 rfl dX12_unknown_35 ?_
    exact g_iret h hr dX12_unknown_36 hw
  · replace hw := hw.2 q7
    refine g_iload_n h rfl 1 rfl dX12_unknown_10 ?_
    refine g_aload_n h rfl 0 rfl dX12_unknown_11 ?_
    refine g_get h is_248 fl_X12_365 fr_248_48 dX12_unknown_12 ?_
    refine g_iload_n h rfl 2 rfl dX12_unknown_15 ?_
    obtain ⟨hi16, hw⟩ := hw
    refine g_iald h ar_276 hi16 dX12_unknown_16 ?_
    refine g_if_ne (tgt := 26) h (by decide) dX12_unknown_17 (fun q17 => ?_) (fun q17 => ?_)
    · replace hw := hw.1 q17
      refine g_iconst (v := 0) h (by decide) dX12_unknown_26 ?_
      exact g_sub [0, 2] rfl (t_X12_unknown_27 h hr hk4 hw)
    · replace hw := hw.2 q17
      refine g_iconst (v := 1) h (by decide) dX12_unknown_20 ?_
      refine g_iload_n h rfl 2 rfl dX12_unknown_21 ?_
      refine g_ishl h dX12_unknown_22 ?_
      refine g_goto (tgt := 27) h (by decide) dX12_unknown_23 ?_
      exact g_sub [0, 2] rfl (t_X12_unknown_27 h hr hk4 hw)
theorem t_X12_unknown_4 {X : sX} {post : Int32 → sI → sJ → Prop} (h : sOK X cX12_unknown RX12 3 0 0) (hr : sRt X (some .int) (sPi post)) {x1 : Int32} {x2 : Int32} {I : sI} {J : sJ} (hw : w_X12_unknown_4 post x1 x2 I J) : sG X 3 4 [(0, .ref 248), (1, .int x1), (2, .int x2)] [] I J := by
  obtain ⟨n, hw⟩ := hw
  induction n generalizing x1 x2 I J with
  | zero => exact hw.elim
  | succ n ih => exact t_X12_unknown_4_s h hr (fun _ _ _ _ q => ih q) hw
def w_X12_unknown (I : sI) (J : sJ) (post : Int32 → sI → sJ → Prop) : Prop :=
  w_X12_unknown_4 post 0 0 I J
set_option maxHeartbeats 4000000 in
set_option maxRecDepth 100000 in
theorem t_X12_unknown {X : sX} {I : sI} {J : sJ} {post : Int32 → sI → sJ → Prop} (h : sOK X cX12_unknown RX12 3 0 0) (hr : sRt X (some .int) (sPi post)) (hw : w_X12_unknown I J post) : sG X 3 0 [(0, .ref 248)] [] I J := by
  unfold w_X12_unknown at hw
  refine g_iconst (v := 0) h (by decide) dX12_unknown_0 ?_
  refine g_istore_n (lo2 := [(1, .int 0), (0, .ref 248)]) h rfl (by decide) rfl dX12_unknown_1 ?_
  refine g_iconst (v := 0) h (by decide) dX12_unknown_2 ?_
  refine g_istore_n (lo2 := [(2, .int 0), (1, .int 0), (0, .ref 248)]) h rfl (by decide) rfl dX12_unknown_3 ?_
  exact g_sub [2, 1, 0] rfl (t_X12_unknown_4 h hr hw)
theorem c_X12_unknown (X : sX) {I : sI} {J : sJ} {post : Int32 → sI → sJ → Prop} (hw : w_X12_unknown I J post) : sCall X yX12_unknown cX12_unknown 3 (some .int) 0 0 [.ref 248] I J (sPi post) := sCall_of (by decide +kernel) (Nat.le_of_ble_eq_true rfl) (fun X h hr => t_X12_unknown h hr hw)
theorem dX12_partsPairs_0 : decode cX12_partsPairs 0 = .ok (.iconst 0, 1) := by decide +kernel
theorem dX12_partsPairs_1 : decode cX12_partsPairs 1 = .ok (.istore 4, 2) := by decide +kernel
theorem dX12_partsPairs_3 : decode cX12_partsPairs 3 = .ok (.iload 4, 2) := by decide +kernel
theorem dX12_partsPairs_5 : decode cX12_partsPairs 5 = .ok (.aload_n 0, 1) := by decide +kernel
theorem dX12_partsPairs_6 : decode cX12_partsPairs 6 = .ok (.getfield 353, 3) := by decide +kernel
theorem dX12_partsPairs_9 : decode cX12_partsPairs 9 = .ok (.if_icmp .ge 71, 3) := by decide +kernel
theorem dX12_partsPairs_12 : decode cX12_partsPairs 12 = .ok (.iload 4, 2) := by decide +kernel
theorem dX12_partsPairs_14 : decode cX12_partsPairs 14 = .ok (.iconst 1, 1) := by decide +kernel
theorem dX12_partsPairs_15 : decode cX12_partsPairs 15 = .ok (.iadd, 1) := by decide +kernel
theorem dX12_partsPairs_16 : decode cX12_partsPairs 16 = .ok (.istore 5, 2) := by decide +kernel
theorem dX12_partsPairs_18 : decode cX12_partsPairs 18 = .ok (.iload 5, 2) := by decide +kernel
theorem dX12_partsPairs_20 : decode cX12_partsPairs 20 = .ok (.aload_n 0, 1) := by decide +kernel
theorem dX12_partsPairs_21 : decode cX12_partsPairs 21 = .ok (.getfield 353, 3) := by decide +kernel
theorem dX12_partsPairs_24 : decode cX12_partsPairs 24 = .ok (.if_icmp .ge 50, 3) := by decide +kernel
theorem dX12_partsPairs_27 : decode cX12_partsPairs 27 = .ok (.iload_n 2, 1) := by decide +kernel
theorem dX12_partsPairs_28 : decode cX12_partsPairs 28 = .ok (.iload 4, 2) := by decide +kernel
theorem dX12_partsPairs_30 : decode cX12_partsPairs 30 = .ok (.invokestatic 242, 3) := by decide +kernel
theorem dX12_partsPairs_33 : decode cX12_partsPairs 33 = .ok (.ifCond .eq 35, 3) := by decide +kernel
theorem dX12_partsPairs_36 : decode cX12_partsPairs 36 = .ok (.iload_n 2, 1) := by decide +kernel
theorem dX12_partsPairs_37 : decode cX12_partsPairs 37 = .ok (.iload 5, 2) := by decide +kernel
theorem dX12_partsPairs_39 : decode cX12_partsPairs 39 = .ok (.invokestatic 242, 3) := by decide +kernel
theorem dX12_partsPairs_42 : decode cX12_partsPairs 42 = .ok (.ifCond .eq 26, 3) := by decide +kernel
theorem dX12_partsPairs_45 : decode cX12_partsPairs 45 = .ok (.aload_n 0, 1) := by decide +kernel
theorem dX12_partsPairs_46 : decode cX12_partsPairs 46 = .ok (.iload_n 1, 1) := by decide +kernel
theorem dX12_partsPairs_47 : decode cX12_partsPairs 47 = .ok (.iload 4, 2) := by decide +kernel
theorem dX12_partsPairs_49 : decode cX12_partsPairs 49 = .ok (.iload 5, 2) := by decide +kernel
theorem dX12_partsPairs_51 : decode cX12_partsPairs 51 = .ok (.invokevirtual 374, 3) := by decide +kernel
theorem dX12_partsPairs_54 : decode cX12_partsPairs 54 = .ok (.iload_n 3, 1) := by decide +kernel
theorem dX12_partsPairs_55 : decode cX12_partsPairs 55 = .ok (.if_icmp .eq 13, 3) := by decide +kernel
theorem dX12_partsPairs_58 : decode cX12_partsPairs 58 = .ok (.iload_n 3, 1) := by decide +kernel
theorem dX12_partsPairs_59 : decode cX12_partsPairs 59 = .ok (.ifCond .ne 7, 3) := by decide +kernel
theorem dX12_partsPairs_62 : decode cX12_partsPairs 62 = .ok (.iconst 1, 1) := by decide +kernel
theorem dX12_partsPairs_63 : decode cX12_partsPairs 63 = .ok (.goto 4, 3) := by decide +kernel
theorem dX12_partsPairs_66 : decode cX12_partsPairs 66 = .ok (.iconst 0, 1) := by decide +kernel
theorem dX12_partsPairs_67 : decode cX12_partsPairs 67 = .ok (.ireturn, 1) := by decide +kernel
theorem dX12_partsPairs_68 : decode cX12_partsPairs 68 = .ok (.iinc 5 1, 3) := by decide +kernel
theorem dX12_partsPairs_71 : decode cX12_partsPairs 71 = .ok (.goto (-53), 3) := by decide +kernel
theorem dX12_partsPairs_74 : decode cX12_partsPairs 74 = .ok (.iinc 4 1, 3) := by decide +kernel
theorem dX12_partsPairs_77 : decode cX12_partsPairs 77 = .ok (.goto (-74), 3) := by decide +kernel
theorem dX12_partsPairs_80 : decode cX12_partsPairs 80 = .ok (.iload_n 3, 1) := by decide +kernel
theorem dX12_partsPairs_81 : decode cX12_partsPairs 81 = .ok (.ireturn, 1) := by decide +kernel
def w_X12_partsPairs_68 (post : Int32 → sI → sJ → Prop) (k3 : Int32 → Int32 → Int32 → Int32 → sI → sJ → Prop) (k18 : Int32 → Int32 → Int32 → Int32 → Int32 → sI → sJ → Prop) (x1 : Int32) (x2 : Int32) (x3 : Int32) (x4 : Int32) (x5 : Int32) (I : sI) (J : sJ) : Prop :=
  (∀ v5_68 : Int32, v5_68 = x5 + 1 → k18 x1 x2 x3 x4 v5_68 I J)
set_option maxHeartbeats 4000000 in
set_option maxRecDepth 100000 in
theorem t_X12_partsPairs_68 {X : sX} {post : Int32 → sI → sJ → Prop} (h : sOK X cX12_partsPairs RX12 6 2 46) (hr : sRt X (some .boolean) (sPi post)) {k3 : Int32 → Int32 → Int32 → Int32 → sI → sJ → Prop} (hk3 : ∀ (x1 : Int32) (x2 : Int32) (x3 : Int32) (x4 : Int32) (I : sI) (J : sJ), k3 x1 x2 x3 x4 I J → sG X 6 3 [(0, .ref 248), (1, .int x1), (2, .int x2), (3, .int x3), (4, .int x4)] [] I J) {k18 : Int32 → Int32 → Int32 → Int32 → Int32 → sI → sJ → Prop} (hk18 : ∀ (x1 : Int32) (x2 : Int32) (x3 : Int32) (x4 : Int32) (x5 : Int32) (I : sI) (J : sJ), k18 x1 x2 x3 x4 x5 I J → sG X 6 18 [(0, .ref 248), (1, .int x1), (2, .int x2), (3, .int x3), (4, .int x4), (5, .int x5)] [] I J) {x1 : Int32} {x2 : Int32} {x3 : Int32} {x4 : Int32} {x5 : Int32} {I : sI} {J : sJ} (hw : w_X12_partsPairs_68 post k3 k18 x1 x2 x3 x4 x5 I J) : sG X 6 68 [(0, .ref 248), (1, .int x1), (2, .int x2), (3, .int x3), (4, .int x4), (5, .int x5)] [] I J := by
  unfold w_X12_partsPairs_68 at hw
  obtain ⟨v5_68, ev5_68⟩ : ∃ z : Int32, z = x5 + 1 := ⟨_, rfl⟩
  replace hw := hw v5_68 ev5_68
  refine g_iinc (v := v5_68) (lo2 := [(5, .int v5_68), (0, .ref 248), (1, .int x1), (2, .int x2), (3, .int x3), (4, .int x4)]) h 5 rfl (by rw [ev5_68]; rfl) (by decide) rfl dX12_partsPairs_68 ?_
  refine g_goto (tgt := 18) h (by decide) dX12_partsPairs_71 ?_
  exact g_sub [1, 2, 3, 4, 5, 0] rfl (hk18 _ _ _ _ _ _ _ hw)
def w_X12_partsPairs_18_s (post : Int32 → sI → sJ → Prop) (k3 : Int32 → Int32 → Int32 → Int32 → sI → sJ → Prop) (k18 : Int32 → Int32 → Int32 → Int32 → Int32 → sI → sJ → Prop) (x1 : Int32) (x2 : Int32) (x3 : Int32) (x4 : Int32) (x5 : Int32) (I : sI) (J : sJ) : Prop :=
  (((I 248 46) ≤ x5 → (∀ v4_74 : Int32, v4_74 = x4 + 1 → k3 x1 x2 x3 v4_74 I J)) ∧ (¬ (I 248 46) ≤ x5 → w_X12_has x2 x4 I J (fun (r_30 : Int32) (I_30 : sI) (J_30 : sJ) => (((r_30 = 0 → w_X12_partsPairs_68 post k3 k18 x1 x2 x3 x4 x5 I_30 J_30) ∧ (¬ r_30 = 0 → w_X12_has x2 x5 I_30 J_30 (fun (r_39 : Int32) (I_39 : sI) (J_39 : sJ) => (((r_39 = 0 → w_X12_partsPairs_68 post k3 k18 x1 x2 x3 x4 x5 I_39 J_39) ∧ (¬ r_39 = 0 → w_X12_parts x1 x4 x5 I_39 J_39 (fun (r_51 : Int32) (I_51 : sI) (J_51 : sJ) => (((r_51 = x3 → w_X12_partsPairs_68 post k3 k18 x1 x2 x3 x4 x5 I_51 J_51) ∧ (¬ r_51 = x3 → ((¬ x3 = 0 → post 0 I_51 J_51) ∧ (x3 = 0 → post 1 I_51 J_51))))))))))))))))
def w_X12_partsPairs_18_n (post : Int32 → sI → sJ → Prop) (k3 : Int32 → Int32 → Int32 → Int32 → sI → sJ → Prop) : Nat → Int32 → Int32 → Int32 → Int32 → Int32 → sI → sJ → Prop
  | 0 => fun _ _ _ _ _ _ _ => False
  | n + 1 => fun x1 x2 x3 x4 x5 I J => w_X12_partsPairs_18_s post k3 (w_X12_partsPairs_18_n post k3 n) x1 x2 x3 x4 x5 I J
def w_X12_partsPairs_18 (post : Int32 → sI → sJ → Prop) (k3 : Int32 → Int32 → Int32 → Int32 → sI → sJ → Prop) (x1 : Int32) (x2 : Int32) (x3 : Int32) (x4 : Int32) (x5 : Int32) (I : sI) (J : sJ) : Prop := ∃ n, w_X12_partsPairs_18_n post k3 n x1 x2 x3 x4 x5 I J
set_option maxHeartbeats 4000000 in
set_option maxRecDepth 100000 in
theorem t_X12_partsPairs_18_s {X : sX} {post : Int32 → sI → sJ → Prop} (h : sOK X cX12_partsPairs RX12 6 2 46) (hr : sRt X (some .boolean) (sPi post)) {k3 : Int32 → Int32 → Int32 → Int32 → sI → sJ → Prop} (hk3 : ∀ (x1 : Int32) (x2 : Int32) (x3 : Int32) (x4 : Int32) (I : sI) (J : sJ), k3 x1 x2 x3 x4 I J → sG X 6 3 [(0, .ref 248), (1, .int x1), (2, .int x2), (3, .int x3), (4, .int x4)] [] I J) {k18 : Int32 → Int32 → Int32 → Int32 → Int32 → sI → sJ → Prop} (hk18 : ∀ (x1 : Int32) (x2 : Int32) (x3 : Int32) (x4 : Int32) (x5 : Int32) (I : sI) (J : sJ), k18 x1 x2 x3 x4 x5 I J → sG X 6 18 [(0, .ref 248), (1, .int x1), (2, .int x2), (3, .int x3), (4, .int x4), (5, .int x5)] [] I J) {x1 : Int32} {x2 : Int32} {x3 : Int32} {x4 : Int32} {x5 : Int32} {I : sI} {J : sJ} (hw : w_X12_partsPairs_18_s post k3 k18 x1 x2 x3 x4 x5 I J) : sG X 6 18 [(0, .ref 248), (1, .int x1), (2, .int x2), (3, .int x3), (4, .int x4), (5, .int x5)] [] I J := by
  unfold w_X12_partsPairs_18_s at hw
  refine g_iload h 5 rfl dX12_partsPairs_18 ?_
  refine g_aload_n h rfl 0 rfl dX12_partsPairs_20 ?_
  refine g_get h is_248 fl_X12_353 rfl dX12_partsPairs_21 ?_
  refine g_icmp_ge (tgt := 74) h (by decide) dX12_partsPairs_24 (fun q24 => ?_) (fun q24 => ?_)
  · replace hw := hw.1 q24
    obtain ⟨v4_74, ev4_74⟩ : ∃ z : Int32, z = x4 + 1 := ⟨_, rfl⟩
    replace hw := hw v4_74 ev4_74
    refine g_iinc (v := v4_74) (lo2 := [(4, .int v4_74), (0, .ref 248), (1, .int x1), (2, .int x2), (3, .int x3), (5, .int x5)]) h 4 rfl (by rw [ev4_74]; rfl) (by decide) rfl dX12_partsPairs_74 ?_
    refine g_goto (tgt := 3) h (by decide) dX12_partsPairs_77 ?_
    exact g_sub [1, 2, 3, 4, 0] rfl (hk3 _ _ _ _ _ _ hw)
  · replace hw := hw.2 q24
    refine g_iload_n h rfl 2 rfl dX12_partsPairs_27 ?_
    refine g_iload h 4 rfl dX12_partsPairs_28 ?_
    refine g_callS [.int x2, .int x4] h (c_X12_has X hw) sPi_v mw_X12_has lk_X12_242 rfl ⟨by decide, by decide⟩ (Nat.le_of_ble_eq_true rfl) dX12_partsPairs_30 (sPi_k (fun r_30 I_30 J_30 hw => ?_))
    refine g_if_eq (tgt := 68) h (by decide) dX12_partsPairs_33 (fun q33 => ?_) (fun q33 => ?_)
    · replace hw := hw.1 q33
      exact g_sub [0, 1, 2, 3, 4, 5] rfl (t_X12_partsPairs_68 h hr hk3 hk18 hw)
    · replace hw := hw.2 q33
      refine g_iload_n h rfl 2 rfl dX12_partsPairs_36 ?_
      refine g_iload h 5 rfl dX12_partsPairs_37 ?_
      refine g_callS [.int x2, .int x5] h (c_X12_has X hw) sPi_v mw_X12_has lk_X12_242 rfl ⟨by decide, by decide⟩ (Nat.le_of_ble_eq_true rfl) dX12_partsPairs_39 (sPi_k (fun r_39 I_39 J_39 hw => ?_))
      refine g_if_eq (tgt := 68) h (by decide) dX12_partsPairs_42 (fun q42 => ?_) (fun q42 => ?_)
      · replace hw := hw.1 q42
        exact g_sub [0, 1, 2, 3, 4, 5] rfl (t_X12_partsPairs_68 h hr hk3 hk18 hw)
      · replace hw := hw.2 q42
        refine g_aload_n h rfl 0 rfl dX12_partsPairs_45 ?_
        refine g_iload_n h rfl 1 rfl dX12_partsPairs_46 ?_
        refine g_iload h 4 rfl dX12_partsPairs_47 ?_
        refine g_iload h 5 rfl dX12_partsPairs_49 ?_
        refine g_callV [.int x1, .int x4, .int x5] h (c_X12_parts X hw) sPi_v mw_X12_parts lk_X12_374 is_248 rfl rfl ⟨by decide, by decide⟩ (Nat.le_of_ble_eq_true rfl) dX12_partsPairs_51 (sPi_k (fun r_51 I_51 J_51 hw => ?_))
        refine g_iload_n h rfl 3 rfl dX12_partsPairs_54 ?_
        refine g_icmp_eq (tgt := 68) h (by decide) dX12_partsPairs_55 (fun q55 => ?_) (fun q55 => ?_)
        · replace hw := hw.1 q55
          exact g_sub [0, 1, 2, 3, 4, 5] rfl (t_X12_partsPairs_68 h hr hk3 hk18 hw)
        · replace hw := hw.2 q55
          refine g_iload_n h rfl 3 rfl dX12_partsPairs_58 ?_
          refine g_if_ne (tgt := 66) h (by decide) dX12_partsPairs_59 (fun q59 => ?_) (fun q59 => ?_)
          · replace hw := hw.1 q59
            refine g_iconst (v := 0) h (by decide) dX12_partsPairs_66 ?_
            exact g_zret h hr (Or.inl rfl) dX12_partsPairs_67 hw
          · replace hw := hw.2 q59
            refine g_iconst (v := 1) h (by decide) dX12_partsPairs_62 ?_
            refine g_goto (tgt := 67) h (by decide) dX12_partsPairs_63 ?_
            exact g_zret h hr (Or.inr rfl) dX12_partsPairs_67 hw
theorem t_X12_partsPairs_18 {X : sX} {post : Int32 → sI → sJ → Prop} (h : sOK X cX12_partsPairs RX12 6 2 46) (hr : sRt X (some .boolean) (sPi post)) {k3 : Int32 → Int32 → Int32 → Int32 → sI → sJ → Prop} (hk3 : ∀ (x1 : Int32) (x2 : Int32) (x3 : Int32) (x4 : Int32) (I : sI) (J : sJ), k3 x1 x2 x3 x4 I J → sG X 6 3 [(0, .ref 248), (1, .int x1), (2, .int x2), (3, .int x3), (4, .int x4)] [] I J) {x1 : Int32} {x2 : Int32} {x3 : Int32} {x4 : Int32} {x5 : Int32} {I : sI} {J : sJ} (hw : w_X12_partsPairs_18 post k3 x1 x2 x3 x4 x5 I J) : sG X 6 18 [(0, .ref 248), (1, .int x1), (2, .int x2), (3, .int x3), (4, .int x4), (5, .int x5)] [] I J := by
  obtain ⟨n, hw⟩ := hw
  induction n generalizing x1 x2 x3 x4 x5 I J with
  | zero => exact hw.elim
  | succ n ih => exact t_X12_partsPairs_18_s h hr hk3 (fun _ _ _ _ _ _ _ q => ih q) hw
def w_X12_partsPairs_3_s (post : Int32 → sI → sJ → Prop) (k3 : Int32 → Int32 → Int32 → Int32 → sI → sJ → Prop) (x1 : Int32) (x2 : Int32) (x3 : Int32) (x4 : Int32) (I : sI) (J : sJ) : Prop :=
  (((I 248 46) ≤ x4 → (sZ x3 ∧ post x3 I J)) ∧ (¬ (I 248 46) ≤ x4 → (∀ v5_16 : Int32, v5_16 = x4 + 1 → w_X12_partsPairs_18 post k3 x1 x2 x3 x4 v5_16 I J)))
def w_X12_partsPairs_3_n (post : Int32 → sI → sJ → Prop) : Nat → Int32 → Int32 → Int32 → Int32 → sI → sJ → Prop
  | 0 => fun _ _ _ _ _ _ => False
  | n + 1 => fun x1 x2 x3 x4 I J => w_X12_partsPairs_3_s post (w_X12_partsPairs_3_n post n) x1 x2 x3 x4 I J
def w_X12_partsPairs_3 (post : Int32 → sI → sJ → Prop) (x1 : Int32) (x2 : Int32) (x3 : Int32) (x4 : Int32) (I : sI) (J : sJ) : Prop := ∃ n, w_X12_partsPairs_3_n post n x1 x2 x3 x4 I J
set_option maxHeartbeats 4000000 in
set_option maxRecDepth 100000 in
theorem t_X12_partsPairs_3_s {X : sX} {post : Int32 → sI → sJ → Prop} (h : sOK X cX12_partsPairs RX12 6 2 46) (hr : sRt X (some .boolean) (sPi post)) {k3 : Int32 → Int32 → Int32 → Int32 → sI → sJ → Prop} (hk3 : ∀ (x1 : Int32) (x2 : Int32) (x3 : Int32) (x4 : Int32) (I : sI) (J : sJ), k3 x1 x2 x3 x4 I J → sG X 6 3 [(0, .ref 248), (1, .int x1), (2, .int x2), (3, .int x3), (4, .int x4)] [] I J) {x1 : Int32} {x2 : Int32} {x3 : Int32} {x4 : Int32} {I : sI} {J : sJ} (hw : w_X12_partsPairs_3_s post k3 x1 x2 x3 x4 I J) : sG X 6 3 [(0, .ref 248), (1, .int x1), (2, .int x2), (3, .int x3), (4, .int x4)] [] I J := by
  unfold w_X12_partsPairs_3_s at hw
  refine g_iload h 4 rfl dX12_partsPairs_3 ?_
  refine g_aload_n h rfl 0 rfl dX12_partsPairs_5 ?_
  refine g_get h is_248 fl_X12_353 rfl dX12_partsPairs_6 ?_
  refine g_icmp_ge (tgt := 80) h (by decide) dX12_partsPairs_9 (fun q9 => ?_) (fun q9 => ?_)
  · replace hw := hw.1 q9
    refine g_iload_n h rfl 3 rfl dX12_partsPairs_80 ?_
    exact g_zret h hr hw.1 dX12_partsPairs_81 hw.2
  · replace hw := hw.2 q9
    refine g_iload h 4 rfl dX12_partsPairs_12 ?_
    refine g_iconst (v := 1) h (by decide) dX12_partsPairs_14 ?_
    refine g_iadd h dX12_partsPairs_15 ?_
    refine g_ni (fun v5_16 ev5_16 => ?_)
    replace hw := hw v5_16 ev5_16
    refine g_istore (lo2 := [(5, .int v5_16), (0, .ref 248), (1, .int x1), (2, .int x2), (3, .int x3), (4, .int x4)]) h (by decide) rfl dX12_partsPairs_16 ?_
    exact g_sub [1, 2, 3, 4, 5, 0] rfl (t_X12_partsPairs_18 h hr hk3 hw)
theorem t_X12_partsPairs_3 {X : sX} {post : Int32 → sI → sJ → Prop} (h : sOK X cX12_partsPairs RX12 6 2 46) (hr : sRt X (some .boolean) (sPi post)) {x1 : Int32} {x2 : Int32} {x3 : Int32} {x4 : Int32} {I : sI} {J : sJ} (hw : w_X12_partsPairs_3 post x1 x2 x3 x4 I J) : sG X 6 3 [(0, .ref 248), (1, .int x1), (2, .int x2), (3, .int x3), (4, .int x4)] [] I J := by
  obtain ⟨n, hw⟩ := hw
  induction n generalizing x1 x2 x3 x4 I J with
  | zero => exact hw.elim
  | succ n ih => exact t_X12_partsPairs_3_s h hr (fun _ _ _ _ _ _ q => ih q) hw
def w_X12_partsPairs (a1 : Int32) (a2 : Int32) (a3 : Int32) (I : sI) (J : sJ) (post : Int32 → sI → sJ → Prop) : Prop :=
  w_X12_partsPairs_3 post a1 a2 a3 0 I J
set_option maxHeartbeats 4000000 in
set_option maxRecDepth 100000 in
theorem t_X12_partsPairs {X : sX} {a1 : Int32} {a2 : Int32} {a3 : Int32} {I : sI} {J : sJ} {post : Int32 → sI → sJ → Prop} (h : sOK X cX12_partsPairs RX12 6 2 46) (hr : sRt X (some .boolean) (sPi post)) (hw : w_X12_partsPairs a1 a2 a3 I J post) : sG X 6 0 [(0, .ref 248), (1, .int a1), (2, .int a2), (3, .int a3)] [] I J := by
  unfold w_X12_partsPairs at hw
  refine g_iconst (v := 0) h (by decide) dX12_partsPairs_0 ?_
  refine g_istore (lo2 := [(4, .int 0), (0, .ref 248), (1, .int a1), (2, .int a2), (3, .int a3)]) h (by decide) rfl dX12_partsPairs_1 ?_
  exact g_sub [1, 2, 3, 4, 0] rfl (t_X12_partsPairs_3 h hr hw)
theorem c_X12_partsPairs (X : sX) {a1 : Int32} {a2 : Int32} {a3 : Int32} {I : sI} {J : sJ} {post : Int32 → sI → sJ → Prop} (hw : w_X12_partsPairs a1 a2 a3 I J post) : sCall X yX12_partsPairs cX12_partsPairs 6 (some .boolean) 2 46 [.ref 248, .int a1, .int a2, .int a3] I J (sPi post) := sCall_of (by decide +kernel) (Nat.le_of_ble_eq_true rfl) (fun X h hr => t_X12_partsPairs h hr hw)
theorem dX12_part_0 : decode cX12_part 0 = .ok (.aload_n 0, 1) := by decide +kernel
theorem dX12_part_1 : decode cX12_part 1 = .ok (.iconst 0, 1) := by decide +kernel
theorem dX12_part_2 : decode cX12_part 2 = .ok (.putfield 1, 3) := by decide +kernel
theorem dX12_part_5 : decode cX12_part 5 = .ok (.aload_n 0, 1) := by decide +kernel
theorem dX12_part_6 : decode cX12_part 6 = .ok (.invokevirtual 368, 3) := by decide +kernel
theorem dX12_part_9 : decode cX12_part 9 = .ok (.istore_n 1, 1) := by decide +kernel
theorem dX12_part_10 : decode cX12_part 10 = .ok (.aload_n 0, 1) := by decide +kernel
theorem dX12_part_11 : decode cX12_part 11 = .ok (.invokevirtual 377, 3) := by decide +kernel
theorem dX12_part_14 : decode cX12_part 14 = .ok (.istore_n 2, 1) := by decide +kernel
theorem dX12_part_15 : decode cX12_part 15 = .ok (.iconst (-1), 1) := by decide +kernel
theorem dX12_part_16 : decode cX12_part 16 = .ok (.istore_n 3, 1) := by decide +kernel
theorem dX12_part_17 : decode cX12_part 17 = .ok (.iconst 0, 1) := by decide +kernel
theorem dX12_part_18 : decode cX12_part 18 = .ok (.istore 4, 2) := by decide +kernel
theorem dX12_part_20 : decode cX12_part 20 = .ok (.iload 4, 2) := by decide +kernel
theorem dX12_part_22 : decode cX12_part 22 = .ok (.sipush 4096, 3) := by decide +kernel
theorem dX12_part_25 : decode cX12_part 25 = .ok (.if_icmp .ge 64, 3) := by decide +kernel
theorem dX12_part_28 : decode cX12_part 28 = .ok (.iload_n 3, 1) := by decide +kernel
theorem dX12_part_29 : decode cX12_part 29 = .ok (.ifCond .lt 15, 3) := by decide +kernel
theorem dX12_part_32 : decode cX12_part 32 = .ok (.iload 4, 2) := by decide +kernel
theorem dX12_part_34 : decode cX12_part 34 = .ok (.invokestatic 278, 3) := by decide +kernel
theorem dX12_part_37 : decode cX12_part 37 = .ok (.iload_n 3, 1) := by decide +kernel
theorem dX12_part_38 : decode cX12_part 38 = .ok (.invokestatic 278, 3) := by decide +kernel
theorem dX12_part_41 : decode cX12_part 41 = .ok (.if_icmp .ge 7, 3) := by decide +kernel
theorem dX12_part_44 : decode cX12_part 44 = .ok (.iconst 1, 1) := by decide +kernel
theorem dX12_part_45 : decode cX12_part 45 = .ok (.goto 4, 3) := by decide +kernel
theorem dX12_part_48 : decode cX12_part 48 = .ok (.iconst 0, 1) := by decide +kernel
theorem dX12_part_49 : decode cX12_part 49 = .ok (.istore 5, 2) := by decide +kernel
theorem dX12_part_51 : decode cX12_part 51 = .ok (.iload 5, 2) := by decide +kernel
theorem dX12_part_53 : decode cX12_part 53 = .ok (.ifCond .eq 28, 3) := by decide +kernel
theorem dX12_part_56 : decode cX12_part 56 = .ok (.iload 4, 2) := by decide +kernel
theorem dX12_part_58 : decode cX12_part 58 = .ok (.iload_n 2, 1) := by decide +kernel
theorem dX12_part_59 : decode cX12_part 59 = .ok (.iconst (-1), 1) := by decide +kernel
theorem dX12_part_60 : decode cX12_part 60 = .ok (.ixor, 1) := by decide +kernel
theorem dX12_part_61 : decode cX12_part 61 = .ok (.iand, 1) := by decide +kernel
theorem dX12_part_62 : decode cX12_part 62 = .ok (.ifCond .ne 19, 3) := by decide +kernel
theorem dX12_part_65 : decode cX12_part 65 = .ok (.aload_n 0, 1) := by decide +kernel
theorem dX12_part_66 : decode cX12_part 66 = .ok (.iload 4, 2) := by decide +kernel
theorem dX12_part_68 : decode cX12_part 68 = .ok (.iload_n 1, 1) := by decide +kernel
theorem dX12_part_69 : decode cX12_part 69 = .ok (.iconst 1, 1) := by decide +kernel
theorem dX12_part_70 : decode cX12_part 70 = .ok (.invokevirtual 380, 3) := by decide +kernel
theorem dX12_part_73 : decode cX12_part 73 = .ok (.ifCond .eq 8, 3) := by decide +kernel
theorem dX12_part_76 : decode cX12_part 76 = .ok (.iload 4, 2) := by decide +kernel
theorem dX12_part_78 : decode cX12_part 78 = .ok (.goto 4, 3) := by decide +kernel
theorem dX12_part_81 : decode cX12_part 81 = .ok (.iload_n 3, 1) := by decide +kernel
theorem dX12_part_82 : decode cX12_part 82 = .ok (.istore_n 3, 1) := by decide +kernel
theorem dX12_part_83 : decode cX12_part 83 = .ok (.iinc 4 1, 3) := by decide +kernel
theorem dX12_part_86 : decode cX12_part 86 = .ok (.goto (-66), 3) := by decide +kernel
theorem dX12_part_89 : decode cX12_part 89 = .ok (.iload_n 3, 1) := by decide +kernel
theorem dX12_part_90 : decode cX12_part 90 = .ok (.ifCond .ge 6, 3) := by decide +kernel
theorem dX12_part_93 : decode cX12_part 93 = .ok (.bipush (-2), 2) := by decide +kernel
theorem dX12_part_95 : decode cX12_part 95 = .ok (.ireturn, 1) := by decide +kernel
theorem dX12_part_96 : decode cX12_part 96 = .ok (.aload_n 0, 1) := by decide +kernel
theorem dX12_part_97 : decode cX12_part 97 = .ok (.iconst 0, 1) := by decide +kernel
theorem dX12_part_98 : decode cX12_part 98 = .ok (.putfield 11, 3) := by decide +kernel
theorem dX12_part_101 : decode cX12_part 101 = .ok (.aload_n 0, 1) := by decide +kernel
theorem dX12_part_102 : decode cX12_part 102 = .ok (.iload_n 3, 1) := by decide +kernel
theorem dX12_part_103 : decode cX12_part 103 = .ok (.i2l, 1) := by decide +kernel
theorem dX12_part_104 : decode cX12_part 104 = .ok (.invokevirtual 18, 3) := by decide +kernel
theorem dX12_part_107 : decode cX12_part 107 = .ok (.iload_n 3, 1) := by decide +kernel
theorem dX12_part_108 : decode cX12_part 108 = .ok (.invokestatic 278, 3) := by decide +kernel
theorem dX12_part_111 : decode cX12_part 111 = .ok (.ireturn, 1) := by decide +kernel
def w_X12_part_82 (post : Int32 → sI → sJ → Prop) (k20 : Int32 → Int32 → Int32 → Int32 → sI → sJ → Prop) (x1 : Int32) (x2 : Int32) (x4 : Int32) (s0 : Int32) (I : sI) (J : sJ) : Prop :=
  (∀ v4_83 : Int32, v4_83 = x4 + 1 → k20 x1 x2 s0 v4_83 I J)
set_option maxHeartbeats 4000000 in
set_option maxRecDepth 100000 in
theorem t_X12_part_82 {X : sX} {post : Int32 → sI → sJ → Prop} (h : sOK X cX12_part RX12 6 3 71) (hr : sRt X (some .int) (sPi post)) {k20 : Int32 → Int32 → Int32 → Int32 → sI → sJ → Prop} (hk20 : ∀ (x1 : Int32) (x2 : Int32) (x3 : Int32) (x4 : Int32) (I : sI) (J : sJ), k20 x1 x2 x3 x4 I J → sG X 6 20 [(0, .ref 248), (1, .int x1), (2, .int x2), (3, .int x3), (4, .int x4)] [] I J) {x1 : Int32} {x2 : Int32} {x4 : Int32} {s0 : Int32} {I : sI} {J : sJ} (hw : w_X12_part_82 post k20 x1 x2 x4 s0 I J) : sG X 6 82 [(0, .ref 248), (1, .int x1), (2, .int x2), (4, .int x4)] [.int s0] I J := by
  unfold w_X12_part_82 at hw
  refine g_istore_n (lo2 := [(3, .int s0), (0, .ref 248), (1, .int x1), (2, .int x2), (4, .int x4)]) h rfl (by decide) rfl dX12_part_82 ?_
  obtain ⟨v4_83, ev4_83⟩ : ∃ z : Int32, z = x4 + 1 := ⟨_, rfl⟩
  replace hw := hw v4_83 ev4_83
  refine g_iinc (v := v4_83) (lo2 := [(4, .int v4_83), (3, .int s0), (0, .ref 248), (1, .int x1), (2, .int x2)]) h 4 rfl (by rw [ev4_83]; rfl) (by decide) rfl dX12_part_83 ?_
  refine g_goto (tgt := 20) h (by decide) dX12_part_86 ?_
  exact g_sub [2, 3, 4, 1, 0] rfl (hk20 _ _ _ _ _ _ hw)
def w_X12_part_81 (post : Int32 → sI → sJ → Prop) (k20 : Int32 → Int32 → Int32 → Int32 → sI → sJ → Prop) (x1 : Int32) (x2 : Int32) (x3 : Int32) (x4 : Int32) (I : sI) (J : sJ) : Prop :=
  w_X12_part_82 post k20 x1 x2 x4 x3 I J
set_option maxHeartbeats 4000000 in
set_option maxRecDepth 100000 in
theorem t_X12_part_81 {X : sX} {post : Int32 → sI → sJ → Prop} (h : sOK X cX12_part RX12 6 3 71) (hr : sRt X (some .int) (sPi post)) {k20 : Int32 → Int32 → Int32 → Int32 → sI → sJ → Prop} (hk20 : ∀ (x1 : Int32) (x2 : Int32) (x3 : Int32) (x4 : Int32) (I : sI) (J : sJ), k20 x1 x2 x3 x4 I J → sG X 6 20 [(0, .ref 248), (1, .int x1), (2, .int x2), (3, .int x3), (4, .int x4)] [] I J) {x1 : Int32} {x2 : Int32} {x3 : Int32} {x4 : Int32} {I : sI} {J : sJ} (hw : w_X12_part_81 post k20 x1 x2 x3 x4 I J) : sG X 6 81 [(0, .ref 248), (1, .int x1), (2, .int x2), (3, .int x3), (4, .int x4)] [] I J := by
  unfold w_X12_part_81 at hw
  refine g_iload_n h rfl 3 rfl dX12_part_81 ?_
  exact g_sub [0, 1, 2, 4] rfl (t_X12_part_82 h hr hk20 hw)
def w_X12_part_49 (post : Int32 → sI → sJ → Prop) (k20 : Int32 → Int32 → Int32 → Int32 → sI → sJ → Prop) (x1 : Int32) (x2 : Int32) (x3 : Int32) (x4 : Int32) (s0 : Int32) (I : sI) (J : sJ) : Prop :=
  ((s0 = 0 → w_X12_part_81 post k20 x1 x2 x3 x4 I J) ∧ (¬ s0 = 0 → ((¬ (x4 &&& (x2 ^^^ (-1))) = 0 → w_X12_part_81 post k20 x1 x2 x3 x4 I J) ∧ ((x4 &&& (x2 ^^^ (-1))) = 0 → w_X12_partsPairs x4 x1 1 I J (fun (r_70 : Int32) (I_70 : sI) (J_70 : sJ) => (((r_70 = 0 → w_X12_part_81 post k20 x1 x2 x3 x4 I_70 J_70) ∧ (¬ r_70 = 0 → w_X12_part_82 post k20 x1 x2 x4 x4 I_70 J_70))))))))
set_option maxHeartbeats 4000000 in
set_option maxRecDepth 100000 in
theorem t_X12_part_49 {X : sX} {post : Int32 → sI → sJ → Prop} (h : sOK X cX12_part RX12 6 3 71) (hr : sRt X (some .int) (sPi post)) {k20 : Int32 → Int32 → Int32 → Int32 → sI → sJ → Prop} (hk20 : ∀ (x1 : Int32) (x2 : Int32) (x3 : Int32) (x4 : Int32) (I : sI) (J : sJ), k20 x1 x2 x3 x4 I J → sG X 6 20 [(0, .ref 248), (1, .int x1), (2, .int x2), (3, .int x3), (4, .int x4)] [] I J) {x1 : Int32} {x2 : Int32} {x3 : Int32} {x4 : Int32} {s0 : Int32} {I : sI} {J : sJ} (hw : w_X12_part_49 post k20 x1 x2 x3 x4 s0 I J) : sG X 6 49 [(0, .ref 248), (1, .int x1), (2, .int x2), (3, .int x3), (4, .int x4)] [.int s0] I J := by
  unfold w_X12_part_49 at hw
  refine g_istore (lo2 := [(5, .int s0), (0, .ref 248), (1, .int x1), (2, .int x2), (3, .int x3), (4, .int x4)]) h (by decide) rfl dX12_part_49 ?_
  refine g_iload h 0 rfl dX12_part_51 ?_
  refine g_if_eq (tgt := 81) h (by decide) dX12_part_53 (fun q53 => ?_) (fun q53 => ?_)
  · replace hw := hw.1 q53
    exact g_sub [1, 2, 3, 4, 5] rfl (t_X12_part_81 h hr hk20 hw)
  · replace hw := hw.2 q53
    refine g_iload h 5 rfl dX12_part_56 ?_
    refine g_iload_n h rfl 3 rfl dX12_part_58 ?_
    refine g_iconst (v := (-1)) h (by decide) dX12_part_59 ?_
    refine g_ixor h dX12_part_60 ?_
    refine g_iand h dX12_part_61 ?_
    refine g_if_ne (tgt := 81) h (by decide) dX12_part_62 (fun q62 => ?_) (fun q62 => ?_)
    · replace hw := hw.1 q62
      exact g_sub [1, 2, 3, 4, 5] rfl (t_X12_part_81 h hr hk20 hw)
    · replace hw := hw.2 q62
      refine g_aload_n h rfl 1 rfl dX12_part_65 ?_
      refine g_iload h 5 rfl dX12_part_66 ?_
      refine g_iload_n h rfl 2 rfl dX12_part_68 ?_
      refine g_iconst (v := 1) h (by decide) dX12_part_69 ?_
      refine g_callV [.int x4, .int x1, .int 1] h (c_X12_partsPairs X hw) sPi_v mw_X12_partsPairs lk_X12_380 is_248 rfl rfl ⟨by decide, by decide⟩ (Nat.le_of_ble_eq_true rfl) dX12_part_70 (sPi_k (fun r_70 I_70 J_70 hw => ?_))
      refine g_if_eq (tgt := 81) h (by decide) dX12_part_73 (fun q73 => ?_) (fun q73 => ?_)
      · replace hw := hw.1 q73
        exact g_sub [1, 2, 3, 4, 5] rfl (t_X12_part_81 h hr hk20 hw)
      · replace hw := hw.2 q73
        refine g_iload h 5 rfl dX12_part_76 ?_
        refine g_goto (tgt := 82) h (by decide) dX12_part_78 ?_
        exact g_sub [1, 2, 3, 5] rfl (t_X12_part_82 h hr hk20 hw)
def w_X12_part_44 (post : Int32 → sI → sJ → Prop) (k20 : Int32 → Int32 → Int32 → Int32 → sI → sJ → Prop) (x1 : Int32) (x2 : Int32) (x3 : Int32) (x4 : Int32) (I : sI) (J : sJ) : Prop :=
  w_X12_part_49 post k20 x1 x2 x3 x4 1 I J
set_option maxHeartbeats 4000000 in
set_option maxRecDepth 100000 in
theorem t_X12_part_44 {X : sX} {post : Int32 → sI → sJ → Prop} (h : sOK X cX12_part RX12 6 3 71) (hr : sRt X (some .int) (sPi post)) {k20 : Int32 → Int32 → Int32 → Int32 → sI → sJ → Prop} (hk20 : ∀ (x1 : Int32) (x2 : Int32) (x3 : Int32) (x4 : Int32) (I : sI) (J : sJ), k20 x1 x2 x3 x4 I J → sG X 6 20 [(0, .ref 248), (1, .int x1), (2, .int x2), (3, .int x3), (4, .int x4)] [] I J) {x1 : Int32} {x2 : Int32} {x3 : Int32} {x4 : Int32} {I : sI} {J : sJ} (hw : w_X12_part_44 post k20 x1 x2 x3 x4 I J) : sG X 6 44 [(0, .ref 248), (1, .int x1), (2, .int x2), (3, .int x3), (4, .int x4)] [] I J := by
  unfold w_X12_part_44 at hw
  refine g_iconst (v := 1) h (by decide) dX12_part_44 ?_
  refine g_goto (tgt := 49) h (by decide) dX12_part_45 ?_
  exact g_sub [0, 1, 2, 3, 4] rfl (t_X12_part_49 h hr hk20 hw)
def w_X12_part_20_s (post : Int32 → sI → sJ → Prop) (k20 : Int32 → Int32 → Int32 → Int32 → sI → sJ → Prop) (x1 : Int32) (x2 : Int32) (x3 : Int32) (x4 : Int32) (I : sI) (J : sJ) : Prop :=
  ((4096 ≤ x4 → ((0 ≤ x3 → (∀ I_98 : sI, I_98 = sUI I 248 1 0 → w_X12_enters (Int32.toInt64 x3) I_98 J (fun (I_104 : sI) (J_104 : sJ) => (w_J6_bitCount_0f7a4 x3 I_104 J_104 (fun (r_108 : Int32) (I_108 : sI) (J_108 : sJ) => (post r_108 I_108 J_108)))))) ∧ (¬ 0 ≤ x3 → post (-2) I J))) ∧ (¬ 4096 ≤ x4 → ((x3 < 0 → w_X12_part_44 post k20 x1 x2 x3 x4 I J) ∧ (¬ x3 < 0 → w_J6_bitCount_0f7a4 x4 I J (fun (r_34 : Int32) (I_34 : sI) (J_34 : sJ) => (w_J6_bitCount_0f7a4 x3 I_34 J_34 (fun (r_38 : Int32) (I_38 : sI) (J_38 : sJ) => (((r_38 ≤ r_34 → w_X12_part_49 post k20 x1 x2 x3 x4 0 I_38 J_38) ∧ (¬ r_38 ≤ r_34 → w_X12_part_44 post k20 x1 x2 x3 x4 I_38 J_38))))))))))
def w_X12_part_20_n (post : Int32 → sI → sJ → Prop) : Nat → Int32 → Int32 → Int32 → Int32 → sI → sJ → Prop
  | 0 => fun _ _ _ _ _ _ => False
  | n + 1 => fun x1 x2 x3 x4 I J => w_X12_part_20_s post (w_X12_part_20_n post n) x1 x2 x3 x4 I J
def w_X12_part_20 (post : Int32 → sI → sJ → Prop) (x1 : Int32) (x2 : Int32) (x3 : Int32) (x4 : Int32) (I : sI) (J : sJ) : Prop := ∃ n, w_X12_part_20_n post n x1 x2 x3 x4 I J
set_option maxHeartbeats 4000000 in
set_option maxRecDepth 100000 in
theorem t_X12_part_20_s {X : sX} {post : Int32 → sI → sJ → Prop} (h : sOK X cX12_part RX12 6 3 71) (hr : sRt X (some .int) (sPi post)) {k20 : Int32 → Int32 → Int32 → Int32 → sI → sJ → Prop} (hk20 : ∀ (x1 : Int32) (x2 : Int32) (x3 : Int32) (x4 : Int32) (I : sI) (J : sJ), k20 x1 x2 x3 x4 I J → sG X 6 20 [(0, .ref 248), (1, .int x1), (2, .int x2), (3, .int x3), (4, .int x4)] [] I J) {x1 : Int32} {x2 : Int32} {x3 : Int32} {x4 : Int32} {I : sI} {J : sJ} (hw : w_X12_part_20_s post k20 x1 x2 x3 x4 I J) : sG X 6 20 [(0, .ref 248), (1, .int x1), (2, .int x2), (3, .int x3), (4, .int x4)] [] I J := by
  unfold w_X12_part_20_s at hw
  refine g_iload h 4 rfl dX12_part_20 ?_
  refine g_sipush (v := 4096) h (by decide) dX12_part_22 ?_
  refine g_icmp_ge (tgt := 89) h (by decide) dX12_part_25 (fun q25 => ?_) (fun q25 => ?_)
  · replace hw := hw.1 q25
    refine g_iload_n h rfl 3 rfl dX12_part_89 ?_
    refine g_if_ge (tgt := 96) h (by decide) dX12_part_90 (fun q90 => ?_) (fun q90 => ?_)
    · replace hw := hw.1 q90
      refine g_aload_n h rfl 0 rfl dX12_part_96 ?_
      refine g_iconst (v := 0) h (by decide) dX12_part_97 ?_
      refine g_putI h is_248 fl_X12_11 rfl rfl dX12_part_98 ?_
      refine g_nI (fun I_98 eI_98 => ?_)
      replace hw := hw I_98 eI_98
      refine g_aload_n h rfl 0 rfl dX12_part_101 ?_
      refine g_iload_n h rfl 3 rfl dX12_part_102 ?_
      refine g_i2l h dX12_part_103 ?_
      refine g_callV [.long (Int32.toInt64 x3)] h (c_X12_enters X hw) sPv_v mw_X12_enters lk_X12_18 is_248 rfl rfl ⟨by decide, by decide⟩ (Nat.le_of_ble_eq_true rfl) dX12_part_104 (sPv_k (fun I_104 J_104 hw => ?_))
      refine g_iload_n h rfl 3 rfl dX12_part_107 ?_
      refine g_callS [.int x3] h (c_J6_bitCount_0f7a4 X hw) sPi_v mw_J6_bitCount_0f7a4 lk_X12_278 rfl ⟨by decide, by decide⟩ (Nat.le_of_ble_eq_true rfl) dX12_part_108 (sPi_k (fun r_108 I_108 J_108 hw => ?_))
      exact g_iret h hr dX12_part_111 hw
    · replace hw := hw.2 q90
      refine g_bipush (v := (-2)) h (by decide) dX12_part_93 ?_
      exact g_iret h hr dX12_part_95 hw
  · replace hw := hw.2 q25
    refine g_iload_n h rfl 3 rfl dX12_part_28 ?_
    refine g_if_lt (tgt := 44) h (by decide) dX12_part_29 (fun q29 => ?_) (fun q29 => ?_)
    · replace hw := hw.1 q29
      exact g_sub [0, 1, 2, 3, 4] rfl (t_X12_part_44 h hr hk20 hw)
    · replace hw := hw.2 q29
      refine g_iload h 4 rfl dX12_part_32 ?_
      refine g_callS [.int x4] h (c_J6_bitCount_0f7a4 X hw) sPi_v mw_J6_bitCount_0f7a4 lk_X12_278 rfl ⟨by decide, by decide⟩ (Nat.le_of_ble_eq_true rfl) dX12_part_34 (sPi_k (fun r_34 I_34 J_34 hw => ?_))
      refine g_iload_n h rfl 3 rfl dX12_part_37 ?_
      refine g_callS [.int x3] h (c_J6_bitCount_0f7a4 X hw) sPi_v mw_J6_bitCount_0f7a4 lk_X12_278 rfl ⟨by decide, by decide⟩ (Nat.le_of_ble_eq_true rfl) dX12_part_38 (sPi_k (fun r_38 I_38 J_38 hw => ?_))
      refine g_icmp_ge (tgt := 48) h (by decide) dX12_part_41 (fun q41 => ?_) (fun q41 => ?_)
      · replace hw := hw.1 q41
        refine g_iconst (v := 0) h (by decide) dX12_part_48 ?_
        exact g_sub [0, 1, 2, 3, 4] rfl (t_X12_part_49 h hr hk20 hw)
      · replace hw := hw.2 q41
        exact g_sub [0, 1, 2, 3, 4] rfl (t_X12_part_44 h hr hk20 hw)
theorem t_X12_part_20 {X : sX} {post : Int32 → sI → sJ → Prop} (h : sOK X cX12_part RX12 6 3 71) (hr : sRt X (some .int) (sPi post)) {x1 : Int32} {x2 : Int32} {x3 : Int32} {x4 : Int32} {I : sI} {J : sJ} (hw : w_X12_part_20 post x1 x2 x3 x4 I J) : sG X 6 20 [(0, .ref 248), (1, .int x1), (2, .int x2), (3, .int x3), (4, .int x4)] [] I J := by
  obtain ⟨n, hw⟩ := hw
  induction n generalizing x1 x2 x3 x4 I J with
  | zero => exact hw.elim
  | succ n ih => exact t_X12_part_20_s h hr (fun _ _ _ _ _ _ q => ih q) hw
def w_X12_part (I : sI) (J : sJ) (post : Int32 → sI → sJ → Prop) : Prop :=
  (∀ I_2 : sI, I_2 = sUI I 248 0 0 → w_X12_standing I_2 J (fun (r_6 : Int32) (I_6 : sI) (J_6 : sJ) => (w_X12_unknown I_6 J_6 (fun (r_11 : Int32) (I_11 : sI) (J_11 : sJ) => (w_X12_part_20 post r_6 r_11 (-1) 0 I_11 J_11)))))
set_option maxHeartbeats 4000000 in
set_option maxRecDepth 100000 in
theorem t_X12_part {X : sX} {I : sI} {J : sJ} {post : Int32 → sI → sJ → Prop} (h : sOK X cX12_part RX12 6 3 71) (hr : sRt X (some .int) (sPi post)) (hw : w_X12_part I J post) : sG X 6 0 [(0, .ref 248)] [] I J := by
  unfold w_X12_part at hw
  refine g_aload_n h rfl 0 rfl dX12_part_0 ?_
  refine g_iconst (v := 0) h (by decide) dX12_part_1 ?_
  refine g_putI h is_248 fl_X12_1 rfl rfl dX12_part_2 ?_
  refine g_nI (fun I_2 eI_2 => ?_)
  replace hw := hw I_2 eI_2
  refine g_aload_n h rfl 0 rfl dX12_part_5 ?_
  refine g_callV [] h (c_X12_standing X hw) sPi_v mw_X12_standing lk_X12_368 is_248 rfl rfl ⟨by decide, by decide⟩ (Nat.le_of_ble_eq_true rfl) dX12_part_6 (sPi_k (fun r_6 I_6 J_6 hw => ?_))
  refine g_istore_n (lo2 := [(1, .int r_6), (0, .ref 248)]) h rfl (by decide) rfl dX12_part_9 ?_
  refine g_aload_n h rfl 1 rfl dX12_part_10 ?_
  refine g_callV [] h (c_X12_unknown X hw) sPi_v mw_X12_unknown lk_X12_377 is_248 rfl rfl ⟨by decide, by decide⟩ (Nat.le_of_ble_eq_true rfl) dX12_part_11 (sPi_k (fun r_11 I_11 J_11 hw => ?_))
  refine g_istore_n (lo2 := [(2, .int r_11), (1, .int r_6), (0, .ref 248)]) h rfl (by decide) rfl dX12_part_14 ?_
  refine g_iconst (v := (-1)) h (by decide) dX12_part_15 ?_
  refine g_istore_n (lo2 := [(3, .int (-1)), (2, .int r_11), (1, .int r_6), (0, .ref 248)]) h rfl (by decide) rfl dX12_part_16 ?_
  refine g_iconst (v := 0) h (by decide) dX12_part_17 ?_
  refine g_istore (lo2 := [(4, .int 0), (3, .int (-1)), (2, .int r_11), (1, .int r_6), (0, .ref 248)]) h (by decide) rfl dX12_part_18 ?_
  exact g_sub [4, 3, 2, 1, 0] rfl (t_X12_part_20 h hr hw)
theorem c_X12_part (X : sX) {I : sI} {J : sJ} {post : Int32 → sI → sJ → Prop} (hw : w_X12_part I J post) : sCall X yX12_part cX12_part 6 (some .int) 3 71 [.ref 248] I J (sPi post) := sCall_of (by decide +kernel) (Nat.le_of_ble_eq_true rfl) (fun X h hr => t_X12_part h hr hw)
