theorem dX11_readings_0 : decode cX11_readings 0 = .ok (.aload_n 0, 1) := by decide +kernel
theorem dX11_readings_1 : decode cX11_readings 1 = .ok (.iload_n 1, 1) := by decide +kernel
theorem dX11_readings_2 : decode cX11_readings 2 = .ok (.invokevirtual 182, 3) := by decide +kernel
theorem dX11_readings_5 : decode cX11_readings 5 = .ok (.ifCond .eq 5, 3) := by decide +kernel
theorem dX11_readings_8 : decode cX11_readings 8 = .ok (.iconst (-1), 1) := by decide +kernel
theorem dX11_readings_9 : decode cX11_readings 9 = .ok (.ireturn, 1) := by decide +kernel
theorem dX11_readings_10 : decode cX11_readings 10 = .ok (.aload_n 0, 1) := by decide +kernel
theorem dX11_readings_11 : decode cX11_readings 11 = .ok (.aload_n 0, 1) := by decide +kernel
theorem dX11_readings_12 : decode cX11_readings 12 = .ok (.getfield 19, 3) := by decide +kernel
theorem dX11_readings_15 : decode cX11_readings 15 = .ok (.getfield 117, 3) := by decide +kernel
theorem dX11_readings_18 : decode cX11_readings 18 = .ok (.iload_n 1, 1) := by decide +kernel
theorem dX11_readings_19 : decode cX11_readings 19 = .ok (.iconst 0, 1) := by decide +kernel
theorem dX11_readings_20 : decode cX11_readings 20 = .ok (.iconst 0, 1) := by decide +kernel
theorem dX11_readings_21 : decode cX11_readings 21 = .ok (.invokevirtual 185, 3) := by decide +kernel
theorem dX11_readings_24 : decode cX11_readings 24 = .ok (.aload_n 0, 1) := by decide +kernel
theorem dX11_readings_25 : decode cX11_readings 25 = .ok (.aload_n 0, 1) := by decide +kernel
theorem dX11_readings_26 : decode cX11_readings 26 = .ok (.getfield 67, 3) := by decide +kernel
theorem dX11_readings_29 : decode cX11_readings 29 = .ok (.getfield 189, 3) := by decide +kernel
theorem dX11_readings_32 : decode cX11_readings 32 = .ok (.putfield 103, 3) := by decide +kernel
theorem dX11_readings_35 : decode cX11_readings 35 = .ok (.aload_n 0, 1) := by decide +kernel
theorem dX11_readings_36 : decode cX11_readings 36 = .ok (.getfield 67, 3) := by decide +kernel
theorem dX11_readings_39 : decode cX11_readings 39 = .ok (.invokevirtual 192, 3) := by decide +kernel
theorem dX11_readings_42 : decode cX11_readings 42 = .ok (.ifCond .eq 6, 3) := by decide +kernel
theorem dX11_readings_45 : decode cX11_readings 45 = .ok (.bipush (-3), 2) := by decide +kernel
theorem dX11_readings_47 : decode cX11_readings 47 = .ok (.ireturn, 1) := by decide +kernel
theorem dX11_readings_48 : decode cX11_readings 48 = .ok (.aload_n 0, 1) := by decide +kernel
theorem dX11_readings_49 : decode cX11_readings 49 = .ok (.getfield 41, 3) := by decide +kernel
theorem dX11_readings_52 : decode cX11_readings 52 = .ok (.iconst 0, 1) := by decide +kernel
theorem dX11_readings_53 : decode cX11_readings 53 = .ok (.putfield 196, 3) := by decide +kernel
theorem dX11_readings_56 : decode cX11_readings 56 = .ok (.aload_n 0, 1) := by decide +kernel
theorem dX11_readings_57 : decode cX11_readings 57 = .ok (.getfield 67, 3) := by decide +kernel
theorem dX11_readings_60 : decode cX11_readings 60 = .ok (.getfield 197, 3) := by decide +kernel
theorem dX11_readings_63 : decode cX11_readings 63 = .ok (.ifCond .le 14, 3) := by decide +kernel
theorem dX11_readings_66 : decode cX11_readings 66 = .ok (.aload_n 0, 1) := by decide +kernel
theorem dX11_readings_67 : decode cX11_readings 67 = .ok (.aload_n 0, 1) := by decide +kernel
theorem dX11_readings_68 : decode cX11_readings 68 = .ok (.getfield 67, 3) := by decide +kernel
theorem dX11_readings_71 : decode cX11_readings 71 = .ok (.getfield 200, 3) := by decide +kernel
theorem dX11_readings_74 : decode cX11_readings 74 = .ok (.invokevirtual 204, 3) := by decide +kernel
theorem dX11_readings_77 : decode cX11_readings 77 = .ok (.aload_n 0, 1) := by decide +kernel
theorem dX11_readings_78 : decode cX11_readings 78 = .ok (.getfield 67, 3) := by decide +kernel
theorem dX11_readings_81 : decode cX11_readings 81 = .ok (.getfield 197, 3) := by decide +kernel
theorem dX11_readings_84 : decode cX11_readings 84 = .ok (.ireturn, 1) := by decide +kernel
def w_X11_readings_77 (post : Int32 → sI → sJ → Prop) (I : sI) (J : sJ) : Prop :=
  post (I 220 2) I J
set_option maxHeartbeats 4000000 in
set_option maxRecDepth 100000 in
theorem t_X11_readings_77 {X : sX} {post : Int32 → sI → sJ → Prop} (h : sOK X cX11_readings RX11 2 33 973) (hr : sRt X (some .int) (sPi post)) {I : sI} {J : sJ} (hw : w_X11_readings_77 post I J) : sG X 2 77 [(0, .ref 0)] [] I J := by
  unfold w_X11_readings_77 at hw
  refine g_aload_n h rfl 0 rfl dX11_readings_77 ?_
  refine g_get h is_0 fl_X11_67 fr_0_9 dX11_readings_78 ?_
  refine g_get h is_220 fl_X11_197 rfl dX11_readings_81 ?_
  exact g_iret h hr dX11_readings_84 hw
def w_X11_readings (a1 : Int32) (I : sI) (J : sJ) (post : Int32 → sI → sJ → Prop) : Prop :=
  w_X11_cannotRead a1 I J (fun (r_2 : Int32) (I_2 : sI) (J_2 : sJ) => (((r_2 = 0 → w_X11_read 4 a1 0 0 I_2 J_2 (fun (I_21 : sI) (J_21 : sJ) => ((∀ I_32 : sI, I_32 = sUI I_21 0 16 (I_21 220 1) → w_X5_tooMany I_32 J_21 (fun (r_39 : Int32) (I_39 : sI) (J_39 : sJ) => (((r_39 = 0 → (∀ I_53 : sI, I_53 = sUI I_39 134 1 0 → (((I_53 220 2) ≤ 0 → w_X11_readings_77 post I_53 J_39) ∧ (¬ (I_53 220 2) ≤ 0 → w_X11_tellLetters (J_39 220 5) I_53 J_39 (fun (I_74 : sI) (J_74 : sJ) => (w_X11_readings_77 post I_74 J_74)))))) ∧ (¬ r_39 = 0 → post (-3) I_39 J_39)))))))) ∧ (¬ r_2 = 0 → post (-1) I_2 J_2))))
set_option maxHeartbeats 4000000 in
set_option maxRecDepth 100000 in
theorem t_X11_readings {X : sX} {a1 : Int32} {I : sI} {J : sJ} {post : Int32 → sI → sJ → Prop} (h : sOK X cX11_readings RX11 2 33 973) (hr : sRt X (some .int) (sPi post)) (hw : w_X11_readings a1 I J post) : sG X 2 0 [(0, .ref 0), (1, .int a1)] [] I J := by
  unfold w_X11_readings at hw
  refine g_aload_n h rfl 0 rfl dX11_readings_0 ?_
  refine g_iload_n h rfl 1 rfl dX11_readings_1 ?_
  refine g_callV [.int a1] h (c_X11_cannotRead X hw) sPi_v mw_X11_cannotRead lk_X11_182 is_0 rfl rfl ⟨by decide, by decide⟩ (Nat.le_of_ble_eq_true rfl) dX11_readings_2 (sPi_k (fun r_2 I_2 J_2 hw => ?_))
  refine g_if_eq (tgt := 10) h (by decide) dX11_readings_5 (fun q5 => ?_) (fun q5 => ?_)
  · replace hw := hw.1 q5
    refine g_aload_n h rfl 0 rfl dX11_readings_10 ?_
    refine g_aload_n h rfl 0 rfl dX11_readings_11 ?_
    refine g_get h is_0 fl_X11_19 fr_0_1 dX11_readings_12 ?_
    refine g_get h is_3 fl_X11_117 fr_3_0 dX11_readings_15 ?_
    refine g_iload_n h rfl 1 rfl dX11_readings_18 ?_
    refine g_iconst (v := 0) h (by decide) dX11_readings_19 ?_
    refine g_iconst (v := 0) h (by decide) dX11_readings_20 ?_
    refine g_callV [.ref 4, .int a1, .int 0, .int 0] h (c_X11_read X is_4 hw) sPv_v mw_X11_read lk_X11_185 is_0 rfl rfl ⟨by decide, by decide⟩ (Nat.le_of_ble_eq_true rfl) dX11_readings_21 (sPv_k (fun I_21 J_21 hw => ?_))
    refine g_aload_n h rfl 0 rfl dX11_readings_24 ?_
    refine g_aload_n h rfl 0 rfl dX11_readings_25 ?_
    refine g_get h is_0 fl_X11_67 fr_0_9 dX11_readings_26 ?_
    refine g_get h is_220 fl_X11_189 rfl dX11_readings_29 ?_
    refine g_putI h is_0 fl_X11_103 rfl rfl dX11_readings_32 ?_
    refine g_nI (fun I_32 eI_32 => ?_)
    replace hw := hw I_32 eI_32
    refine g_aload_n h rfl 0 rfl dX11_readings_35 ?_
    refine g_get h is_0 fl_X11_67 fr_0_9 dX11_readings_36 ?_
    refine g_callV [] h (c_X5_tooMany X hw) sPi_v mw_X5_tooMany lk_X11_192 is_220 rfl rfl ⟨by decide, by decide⟩ (Nat.le_of_ble_eq_true rfl) dX11_readings_39 (sPi_k (fun r_39 I_39 J_39 hw => ?_))
    refine g_if_eq (tgt := 48) h (by decide) dX11_readings_42 (fun q42 => ?_) (fun q42 => ?_)
    · replace hw := hw.1 q42
      refine g_aload_n h rfl 0 rfl dX11_readings_48 ?_
      refine g_get h is_0 fl_X11_41 fr_0_5 dX11_readings_49 ?_
      refine g_iconst (v := 0) h (by decide) dX11_readings_52 ?_
      refine g_putI h is_134 fl_X11_196 rfl rfl dX11_readings_53 ?_
      refine g_nI (fun I_53 eI_53 => ?_)
      replace hw := hw I_53 eI_53
      refine g_aload_n h rfl 0 rfl dX11_readings_56 ?_
      refine g_get h is_0 fl_X11_67 fr_0_9 dX11_readings_57 ?_
      refine g_get h is_220 fl_X11_197 rfl dX11_readings_60 ?_
      refine g_if_le (tgt := 77) h (by decide) dX11_readings_63 (fun q63 => ?_) (fun q63 => ?_)
      · replace hw := hw.1 q63
        exact g_sub [0] rfl (t_X11_readings_77 h hr hw)
      · replace hw := hw.2 q63
        refine g_aload_n h rfl 0 rfl dX11_readings_66 ?_
        refine g_aload_n h rfl 0 rfl dX11_readings_67 ?_
        refine g_get h is_0 fl_X11_67 fr_0_9 dX11_readings_68 ?_
        refine g_get h is_220 fl_X11_200 rfl dX11_readings_71 ?_
        refine g_callV [.long (J_39 220 5)] h (c_X11_tellLetters X hw) sPv_v mw_X11_tellLetters lk_X11_204 is_0 rfl rfl ⟨by decide, by decide⟩ (Nat.le_of_ble_eq_true rfl) dX11_readings_74 (sPv_k (fun I_74 J_74 hw => ?_))
        exact g_sub [0] rfl (t_X11_readings_77 h hr hw)
    · replace hw := hw.2 q42
      refine g_bipush (v := (-3)) h (by decide) dX11_readings_45 ?_
      exact g_iret h hr dX11_readings_47 hw
  · replace hw := hw.2 q5
    refine g_iconst (v := (-1)) h (by decide) dX11_readings_8 ?_
    exact g_iret h hr dX11_readings_9 hw
theorem c_X11_readings (X : sX) {a1 : Int32} {I : sI} {J : sJ} {post : Int32 → sI → sJ → Prop} (hw : w_X11_readings a1 I J post) : sCall X yX11_readings cX11_readings 2 (some .int) 33 973 [.ref 0, .int a1] I J (sPi post) := sCall_of (by decide +kernel) (Nat.le_of_ble_eq_true rfl) (fun X h hr => t_X11_readings h hr hw)
theorem dX11_reading_0 : decode cX11_reading 0 = .ok (.aload_n 0, 1) := by decide +kernel
theorem dX11_reading_1 : decode cX11_reading 1 = .ok (.iload_n 1, 1) := by decide +kernel
theorem dX11_reading_2 : decode cX11_reading 2 = .ok (.invokevirtual 182, 3) := by decide +kernel
theorem dX11_reading_5 : decode cX11_reading 5 = .ok (.ifCond .ne 14, 3) := by decide +kernel
theorem dX11_reading_8 : decode cX11_reading 8 = .ok (.iload_n 2, 1) := by decide +kernel
theorem dX11_reading_9 : decode cX11_reading 9 = .ok (.ifCond .lt 10, 3) := by decide +kernel
theorem dX11_reading_12 : decode cX11_reading 12 = .ok (.iload_n 2, 1) := by decide +kernel
theorem dX11_reading_13 : decode cX11_reading 13 = .ok (.sipush 200, 3) := by decide +kernel
theorem dX11_reading_16 : decode cX11_reading 16 = .ok (.if_icmp .lt 5, 3) := by decide +kernel
theorem dX11_reading_19 : decode cX11_reading 19 = .ok (.iconst (-1), 1) := by decide +kernel
theorem dX11_reading_20 : decode cX11_reading 20 = .ok (.ireturn, 1) := by decide +kernel
theorem dX11_reading_21 : decode cX11_reading 21 = .ok (.aload_n 0, 1) := by decide +kernel
theorem dX11_reading_22 : decode cX11_reading 22 = .ok (.aload_n 0, 1) := by decide +kernel
theorem dX11_reading_23 : decode cX11_reading 23 = .ok (.getfield 19, 3) := by decide +kernel
theorem dX11_reading_26 : decode cX11_reading 26 = .ok (.getfield 117, 3) := by decide +kernel
theorem dX11_reading_29 : decode cX11_reading 29 = .ok (.iload_n 1, 1) := by decide +kernel
theorem dX11_reading_30 : decode cX11_reading 30 = .ok (.iconst 2, 1) := by decide +kernel
theorem dX11_reading_31 : decode cX11_reading 31 = .ok (.iload_n 2, 1) := by decide +kernel
theorem dX11_reading_32 : decode cX11_reading 32 = .ok (.iconst 1, 1) := by decide +kernel
theorem dX11_reading_33 : decode cX11_reading 33 = .ok (.iadd, 1) := by decide +kernel
theorem dX11_reading_34 : decode cX11_reading 34 = .ok (.invokevirtual 185, 3) := by decide +kernel
theorem dX11_reading_37 : decode cX11_reading 37 = .ok (.aload_n 0, 1) := by decide +kernel
theorem dX11_reading_38 : decode cX11_reading 38 = .ok (.getfield 67, 3) := by decide +kernel
theorem dX11_reading_41 : decode cX11_reading 41 = .ok (.invokevirtual 192, 3) := by decide +kernel
theorem dX11_reading_44 : decode cX11_reading 44 = .ok (.ifCond .eq 6, 3) := by decide +kernel
theorem dX11_reading_47 : decode cX11_reading 47 = .ok (.bipush (-3), 2) := by decide +kernel
theorem dX11_reading_49 : decode cX11_reading 49 = .ok (.ireturn, 1) := by decide +kernel
theorem dX11_reading_50 : decode cX11_reading 50 = .ok (.iload_n 2, 1) := by decide +kernel
theorem dX11_reading_51 : decode cX11_reading 51 = .ok (.aload_n 0, 1) := by decide +kernel
theorem dX11_reading_52 : decode cX11_reading 52 = .ok (.getfield 67, 3) := by decide +kernel
theorem dX11_reading_55 : decode cX11_reading 55 = .ok (.getfield 197, 3) := by decide +kernel
theorem dX11_reading_58 : decode cX11_reading 58 = .ok (.if_icmp .lt 6, 3) := by decide +kernel
theorem dX11_reading_61 : decode cX11_reading 61 = .ok (.bipush (-2), 2) := by decide +kernel
theorem dX11_reading_63 : decode cX11_reading 63 = .ok (.ireturn, 1) := by decide +kernel
theorem dX11_reading_64 : decode cX11_reading 64 = .ok (.aload_n 0, 1) := by decide +kernel
theorem dX11_reading_65 : decode cX11_reading 65 = .ok (.getfield 41, 3) := by decide +kernel
theorem dX11_reading_68 : decode cX11_reading 68 = .ok (.iconst 0, 1) := by decide +kernel
theorem dX11_reading_69 : decode cX11_reading 69 = .ok (.putfield 196, 3) := by decide +kernel
theorem dX11_reading_72 : decode cX11_reading 72 = .ok (.aload_n 0, 1) := by decide +kernel
theorem dX11_reading_73 : decode cX11_reading 73 = .ok (.aload_n 0, 1) := by decide +kernel
theorem dX11_reading_74 : decode cX11_reading 74 = .ok (.getfield 67, 3) := by decide +kernel
theorem dX11_reading_77 : decode cX11_reading 77 = .ok (.getfield 208, 3) := by decide +kernel
theorem dX11_reading_80 : decode cX11_reading 80 = .ok (.iload_n 2, 1) := by decide +kernel
theorem dX11_reading_81 : decode cX11_reading 81 = .ok (.laload, 1) := by decide +kernel
theorem dX11_reading_82 : decode cX11_reading 82 = .ok (.invokevirtual 204, 3) := by decide +kernel
theorem dX11_reading_85 : decode cX11_reading 85 = .ok (.iconst 0, 1) := by decide +kernel
theorem dX11_reading_86 : decode cX11_reading 86 = .ok (.ireturn, 1) := by decide +kernel
def w_X11_reading (a1 : Int32) (a2 : Int32) (I : sI) (J : sJ) (post : Int32 → sI → sJ → Prop) : Prop :=
  w_X11_cannotRead a1 I J (fun (r_2 : Int32) (I_2 : sI) (J_2 : sJ) => (((¬ r_2 = 0 → post (-1) I_2 J_2) ∧ (r_2 = 0 → ((a2 < 0 → post (-1) I_2 J_2) ∧ (¬ a2 < 0 → ((a2 < 200 → w_X11_read 4 a1 2 (a2 + 1) I_2 J_2 (fun (I_34 : sI) (J_34 : sJ) => (w_X5_tooMany I_34 J_34 (fun (r_41 : Int32) (I_41 : sI) (J_41 : sJ) => (((r_41 = 0 → ((a2 < (I_41 220 2) → (∀ I_69 : sI, I_69 = sUI I_41 134 1 0 → (vp_in a2 200 ∧ w_X11_tellLetters (J_41 221 (Int32.toNatClampNeg a2)) I_69 J_41 (fun (I_82 : sI) (J_82 : sJ) => (post 0 I_82 J_82))))) ∧ (¬ a2 < (I_41 220 2) → post (-2) I_41 J_41))) ∧ (¬ r_41 = 0 → post (-3) I_41 J_41))))))) ∧ (¬ a2 < 200 → post (-1) I_2 J_2))))))))
set_option maxHeartbeats 4000000 in
set_option maxRecDepth 100000 in
theorem t_X11_reading {X : sX} {a1 : Int32} {a2 : Int32} {I : sI} {J : sJ} {post : Int32 → sI → sJ → Prop} (h : sOK X cX11_reading RX11 3 33 973) (hr : sRt X (some .int) (sPi post)) (hw : w_X11_reading a1 a2 I J post) : sG X 3 0 [(0, .ref 0), (1, .int a1), (2, .int a2)] [] I J := by
  unfold w_X11_reading at hw
  refine g_aload_n h rfl 0 rfl dX11_reading_0 ?_
  refine g_iload_n h rfl 1 rfl dX11_reading_1 ?_
  refine g_callV [.int a1] h (c_X11_cannotRead X hw) sPi_v mw_X11_cannotRead lk_X11_182 is_0 rfl rfl ⟨by decide, by decide⟩ (Nat.le_of_ble_eq_true rfl) dX11_reading_2 (sPi_k (fun r_2 I_2 J_2 hw => ?_))
  refine g_if_ne (tgt := 19) h (by decide) dX11_reading_5 (fun q5 => ?_) (fun q5 => ?_)
  · replace hw := hw.1 q5
    refine g_iconst (v := (-1)) h (by decide) dX11_reading_19 ?_
    exact g_iret h hr dX11_reading_20 hw
  · replace hw := hw.2 q5
    refine g_iload_n h rfl 2 rfl dX11_reading_8 ?_
    refine g_if_lt (tgt := 19) h (by decide) dX11_reading_9 (fun q9 => ?_) (fun q9 => ?_)
    · replace hw := hw.1 q9
      refine g_iconst (v := (-1)) h (by decide) dX11_reading_19 ?_
      exact g_iret h hr dX11_reading_20 hw
    · replace hw := hw.2 q9
      refine g_iload_n h rfl 2 rfl dX11_reading_12 ?_
      refine g_sipush (v := 200) h (by decide) dX11_reading_13 ?_
      refine g_icmp_lt (tgt := 21) h (by decide) dX11_reading_16 (fun q16 => ?_) (fun q16 => ?_)
      · replace hw := hw.1 q16
        refine g_aload_n h rfl 0 rfl dX11_reading_21 ?_
        refine g_aload_n h rfl 0 rfl dX11_reading_22 ?_
        refine g_get h is_0 fl_X11_19 fr_0_1 dX11_reading_23 ?_
        refine g_get h is_3 fl_X11_117 fr_3_0 dX11_reading_26 ?_
        refine g_iload_n h rfl 1 rfl dX11_reading_29 ?_
        refine g_iconst (v := 2) h (by decide) dX11_reading_30 ?_
        refine g_iload_n h rfl 2 rfl dX11_reading_31 ?_
        refine g_iconst (v := 1) h (by decide) dX11_reading_32 ?_
        refine g_iadd h dX11_reading_33 ?_
        refine g_callV [.ref 4, .int a1, .int 2, .int (a2 + 1)] h (c_X11_read X is_4 hw) sPv_v mw_X11_read lk_X11_185 is_0 rfl rfl ⟨by decide, by decide⟩ (Nat.le_of_ble_eq_true rfl) dX11_reading_34 (sPv_k (fun I_34 J_34 hw => ?_))
        refine g_aload_n h rfl 0 rfl dX11_reading_37 ?_
        refine g_get h is_0 fl_X11_67 fr_0_9 dX11_reading_38 ?_
        refine g_callV [] h (c_X5_tooMany X hw) sPi_v mw_X5_tooMany lk_X11_192 is_220 rfl rfl ⟨by decide, by decide⟩ (Nat.le_of_ble_eq_true rfl) dX11_reading_41 (sPi_k (fun r_41 I_41 J_41 hw => ?_))
        refine g_if_eq (tgt := 50) h (by decide) dX11_reading_44 (fun q44 => ?_) (fun q44 => ?_)
        · replace hw := hw.1 q44
          refine g_iload_n h rfl 2 rfl dX11_reading_50 ?_
          refine g_aload_n h rfl 0 rfl dX11_reading_51 ?_
          refine g_get h is_0 fl_X11_67 fr_0_9 dX11_reading_52 ?_
          refine g_get h is_220 fl_X11_197 rfl dX11_reading_55 ?_
          refine g_icmp_lt (tgt := 64) h (by decide) dX11_reading_58 (fun q58 => ?_) (fun q58 => ?_)
          · replace hw := hw.1 q58
            refine g_aload_n h rfl 0 rfl dX11_reading_64 ?_
            refine g_get h is_0 fl_X11_41 fr_0_5 dX11_reading_65 ?_
            refine g_iconst (v := 0) h (by decide) dX11_reading_68 ?_
            refine g_putI h is_134 fl_X11_196 rfl rfl dX11_reading_69 ?_
            refine g_nI (fun I_69 eI_69 => ?_)
            replace hw := hw I_69 eI_69
            refine g_aload_n h rfl 0 rfl dX11_reading_72 ?_
            refine g_aload_n h rfl 0 rfl dX11_reading_73 ?_
            refine g_get h is_0 fl_X11_67 fr_0_9 dX11_reading_74 ?_
            refine g_get h is_220 fl_X11_208 fr_220_0 dX11_reading_77 ?_
            refine g_iload_n h rfl 2 rfl dX11_reading_80 ?_
            obtain ⟨hi81, hw⟩ := hw
            refine g_lald h ar_221 hi81 dX11_reading_81 ?_
            refine g_callV [.long (J_41 221 (Int32.toNatClampNeg a2))] h (c_X11_tellLetters X hw) sPv_v mw_X11_tellLetters lk_X11_204 is_0 rfl rfl ⟨by decide, by decide⟩ (Nat.le_of_ble_eq_true rfl) dX11_reading_82 (sPv_k (fun I_82 J_82 hw => ?_))
            refine g_iconst (v := 0) h (by decide) dX11_reading_85 ?_
            exact g_iret h hr dX11_reading_86 hw
          · replace hw := hw.2 q58
            refine g_bipush (v := (-2)) h (by decide) dX11_reading_61 ?_
            exact g_iret h hr dX11_reading_63 hw
        · replace hw := hw.2 q44
          refine g_bipush (v := (-3)) h (by decide) dX11_reading_47 ?_
          exact g_iret h hr dX11_reading_49 hw
      · replace hw := hw.2 q16
        refine g_iconst (v := (-1)) h (by decide) dX11_reading_19 ?_
        exact g_iret h hr dX11_reading_20 hw
theorem c_X11_reading (X : sX) {a1 : Int32} {a2 : Int32} {I : sI} {J : sJ} {post : Int32 → sI → sJ → Prop} (hw : w_X11_reading a1 a2 I J post) : sCall X yX11_reading cX11_reading 3 (some .int) 33 973 [.ref 0, .int a1, .int a2] I J (sPi post) := sCall_of (by decide +kernel) (Nat.le_of_ble_eq_true rfl) (fun X h hr => t_X11_reading h hr hw)
theorem dJ6_bitCount_0f7a4_0 : decode cJ6_bitCount_0f7a4 0 = .ok (.iload_n 0, 1) := by decide +kernel
theorem dJ6_bitCount_0f7a4_1 : decode cJ6_bitCount_0f7a4 1 = .ok (.iload_n 0, 1) := by decide +kernel
theorem dJ6_bitCount_0f7a4_2 : decode cJ6_bitCount_0f7a4 2 = .ok (.iconst 1, 1) := by decide +kernel
theorem dJ6_bitCount_0f7a4_3 : decode cJ6_bitCount_0f7a4 3 = .ok (.iushr, 1) := by decide +kernel
theorem dJ6_bitCount_0f7a4_4 : decode cJ6_bitCount_0f7a4 4 = .ok (.ldc_w 265, 3) := by decide +kernel
theorem dJ6_bitCount_0f7a4_7 : decode cJ6_bitCount_0f7a4 7 = .ok (.iand, 1) := by decide +kernel
theorem dJ6_bitCount_0f7a4_8 : decode cJ6_bitCount_0f7a4 8 = .ok (.isub, 1) := by decide +kernel
theorem dJ6_bitCount_0f7a4_9 : decode cJ6_bitCount_0f7a4 9 = .ok (.istore_n 0, 1) := by decide +kernel
theorem dJ6_bitCount_0f7a4_10 : decode cJ6_bitCount_0f7a4 10 = .ok (.iload_n 0, 1) := by decide +kernel
theorem dJ6_bitCount_0f7a4_11 : decode cJ6_bitCount_0f7a4 11 = .ok (.ldc_w 266, 3) := by decide +kernel
theorem dJ6_bitCount_0f7a4_14 : decode cJ6_bitCount_0f7a4 14 = .ok (.iand, 1) := by decide +kernel
theorem dJ6_bitCount_0f7a4_15 : decode cJ6_bitCount_0f7a4 15 = .ok (.iload_n 0, 1) := by decide +kernel
theorem dJ6_bitCount_0f7a4_16 : decode cJ6_bitCount_0f7a4 16 = .ok (.iconst 2, 1) := by decide +kernel
theorem dJ6_bitCount_0f7a4_17 : decode cJ6_bitCount_0f7a4 17 = .ok (.iushr, 1) := by decide +kernel
theorem dJ6_bitCount_0f7a4_18 : decode cJ6_bitCount_0f7a4 18 = .ok (.ldc_w 266, 3) := by decide +kernel
theorem dJ6_bitCount_0f7a4_21 : decode cJ6_bitCount_0f7a4 21 = .ok (.iand, 1) := by decide +kernel
theorem dJ6_bitCount_0f7a4_22 : decode cJ6_bitCount_0f7a4 22 = .ok (.iadd, 1) := by decide +kernel
theorem dJ6_bitCount_0f7a4_23 : decode cJ6_bitCount_0f7a4 23 = .ok (.istore_n 0, 1) := by decide +kernel
theorem dJ6_bitCount_0f7a4_24 : decode cJ6_bitCount_0f7a4 24 = .ok (.iload_n 0, 1) := by decide +kernel
theorem dJ6_bitCount_0f7a4_25 : decode cJ6_bitCount_0f7a4 25 = .ok (.iload_n 0, 1) := by decide +kernel
theorem dJ6_bitCount_0f7a4_26 : decode cJ6_bitCount_0f7a4 26 = .ok (.iconst 4, 1) := by decide +kernel
theorem dJ6_bitCount_0f7a4_27 : decode cJ6_bitCount_0f7a4 27 = .ok (.iushr, 1) := by decide +kernel
theorem dJ6_bitCount_0f7a4_28 : decode cJ6_bitCount_0f7a4 28 = .ok (.iadd, 1) := by decide +kernel
theorem dJ6_bitCount_0f7a4_29 : decode cJ6_bitCount_0f7a4 29 = .ok (.ldc_w 267, 3) := by decide +kernel
theorem dJ6_bitCount_0f7a4_32 : decode cJ6_bitCount_0f7a4 32 = .ok (.iand, 1) := by decide +kernel
theorem dJ6_bitCount_0f7a4_33 : decode cJ6_bitCount_0f7a4 33 = .ok (.istore_n 0, 1) := by decide +kernel
theorem dJ6_bitCount_0f7a4_34 : decode cJ6_bitCount_0f7a4 34 = .ok (.iload_n 0, 1) := by decide +kernel
theorem dJ6_bitCount_0f7a4_35 : decode cJ6_bitCount_0f7a4 35 = .ok (.iload_n 0, 1) := by decide +kernel
theorem dJ6_bitCount_0f7a4_36 : decode cJ6_bitCount_0f7a4 36 = .ok (.bipush 8, 2) := by decide +kernel
theorem dJ6_bitCount_0f7a4_38 : decode cJ6_bitCount_0f7a4 38 = .ok (.iushr, 1) := by decide +kernel
theorem dJ6_bitCount_0f7a4_39 : decode cJ6_bitCount_0f7a4 39 = .ok (.iadd, 1) := by decide +kernel
theorem dJ6_bitCount_0f7a4_40 : decode cJ6_bitCount_0f7a4 40 = .ok (.istore_n 0, 1) := by decide +kernel
theorem dJ6_bitCount_0f7a4_41 : decode cJ6_bitCount_0f7a4 41 = .ok (.iload_n 0, 1) := by decide +kernel
theorem dJ6_bitCount_0f7a4_42 : decode cJ6_bitCount_0f7a4 42 = .ok (.iload_n 0, 1) := by decide +kernel
theorem dJ6_bitCount_0f7a4_43 : decode cJ6_bitCount_0f7a4 43 = .ok (.bipush 16, 2) := by decide +kernel
theorem dJ6_bitCount_0f7a4_45 : decode cJ6_bitCount_0f7a4 45 = .ok (.iushr, 1) := by decide +kernel
theorem dJ6_bitCount_0f7a4_46 : decode cJ6_bitCount_0f7a4 46 = .ok (.iadd, 1) := by decide +kernel
theorem dJ6_bitCount_0f7a4_47 : decode cJ6_bitCount_0f7a4 47 = .ok (.istore_n 0, 1) := by decide +kernel
theorem dJ6_bitCount_0f7a4_48 : decode cJ6_bitCount_0f7a4 48 = .ok (.iload_n 0, 1) := by decide +kernel
theorem dJ6_bitCount_0f7a4_49 : decode cJ6_bitCount_0f7a4 49 = .ok (.bipush 63, 2) := by decide +kernel
theorem dJ6_bitCount_0f7a4_51 : decode cJ6_bitCount_0f7a4 51 = .ok (.iand, 1) := by decide +kernel
theorem dJ6_bitCount_0f7a4_52 : decode cJ6_bitCount_0f7a4 52 = .ok (.ireturn, 1) := by decide +kernel
def w_J6_bitCount_0f7a4 (a0 : Int32) (I : sI) (J : sJ) (post : Int32 → sI → sJ → Prop) : Prop :=
  (∀ v0_9 : Int32, v0_9 = a0 - (((a0.toUInt32 >>> (Int32.toUInt32 1 &&& Int32.toUInt32 31)).toInt32) &&& 1431655765) → (∀ v0_23 : Int32, v0_23 = (v0_9 &&& 858993459) + (((v0_9.toUInt32 >>> (Int32.toUInt32 2 &&& Int32.toUInt32 31)).toInt32) &&& 858993459) → (∀ v0_33 : Int32, v0_33 = (v0_23 + ((v0_23.toUInt32 >>> (Int32.toUInt32 4 &&& Int32.toUInt32 31)).toInt32)) &&& 252645135 → (∀ v0_40 : Int32, v0_40 = v0_33 + ((v0_33.toUInt32 >>> (Int32.toUInt32 8 &&& Int32.toUInt32 31)).toInt32) → (∀ v0_47 : Int32, v0_47 = v0_40 + ((v0_40.toUInt32 >>> (Int32.toUInt32 16 &&& Int32.toUInt32 31)).toInt32) → post (v0_47 &&& 63) I J)))))
set_option maxHeartbeats 4000000 in
set_option maxRecDepth 100000 in
theorem t_J6_bitCount_0f7a4 {X : sX} {a0 : Int32} {I : sI} {J : sJ} {post : Int32 → sI → sJ → Prop} (h : sOK X cJ6_bitCount_0f7a4 RJ6 1 0 0) (hr : sRt X (some .int) (sPi post)) (hw : w_J6_bitCount_0f7a4 a0 I J post) : sG X 1 0 [(0, .int a0)] [] I J := by
  unfold w_J6_bitCount_0f7a4 at hw
  refine g_iload_n h rfl 0 rfl dJ6_bitCount_0f7a4_0 ?_
  refine g_iload_n h rfl 0 rfl dJ6_bitCount_0f7a4_1 ?_
  refine g_iconst (v := 1) h (by decide) dJ6_bitCount_0f7a4_2 ?_
  refine g_iushr h dJ6_bitCount_0f7a4_3 ?_
  refine g_ldcw h lc_J6_265 dJ6_bitCount_0f7a4_4 ?_
  refine g_iand h dJ6_bitCount_0f7a4_7 ?_
  refine g_isub h dJ6_bitCount_0f7a4_8 ?_
  refine g_ni (fun v0_9 ev0_9 => ?_)
  replace hw := hw v0_9 ev0_9
  refine g_istore_n (lo2 := [(0, .int v0_9)]) h rfl (by decide) rfl dJ6_bitCount_0f7a4_9 ?_
  refine g_iload_n h rfl 0 rfl dJ6_bitCount_0f7a4_10 ?_
  refine g_ldcw h lc_J6_266 dJ6_bitCount_0f7a4_11 ?_
  refine g_iand h dJ6_bitCount_0f7a4_14 ?_
  refine g_iload_n h rfl 0 rfl dJ6_bitCount_0f7a4_15 ?_
  refine g_iconst (v := 2) h (by decide) dJ6_bitCount_0f7a4_16 ?_
  refine g_iushr h dJ6_bitCount_0f7a4_17 ?_
  refine g_ldcw h lc_J6_266 dJ6_bitCount_0f7a4_18 ?_
  refine g_iand h dJ6_bitCount_0f7a4_21 ?_
  refine g_iadd h dJ6_bitCount_0f7a4_22 ?_
  refine g_ni (fun v0_23 ev0_23 => ?_)
  replace hw := hw v0_23 ev0_23
  refine g_istore_n (lo2 := [(0, .int v0_23)]) h rfl (by decide) rfl dJ6_bitCount_0f7a4_23 ?_
  refine g_iload_n h rfl 0 rfl dJ6_bitCount_0f7a4_24 ?_
  refine g_iload_n h rfl 0 rfl dJ6_bitCount_0f7a4_25 ?_
  refine g_iconst (v := 4) h (by decide) dJ6_bitCount_0f7a4_26 ?_
  refine g_iushr h dJ6_bitCount_0f7a4_27 ?_
  refine g_iadd h dJ6_bitCount_0f7a4_28 ?_
  refine g_ldcw h lc_J6_267 dJ6_bitCount_0f7a4_29 ?_
  refine g_iand h dJ6_bitCount_0f7a4_32 ?_
  refine g_ni (fun v0_33 ev0_33 => ?_)
  replace hw := hw v0_33 ev0_33
  refine g_istore_n (lo2 := [(0, .int v0_33)]) h rfl (by decide) rfl dJ6_bitCount_0f7a4_33 ?_
  refine g_iload_n h rfl 0 rfl dJ6_bitCount_0f7a4_34 ?_
  refine g_iload_n h rfl 0 rfl dJ6_bitCount_0f7a4_35 ?_
  refine g_bipush (v := 8) h (by decide) dJ6_bitCount_0f7a4_36 ?_
  refine g_iushr h dJ6_bitCount_0f7a4_38 ?_
  refine g_iadd h dJ6_bitCount_0f7a4_39 ?_
  refine g_ni (fun v0_40 ev0_40 => ?_)
  replace hw := hw v0_40 ev0_40
  refine g_istore_n (lo2 := [(0, .int v0_40)]) h rfl (by decide) rfl dJ6_bitCount_0f7a4_40 ?_
  refine g_iload_n h rfl 0 rfl dJ6_bitCount_0f7a4_41 ?_
  refine g_iload_n h rfl 0 rfl dJ6_bitCount_0f7a4_42 ?_
  refine g_bipush (v := 16) h (by decide) dJ6_bitCount_0f7a4_43 ?_
  refine g_iushr h dJ6_bitCount_0f7a4_45 ?_
  refine g_iadd h dJ6_bitCount_0f7a4_46 ?_
  refine g_ni (fun v0_47 ev0_47 => ?_)
  replace hw := hw v0_47 ev0_47
  refine g_istore_n (lo2 := [(0, .int v0_47)]) h rfl (by decide) rfl dJ6_bitCount_0f7a4_47 ?_
  refine g_iload_n h rfl 0 rfl dJ6_bitCount_0f7a4_48 ?_
  refine g_bipush (v := 63) h (by decide) dJ6_bitCount_0f7a4_49 ?_
  refine g_iand h dJ6_bitCount_0f7a4_51 ?_
  exact g_iret h hr dJ6_bitCount_0f7a4_52 hw
theorem c_J6_bitCount_0f7a4 (X : sX) {a0 : Int32} {I : sI} {J : sJ} {post : Int32 → sI → sJ → Prop} (hw : w_J6_bitCount_0f7a4 a0 I J post) : sCall X yJ6_bitCount_0f7a4 cJ6_bitCount_0f7a4 1 (some .int) 0 0 [.int a0] I J (sPi post) := sCall_of (by decide +kernel) (Nat.le_of_ble_eq_true rfl) (fun X h hr => t_J6_bitCount_0f7a4 h hr hw)
theorem dX11_sure_0 : decode cX11_sure 0 = .ok (.aload_n 0, 1) := by decide +kernel
theorem dX11_sure_1 : decode cX11_sure 1 = .ok (.iload_n 1, 1) := by decide +kernel
theorem dX11_sure_2 : decode cX11_sure 2 = .ok (.invokevirtual 182, 3) := by decide +kernel
theorem dX11_sure_5 : decode cX11_sure 5 = .ok (.ifCond .eq 5, 3) := by decide +kernel
theorem dX11_sure_8 : decode cX11_sure 8 = .ok (.iconst (-1), 1) := by decide +kernel
theorem dX11_sure_9 : decode cX11_sure 9 = .ok (.ireturn, 1) := by decide +kernel
theorem dX11_sure_10 : decode cX11_sure 10 = .ok (.aload_n 0, 1) := by decide +kernel
theorem dX11_sure_11 : decode cX11_sure 11 = .ok (.aload_n 0, 1) := by decide +kernel
theorem dX11_sure_12 : decode cX11_sure 12 = .ok (.getfield 19, 3) := by decide +kernel
theorem dX11_sure_15 : decode cX11_sure 15 = .ok (.getfield 117, 3) := by decide +kernel
theorem dX11_sure_18 : decode cX11_sure 18 = .ok (.iload_n 1, 1) := by decide +kernel
theorem dX11_sure_19 : decode cX11_sure 19 = .ok (.iconst 1, 1) := by decide +kernel
theorem dX11_sure_20 : decode cX11_sure 20 = .ok (.iconst 0, 1) := by decide +kernel
theorem dX11_sure_21 : decode cX11_sure 21 = .ok (.invokevirtual 185, 3) := by decide +kernel
theorem dX11_sure_24 : decode cX11_sure 24 = .ok (.aload_n 0, 1) := by decide +kernel
theorem dX11_sure_25 : decode cX11_sure 25 = .ok (.getfield 67, 3) := by decide +kernel
theorem dX11_sure_28 : decode cX11_sure 28 = .ok (.invokevirtual 192, 3) := by decide +kernel
theorem dX11_sure_31 : decode cX11_sure 31 = .ok (.ifCond .eq 6, 3) := by decide +kernel
theorem dX11_sure_34 : decode cX11_sure 34 = .ok (.bipush (-3), 2) := by decide +kernel
theorem dX11_sure_36 : decode cX11_sure 36 = .ok (.ireturn, 1) := by decide +kernel
theorem dX11_sure_37 : decode cX11_sure 37 = .ok (.aload_n 0, 1) := by decide +kernel
theorem dX11_sure_38 : decode cX11_sure 38 = .ok (.getfield 67, 3) := by decide +kernel
theorem dX11_sure_41 : decode cX11_sure 41 = .ok (.getfield 197, 3) := by decide +kernel
theorem dX11_sure_44 : decode cX11_sure 44 = .ok (.ifCond .ne 6, 3) := by decide +kernel
theorem dX11_sure_47 : decode cX11_sure 47 = .ok (.bipush (-2), 2) := by decide +kernel
theorem dX11_sure_49 : decode cX11_sure 49 = .ok (.ireturn, 1) := by decide +kernel
theorem dX11_sure_50 : decode cX11_sure 50 = .ok (.iconst 0, 1) := by decide +kernel
theorem dX11_sure_51 : decode cX11_sure 51 = .ok (.istore_n 2, 1) := by decide +kernel
theorem dX11_sure_52 : decode cX11_sure 52 = .ok (.aload_n 0, 1) := by decide +kernel
theorem dX11_sure_53 : decode cX11_sure 53 = .ok (.getfield 41, 3) := by decide +kernel
theorem dX11_sure_56 : decode cX11_sure 56 = .ok (.iconst 0, 1) := by decide +kernel
theorem dX11_sure_57 : decode cX11_sure 57 = .ok (.putfield 196, 3) := by decide +kernel
theorem dX11_sure_60 : decode cX11_sure 60 = .ok (.iconst 0, 1) := by decide +kernel
theorem dX11_sure_61 : decode cX11_sure 61 = .ok (.istore_n 3, 1) := by decide +kernel
theorem dX11_sure_62 : decode cX11_sure 62 = .ok (.iload_n 3, 1) := by decide +kernel
theorem dX11_sure_63 : decode cX11_sure 63 = .ok (.bipush 12, 2) := by decide +kernel
theorem dX11_sure_65 : decode cX11_sure 65 = .ok (.if_icmp .ge 76, 3) := by decide +kernel
theorem dX11_sure_68 : decode cX11_sure 68 = .ok (.aload_n 0, 1) := by decide +kernel
theorem dX11_sure_69 : decode cX11_sure 69 = .ok (.getfield 67, 3) := by decide +kernel
theorem dX11_sure_72 : decode cX11_sure 72 = .ok (.iload_n 3, 1) := by decide +kernel
theorem dX11_sure_73 : decode cX11_sure 73 = .ok (.invokevirtual 212, 3) := by decide +kernel
theorem dX11_sure_76 : decode cX11_sure 76 = .ok (.invokestatic 216, 3) := by decide +kernel
theorem dX11_sure_79 : decode cX11_sure 79 = .ok (.iconst 1, 1) := by decide +kernel
theorem dX11_sure_80 : decode cX11_sure 80 = .ok (.if_icmp .ne 7, 3) := by decide +kernel
theorem dX11_sure_83 : decode cX11_sure 83 = .ok (.iconst 1, 1) := by decide +kernel
theorem dX11_sure_84 : decode cX11_sure 84 = .ok (.goto 4, 3) := by decide +kernel
theorem dX11_sure_87 : decode cX11_sure 87 = .ok (.iconst 0, 1) := by decide +kernel
theorem dX11_sure_88 : decode cX11_sure 88 = .ok (.istore 4, 2) := by decide +kernel
theorem dX11_sure_90 : decode cX11_sure 90 = .ok (.iload_n 2, 1) := by decide +kernel
theorem dX11_sure_91 : decode cX11_sure 91 = .ok (.iload 4, 2) := by decide +kernel
theorem dX11_sure_93 : decode cX11_sure 93 = .ok (.ifCond .eq 9, 3) := by decide +kernel
theorem dX11_sure_96 : decode cX11_sure 96 = .ok (.iconst 1, 1) := by decide +kernel
theorem dX11_sure_97 : decode cX11_sure 97 = .ok (.iload_n 3, 1) := by decide +kernel
theorem dX11_sure_98 : decode cX11_sure 98 = .ok (.ishl, 1) := by decide +kernel
theorem dX11_sure_99 : decode cX11_sure 99 = .ok (.goto 4, 3) := by decide +kernel
theorem dX11_sure_102 : decode cX11_sure 102 = .ok (.iconst 0, 1) := by decide +kernel
theorem dX11_sure_103 : decode cX11_sure 103 = .ok (.ior, 1) := by decide +kernel
theorem dX11_sure_104 : decode cX11_sure 104 = .ok (.istore_n 2, 1) := by decide +kernel
theorem dX11_sure_105 : decode cX11_sure 105 = .ok (.aload_n 0, 1) := by decide +kernel
theorem dX11_sure_106 : decode cX11_sure 106 = .ok (.getfield 41, 3) := by decide +kernel
theorem dX11_sure_109 : decode cX11_sure 109 = .ok (.iload 4, 2) := by decide +kernel
theorem dX11_sure_111 : decode cX11_sure 111 = .ok (.ifCond .eq 18, 3) := by decide +kernel
theorem dX11_sure_114 : decode cX11_sure 114 = .ok (.aload_n 0, 1) := by decide +kernel
theorem dX11_sure_115 : decode cX11_sure 115 = .ok (.getfield 67, 3) := by decide +kernel
theorem dX11_sure_118 : decode cX11_sure 118 = .ok (.getfield 200, 3) := by decide +kernel
theorem dX11_sure_121 : decode cX11_sure 121 = .ok (.iload_n 3, 1) := by decide +kernel
theorem dX11_sure_122 : decode cX11_sure 122 = .ok (.invokestatic 221, 3) := by decide +kernel
theorem dX11_sure_125 : decode cX11_sure 125 = .ok (.i2l, 1) := by decide +kernel
theorem dX11_sure_126 : decode cX11_sure 126 = .ok (.goto 6, 3) := by decide +kernel
theorem dX11_sure_129 : decode cX11_sure 129 = .ok (.ldc2_w 225, 3) := by decide +kernel
theorem dX11_sure_132 : decode cX11_sure 132 = .ok (.invokevirtual 227, 3) := by decide +kernel
theorem dX11_sure_135 : decode cX11_sure 135 = .ok (.iinc 3 1, 3) := by decide +kernel
theorem dX11_sure_138 : decode cX11_sure 138 = .ok (.goto (-76), 3) := by decide +kernel
theorem dX11_sure_141 : decode cX11_sure 141 = .ok (.iload_n 2, 1) := by decide +kernel
theorem dX11_sure_142 : decode cX11_sure 142 = .ok (.ireturn, 1) := by decide +kernel
def w_X11_sure_132 (post : Int32 → sI → sJ → Prop) (k62 : Int32 → Int32 → sI → sJ → Prop) (x2 : Int32) (x3 : Int32) (s0 : Int64) (I : sI) (J : sJ) : Prop :=
  w_X6_put 134 s0 I J (fun (I_132 : sI) (J_132 : sJ) => ((∀ v3_135 : Int32, v3_135 = x3 + 1 → k62 x2 v3_135 I_132 J_132)))
set_option maxHeartbeats 4000000 in
set_option maxRecDepth 100000 in
theorem t_X11_sure_132 {X : sX} {post : Int32 → sI → sJ → Prop} (h : sOK X cX11_sure RX11 5 33 973) (hr : sRt X (some .int) (sPi post)) {k62 : Int32 → Int32 → sI → sJ → Prop} (hk62 : ∀ (x2 : Int32) (x3 : Int32) (I : sI) (J : sJ), k62 x2 x3 I J → sG X 5 62 [(0, .ref 0), (2, .int x2), (3, .int x3)] [] I J) {x2 : Int32} {x3 : Int32} {s0 : Int64} {I : sI} {J : sJ} (hw : w_X11_sure_132 post k62 x2 x3 s0 I J) : sG X 5 132 [(0, .ref 0), (2, .int x2), (3, .int x3)] [.long s0, .ref 134] I J := by
  unfold w_X11_sure_132 at hw
  refine g_callV [.long s0] h (c_X6_put X is_134 hw) sPv_v mw_X6_put lk_X11_227 is_134 rfl rfl ⟨by decide, by decide⟩ (Nat.le_of_ble_eq_true rfl) dX11_sure_132 (sPv_k (fun I_132 J_132 hw => ?_))
  obtain ⟨v3_135, ev3_135⟩ : ∃ z : Int32, z = x3 + 1 := ⟨_, rfl⟩
  replace hw := hw v3_135 ev3_135
  refine g_iinc (v := v3_135) (lo2 := [(3, .int v3_135), (0, .ref 0), (2, .int x2)]) h 2 rfl (by rw [ev3_135]; rfl) (by decide) rfl dX11_sure_135 ?_
  refine g_goto (tgt := 62) h (by decide) dX11_sure_138 ?_
  exact g_sub [1, 2, 0] rfl (hk62 _ _ _ _ hw)
def w_X11_sure_103 (post : Int32 → sI → sJ → Prop) (k62 : Int32 → Int32 → sI → sJ → Prop) (x3 : Int32) (x4 : Int32) (s0 : Int32) (s1 : Int32) (I : sI) (J : sJ) : Prop :=
  (∀ v2_104 : Int32, v2_104 = s1 ||| s0 → ((x4 = 0 → w_X11_sure_132 post k62 v2_104 x3 (-1) I J) ∧ (¬ x4 = 0 → w_X11_letterIn (J 220 5) x3 I J (fun (r_122 : Int32) (I_122 : sI) (J_122 : sJ) => (w_X11_sure_132 post k62 v2_104 x3 (Int32.toInt64 r_122) I_122 J_122)))))
set_option maxHeartbeats 4000000 in
set_option maxRecDepth 100000 in
theorem t_X11_sure_103 {X : sX} {post : Int32 → sI → sJ → Prop} (h : sOK X cX11_sure RX11 5 33 973) (hr : sRt X (some .int) (sPi post)) {k62 : Int32 → Int32 → sI → sJ → Prop} (hk62 : ∀ (x2 : Int32) (x3 : Int32) (I : sI) (J : sJ), k62 x2 x3 I J → sG X 5 62 [(0, .ref 0), (2, .int x2), (3, .int x3)] [] I J) {x3 : Int32} {x4 : Int32} {s0 : Int32} {s1 : Int32} {I : sI} {J : sJ} (hw : w_X11_sure_103 post k62 x3 x4 s0 s1 I J) : sG X 5 103 [(0, .ref 0), (3, .int x3), (4, .int x4)] [.int s0, .int s1] I J := by
  unfold w_X11_sure_103 at hw
  refine g_ior h dX11_sure_103 ?_
  refine g_ni (fun v2_104 ev2_104 => ?_)
  replace hw := hw v2_104 ev2_104
  refine g_istore_n (lo2 := [(2, .int v2_104), (0, .ref 0), (3, .int x3), (4, .int x4)]) h rfl (by decide) rfl dX11_sure_104 ?_
  refine g_aload_n h rfl 1 rfl dX11_sure_105 ?_
  refine g_get h is_0 fl_X11_41 fr_0_5 dX11_sure_106 ?_
  refine g_iload h 3 rfl dX11_sure_109 ?_
  refine g_if_eq (tgt := 129) h (by decide) dX11_sure_111 (fun q111 => ?_) (fun q111 => ?_)
  · replace hw := hw.1 q111
    refine g_ldc2 h lc_X11_225 dX11_sure_129 ?_
    exact g_sub [1, 0, 2] rfl (t_X11_sure_132 h hr hk62 hw)
  · replace hw := hw.2 q111
    refine g_aload_n h rfl 1 rfl dX11_sure_114 ?_
    refine g_get h is_0 fl_X11_67 fr_0_9 dX11_sure_115 ?_
    refine g_get h is_220 fl_X11_200 rfl dX11_sure_118 ?_
    refine g_iload_n h rfl 2 rfl dX11_sure_121 ?_
    refine g_callS [.long (J 220 5), .int x3] h (c_X11_letterIn X hw) sPi_v mw_X11_letterIn lk_X11_221 rfl ⟨by decide, by decide⟩ (Nat.le_of_ble_eq_true rfl) dX11_sure_122 (sPi_k (fun r_122 I_122 J_122 hw => ?_))
    refine g_i2l h dX11_sure_125 ?_
    refine g_goto (tgt := 132) h (by decide) dX11_sure_126 ?_
    exact g_sub [1, 0, 2] rfl (t_X11_sure_132 h hr hk62 hw)
def w_X11_sure_88 (post : Int32 → sI → sJ → Prop) (k62 : Int32 → Int32 → sI → sJ → Prop) (x2 : Int32) (x3 : Int32) (s0 : Int32) (I : sI) (J : sJ) : Prop :=
  ((s0 = 0 → w_X11_sure_103 post k62 x3 s0 0 x2 I J) ∧ (¬ s0 = 0 → w_X11_sure_103 post k62 x3 s0 (1 <<< (x3 &&& 31)) x2 I J))
set_option maxHeartbeats 4000000 in
set_option maxRecDepth 100000 in
theorem t_X11_sure_88 {X : sX} {post : Int32 → sI → sJ → Prop} (h : sOK X cX11_sure RX11 5 33 973) (hr : sRt X (some .int) (sPi post)) {k62 : Int32 → Int32 → sI → sJ → Prop} (hk62 : ∀ (x2 : Int32) (x3 : Int32) (I : sI) (J : sJ), k62 x2 x3 I J → sG X 5 62 [(0, .ref 0), (2, .int x2), (3, .int x3)] [] I J) {x2 : Int32} {x3 : Int32} {s0 : Int32} {I : sI} {J : sJ} (hw : w_X11_sure_88 post k62 x2 x3 s0 I J) : sG X 5 88 [(0, .ref 0), (2, .int x2), (3, .int x3)] [.int s0] I J := by
  unfold w_X11_sure_88 at hw
  refine g_istore (lo2 := [(4, .int s0), (0, .ref 0), (2, .int x2), (3, .int x3)]) h (by decide) rfl dX11_sure_88 ?_
  refine g_iload_n h rfl 2 rfl dX11_sure_90 ?_
  refine g_iload h 0 rfl dX11_sure_91 ?_
  refine g_if_eq (tgt := 102) h (by decide) dX11_sure_93 (fun q93 => ?_) (fun q93 => ?_)
  · replace hw := hw.1 q93
    refine g_iconst (v := 0) h (by decide) dX11_sure_102 ?_
    exact g_sub [1, 3, 0] rfl (t_X11_sure_103 h hr hk62 hw)
  · replace hw := hw.2 q93
    refine g_iconst (v := 1) h (by decide) dX11_sure_96 ?_
    refine g_iload_n h rfl 3 rfl dX11_sure_97 ?_
    refine g_ishl h dX11_sure_98 ?_
    refine g_goto (tgt := 103) h (by decide) dX11_sure_99 ?_
    exact g_sub [1, 3, 0] rfl (t_X11_sure_103 h hr hk62 hw)
def w_X11_sure_62_s (post : Int32 → sI → sJ → Prop) (k62 : Int32 → Int32 → sI → sJ → Prop) (x2 : Int32) (x3 : Int32) (I : sI) (J : sJ) : Prop :=
  ((12 ≤ x3 → post x2 I J) ∧ (¬ 12 ≤ x3 → w_X5_lettersOf x3 I J (fun (r_73 : Int32) (I_73 : sI) (J_73 : sJ) => (w_J6_bitCount_0f7a4 r_73 I_73 J_73 (fun (r_76 : Int32) (I_76 : sI) (J_76 : sJ) => (((¬ r_76 = 1 → w_X11_sure_88 post k62 x2 x3 0 I_76 J_76) ∧ (r_76 = 1 → w_X11_sure_88 post k62 x2 x3 1 I_76 J_76))))))))
def w_X11_sure_62_n (post : Int32 → sI → sJ → Prop) : Nat → Int32 → Int32 → sI → sJ → Prop
  | 0 => fun _ _ _ _ => False
  | n + 1 => fun x2 x3 I J => w_X11_sure_62_s post (w_X11_sure_62_n post n) x2 x3 I J
def w_X11_sure_62 (post : Int32 → sI → sJ → Prop) (x2 : Int32) (x3 : Int32) (I : sI) (J : sJ) : Prop := ∃ n, w_X11_sure_62_n post n x2 x3 I J
set_option maxHeartbeats 4000000 in
set_option maxRecDepth 100000 in
theorem t_X11_sure_62_s {X : sX} {post : Int32 → sI → sJ → Prop} (h : sOK X cX11_sure RX11 5 33 973) (hr : sRt X (some .int) (sPi post)) {k62 : Int32 → Int32 → sI → sJ → Prop} (hk62 : ∀ (x2 : Int32) (x3 : Int32) (I : sI) (J : sJ), k62 x2 x3 I J → sG X 5 62 [(0, .ref 0), (2, .int x2), (3, .int x3)] [] I J) {x2 : Int32} {x3 : Int32} {I : sI} {J : sJ} (hw : w_X11_sure_62_s post k62 x2 x3 I J) : sG X 5 62 [(0, .ref 0), (2, .int x2), (3, .int x3)] [] I J := by
  unfold w_X11_sure_62_s at hw
  refine g_iload_n h rfl 2 rfl dX11_sure_62 ?_
  refine g_bipush (v := 12) h (by decide) dX11_sure_63 ?_
  refine g_icmp_ge (tgt := 141) h (by decide) dX11_sure_65 (fun q65 => ?_) (fun q65 => ?_)
  · replace hw := hw.1 q65
    refine g_iload_n h rfl 1 rfl dX11_sure_141 ?_
    exact g_iret h hr dX11_sure_142 hw
  · replace hw := hw.2 q65
    refine g_aload_n h rfl 0 rfl dX11_sure_68 ?_
    refine g_get h is_0 fl_X11_67 fr_0_9 dX11_sure_69 ?_
    refine g_iload_n h rfl 2 rfl dX11_sure_72 ?_
    refine g_callV [.int x3] h (c_X5_lettersOf X hw) sPi_v mw_X5_lettersOf lk_X11_212 is_220 rfl rfl ⟨by decide, by decide⟩ (Nat.le_of_ble_eq_true rfl) dX11_sure_73 (sPi_k (fun r_73 I_73 J_73 hw => ?_))
    refine g_callS [.int r_73] h (c_J6_bitCount_0f7a4 X hw) sPi_v mw_J6_bitCount_0f7a4 lk_X11_216 rfl ⟨by decide, by decide⟩ (Nat.le_of_ble_eq_true rfl) dX11_sure_76 (sPi_k (fun r_76 I_76 J_76 hw => ?_))
    refine g_iconst (v := 1) h (by decide) dX11_sure_79 ?_
    refine g_icmp_ne (tgt := 87) h (by decide) dX11_sure_80 (fun q80 => ?_) (fun q80 => ?_)
    · replace hw := hw.1 q80
      refine g_iconst (v := 0) h (by decide) dX11_sure_87 ?_
      exact g_sub [0, 1, 2] rfl (t_X11_sure_88 h hr hk62 hw)
    · replace hw := hw.2 q80
      refine g_iconst (v := 1) h (by decide) dX11_sure_83 ?_
      refine g_goto (tgt := 88) h (by decide) dX11_sure_84 ?_
      exact g_sub [0, 1, 2] rfl (t_X11_sure_88 h hr hk62 hw)
theorem t_X11_sure_62 {X : sX} {post : Int32 → sI → sJ → Prop} (h : sOK X cX11_sure RX11 5 33 973) (hr : sRt X (some .int) (sPi post)) {x2 : Int32} {x3 : Int32} {I : sI} {J : sJ} (hw : w_X11_sure_62 post x2 x3 I J) : sG X 5 62 [(0, .ref 0), (2, .int x2), (3, .int x3)] [] I J := by
  obtain ⟨n, hw⟩ := hw
  induction n generalizing x2 x3 I J with
  | zero => exact hw.elim
  | succ n ih => exact t_X11_sure_62_s h hr (fun _ _ _ _ q => ih q) hw
def w_X11_sure (a1 : Int32) (I : sI) (J : sJ) (post : Int32 → sI → sJ → Prop) : Prop :=
  w_X11_cannotRead a1 I J (fun (r_2 : Int32) (I_2 : sI) (J_2 : sJ) => (((r_2 = 0 → w_X11_read 4 a1 1 0 I_2 J_2 (fun (I_21 : sI) (J_21 : sJ) => (w_X5_tooMany I_21 J_21 (fun (r_28 : Int32) (I_28 : sI) (J_28 : sJ) => (((r_28 = 0 → ((¬ (I_28 220 2) = 0 → (∀ I_57 : sI, I_57 = sUI I_28 134 1 0 → w_X11_sure_62 post 0 0 I_57 J_28)) ∧ ((I_28 220 2) = 0 → post (-2) I_28 J_28))) ∧ (¬ r_28 = 0 → post (-3) I_28 J_28))))))) ∧ (¬ r_2 = 0 → post (-1) I_2 J_2))))
set_option maxHeartbeats 4000000 in
set_option maxRecDepth 100000 in
theorem t_X11_sure {X : sX} {a1 : Int32} {I : sI} {J : sJ} {post : Int32 → sI → sJ → Prop} (h : sOK X cX11_sure RX11 5 33 973) (hr : sRt X (some .int) (sPi post)) (hw : w_X11_sure a1 I J post) : sG X 5 0 [(0, .ref 0), (1, .int a1)] [] I J := by
  unfold w_X11_sure at hw
  refine g_aload_n h rfl 0 rfl dX11_sure_0 ?_
  refine g_iload_n h rfl 1 rfl dX11_sure_1 ?_
  refine g_callV [.int a1] h (c_X11_cannotRead X hw) sPi_v mw_X11_cannotRead lk_X11_182 is_0 rfl rfl ⟨by decide, by decide⟩ (Nat.le_of_ble_eq_true rfl) dX11_sure_2 (sPi_k (fun r_2 I_2 J_2 hw => ?_))
  refine g_if_eq (tgt := 10) h (by decide) dX11_sure_5 (fun q5 => ?_) (fun q5 => ?_)
  · replace hw := hw.1 q5
    refine g_aload_n h rfl 0 rfl dX11_sure_10 ?_
    refine g_aload_n h rfl 0 rfl dX11_sure_11 ?_
    refine g_get h is_0 fl_X11_19 fr_0_1 dX11_sure_12 ?_
    refine g_get h is_3 fl_X11_117 fr_3_0 dX11_sure_15 ?_
    refine g_iload_n h rfl 1 rfl dX11_sure_18 ?_
    refine g_iconst (v := 1) h (by decide) dX11_sure_19 ?_
    refine g_iconst (v := 0) h (by decide) dX11_sure_20 ?_
    refine g_callV [.ref 4, .int a1, .int 1, .int 0] h (c_X11_read X is_4 hw) sPv_v mw_X11_read lk_X11_185 is_0 rfl rfl ⟨by decide, by decide⟩ (Nat.le_of_ble_eq_true rfl) dX11_sure_21 (sPv_k (fun I_21 J_21 hw => ?_))
    refine g_aload_n h rfl 0 rfl dX11_sure_24 ?_
    refine g_get h is_0 fl_X11_67 fr_0_9 dX11_sure_25 ?_
    refine g_callV [] h (c_X5_tooMany X hw) sPi_v mw_X5_tooMany lk_X11_192 is_220 rfl rfl ⟨by decide, by decide⟩ (Nat.le_of_ble_eq_true rfl) dX11_sure_28 (sPi_k (fun r_28 I_28 J_28 hw => ?_))
    refine g_if_eq (tgt := 37) h (by decide) dX11_sure_31 (fun q31 => ?_) (fun q31 => ?_)
    · replace hw := hw.1 q31
      refine g_aload_n h rfl 0 rfl dX11_sure_37 ?_
      refine g_get h is_0 fl_X11_67 fr_0_9 dX11_sure_38 ?_
      refine g_get h is_220 fl_X11_197 rfl dX11_sure_41 ?_
      refine g_if_ne (tgt := 50) h (by decide) dX11_sure_44 (fun q44 => ?_) (fun q44 => ?_)
      · replace hw := hw.1 q44
        refine g_iconst (v := 0) h (by decide) dX11_sure_50 ?_
        refine g_istore_n (lo2 := [(2, .int 0), (0, .ref 0), (1, .int a1)]) h rfl (by decide) rfl dX11_sure_51 ?_
        refine g_aload_n h rfl 1 rfl dX11_sure_52 ?_
        refine g_get h is_0 fl_X11_41 fr_0_5 dX11_sure_53 ?_
        refine g_iconst (v := 0) h (by decide) dX11_sure_56 ?_
        refine g_putI h is_134 fl_X11_196 rfl rfl dX11_sure_57 ?_
        refine g_nI (fun I_57 eI_57 => ?_)
        replace hw := hw I_57 eI_57
        refine g_iconst (v := 0) h (by decide) dX11_sure_60 ?_
        refine g_istore_n (lo2 := [(3, .int 0), (2, .int 0), (0, .ref 0), (1, .int a1)]) h rfl (by decide) rfl dX11_sure_61 ?_
        exact g_sub [2, 1, 0] rfl (t_X11_sure_62 h hr hw)
      · replace hw := hw.2 q44
        refine g_bipush (v := (-2)) h (by decide) dX11_sure_47 ?_
        exact g_iret h hr dX11_sure_49 hw
    · replace hw := hw.2 q31
      refine g_bipush (v := (-3)) h (by decide) dX11_sure_34 ?_
      exact g_iret h hr dX11_sure_36 hw
  · replace hw := hw.2 q5
    refine g_iconst (v := (-1)) h (by decide) dX11_sure_8 ?_
    exact g_iret h hr dX11_sure_9 hw
theorem c_X11_sure (X : sX) {a1 : Int32} {I : sI} {J : sJ} {post : Int32 → sI → sJ → Prop} (hw : w_X11_sure a1 I J post) : sCall X yX11_sure cX11_sure 5 (some .int) 33 973 [.ref 0, .int a1] I J (sPi post) := sCall_of (by decide +kernel) (Nat.le_of_ble_eq_true rfl) (fun X h hr => t_X11_sure h hr hw)
theorem dX11_letters_0 : decode cX11_letters 0 = .ok (.aload_n 0, 1) := by decide +kernel
theorem dX11_letters_1 : decode cX11_letters 1 = .ok (.iload_n 1, 1) := by decide +kernel
theorem dX11_letters_2 : decode cX11_letters 2 = .ok (.invokevirtual 182, 3) := by decide +kernel
theorem dX11_letters_5 : decode cX11_letters 5 = .ok (.ifCond .ne 30, 3) := by decide +kernel
theorem dX11_letters_8 : decode cX11_letters 8 = .ok (.iload_n 2, 1) := by decide +kernel
theorem dX11_letters_9 : decode cX11_letters 9 = .ok (.ifCond .lt 26, 3) := by decide +kernel
theorem dX11_letters_12 : decode cX11_letters 12 = .ok (.iload_n 2, 1) := by decide +kernel
theorem dX11_letters_13 : decode cX11_letters 13 = .ok (.bipush 12, 2) := by decide +kernel
theorem dX11_letters_15 : decode cX11_letters 15 = .ok (.if_icmp .ge 20, 3) := by decide +kernel
theorem dX11_letters_18 : decode cX11_letters 18 = .ok (.aload_n 0, 1) := by decide +kernel
theorem dX11_letters_19 : decode cX11_letters 19 = .ok (.getfield 19, 3) := by decide +kernel
theorem dX11_letters_22 : decode cX11_letters 22 = .ok (.getfield 117, 3) := by decide +kernel
theorem dX11_letters_25 : decode cX11_letters 25 = .ok (.invokevirtual 230, 3) := by decide +kernel
theorem dX11_letters_28 : decode cX11_letters 28 = .ok (.iload_n 2, 1) := by decide +kernel
theorem dX11_letters_29 : decode cX11_letters 29 = .ok (.ishr, 1) := by decide +kernel
theorem dX11_letters_30 : decode cX11_letters 30 = .ok (.iconst 1, 1) := by decide +kernel
theorem dX11_letters_31 : decode cX11_letters 31 = .ok (.iand, 1) := by decide +kernel
theorem dX11_letters_32 : decode cX11_letters 32 = .ok (.ifCond .ne 5, 3) := by decide +kernel
theorem dX11_letters_35 : decode cX11_letters 35 = .ok (.iconst (-1), 1) := by decide +kernel
theorem dX11_letters_36 : decode cX11_letters 36 = .ok (.ireturn, 1) := by decide +kernel
theorem dX11_letters_37 : decode cX11_letters 37 = .ok (.aload_n 0, 1) := by decide +kernel
theorem dX11_letters_38 : decode cX11_letters 38 = .ok (.aload_n 0, 1) := by decide +kernel
theorem dX11_letters_39 : decode cX11_letters 39 = .ok (.getfield 19, 3) := by decide +kernel
theorem dX11_letters_42 : decode cX11_letters 42 = .ok (.getfield 117, 3) := by decide +kernel
theorem dX11_letters_45 : decode cX11_letters 45 = .ok (.iload_n 1, 1) := by decide +kernel
theorem dX11_letters_46 : decode cX11_letters 46 = .ok (.iconst 1, 1) := by decide +kernel
theorem dX11_letters_47 : decode cX11_letters 47 = .ok (.iconst 0, 1) := by decide +kernel
theorem dX11_letters_48 : decode cX11_letters 48 = .ok (.invokevirtual 185, 3) := by decide +kernel
theorem dX11_letters_51 : decode cX11_letters 51 = .ok (.aload_n 0, 1) := by decide +kernel
theorem dX11_letters_52 : decode cX11_letters 52 = .ok (.getfield 67, 3) := by decide +kernel
theorem dX11_letters_55 : decode cX11_letters 55 = .ok (.invokevirtual 192, 3) := by decide +kernel
theorem dX11_letters_58 : decode cX11_letters 58 = .ok (.ifCond .eq 8, 3) := by decide +kernel
theorem dX11_letters_61 : decode cX11_letters 61 = .ok (.bipush (-3), 2) := by decide +kernel
theorem dX11_letters_63 : decode cX11_letters 63 = .ok (.goto 11, 3) := by decide +kernel
theorem dX11_letters_66 : decode cX11_letters 66 = .ok (.aload_n 0, 1) := by decide +kernel
theorem dX11_letters_67 : decode cX11_letters 67 = .ok (.getfield 67, 3) := by decide +kernel
theorem dX11_letters_70 : decode cX11_letters 70 = .ok (.iload_n 2, 1) := by decide +kernel
theorem dX11_letters_71 : decode cX11_letters 71 = .ok (.invokevirtual 212, 3) := by decide +kernel
theorem dX11_letters_74 : decode cX11_letters 74 = .ok (.ireturn, 1) := by decide +kernel
def w_X11_letters (a1 : Int32) (a2 : Int32) (I : sI) (J : sJ) (post : Int32 → sI → sJ → Prop) : Prop :=
  w_X11_cannotRead a1 I J (fun (r_2 : Int32) (I_2 : sI) (J_2 : sJ) => (((¬ r_2 = 0 → post (-1) I_2 J_2) ∧ (r_2 = 0 → ((a2 < 0 → post (-1) I_2 J_2) ∧ (¬ a2 < 0 → ((12 ≤ a2 → post (-1) I_2 J_2) ∧ (¬ 12 ≤ a2 → w_X2_kindBits 4 I_2 J_2 (fun (r_25 : Int32) (I_25 : sI) (J_25 : sJ) => (((¬ ((r_25 >>> (a2 &&& 31)) &&& 1) = 0 → w_X11_read 4 a1 1 0 I_25 J_25 (fun (I_48 : sI) (J_48 : sJ) => (w_X5_tooMany I_48 J_48 (fun (r_55 : Int32) (I_55 : sI) (J_55 : sJ) => (((r_55 = 0 → w_X5_lettersOf a2 I_55 J_55 (fun (r_71 : Int32) (I_71 : sI) (J_71 : sJ) => (post r_71 I_71 J_71))) ∧ (¬ r_55 = 0 → post (-3) I_55 J_55))))))) ∧ (((r_25 >>> (a2 &&& 31)) &&& 1) = 0 → post (-1) I_25 J_25))))))))))))
set_option maxHeartbeats 4000000 in
set_option maxRecDepth 100000 in
theorem t_X11_letters {X : sX} {a1 : Int32} {a2 : Int32} {I : sI} {J : sJ} {post : Int32 → sI → sJ → Prop} (h : sOK X cX11_letters RX11 3 33 973) (hr : sRt X (some .int) (sPi post)) (hw : w_X11_letters a1 a2 I J post) : sG X 3 0 [(0, .ref 0), (1, .int a1), (2, .int a2)] [] I J := by
  unfold w_X11_letters at hw
  refine g_aload_n h rfl 0 rfl dX11_letters_0 ?_
  refine g_iload_n h rfl 1 rfl dX11_letters_1 ?_
  refine g_callV [.int a1] h (c_X11_cannotRead X hw) sPi_v mw_X11_cannotRead lk_X11_182 is_0 rfl rfl ⟨by decide, by decide⟩ (Nat.le_of_ble_eq_true rfl) dX11_letters_2 (sPi_k (fun r_2 I_2 J_2 hw => ?_))
  refine g_if_ne (tgt := 35) h (by decide) dX11_letters_5 (fun q5 => ?_) (fun q5 => ?_)
  · replace hw := hw.1 q5
    refine g_iconst (v := (-1)) h (by decide) dX11_letters_35 ?_
    exact g_iret h hr dX11_letters_36 hw
  · replace hw := hw.2 q5
    refine g_iload_n h rfl 2 rfl dX11_letters_8 ?_
    refine g_if_lt (tgt := 35) h (by decide) dX11_letters_9 (fun q9 => ?_) (fun q9 => ?_)
    · replace hw := hw.1 q9
      refine g_iconst (v := (-1)) h (by decide) dX11_letters_35 ?_
      exact g_iret h hr dX11_letters_36 hw
    · replace hw := hw.2 q9
      refine g_iload_n h rfl 2 rfl dX11_letters_12 ?_
      refine g_bipush (v := 12) h (by decide) dX11_letters_13 ?_
      refine g_icmp_ge (tgt := 35) h (by decide) dX11_letters_15 (fun q15 => ?_) (fun q15 => ?_)
      · replace hw := hw.1 q15
        refine g_iconst (v := (-1)) h (by decide) dX11_letters_35 ?_
        exact g_iret h hr dX11_letters_36 hw
      · replace hw := hw.2 q15
        refine g_aload_n h rfl 0 rfl dX11_letters_18 ?_
        refine g_get h is_0 fl_X11_19 fr_0_1 dX11_letters_19 ?_
        refine g_get h is_3 fl_X11_117 fr_3_0 dX11_letters_22 ?_
        refine g_callV [] h (c_X2_kindBits X is_4 hw) sPi_v mw_X2_kindBits lk_X11_230 is_4 rfl rfl ⟨by decide, by decide⟩ (Nat.le_of_ble_eq_true rfl) dX11_letters_25 (sPi_k (fun r_25 I_25 J_25 hw => ?_))
        refine g_iload_n h rfl 2 rfl dX11_letters_28 ?_
        refine g_ishr h dX11_letters_29 ?_
        refine g_iconst (v := 1) h (by decide) dX11_letters_30 ?_
        refine g_iand h dX11_letters_31 ?_
        refine g_if_ne (tgt := 37) h (by decide) dX11_letters_32 (fun q32 => ?_) (fun q32 => ?_)
        · replace hw := hw.1 q32
          refine g_aload_n h rfl 0 rfl dX11_letters_37 ?_
          refine g_aload_n h rfl 0 rfl dX11_letters_38 ?_
          refine g_get h is_0 fl_X11_19 fr_0_1 dX11_letters_39 ?_
          refine g_get h is_3 fl_X11_117 fr_3_0 dX11_letters_42 ?_
          refine g_iload_n h rfl 1 rfl dX11_letters_45 ?_
          refine g_iconst (v := 1) h (by decide) dX11_letters_46 ?_
          refine g_iconst (v := 0) h (by decide) dX11_letters_47 ?_
          refine g_callV [.ref 4, .int a1, .int 1, .int 0] h (c_X11_read X is_4 hw) sPv_v mw_X11_read lk_X11_185 is_0 rfl rfl ⟨by decide, by decide⟩ (Nat.le_of_ble_eq_true rfl) dX11_letters_48 (sPv_k (fun I_48 J_48 hw => ?_))
          refine g_aload_n h rfl 0 rfl dX11_letters_51 ?_
          refine g_get h is_0 fl_X11_67 fr_0_9 dX11_letters_52 ?_
          refine g_callV [] h (c_X5_tooMany X hw) sPi_v mw_X5_tooMany lk_X11_192 is_220 rfl rfl ⟨by decide, by decide⟩ (Nat.le_of_ble_eq_true rfl) dX11_letters_55 (sPi_k (fun r_55 I_55 J_55 hw => ?_))
          refine g_if_eq (tgt := 66) h (by decide) dX11_letters_58 (fun q58 => ?_) (fun q58 => ?_)
          · replace hw := hw.1 q58
            refine g_aload_n h rfl 0 rfl dX11_letters_66 ?_
            refine g_get h is_0 fl_X11_67 fr_0_9 dX11_letters_67 ?_
            refine g_iload_n h rfl 2 rfl dX11_letters_70 ?_
            refine g_callV [.int a2] h (c_X5_lettersOf X hw) sPi_v mw_X5_lettersOf lk_X11_212 is_220 rfl rfl ⟨by decide, by decide⟩ (Nat.le_of_ble_eq_true rfl) dX11_letters_71 (sPi_k (fun r_71 I_71 J_71 hw => ?_))
            exact g_iret h hr dX11_letters_74 hw
          · replace hw := hw.2 q58
            refine g_bipush (v := (-3)) h (by decide) dX11_letters_61 ?_
            refine g_goto (tgt := 74) h (by decide) dX11_letters_63 ?_
            exact g_iret h hr dX11_letters_74 hw
        · replace hw := hw.2 q32
          refine g_iconst (v := (-1)) h (by decide) dX11_letters_35 ?_
          exact g_iret h hr dX11_letters_36 hw
theorem c_X11_letters (X : sX) {a1 : Int32} {a2 : Int32} {I : sI} {J : sJ} {post : Int32 → sI → sJ → Prop} (hw : w_X11_letters a1 a2 I J post) : sCall X yX11_letters cX11_letters 3 (some .int) 33 973 [.ref 0, .int a1, .int a2] I J (sPi post) := sCall_of (by decide +kernel) (Nat.le_of_ble_eq_true rfl) (fun X h hr => t_X11_letters h hr hw)
theorem dX11_means_0 : decode cX11_means 0 = .ok (.aload_n 0, 1) := by decide +kernel
theorem dX11_means_1 : decode cX11_means 1 = .ok (.iload_n 1, 1) := by decide +kernel
theorem dX11_means_2 : decode cX11_means 2 = .ok (.invokevirtual 182, 3) := by decide +kernel
theorem dX11_means_5 : decode cX11_means 5 = .ok (.ifCond .ne 21, 3) := by decide +kernel
theorem dX11_means_8 : decode cX11_means 8 = .ok (.iload_n 2, 1) := by decide +kernel
theorem dX11_means_9 : decode cX11_means 9 = .ok (.ifCond .lt 17, 3) := by decide +kernel
theorem dX11_means_12 : decode cX11_means 12 = .ok (.iload_n 2, 1) := by decide +kernel
theorem dX11_means_13 : decode cX11_means 13 = .ok (.aload_n 0, 1) := by decide +kernel
theorem dX11_means_14 : decode cX11_means 14 = .ok (.getfield 19, 3) := by decide +kernel
theorem dX11_means_17 : decode cX11_means 17 = .ok (.getfield 117, 3) := by decide +kernel
theorem dX11_means_20 : decode cX11_means 20 = .ok (.getfield 131, 3) := by decide +kernel
theorem dX11_means_23 : decode cX11_means 23 = .ok (.if_icmp .lt 5, 3) := by decide +kernel
theorem dX11_means_26 : decode cX11_means 26 = .ok (.iconst (-1), 1) := by decide +kernel
theorem dX11_means_27 : decode cX11_means 27 = .ok (.ireturn, 1) := by decide +kernel
theorem dX11_means_28 : decode cX11_means 28 = .ok (.aload_n 0, 1) := by decide +kernel
theorem dX11_means_29 : decode cX11_means 29 = .ok (.aload_n 0, 1) := by decide +kernel
theorem dX11_means_30 : decode cX11_means 30 = .ok (.getfield 19, 3) := by decide +kernel
theorem dX11_means_33 : decode cX11_means 33 = .ok (.getfield 117, 3) := by decide +kernel
theorem dX11_means_36 : decode cX11_means 36 = .ok (.iload_n 1, 1) := by decide +kernel
theorem dX11_means_37 : decode cX11_means 37 = .ok (.iconst 3, 1) := by decide +kernel
theorem dX11_means_38 : decode cX11_means 38 = .ok (.iload_n 2, 1) := by decide +kernel
theorem dX11_means_39 : decode cX11_means 39 = .ok (.invokevirtual 185, 3) := by decide +kernel
theorem dX11_means_42 : decode cX11_means 42 = .ok (.aload_n 0, 1) := by decide +kernel
theorem dX11_means_43 : decode cX11_means 43 = .ok (.getfield 67, 3) := by decide +kernel
theorem dX11_means_46 : decode cX11_means 46 = .ok (.invokevirtual 192, 3) := by decide +kernel
theorem dX11_means_49 : decode cX11_means 49 = .ok (.ifCond .eq 8, 3) := by decide +kernel
theorem dX11_means_52 : decode cX11_means 52 = .ok (.bipush (-3), 2) := by decide +kernel
theorem dX11_means_54 : decode cX11_means 54 = .ok (.goto 10, 3) := by decide +kernel
theorem dX11_means_57 : decode cX11_means 57 = .ok (.aload_n 0, 1) := by decide +kernel
theorem dX11_means_58 : decode cX11_means 58 = .ok (.getfield 67, 3) := by decide +kernel
theorem dX11_means_61 : decode cX11_means 61 = .ok (.getfield 233, 3) := by decide +kernel
theorem dX11_means_64 : decode cX11_means 64 = .ok (.ireturn, 1) := by decide +kernel
def w_X11_means (a1 : Int32) (a2 : Int32) (I : sI) (J : sJ) (post : Int32 → sI → sJ → Prop) : Prop :=
  w_X11_cannotRead a1 I J (fun (r_2 : Int32) (I_2 : sI) (J_2 : sJ) => (((¬ r_2 = 0 → post (-1) I_2 J_2) ∧ (r_2 = 0 → ((a2 < 0 → post (-1) I_2 J_2) ∧ (¬ a2 < 0 → ((a2 < (I_2 4 3) → w_X11_read 4 a1 3 a2 I_2 J_2 (fun (I_39 : sI) (J_39 : sJ) => (w_X5_tooMany I_39 J_39 (fun (r_46 : Int32) (I_46 : sI) (J_46 : sJ) => (((r_46 = 0 → post (I_46 220 4) I_46 J_46) ∧ (¬ r_46 = 0 → post (-3) I_46 J_46))))))) ∧ (¬ a2 < (I_2 4 3) → post (-1) I_2 J_2))))))))
set_option maxHeartbeats 4000000 in
set_option maxRecDepth 100000 in
theorem t_X11_means {X : sX} {a1 : Int32} {a2 : Int32} {I : sI} {J : sJ} {post : Int32 → sI → sJ → Prop} (h : sOK X cX11_means RX11 3 33 973) (hr : sRt X (some .int) (sPi post)) (hw : w_X11_means a1 a2 I J post) : sG X 3 0 [(0, .ref 0), (1, .int a1), (2, .int a2)] [] I J := by
  unfold w_X11_means at hw
  refine g_aload_n h rfl 0 rfl dX11_means_0 ?_
  refine g_iload_n h rfl 1 rfl dX11_means_1 ?_
  refine g_callV [.int a1] h (c_X11_cannotRead X hw) sPi_v mw_X11_cannotRead lk_X11_182 is_0 rfl rfl ⟨by decide, by decide⟩ (Nat.le_of_ble_eq_true rfl) dX11_means_2 (sPi_k (fun r_2 I_2 J_2 hw => ?_))
  refine g_if_ne (tgt := 26) h (by decide) dX11_means_5 (fun q5 => ?_) (fun q5 => ?_)
  · replace hw := hw.1 q5
    refine g_iconst (v := (-1)) h (by decide) dX11_means_26 ?_
    exact g_iret h hr dX11_means_27 hw
  · replace hw := hw.2 q5
    refine g_iload_n h rfl 2 rfl dX11_means_8 ?_
    refine g_if_lt (tgt := 26) h (by decide) dX11_means_9 (fun q9 => ?_) (fun q9 => ?_)
    · replace hw := hw.1 q9
      refine g_iconst (v := (-1)) h (by decide) dX11_means_26 ?_
      exact g_iret h hr dX11_means_27 hw
    · replace hw := hw.2 q9
      refine g_iload_n h rfl 2 rfl dX11_means_12 ?_
      refine g_aload_n h rfl 0 rfl dX11_means_13 ?_
      refine g_get h is_0 fl_X11_19 fr_0_1 dX11_means_14 ?_
      refine g_get h is_3 fl_X11_117 fr_3_0 dX11_means_17 ?_
      refine g_get h is_4 fl_X11_131 rfl dX11_means_20 ?_
      refine g_icmp_lt (tgt := 28) h (by decide) dX11_means_23 (fun q23 => ?_) (fun q23 => ?_)
      · replace hw := hw.1 q23
        refine g_aload_n h rfl 0 rfl dX11_means_28 ?_
        refine g_aload_n h rfl 0 rfl dX11_means_29 ?_
        refine g_get h is_0 fl_X11_19 fr_0_1 dX11_means_30 ?_
        refine g_get h is_3 fl_X11_117 fr_3_0 dX11_means_33 ?_
        refine g_iload_n h rfl 1 rfl dX11_means_36 ?_
        refine g_iconst (v := 3) h (by decide) dX11_means_37 ?_
        refine g_iload_n h rfl 2 rfl dX11_means_38 ?_
        refine g_callV [.ref 4, .int a1, .int 3, .int a2] h (c_X11_read X is_4 hw) sPv_v mw_X11_read lk_X11_185 is_0 rfl rfl ⟨by decide, by decide⟩ (Nat.le_of_ble_eq_true rfl) dX11_means_39 (sPv_k (fun I_39 J_39 hw => ?_))
        refine g_aload_n h rfl 0 rfl dX11_means_42 ?_
        refine g_get h is_0 fl_X11_67 fr_0_9 dX11_means_43 ?_
        refine g_callV [] h (c_X5_tooMany X hw) sPi_v mw_X5_tooMany lk_X11_192 is_220 rfl rfl ⟨by decide, by decide⟩ (Nat.le_of_ble_eq_true rfl) dX11_means_46 (sPi_k (fun r_46 I_46 J_46 hw => ?_))
        refine g_if_eq (tgt := 57) h (by decide) dX11_means_49 (fun q49 => ?_) (fun q49 => ?_)
        · replace hw := hw.1 q49
          refine g_aload_n h rfl 0 rfl dX11_means_57 ?_
          refine g_get h is_0 fl_X11_67 fr_0_9 dX11_means_58 ?_
          refine g_get h is_220 fl_X11_233 rfl dX11_means_61 ?_
          exact g_iret h hr dX11_means_64 hw
        · replace hw := hw.2 q49
          refine g_bipush (v := (-3)) h (by decide) dX11_means_52 ?_
          refine g_goto (tgt := 64) h (by decide) dX11_means_54 ?_
          exact g_iret h hr dX11_means_64 hw
      · replace hw := hw.2 q23
        refine g_iconst (v := (-1)) h (by decide) dX11_means_26 ?_
        exact g_iret h hr dX11_means_27 hw
theorem c_X11_means (X : sX) {a1 : Int32} {a2 : Int32} {I : sI} {J : sJ} {post : Int32 → sI → sJ → Prop} (hw : w_X11_means a1 a2 I J post) : sCall X yX11_means cX11_means 3 (some .int) 33 973 [.ref 0, .int a1, .int a2] I J (sPi post) := sCall_of (by decide +kernel) (Nat.le_of_ble_eq_true rfl) (fun X h hr => t_X11_means h hr hw)
theorem dX11_tongues_0 : decode cX11_tongues 0 = .ok (.aload_n 0, 1) := by decide +kernel
theorem dX11_tongues_1 : decode cX11_tongues 1 = .ok (.getfield 19, 3) := by decide +kernel
theorem dX11_tongues_4 : decode cX11_tongues 4 = .ok (.getfield 117, 3) := by decide +kernel
theorem dX11_tongues_7 : decode cX11_tongues 7 = .ok (.getfield 131, 3) := by decide +kernel
theorem dX11_tongues_10 : decode cX11_tongues 10 = .ok (.ifCond .ne 5, 3) := by decide +kernel
theorem dX11_tongues_13 : decode cX11_tongues 13 = .ok (.iconst (-1), 1) := by decide +kernel
theorem dX11_tongues_14 : decode cX11_tongues 14 = .ok (.ireturn, 1) := by decide +kernel
theorem dX11_tongues_15 : decode cX11_tongues 15 = .ok (.aload_n 0, 1) := by decide +kernel
theorem dX11_tongues_16 : decode cX11_tongues 16 = .ok (.getfield 45, 3) := by decide +kernel
theorem dX11_tongues_19 : decode cX11_tongues 19 = .ok (.iconst 0, 1) := by decide +kernel
theorem dX11_tongues_20 : decode cX11_tongues 20 = .ok (.putfield 196, 3) := by decide +kernel
theorem dX11_tongues_23 : decode cX11_tongues 23 = .ok (.bipush (-2), 2) := by decide +kernel
theorem dX11_tongues_25 : decode cX11_tongues 25 = .ok (.istore_n 1, 1) := by decide +kernel
theorem dX11_tongues_26 : decode cX11_tongues 26 = .ok (.iconst 0, 1) := by decide +kernel
theorem dX11_tongues_27 : decode cX11_tongues 27 = .ok (.istore_n 2, 1) := by decide +kernel
theorem dX11_tongues_28 : decode cX11_tongues 28 = .ok (.iconst 0, 1) := by decide +kernel
theorem dX11_tongues_29 : decode cX11_tongues 29 = .ok (.istore_n 3, 1) := by decide +kernel
theorem dX11_tongues_30 : decode cX11_tongues 30 = .ok (.iload_n 3, 1) := by decide +kernel
theorem dX11_tongues_31 : decode cX11_tongues 31 = .ok (.iconst 4, 1) := by decide +kernel
theorem dX11_tongues_32 : decode cX11_tongues 32 = .ok (.if_icmp .ge 97, 3) := by decide +kernel
theorem dX11_tongues_35 : decode cX11_tongues 35 = .ok (.aload_n 0, 1) := by decide +kernel
theorem dX11_tongues_36 : decode cX11_tongues 36 = .ok (.getfield 33, 3) := by decide +kernel
theorem dX11_tongues_39 : decode cX11_tongues 39 = .ok (.iload_n 3, 1) := by decide +kernel
theorem dX11_tongues_40 : decode cX11_tongues 40 = .ok (.aaload, 1) := by decide +kernel
theorem dX11_tongues_41 : decode cX11_tongues 41 = .ok (.getfield 138, 3) := by decide +kernel
theorem dX11_tongues_44 : decode cX11_tongues 44 = .ok (.ifCond .ne 16, 3) := by decide +kernel
theorem dX11_tongues_47 : decode cX11_tongues 47 = .ok (.aload_n 0, 1) := by decide +kernel
theorem dX11_tongues_48 : decode cX11_tongues 48 = .ok (.getfield 45, 3) := by decide +kernel
theorem dX11_tongues_51 : decode cX11_tongues 51 = .ok (.ldc2_w 225, 3) := by decide +kernel
theorem dX11_tongues_54 : decode cX11_tongues 54 = .ok (.invokevirtual 227, 3) := by decide +kernel
theorem dX11_tongues_57 : decode cX11_tongues 57 = .ok (.goto 66, 3) := by decide +kernel
theorem dX11_tongues_60 : decode cX11_tongues 60 = .ok (.aload_n 0, 1) := by decide +kernel
theorem dX11_tongues_61 : decode cX11_tongues 61 = .ok (.aload_n 0, 1) := by decide +kernel
theorem dX11_tongues_62 : decode cX11_tongues 62 = .ok (.getfield 19, 3) := by decide +kernel
theorem dX11_tongues_65 : decode cX11_tongues 65 = .ok (.getfield 117, 3) := by decide +kernel
theorem dX11_tongues_68 : decode cX11_tongues 68 = .ok (.iload_n 3, 1) := by decide +kernel
theorem dX11_tongues_69 : decode cX11_tongues 69 = .ok (.iconst 0, 1) := by decide +kernel
theorem dX11_tongues_70 : decode cX11_tongues 70 = .ok (.iconst 0, 1) := by decide +kernel
theorem dX11_tongues_71 : decode cX11_tongues 71 = .ok (.invokevirtual 185, 3) := by decide +kernel
theorem dX11_tongues_74 : decode cX11_tongues 74 = .ok (.aload_n 0, 1) := by decide +kernel
theorem dX11_tongues_75 : decode cX11_tongues 75 = .ok (.getfield 67, 3) := by decide +kernel
theorem dX11_tongues_78 : decode cX11_tongues 78 = .ok (.invokevirtual 192, 3) := by decide +kernel
theorem dX11_tongues_81 : decode cX11_tongues 81 = .ok (.ifCond .eq 6, 3) := by decide +kernel
theorem dX11_tongues_84 : decode cX11_tongues 84 = .ok (.bipush (-3), 2) := by decide +kernel
theorem dX11_tongues_86 : decode cX11_tongues 86 = .ok (.ireturn, 1) := by decide +kernel
theorem dX11_tongues_87 : decode cX11_tongues 87 = .ok (.aload_n 0, 1) := by decide +kernel
theorem dX11_tongues_88 : decode cX11_tongues 88 = .ok (.getfield 45, 3) := by decide +kernel
theorem dX11_tongues_91 : decode cX11_tongues 91 = .ok (.aload_n 0, 1) := by decide +kernel
theorem dX11_tongues_92 : decode cX11_tongues 92 = .ok (.getfield 67, 3) := by decide +kernel
theorem dX11_tongues_95 : decode cX11_tongues 95 = .ok (.getfield 197, 3) := by decide +kernel
theorem dX11_tongues_98 : decode cX11_tongues 98 = .ok (.i2l, 1) := by decide +kernel
theorem dX11_tongues_99 : decode cX11_tongues 99 = .ok (.invokevirtual 227, 3) := by decide +kernel
theorem dX11_tongues_102 : decode cX11_tongues 102 = .ok (.aload_n 0, 1) := by decide +kernel
theorem dX11_tongues_103 : decode cX11_tongues 103 = .ok (.getfield 67, 3) := by decide +kernel
theorem dX11_tongues_106 : decode cX11_tongues 106 = .ok (.getfield 197, 3) := by decide +kernel
theorem dX11_tongues_109 : decode cX11_tongues 109 = .ok (.iload_n 2, 1) := by decide +kernel
theorem dX11_tongues_110 : decode cX11_tongues 110 = .ok (.if_icmp .le 13, 3) := by decide +kernel
theorem dX11_tongues_113 : decode cX11_tongues 113 = .ok (.aload_n 0, 1) := by decide +kernel
theorem dX11_tongues_114 : decode cX11_tongues 114 = .ok (.getfield 67, 3) := by decide +kernel
theorem dX11_tongues_117 : decode cX11_tongues 117 = .ok (.getfield 197, 3) := by decide +kernel
theorem dX11_tongues_120 : decode cX11_tongues 120 = .ok (.istore_n 2, 1) := by decide +kernel
theorem dX11_tongues_121 : decode cX11_tongues 121 = .ok (.iload_n 3, 1) := by decide +kernel
theorem dX11_tongues_122 : decode cX11_tongues 122 = .ok (.istore_n 1, 1) := by decide +kernel
theorem dX11_tongues_123 : decode cX11_tongues 123 = .ok (.iinc 3 1, 3) := by decide +kernel
theorem dX11_tongues_126 : decode cX11_tongues 126 = .ok (.goto (-96), 3) := by decide +kernel
theorem dX11_tongues_129 : decode cX11_tongues 129 = .ok (.aload_n 0, 1) := by decide +kernel
theorem dX11_tongues_130 : decode cX11_tongues 130 = .ok (.getfield 41, 3) := by decide +kernel
theorem dX11_tongues_133 : decode cX11_tongues 133 = .ok (.aload_n 0, 1) := by decide +kernel
theorem dX11_tongues_134 : decode cX11_tongues 134 = .ok (.getfield 45, 3) := by decide +kernel
theorem dX11_tongues_137 : decode cX11_tongues 137 = .ok (.invokevirtual 236, 3) := by decide +kernel
theorem dX11_tongues_140 : decode cX11_tongues 140 = .ok (.iload_n 1, 1) := by decide +kernel
theorem dX11_tongues_141 : decode cX11_tongues 141 = .ok (.ireturn, 1) := by decide +kernel
def w_X11_tongues_123 (post : Int32 → sI → sJ → Prop) (k30 : Int32 → Int32 → Int32 → sI → sJ → Prop) (x1 : Int32) (x2 : Int32) (x3 : Int32) (I : sI) (J : sJ) : Prop :=
  (∀ v3_123 : Int32, v3_123 = x3 + 1 → k30 x1 x2 v3_123 I J)
set_option maxHeartbeats 4000000 in
set_option maxRecDepth 100000 in
theorem t_X11_tongues_123 {X : sX} {post : Int32 → sI → sJ → Prop} (h : sOK X cX11_tongues RX11 4 33 973) (hr : sRt X (some .int) (sPi post)) {k30 : Int32 → Int32 → Int32 → sI → sJ → Prop} (hk30 : ∀ (x1 : Int32) (x2 : Int32) (x3 : Int32) (I : sI) (J : sJ), k30 x1 x2 x3 I J → sG X 4 30 [(0, .ref 0), (1, .int x1), (2, .int x2), (3, .int x3)] [] I J) {x1 : Int32} {x2 : Int32} {x3 : Int32} {I : sI} {J : sJ} (hw : w_X11_tongues_123 post k30 x1 x2 x3 I J) : sG X 4 123 [(0, .ref 0), (1, .int x1), (2, .int x2), (3, .int x3)] [] I J := by
  unfold w_X11_tongues_123 at hw
  obtain ⟨v3_123, ev3_123⟩ : ∃ z : Int32, z = x3 + 1 := ⟨_, rfl⟩
  replace hw := hw v3_123 ev3_123
  refine g_iinc (v := v3_123) (lo2 := [(3, .int v3_123), (0, .ref 0), (1, .int x1), (2, .int x2)]) h 3 rfl (by rw [ev3_123]; rfl) (by decide) rfl dX11_tongues_123 ?_
  refine g_goto (tgt := 30) h (by decide) dX11_tongues_126 ?_
  exact g_sub [1, 2, 3, 0] rfl (hk30 _ _ _ _ _ hw)
def w_X11_tongues_30_s (post : Int32 → sI → sJ → Prop) (k30 : Int32 → Int32 → Int32 → sI → sJ → Prop) (x1 : Int32) (x2 : Int32) (x3 : Int32) (I : sI) (J : sJ) : Prop :=
  ((4 ≤ x3 → w_X6_take 134 136 I J (fun (I_137 : sI) (J_137 : sJ) => (post x1 I_137 J_137))) ∧ (¬ 4 ≤ x3 → (vp_in x3 4 ∧ ((¬ (I (sR 41 (Int32.toNatClampNeg x3)) 2) = 0 → w_X11_read 4 x3 0 0 I J (fun (I_71 : sI) (J_71 : sJ) => (w_X5_tooMany I_71 J_71 (fun (r_78 : Int32) (I_78 : sI) (J_78 : sJ) => (((r_78 = 0 → w_X6_put 136 (Int32.toInt64 (I_78 220 2)) I_78 J_78 (fun (I_99 : sI) (J_99 : sJ) => ((((I_99 220 2) ≤ x2 → w_X11_tongues_123 post k30 x1 x2 x3 I_99 J_99) ∧ (¬ (I_99 220 2) ≤ x2 → (∀ v2_120 : Int32, v2_120 = I_99 220 2 → w_X11_tongues_123 post k30 x3 v2_120 x3 I_99 J_99)))))) ∧ (¬ r_78 = 0 → post (-3) I_78 J_78))))))) ∧ ((I (sR 41 (Int32.toNatClampNeg x3)) 2) = 0 → w_X6_put 136 (-1) I J (fun (I_54 : sI) (J_54 : sJ) => (w_X11_tongues_123 post k30 x1 x2 x3 I_54 J_54)))))))
def w_X11_tongues_30_n (post : Int32 → sI → sJ → Prop) : Nat → Int32 → Int32 → Int32 → sI → sJ → Prop
  | 0 => fun _ _ _ _ _ => False
  | n + 1 => fun x1 x2 x3 I J => w_X11_tongues_30_s post (w_X11_tongues_30_n post n) x1 x2 x3 I J
def w_X11_tongues_30 (post : Int32 → sI → sJ → Prop) (x1 : Int32) (x2 : Int32) (x3 : Int32) (I : sI) (J : sJ) : Prop := ∃ n, w_X11_tongues_30_n post n x1 x2 x3 I J
set_option maxHeartbeats 4000000 in
set_option maxRecDepth 100000 in
theorem t_X11_tongues_30_s {X : sX} {post : Int32 → sI → sJ → Prop} (h : sOK X cX11_tongues RX11 4 33 973) (hr : sRt X (some .int) (sPi post)) {k30 : Int32 → Int32 → Int32 → sI → sJ → Prop} (hk30 : ∀ (x1 : Int32) (x2 : Int32) (x3 : Int32) (I : sI) (J : sJ), k30 x1 x2 x3 I J → sG X 4 30 [(0, .ref 0), (1, .int x1), (2, .int x2), (3, .int x3)] [] I J) {x1 : Int32} {x2 : Int32} {x3 : Int32} {I : sI} {J : sJ} (hw : w_X11_tongues_30_s post k30 x1 x2 x3 I J) : sG X 4 30 [(0, .ref 0), (1, .int x1), (2, .int x2), (3, .int x3)] [] I J := by
  unfold w_X11_tongues_30_s at hw
  refine g_iload_n h rfl 3 rfl dX11_tongues_30 ?_
  refine g_iconst (v := 4) h (by decide) dX11_tongues_31 ?_
  refine g_icmp_ge (tgt := 129) h (by decide) dX11_tongues_32 (fun q32 => ?_) (fun q32 => ?_)
  · replace hw := hw.1 q32
    refine g_aload_n h rfl 0 rfl dX11_tongues_129 ?_
    refine g_get h is_0 fl_X11_41 fr_0_5 dX11_tongues_130 ?_
    refine g_aload_n h rfl 0 rfl dX11_tongues_133 ?_
    refine g_get h is_0 fl_X11_45 fr_0_6 dX11_tongues_134 ?_
    refine g_callV [.ref 136] h (c_X6_take X is_134 is_136 hw) sPv_v mw_X6_take lk_X11_236 is_134 rfl rfl ⟨by decide, by decide⟩ (Nat.le_of_ble_eq_true rfl) dX11_tongues_137 (sPv_k (fun I_137 J_137 hw => ?_))
    refine g_iload_n h rfl 1 rfl dX11_tongues_140 ?_
    exact g_iret h hr dX11_tongues_141 hw
  · replace hw := hw.2 q32
    refine g_aload_n h rfl 0 rfl dX11_tongues_35 ?_
    refine g_get h is_0 fl_X11_33 fr_0_4 dX11_tongues_36 ?_
    refine g_iload_n h rfl 3 rfl dX11_tongues_39 ?_
    obtain ⟨hi40, hw⟩ := hw
    refine g_aald (t := 1) h ar_41 (by decide) hi40 dX11_tongues_40 ?_
    refine g_get h (el_5_4 ar_41 hi40) fl_X11_138 rfl dX11_tongues_41 ?_
    refine g_if_ne (tgt := 60) h (by decide) dX11_tongues_44 (fun q44 => ?_) (fun q44 => ?_)
    · replace hw := hw.1 q44
      refine g_aload_n h rfl 0 rfl dX11_tongues_60 ?_
      refine g_aload_n h rfl 0 rfl dX11_tongues_61 ?_
      refine g_get h is_0 fl_X11_19 fr_0_1 dX11_tongues_62 ?_
      refine g_get h is_3 fl_X11_117 fr_3_0 dX11_tongues_65 ?_
      refine g_iload_n h rfl 3 rfl dX11_tongues_68 ?_
      refine g_iconst (v := 0) h (by decide) dX11_tongues_69 ?_
      refine g_iconst (v := 0) h (by decide) dX11_tongues_70 ?_
      refine g_callV [.ref 4, .int x3, .int 0, .int 0] h (c_X11_read X is_4 hw) sPv_v mw_X11_read lk_X11_185 is_0 rfl rfl ⟨by decide, by decide⟩ (Nat.le_of_ble_eq_true rfl) dX11_tongues_71 (sPv_k (fun I_71 J_71 hw => ?_))
      refine g_aload_n h rfl 0 rfl dX11_tongues_74 ?_
      refine g_get h is_0 fl_X11_67 fr_0_9 dX11_tongues_75 ?_
      refine g_callV [] h (c_X5_tooMany X hw) sPi_v mw_X5_tooMany lk_X11_192 is_220 rfl rfl ⟨by decide, by decide⟩ (Nat.le_of_ble_eq_true rfl) dX11_tongues_78 (sPi_k (fun r_78 I_78 J_78 hw => ?_))
      refine g_if_eq (tgt := 87) h (by decide) dX11_tongues_81 (fun q81 => ?_) (fun q81 => ?_)
      · replace hw := hw.1 q81
        refine g_aload_n h rfl 0 rfl dX11_tongues_87 ?_
        refine g_get h is_0 fl_X11_45 fr_0_6 dX11_tongues_88 ?_
        refine g_aload_n h rfl 0 rfl dX11_tongues_91 ?_
        refine g_get h is_0 fl_X11_67 fr_0_9 dX11_tongues_92 ?_
        refine g_get h is_220 fl_X11_197 rfl dX11_tongues_95 ?_
        refine g_i2l h dX11_tongues_98 ?_
        refine g_callV [.long (Int32.toInt64 (I_78 220 2))] h (c_X6_put X is_136 hw) sPv_v mw_X6_put lk_X11_227 is_136 rfl rfl ⟨by decide, by decide⟩ (Nat.le_of_ble_eq_true rfl) dX11_tongues_99 (sPv_k (fun I_99 J_99 hw => ?_))
        refine g_aload_n h rfl 0 rfl dX11_tongues_102 ?_
        refine g_get h is_0 fl_X11_67 fr_0_9 dX11_tongues_103 ?_
        refine g_get h is_220 fl_X11_197 rfl dX11_tongues_106 ?_
        refine g_iload_n h rfl 2 rfl dX11_tongues_109 ?_
        refine g_icmp_le (tgt := 123) h (by decide) dX11_tongues_110 (fun q110 => ?_) (fun q110 => ?_)
        · replace hw := hw.1 q110
          exact g_sub [0, 1, 2, 3] rfl (t_X11_tongues_123 h hr hk30 hw)
        · replace hw := hw.2 q110
          refine g_aload_n h rfl 0 rfl dX11_tongues_113 ?_
          refine g_get h is_0 fl_X11_67 fr_0_9 dX11_tongues_114 ?_
          refine g_get h is_220 fl_X11_197 rfl dX11_tongues_117 ?_
          refine g_ni (fun v2_120 ev2_120 => ?_)
          replace hw := hw v2_120 ev2_120
          refine g_istore_n (lo2 := [(2, .int v2_120), (0, .ref 0), (1, .int x1), (3, .int x3)]) h rfl (by decide) rfl dX11_tongues_120 ?_
          refine g_iload_n h rfl 3 rfl dX11_tongues_121 ?_
          refine g_istore_n (lo2 := [(1, .int x3), (2, .int v2_120), (0, .ref 0), (3, .int x3)]) h rfl (by decide) rfl dX11_tongues_122 ?_
          exact g_sub [2, 0, 1, 3] rfl (t_X11_tongues_123 h hr hk30 hw)
      · replace hw := hw.2 q81
        refine g_bipush (v := (-3)) h (by decide) dX11_tongues_84 ?_
        exact g_iret h hr dX11_tongues_86 hw
    · replace hw := hw.2 q44
      refine g_aload_n h rfl 0 rfl dX11_tongues_47 ?_
      refine g_get h is_0 fl_X11_45 fr_0_6 dX11_tongues_48 ?_
      refine g_ldc2 h lc_X11_225 dX11_tongues_51 ?_
      refine g_callV [.long (-1)] h (c_X6_put X is_136 hw) sPv_v mw_X6_put lk_X11_227 is_136 rfl rfl ⟨by decide, by decide⟩ (Nat.le_of_ble_eq_true rfl) dX11_tongues_54 (sPv_k (fun I_54 J_54 hw => ?_))
      refine g_goto (tgt := 123) h (by decide) dX11_tongues_57 ?_
      exact g_sub [0, 1, 2, 3] rfl (t_X11_tongues_123 h hr hk30 hw)
theorem t_X11_tongues_30 {X : sX} {post : Int32 → sI → sJ → Prop} (h : sOK X cX11_tongues RX11 4 33 973) (hr : sRt X (some .int) (sPi post)) {x1 : Int32} {x2 : Int32} {x3 : Int32} {I : sI} {J : sJ} (hw : w_X11_tongues_30 post x1 x2 x3 I J) : sG X 4 30 [(0, .ref 0), (1, .int x1), (2, .int x2), (3, .int x3)] [] I J := by
  obtain ⟨n, hw⟩ := hw
  induction n generalizing x1 x2 x3 I J with
  | zero => exact hw.elim
  | succ n ih => exact t_X11_tongues_30_s h hr (fun _ _ _ _ _ q => ih q) hw
def w_X11_tongues (I : sI) (J : sJ) (post : Int32 → sI → sJ → Prop) : Prop :=
  ((¬ (I 4 3) = 0 → (∀ I_20 : sI, I_20 = sUI I 136 1 0 → w_X11_tongues_30 post (-2) 0 0 I_20 J)) ∧ ((I 4 3) = 0 → post (-1) I J))
set_option maxHeartbeats 4000000 in
set_option maxRecDepth 100000 in
theorem t_X11_tongues {X : sX} {I : sI} {J : sJ} {post : Int32 → sI → sJ → Prop} (h : sOK X cX11_tongues RX11 4 33 973) (hr : sRt X (some .int) (sPi post)) (hw : w_X11_tongues I J post) : sG X 4 0 [(0, .ref 0)] [] I J := by
  unfold w_X11_tongues at hw
  refine g_aload_n h rfl 0 rfl dX11_tongues_0 ?_
  refine g_get h is_0 fl_X11_19 fr_0_1 dX11_tongues_1 ?_
  refine g_get h is_3 fl_X11_117 fr_3_0 dX11_tongues_4 ?_
  refine g_get h is_4 fl_X11_131 rfl dX11_tongues_7 ?_
  refine g_if_ne (tgt := 15) h (by decide) dX11_tongues_10 (fun q10 => ?_) (fun q10 => ?_)
  · replace hw := hw.1 q10
    refine g_aload_n h rfl 0 rfl dX11_tongues_15 ?_
    refine g_get h is_0 fl_X11_45 fr_0_6 dX11_tongues_16 ?_
    refine g_iconst (v := 0) h (by decide) dX11_tongues_19 ?_
    refine g_putI h is_136 fl_X11_196 rfl rfl dX11_tongues_20 ?_
    refine g_nI (fun I_20 eI_20 => ?_)
    replace hw := hw I_20 eI_20
    refine g_bipush (v := (-2)) h (by decide) dX11_tongues_23 ?_
    refine g_istore_n (lo2 := [(1, .int (-2)), (0, .ref 0)]) h rfl (by decide) rfl dX11_tongues_25 ?_
    refine g_iconst (v := 0) h (by decide) dX11_tongues_26 ?_
    refine g_istore_n (lo2 := [(2, .int 0), (1, .int (-2)), (0, .ref 0)]) h rfl (by decide) rfl dX11_tongues_27 ?_
    refine g_iconst (v := 0) h (by decide) dX11_tongues_28 ?_
    refine g_istore_n (lo2 := [(3, .int 0), (2, .int 0), (1, .int (-2)), (0, .ref 0)]) h rfl (by decide) rfl dX11_tongues_29 ?_
    exact g_sub [3, 2, 1, 0] rfl (t_X11_tongues_30 h hr hw)
  · replace hw := hw.2 q10
    refine g_iconst (v := (-1)) h (by decide) dX11_tongues_13 ?_
    exact g_iret h hr dX11_tongues_14 hw
theorem c_X11_tongues (X : sX) {I : sI} {J : sJ} {post : Int32 → sI → sJ → Prop} (hw : w_X11_tongues I J post) : sCall X yX11_tongues cX11_tongues 4 (some .int) 33 973 [.ref 0] I J (sPi post) := sCall_of (by decide +kernel) (Nat.le_of_ble_eq_true rfl) (fun X h hr => t_X11_tongues h hr hw)
theorem dX11_lax_0 : decode cX11_lax 0 = .ok (.aload_n 0, 1) := by decide +kernel
theorem dX11_lax_1 : decode cX11_lax 1 = .ok (.iload_n 1, 1) := by decide +kernel
theorem dX11_lax_2 : decode cX11_lax 2 = .ok (.invokevirtual 182, 3) := by decide +kernel
theorem dX11_lax_5 : decode cX11_lax 5 = .ok (.ifCond .eq 5, 3) := by decide +kernel
theorem dX11_lax_8 : decode cX11_lax 8 = .ok (.iconst (-1), 1) := by decide +kernel
theorem dX11_lax_9 : decode cX11_lax 9 = .ok (.ireturn, 1) := by decide +kernel
theorem dX11_lax_10 : decode cX11_lax 10 = .ok (.iconst 1, 1) := by decide +kernel
theorem dX11_lax_11 : decode cX11_lax 11 = .ok (.istore_n 2, 1) := by decide +kernel
theorem dX11_lax_12 : decode cX11_lax 12 = .ok (.iload_n 2, 1) := by decide +kernel
theorem dX11_lax_13 : decode cX11_lax 13 = .ok (.iconst 5, 1) := by decide +kernel
theorem dX11_lax_14 : decode cX11_lax 14 = .ok (.if_icmp .gt 138, 3) := by decide +kernel
theorem dX11_lax_17 : decode cX11_lax 17 = .ok (.iconst 0, 1) := by decide +kernel
theorem dX11_lax_18 : decode cX11_lax 18 = .ok (.istore_n 3, 1) := by decide +kernel
theorem dX11_lax_19 : decode cX11_lax 19 = .ok (.iload_n 3, 1) := by decide +kernel
theorem dX11_lax_20 : decode cX11_lax 20 = .ok (.iconst 2, 1) := by decide +kernel
theorem dX11_lax_21 : decode cX11_lax 21 = .ok (.if_icmp .gt 125, 3) := by decide +kernel
theorem dX11_lax_24 : decode cX11_lax 24 = .ok (.iload_n 2, 1) := by decide +kernel
theorem dX11_lax_25 : decode cX11_lax 25 = .ok (.iload_n 3, 1) := by decide +kernel
theorem dX11_lax_26 : decode cX11_lax 26 = .ok (.isub, 1) := by decide +kernel
theorem dX11_lax_27 : decode cX11_lax 27 = .ok (.istore 4, 2) := by decide +kernel
theorem dX11_lax_29 : decode cX11_lax 29 = .ok (.iload 4, 2) := by decide +kernel
theorem dX11_lax_31 : decode cX11_lax 31 = .ok (.iconst 1, 1) := by decide +kernel
theorem dX11_lax_32 : decode cX11_lax 32 = .ok (.if_icmp .lt 108, 3) := by decide +kernel
theorem dX11_lax_35 : decode cX11_lax 35 = .ok (.iload 4, 2) := by decide +kernel
theorem dX11_lax_37 : decode cX11_lax 37 = .ok (.iconst 3, 1) := by decide +kernel
theorem dX11_lax_38 : decode cX11_lax 38 = .ok (.if_icmp .le 6, 3) := by decide +kernel
theorem dX11_lax_41 : decode cX11_lax 41 = .ok (.goto 99, 3) := by decide +kernel
theorem dX11_lax_44 : decode cX11_lax 44 = .ok (.aload_n 0, 1) := by decide +kernel
theorem dX11_lax_45 : decode cX11_lax 45 = .ok (.getfield 58, 3) := by decide +kernel
theorem dX11_lax_48 : decode cX11_lax 48 = .ok (.iload 4, 2) := by decide +kernel
theorem dX11_lax_50 : decode cX11_lax 50 = .ok (.iload_n 3, 1) := by decide +kernel
theorem dX11_lax_51 : decode cX11_lax 51 = .ok (.aload_n 0, 1) := by decide +kernel
theorem dX11_lax_52 : decode cX11_lax 52 = .ok (.getfield 19, 3) := by decide +kernel
theorem dX11_lax_55 : decode cX11_lax 55 = .ok (.getfield 166, 3) := by decide +kernel
theorem dX11_lax_58 : decode cX11_lax 58 = .ok (.invokevirtual 240, 3) := by decide +kernel
theorem dX11_lax_61 : decode cX11_lax 61 = .ok (.aload_n 0, 1) := by decide +kernel
theorem dX11_lax_62 : decode cX11_lax 62 = .ok (.getfield 58, 3) := by decide +kernel
theorem dX11_lax_65 : decode cX11_lax 65 = .ok (.aload_n 0, 1) := by decide +kernel
theorem dX11_lax_66 : decode cX11_lax 66 = .ok (.getfield 19, 3) := by decide +kernel
theorem dX11_lax_69 : decode cX11_lax 69 = .ok (.getfield 117, 3) := by decide +kernel
theorem dX11_lax_72 : decode cX11_lax 72 = .ok (.aload_n 0, 1) := by decide +kernel
theorem dX11_lax_73 : decode cX11_lax 73 = .ok (.getfield 33, 3) := by decide +kernel
theorem dX11_lax_76 : decode cX11_lax 76 = .ok (.iload_n 1, 1) := by decide +kernel
theorem dX11_lax_77 : decode cX11_lax 77 = .ok (.aaload, 1) := by decide +kernel
theorem dX11_lax_78 : decode cX11_lax 78 = .ok (.invokevirtual 244, 3) := by decide +kernel
theorem dX11_lax_81 : decode cX11_lax 81 = .ok (.aload_n 0, 1) := by decide +kernel
theorem dX11_lax_82 : decode cX11_lax 82 = .ok (.getfield 67, 3) := by decide +kernel
theorem dX11_lax_85 : decode cX11_lax 85 = .ok (.aload_n 0, 1) := by decide +kernel
theorem dX11_lax_86 : decode cX11_lax 86 = .ok (.getfield 58, 3) := by decide +kernel
theorem dX11_lax_89 : decode cX11_lax 89 = .ok (.getfield 247, 3) := by decide +kernel
theorem dX11_lax_92 : decode cX11_lax 92 = .ok (.iconst 0, 1) := by decide +kernel
theorem dX11_lax_93 : decode cX11_lax 93 = .ok (.iconst 0, 1) := by decide +kernel
theorem dX11_lax_94 : decode cX11_lax 94 = .ok (.invokevirtual 248, 3) := by decide +kernel
theorem dX11_lax_97 : decode cX11_lax 97 = .ok (.aload_n 0, 1) := by decide +kernel
theorem dX11_lax_98 : decode cX11_lax 98 = .ok (.getfield 67, 3) := by decide +kernel
theorem dX11_lax_101 : decode cX11_lax 101 = .ok (.invokevirtual 192, 3) := by decide +kernel
theorem dX11_lax_104 : decode cX11_lax 104 = .ok (.ifCond .eq 6, 3) := by decide +kernel
theorem dX11_lax_107 : decode cX11_lax 107 = .ok (.bipush (-3), 2) := by decide +kernel
theorem dX11_lax_109 : decode cX11_lax 109 = .ok (.ireturn, 1) := by decide +kernel
theorem dX11_lax_110 : decode cX11_lax 110 = .ok (.aload_n 0, 1) := by decide +kernel
theorem dX11_lax_111 : decode cX11_lax 111 = .ok (.getfield 67, 3) := by decide +kernel
theorem dX11_lax_114 : decode cX11_lax 114 = .ok (.getfield 197, 3) := by decide +kernel
theorem dX11_lax_117 : decode cX11_lax 117 = .ok (.ifCond .le 23, 3) := by decide +kernel
theorem dX11_lax_120 : decode cX11_lax 120 = .ok (.aload_n 0, 1) := by decide +kernel
theorem dX11_lax_121 : decode cX11_lax 121 = .ok (.getfield 41, 3) := by decide +kernel
theorem dX11_lax_124 : decode cX11_lax 124 = .ok (.iload 4, 2) := by decide +kernel
theorem dX11_lax_126 : decode cX11_lax 126 = .ok (.i2l, 1) := by decide +kernel
theorem dX11_lax_127 : decode cX11_lax 127 = .ok (.iload_n 3, 1) := by decide +kernel
theorem dX11_lax_128 : decode cX11_lax 128 = .ok (.i2l, 1) := by decide +kernel
theorem dX11_lax_129 : decode cX11_lax 129 = .ok (.invokevirtual 252, 3) := by decide +kernel
theorem dX11_lax_132 : decode cX11_lax 132 = .ok (.aload_n 0, 1) := by decide +kernel
theorem dX11_lax_133 : decode cX11_lax 133 = .ok (.getfield 67, 3) := by decide +kernel
theorem dX11_lax_136 : decode cX11_lax 136 = .ok (.getfield 197, 3) := by decide +kernel
theorem dX11_lax_139 : decode cX11_lax 139 = .ok (.ireturn, 1) := by decide +kernel
theorem dX11_lax_140 : decode cX11_lax 140 = .ok (.iinc 3 1, 3) := by decide +kernel
theorem dX11_lax_143 : decode cX11_lax 143 = .ok (.goto (-124), 3) := by decide +kernel
theorem dX11_lax_146 : decode cX11_lax 146 = .ok (.iinc 2 1, 3) := by decide +kernel
theorem dX11_lax_149 : decode cX11_lax 149 = .ok (.goto (-137), 3) := by decide +kernel
theorem dX11_lax_152 : decode cX11_lax 152 = .ok (.bipush (-2), 2) := by decide +kernel
theorem dX11_lax_154 : decode cX11_lax 154 = .ok (.ireturn, 1) := by decide +kernel
def w_X11_lax_140 (post : Int32 → sI → sJ → Prop) (k12 : Int32 → Int32 → sI → sJ → Prop) (k19 : Int32 → Int32 → Int32 → sI → sJ → Prop) (x1 : Int32) (x2 : Int32) (x3 : Int32) (I : sI) (J : sJ) : Prop :=
  (∀ v3_140 : Int32, v3_140 = x3 + 1 → k19 x1 x2 v3_140 I J)
set_option maxHeartbeats 4000000 in
set_option maxRecDepth 100000 in
theorem t_X11_lax_140 {X : sX} {post : Int32 → sI → sJ → Prop} (h : sOK X cX11_lax RX11 5 32 949) (hr : sRt X (some .int) (sPi post)) {k12 : Int32 → Int32 → sI → sJ → Prop} (hk12 : ∀ (x1 : Int32) (x2 : Int32) (I : sI) (J : sJ), k12 x1 x2 I J → sG X 5 12 [(0, .ref 0), (1, .int x1), (2, .int x2)] [] I J) {k19 : Int32 → Int32 → Int32 → sI → sJ → Prop} (hk19 : ∀ (x1 : Int32) (x2 : Int32) (x3 : Int32) (I : sI) (J : sJ), k19 x1 x2 x3 I J → sG X 5 19 [(0, .ref 0), (1, .int x1), (2, .int x2), (3, .int x3)] [] I J) {x1 : Int32} {x2 : Int32} {x3 : Int32} {I : sI} {J : sJ} (hw : w_X11_lax_140 post k12 k19 x1 x2 x3 I J) : sG X 5 140 [(0, .ref 0), (1, .int x1), (2, .int x2), (3, .int x3)] [] I J := by
  unfold w_X11_lax_140 at hw
  obtain ⟨v3_140, ev3_140⟩ : ∃ z : Int32, z = x3 + 1 := ⟨_, rfl⟩
  replace hw := hw v3_140 ev3_140
  refine g_iinc (v := v3_140) (lo2 := [(3, .int v3_140), (0, .ref 0), (1, .int x1), (2, .int x2)]) h 3 rfl (by rw [ev3_140]; rfl) (by decide) rfl dX11_lax_140 ?_
  refine g_goto (tgt := 19) h (by decide) dX11_lax_143 ?_
  exact g_sub [1, 2, 3, 0] rfl (hk19 _ _ _ _ _ hw)
def w_X11_lax_19_s (post : Int32 → sI → sJ → Prop) (k12 : Int32 → Int32 → sI → sJ → Prop) (k19 : Int32 → Int32 → Int32 → sI → sJ → Prop) (x1 : Int32) (x2 : Int32) (x3 : Int32) (I : sI) (J : sJ) : Prop :=
  ((2 < x3 → (∀ v2_146 : Int32, v2_146 = x2 + 1 → k12 x1 v2_146 I J)) ∧ (¬ 2 < x3 → (∀ v4_27 : Int32, v4_27 = x2 - x3 → ((v4_27 < 1 → w_X11_lax_140 post k12 k19 x1 x2 x3 I J) ∧ (¬ v4_27 < 1 → ((v4_27 ≤ 3 → w_X10_open v4_27 x3 (I 3 5) I J (fun (I_58 : sI) (J_58 : sJ) => ((vp_in x1 4 ∧ w_X10_add 4 (sR 41 (Int32.toNatClampNeg x1)) I_58 J_58 (fun (I_78 : sI) (J_78 : sJ) => (w_X5_run (I_78 142 5) 0 0 I_78 J_78 (fun (I_94 : sI) (J_94 : sJ) => (w_X5_tooMany I_94 J_94 (fun (r_101 : Int32) (I_101 : sI) (J_101 : sJ) => (((r_101 = 0 → (((I_101 220 2) ≤ 0 → w_X11_lax_140 post k12 k19 x1 x2 x3 I_101 J_101) ∧ (¬ (I_101 220 2) ≤ 0 → w_X6_tell_ 134 (Int32.toInt64 v4_27) (Int32.toInt64 x3) I_101 J_101 (fun (I_129 : sI) (J_129 : sJ) => (post (I_129 220 2) I_129 J_129))))) ∧ (¬ r_101 = 0 → post (-3) I_101 J_101)))))))))))) ∧ (¬ v4_27 ≤ 3 → w_X11_lax_140 post k12 k19 x1 x2 x3 I J)))))))
def w_X11_lax_19_n (post : Int32 → sI → sJ → Prop) (k12 : Int32 → Int32 → sI → sJ → Prop) : Nat → Int32 → Int32 → Int32 → sI → sJ → Prop
  | 0 => fun _ _ _ _ _ => False
  | n + 1 => fun x1 x2 x3 I J => w_X11_lax_19_s post k12 (w_X11_lax_19_n post k12 n) x1 x2 x3 I J
def w_X11_lax_19 (post : Int32 → sI → sJ → Prop) (k12 : Int32 → Int32 → sI → sJ → Prop) (x1 : Int32) (x2 : Int32) (x3 : Int32) (I : sI) (J : sJ) : Prop := ∃ n, w_X11_lax_19_n post k12 n x1 x2 x3 I J
set_option maxHeartbeats 4000000 in
set_option maxRecDepth 100000 in
theorem t_X11_lax_19_s {X : sX} {post : Int32 → sI → sJ → Prop} (h : sOK X cX11_lax RX11 5 32 949) (hr : sRt X (some .int) (sPi post)) {k12 : Int32 → Int32 → sI → sJ → Prop} (hk12 : ∀ (x1 : Int32) (x2 : Int32) (I : sI) (J : sJ), k12 x1 x2 I J → sG X 5 12 [(0, .ref 0), (1, .int x1), (2, .int x2)] [] I J) {k19 : Int32 → Int32 → Int32 → sI → sJ → Prop} (hk19 : ∀ (x1 : Int32) (x2 : Int32) (x3 : Int32) (I : sI) (J : sJ), k19 x1 x2 x3 I J → sG X 5 19 [(0, .ref 0), (1, .int x1), (2, .int x2), (3, .int x3)] [] I J) {x1 : Int32} {x2 : Int32} {x3 : Int32} {I : sI} {J : sJ} (hw : w_X11_lax_19_s post k12 k19 x1 x2 x3 I J) : sG X 5 19 [(0, .ref 0), (1, .int x1), (2, .int x2), (3, .int x3)] [] I J := by
  unfold w_X11_lax_19_s at hw
  refine g_iload_n h rfl 3 rfl dX11_lax_19 ?_
  refine g_iconst (v := 2) h (by decide) dX11_lax_20 ?_
  refine g_icmp_gt (tgt := 146) h (by decide) dX11_lax_21 (fun q21 => ?_) (fun q21 => ?_)
  · replace hw := hw.1 q21
    obtain ⟨v2_146, ev2_146⟩ : ∃ z : Int32, z = x2 + 1 := ⟨_, rfl⟩
    replace hw := hw v2_146 ev2_146
    refine g_iinc (v := v2_146) (lo2 := [(2, .int v2_146), (0, .ref 0), (1, .int x1), (3, .int x3)]) h 2 rfl (by rw [ev2_146]; rfl) (by decide) rfl dX11_lax_146 ?_
    refine g_goto (tgt := 12) h (by decide) dX11_lax_149 ?_
    exact g_sub [1, 2, 0] rfl (hk12 _ _ _ _ hw)
  · replace hw := hw.2 q21
    refine g_iload_n h rfl 2 rfl dX11_lax_24 ?_
    refine g_iload_n h rfl 3 rfl dX11_lax_25 ?_
    refine g_isub h dX11_lax_26 ?_
    refine g_ni (fun v4_27 ev4_27 => ?_)
    replace hw := hw v4_27 ev4_27
    refine g_istore (lo2 := [(4, .int v4_27), (0, .ref 0), (1, .int x1), (2, .int x2), (3, .int x3)]) h (by decide) rfl dX11_lax_27 ?_
    refine g_iload h 0 rfl dX11_lax_29 ?_
    refine g_iconst (v := 1) h (by decide) dX11_lax_31 ?_
    refine g_icmp_lt (tgt := 140) h (by decide) dX11_lax_32 (fun q32 => ?_) (fun q32 => ?_)
    · replace hw := hw.1 q32
      exact g_sub [1, 2, 3, 4] rfl (t_X11_lax_140 h hr hk12 hk19 hw)
    · replace hw := hw.2 q32
      refine g_iload h 0 rfl dX11_lax_35 ?_
      refine g_iconst (v := 3) h (by decide) dX11_lax_37 ?_
      refine g_icmp_le (tgt := 44) h (by decide) dX11_lax_38 (fun q38 => ?_) (fun q38 => ?_)
      · replace hw := hw.1 q38
        refine g_aload_n h rfl 1 rfl dX11_lax_44 ?_
        refine g_get h is_0 fl_X11_58 fr_0_8 dX11_lax_45 ?_
        refine g_iload h 0 rfl dX11_lax_48 ?_
        refine g_iload_n h rfl 4 rfl dX11_lax_50 ?_
        refine g_aload_n h rfl 1 rfl dX11_lax_51 ?_
        refine g_get h is_0 fl_X11_19 fr_0_1 dX11_lax_52 ?_
        refine g_get h is_3 fl_X11_166 rfl dX11_lax_55 ?_
        refine g_callV [.int v4_27, .int x3, .int (I 3 5)] h (c_X10_open X hw) sPv_v mw_X10_open lk_X11_240 is_142 rfl rfl ⟨by decide, by decide⟩ (Nat.le_of_ble_eq_true rfl) dX11_lax_58 (sPv_k (fun I_58 J_58 hw => ?_))
        refine g_aload_n h rfl 1 rfl dX11_lax_61 ?_
        refine g_get h is_0 fl_X11_58 fr_0_8 dX11_lax_62 ?_
        refine g_aload_n h rfl 1 rfl dX11_lax_65 ?_
        refine g_get h is_0 fl_X11_19 fr_0_1 dX11_lax_66 ?_
        refine g_get h is_3 fl_X11_117 fr_3_0 dX11_lax_69 ?_
        refine g_aload_n h rfl 1 rfl dX11_lax_72 ?_
        refine g_get h is_0 fl_X11_33 fr_0_4 dX11_lax_73 ?_
        refine g_iload_n h rfl 2 rfl dX11_lax_76 ?_
        obtain ⟨hi77, hw⟩ := hw
        refine g_aald (t := 1) h ar_41 (by decide) hi77 dX11_lax_77 ?_
        refine g_callV [.ref 4, .ref (sR 41 (Int32.toNatClampNeg x1))] h (c_X10_add X is_4 (el_5_4 ar_41 hi77) hw) sPv_v mw_X10_add lk_X11_244 is_142 rfl rfl ⟨by decide, by decide⟩ (Nat.le_of_ble_eq_true rfl) dX11_lax_78 (sPv_k (fun I_78 J_78 hw => ?_))
        refine g_aload_n h rfl 1 rfl dX11_lax_81 ?_
        refine g_get h is_0 fl_X11_67 fr_0_9 dX11_lax_82 ?_
        refine g_aload_n h rfl 1 rfl dX11_lax_85 ?_
        refine g_get h is_0 fl_X11_58 fr_0_8 dX11_lax_86 ?_
        refine g_get h is_142 fl_X11_247 rfl dX11_lax_89 ?_
        refine g_iconst (v := 0) h (by decide) dX11_lax_92 ?_
        refine g_iconst (v := 0) h (by decide) dX11_lax_93 ?_
        refine g_callV [.int (I_78 142 5), .int 0, .int 0] h (c_X5_run X hw) sPv_v mw_X5_run lk_X11_248 is_220 rfl rfl ⟨by decide, by decide⟩ (Nat.le_of_ble_eq_true rfl) dX11_lax_94 (sPv_k (fun I_94 J_94 hw => ?_))
        refine g_aload_n h rfl 1 rfl dX11_lax_97 ?_
        refine g_get h is_0 fl_X11_67 fr_0_9 dX11_lax_98 ?_
        refine g_callV [] h (c_X5_tooMany X hw) sPi_v mw_X5_tooMany lk_X11_192 is_220 rfl rfl ⟨by decide, by decide⟩ (Nat.le_of_ble_eq_true rfl) dX11_lax_101 (sPi_k (fun r_101 I_101 J_101 hw => ?_))
        refine g_if_eq (tgt := 110) h (by decide) dX11_lax_104 (fun q104 => ?_) (fun q104 => ?_)
        · replace hw := hw.1 q104
          refine g_aload_n h rfl 1 rfl dX11_lax_110 ?_
          refine g_get h is_0 fl_X11_67 fr_0_9 dX11_lax_111 ?_
          refine g_get h is_220 fl_X11_197 rfl dX11_lax_114 ?_
          refine g_if_le (tgt := 140) h (by decide) dX11_lax_117 (fun q117 => ?_) (fun q117 => ?_)
          · replace hw := hw.1 q117
            exact g_sub [1, 2, 3, 4] rfl (t_X11_lax_140 h hr hk12 hk19 hw)
          · replace hw := hw.2 q117
            refine g_aload_n h rfl 1 rfl dX11_lax_120 ?_
            refine g_get h is_0 fl_X11_41 fr_0_5 dX11_lax_121 ?_
            refine g_iload h 0 rfl dX11_lax_124 ?_
            refine g_i2l h dX11_lax_126 ?_
            refine g_iload_n h rfl 4 rfl dX11_lax_127 ?_
            refine g_i2l h dX11_lax_128 ?_
            refine g_callV [.long (Int32.toInt64 v4_27), .long (Int32.toInt64 x3)] h (c_X6_tell_ X is_134 hw) sPv_v mw_X6_tell_ lk_X11_252 is_134 rfl rfl ⟨by decide, by decide⟩ (Nat.le_of_ble_eq_true rfl) dX11_lax_129 (sPv_k (fun I_129 J_129 hw => ?_))
            refine g_aload_n h rfl 1 rfl dX11_lax_132 ?_
            refine g_get h is_0 fl_X11_67 fr_0_9 dX11_lax_133 ?_
            refine g_get h is_220 fl_X11_197 rfl dX11_lax_136 ?_
            exact g_iret h hr dX11_lax_139 hw
        · replace hw := hw.2 q104
          refine g_bipush (v := (-3)) h (by decide) dX11_lax_107 ?_
          exact g_iret h hr dX11_lax_109 hw
      · replace hw := hw.2 q38
        refine g_goto (tgt := 140) h (by decide) dX11_lax_41 ?_
        exact g_sub [1, 2, 3, 4] rfl (t_X11_lax_140 h hr hk12 hk19 hw)
theorem t_X11_lax_19 {X : sX} {post : Int32 → sI → sJ → Prop} (h : sOK X cX11_lax RX11 5 32 949) (hr : sRt X (some .int) (sPi post)) {k12 : Int32 → Int32 → sI → sJ → Prop} (hk12 : ∀ (x1 : Int32) (x2 : Int32) (I : sI) (J : sJ), k12 x1 x2 I J → sG X 5 12 [(0, .ref 0), (1, .int x1), (2, .int x2)] [] I J) {x1 : Int32} {x2 : Int32} {x3 : Int32} {I : sI} {J : sJ} (hw : w_X11_lax_19 post k12 x1 x2 x3 I J) : sG X 5 19 [(0, .ref 0), (1, .int x1), (2, .int x2), (3, .int x3)] [] I J := by
  obtain ⟨n, hw⟩ := hw
  induction n generalizing x1 x2 x3 I J with
  | zero => exact hw.elim
  | succ n ih => exact t_X11_lax_19_s h hr hk12 (fun _ _ _ _ _ q => ih q) hw
def w_X11_lax_12_s (post : Int32 → sI → sJ → Prop) (k12 : Int32 → Int32 → sI → sJ → Prop) (x1 : Int32) (x2 : Int32) (I : sI) (J : sJ) : Prop :=
  ((5 < x2 → post (-2) I J) ∧ (¬ 5 < x2 → w_X11_lax_19 post k12 x1 x2 0 I J))
def w_X11_lax_12_n (post : Int32 → sI → sJ → Prop) : Nat → Int32 → Int32 → sI → sJ → Prop
  | 0 => fun _ _ _ _ => False
  | n + 1 => fun x1 x2 I J => w_X11_lax_12_s post (w_X11_lax_12_n post n) x1 x2 I J
def w_X11_lax_12 (post : Int32 → sI → sJ → Prop) (x1 : Int32) (x2 : Int32) (I : sI) (J : sJ) : Prop := ∃ n, w_X11_lax_12_n post n x1 x2 I J
set_option maxHeartbeats 4000000 in
set_option maxRecDepth 100000 in
theorem t_X11_lax_12_s {X : sX} {post : Int32 → sI → sJ → Prop} (h : sOK X cX11_lax RX11 5 32 949) (hr : sRt X (some .int) (sPi post)) {k12 : Int32 → Int32 → sI → sJ → Prop} (hk12 : ∀ (x1 : Int32) (x2 : Int32) (I : sI) (J : sJ), k12 x1 x2 I J → sG X 5 12 [(0, .ref 0), (1, .int x1), (2, .int x2)] [] I J) {x1 : Int32} {x2 : Int32} {I : sI} {J : sJ} (hw : w_X11_lax_12_s post k12 x1 x2 I J) : sG X 5 12 [(0, .ref 0), (1, .int x1), (2, .int x2)] [] I J := by
  unfold w_X11_lax_12_s at hw
  refine g_iload_n h rfl 2 rfl dX11_lax_12 ?_
  refine g_iconst (v := 5) h (by decide) dX11_lax_13 ?_
  refine g_icmp_gt (tgt := 152) h (by decide) dX11_lax_14 (fun q14 => ?_) (fun q14 => ?_)
  · replace hw := hw.1 q14
    refine g_bipush (v := (-2)) h (by decide) dX11_lax_152 ?_
    exact g_iret h hr dX11_lax_154 hw
  · replace hw := hw.2 q14
    refine g_iconst (v := 0) h (by decide) dX11_lax_17 ?_
    refine g_istore_n (lo2 := [(3, .int 0), (0, .ref 0), (1, .int x1), (2, .int x2)]) h rfl (by decide) rfl dX11_lax_18 ?_
    exact g_sub [1, 2, 3, 0] rfl (t_X11_lax_19 h hr hk12 hw)
theorem t_X11_lax_12 {X : sX} {post : Int32 → sI → sJ → Prop} (h : sOK X cX11_lax RX11 5 32 949) (hr : sRt X (some .int) (sPi post)) {x1 : Int32} {x2 : Int32} {I : sI} {J : sJ} (hw : w_X11_lax_12 post x1 x2 I J) : sG X 5 12 [(0, .ref 0), (1, .int x1), (2, .int x2)] [] I J := by
  obtain ⟨n, hw⟩ := hw
  induction n generalizing x1 x2 I J with
  | zero => exact hw.elim
  | succ n ih => exact t_X11_lax_12_s h hr (fun _ _ _ _ q => ih q) hw
def w_X11_lax (a1 : Int32) (I : sI) (J : sJ) (post : Int32 → sI → sJ → Prop) : Prop :=
  w_X11_cannotRead a1 I J (fun (r_2 : Int32) (I_2 : sI) (J_2 : sJ) => (((r_2 = 0 → w_X11_lax_12 post a1 1 I_2 J_2) ∧ (¬ r_2 = 0 → post (-1) I_2 J_2))))
set_option maxHeartbeats 4000000 in
set_option maxRecDepth 100000 in
theorem t_X11_lax {X : sX} {a1 : Int32} {I : sI} {J : sJ} {post : Int32 → sI → sJ → Prop} (h : sOK X cX11_lax RX11 5 32 949) (hr : sRt X (some .int) (sPi post)) (hw : w_X11_lax a1 I J post) : sG X 5 0 [(0, .ref 0), (1, .int a1)] [] I J := by
  unfold w_X11_lax at hw
  refine g_aload_n h rfl 0 rfl dX11_lax_0 ?_
  refine g_iload_n h rfl 1 rfl dX11_lax_1 ?_
  refine g_callV [.int a1] h (c_X11_cannotRead X hw) sPi_v mw_X11_cannotRead lk_X11_182 is_0 rfl rfl ⟨by decide, by decide⟩ (Nat.le_of_ble_eq_true rfl) dX11_lax_2 (sPi_k (fun r_2 I_2 J_2 hw => ?_))
  refine g_if_eq (tgt := 10) h (by decide) dX11_lax_5 (fun q5 => ?_) (fun q5 => ?_)
  · replace hw := hw.1 q5
    refine g_iconst (v := 1) h (by decide) dX11_lax_10 ?_
    refine g_istore_n (lo2 := [(2, .int 1), (0, .ref 0), (1, .int a1)]) h rfl (by decide) rfl dX11_lax_11 ?_
    exact g_sub [1, 2, 0] rfl (t_X11_lax_12 h hr hw)
  · replace hw := hw.2 q5
    refine g_iconst (v := (-1)) h (by decide) dX11_lax_8 ?_
    exact g_iret h hr dX11_lax_9 hw
theorem c_X11_lax (X : sX) {a1 : Int32} {I : sI} {J : sJ} {post : Int32 → sI → sJ → Prop} (hw : w_X11_lax a1 I J post) : sCall X yX11_lax cX11_lax 5 (some .int) 32 949 [.ref 0, .int a1] I J (sPi post) := sCall_of (by decide +kernel) (Nat.le_of_ble_eq_true rfl) (fun X h hr => t_X11_lax h hr hw)
theorem dX11_need_0 : decode cX11_need 0 = .ok (.aload_n 0, 1) := by decide +kernel
theorem dX11_need_1 : decode cX11_need 1 = .ok (.iload_n 1, 1) := by decide +kernel
theorem dX11_need_2 : decode cX11_need 2 = .ok (.invokevirtual 182, 3) := by decide +kernel
theorem dX11_need_5 : decode cX11_need 5 = .ok (.ifCond .eq 5, 3) := by decide +kernel
theorem dX11_need_8 : decode cX11_need 8 = .ok (.iconst (-1), 1) := by decide +kernel
theorem dX11_need_9 : decode cX11_need 9 = .ok (.ireturn, 1) := by decide +kernel
theorem dX11_need_10 : decode cX11_need 10 = .ok (.aload_n 0, 1) := by decide +kernel
theorem dX11_need_11 : decode cX11_need 11 = .ok (.getfield 58, 3) := by decide +kernel
theorem dX11_need_14 : decode cX11_need 14 = .ok (.aload_n 0, 1) := by decide +kernel
theorem dX11_need_15 : decode cX11_need 15 = .ok (.getfield 19, 3) := by decide +kernel
theorem dX11_need_18 : decode cX11_need 18 = .ok (.getfield 160, 3) := by decide +kernel
theorem dX11_need_21 : decode cX11_need 21 = .ok (.aload_n 0, 1) := by decide +kernel
theorem dX11_need_22 : decode cX11_need 22 = .ok (.getfield 19, 3) := by decide +kernel
theorem dX11_need_25 : decode cX11_need 25 = .ok (.getfield 163, 3) := by decide +kernel
theorem dX11_need_28 : decode cX11_need 28 = .ok (.aload_n 0, 1) := by decide +kernel
theorem dX11_need_29 : decode cX11_need 29 = .ok (.getfield 19, 3) := by decide +kernel
theorem dX11_need_32 : decode cX11_need 32 = .ok (.getfield 166, 3) := by decide +kernel
theorem dX11_need_35 : decode cX11_need 35 = .ok (.invokevirtual 240, 3) := by decide +kernel
theorem dX11_need_38 : decode cX11_need 38 = .ok (.aload_n 0, 1) := by decide +kernel
theorem dX11_need_39 : decode cX11_need 39 = .ok (.getfield 58, 3) := by decide +kernel
theorem dX11_need_42 : decode cX11_need 42 = .ok (.aload_n 0, 1) := by decide +kernel
theorem dX11_need_43 : decode cX11_need 43 = .ok (.getfield 19, 3) := by decide +kernel
theorem dX11_need_46 : decode cX11_need 46 = .ok (.getfield 117, 3) := by decide +kernel
theorem dX11_need_49 : decode cX11_need 49 = .ok (.aload_n 0, 1) := by decide +kernel
theorem dX11_need_50 : decode cX11_need 50 = .ok (.getfield 33, 3) := by decide +kernel
theorem dX11_need_53 : decode cX11_need 53 = .ok (.iload_n 1, 1) := by decide +kernel
theorem dX11_need_54 : decode cX11_need 54 = .ok (.aaload, 1) := by decide +kernel
theorem dX11_need_55 : decode cX11_need 55 = .ok (.invokevirtual 244, 3) := by decide +kernel
theorem dX11_need_58 : decode cX11_need 58 = .ok (.aload_n 0, 1) := by decide +kernel
theorem dX11_need_59 : decode cX11_need 59 = .ok (.getfield 45, 3) := by decide +kernel
theorem dX11_need_62 : decode cX11_need 62 = .ok (.iconst 0, 1) := by decide +kernel
theorem dX11_need_63 : decode cX11_need 63 = .ok (.putfield 196, 3) := by decide +kernel
theorem dX11_need_66 : decode cX11_need 66 = .ok (.iconst 1, 1) := by decide +kernel
theorem dX11_need_67 : decode cX11_need 67 = .ok (.istore_n 2, 1) := by decide +kernel
theorem dX11_need_68 : decode cX11_need 68 = .ok (.iload_n 2, 1) := by decide +kernel
theorem dX11_need_69 : decode cX11_need 69 = .ok (.aload_n 0, 1) := by decide +kernel
theorem dX11_need_70 : decode cX11_need 70 = .ok (.getfield 58, 3) := by decide +kernel
theorem dX11_need_73 : decode cX11_need 73 = .ok (.getfield 247, 3) := by decide +kernel
theorem dX11_need_76 : decode cX11_need 76 = .ok (.if_icmp .gt 71, 3) := by decide +kernel
theorem dX11_need_79 : decode cX11_need 79 = .ok (.aload_n 0, 1) := by decide +kernel
theorem dX11_need_80 : decode cX11_need 80 = .ok (.getfield 67, 3) := by decide +kernel
theorem dX11_need_83 : decode cX11_need 83 = .ok (.iload_n 2, 1) := by decide +kernel
theorem dX11_need_84 : decode cX11_need 84 = .ok (.iconst 0, 1) := by decide +kernel
theorem dX11_need_85 : decode cX11_need 85 = .ok (.iconst 0, 1) := by decide +kernel
theorem dX11_need_86 : decode cX11_need 86 = .ok (.invokevirtual 248, 3) := by decide +kernel
theorem dX11_need_89 : decode cX11_need 89 = .ok (.aload_n 0, 1) := by decide +kernel
theorem dX11_need_90 : decode cX11_need 90 = .ok (.getfield 67, 3) := by decide +kernel
theorem dX11_need_93 : decode cX11_need 93 = .ok (.invokevirtual 192, 3) := by decide +kernel
theorem dX11_need_96 : decode cX11_need 96 = .ok (.ifCond .eq 6, 3) := by decide +kernel
theorem dX11_need_99 : decode cX11_need 99 = .ok (.bipush (-3), 2) := by decide +kernel
theorem dX11_need_101 : decode cX11_need 101 = .ok (.ireturn, 1) := by decide +kernel
theorem dX11_need_102 : decode cX11_need 102 = .ok (.aload_n 0, 1) := by decide +kernel
theorem dX11_need_103 : decode cX11_need 103 = .ok (.getfield 45, 3) := by decide +kernel
theorem dX11_need_106 : decode cX11_need 106 = .ok (.aload_n 0, 1) := by decide +kernel
theorem dX11_need_107 : decode cX11_need 107 = .ok (.getfield 67, 3) := by decide +kernel
theorem dX11_need_110 : decode cX11_need 110 = .ok (.getfield 197, 3) := by decide +kernel
theorem dX11_need_113 : decode cX11_need 113 = .ok (.i2l, 1) := by decide +kernel
theorem dX11_need_114 : decode cX11_need 114 = .ok (.invokevirtual 227, 3) := by decide +kernel
theorem dX11_need_117 : decode cX11_need 117 = .ok (.aload_n 0, 1) := by decide +kernel
theorem dX11_need_118 : decode cX11_need 118 = .ok (.getfield 67, 3) := by decide +kernel
theorem dX11_need_121 : decode cX11_need 121 = .ok (.getfield 197, 3) := by decide +kernel
theorem dX11_need_124 : decode cX11_need 124 = .ok (.iconst 1, 1) := by decide +kernel
theorem dX11_need_125 : decode cX11_need 125 = .ok (.if_icmp .gt 16, 3) := by decide +kernel
theorem dX11_need_128 : decode cX11_need 128 = .ok (.aload_n 0, 1) := by decide +kernel
theorem dX11_need_129 : decode cX11_need 129 = .ok (.getfield 41, 3) := by decide +kernel
theorem dX11_need_132 : decode cX11_need 132 = .ok (.aload_n 0, 1) := by decide +kernel
theorem dX11_need_133 : decode cX11_need 133 = .ok (.getfield 45, 3) := by decide +kernel
theorem dX11_need_136 : decode cX11_need 136 = .ok (.invokevirtual 236, 3) := by decide +kernel
theorem dX11_need_139 : decode cX11_need 139 = .ok (.iload_n 2, 1) := by decide +kernel
theorem dX11_need_140 : decode cX11_need 140 = .ok (.ireturn, 1) := by decide +kernel
theorem dX11_need_141 : decode cX11_need 141 = .ok (.iinc 2 1, 3) := by decide +kernel
theorem dX11_need_144 : decode cX11_need 144 = .ok (.goto (-76), 3) := by decide +kernel
theorem dX11_need_147 : decode cX11_need 147 = .ok (.bipush (-2), 2) := by decide +kernel
theorem dX11_need_149 : decode cX11_need 149 = .ok (.ireturn, 1) := by decide +kernel
def w_X11_need_68_s (post : Int32 → sI → sJ → Prop) (k68 : Int32 → sI → sJ → Prop) (x2 : Int32) (I : sI) (J : sJ) : Prop :=
  (((I 142 5) < x2 → post (-2) I J) ∧ (¬ (I 142 5) < x2 → w_X5_run x2 0 0 I J (fun (I_86 : sI) (J_86 : sJ) => (w_X5_tooMany I_86 J_86 (fun (r_93 : Int32) (I_93 : sI) (J_93 : sJ) => (((r_93 = 0 → w_X6_put 136 (Int32.toInt64 (I_93 220 2)) I_93 J_93 (fun (I_114 : sI) (J_114 : sJ) => (((1 < (I_114 220 2) → (∀ v2_141 : Int32, v2_141 = x2 + 1 → k68 v2_141 I_114 J_114)) ∧ (¬ 1 < (I_114 220 2) → w_X6_take 134 136 I_114 J_114 (fun (I_136 : sI) (J_136 : sJ) => (post x2 I_136 J_136))))))) ∧ (¬ r_93 = 0 → post (-3) I_93 J_93))))))))
def w_X11_need_68_n (post : Int32 → sI → sJ → Prop) : Nat → Int32 → sI → sJ → Prop
  | 0 => fun _ _ _ => False
  | n + 1 => fun x2 I J => w_X11_need_68_s post (w_X11_need_68_n post n) x2 I J
def w_X11_need_68 (post : Int32 → sI → sJ → Prop) (x2 : Int32) (I : sI) (J : sJ) : Prop := ∃ n, w_X11_need_68_n post n x2 I J
set_option maxHeartbeats 4000000 in
set_option maxRecDepth 100000 in
theorem t_X11_need_68_s {X : sX} {post : Int32 → sI → sJ → Prop} (h : sOK X cX11_need RX11 3 32 949) (hr : sRt X (some .int) (sPi post)) {k68 : Int32 → sI → sJ → Prop} (hk68 : ∀ (x2 : Int32) (I : sI) (J : sJ), k68 x2 I J → sG X 3 68 [(0, .ref 0), (2, .int x2)] [] I J) {x2 : Int32} {I : sI} {J : sJ} (hw : w_X11_need_68_s post k68 x2 I J) : sG X 3 68 [(0, .ref 0), (2, .int x2)] [] I J := by
  unfold w_X11_need_68_s at hw
  refine g_iload_n h rfl 1 rfl dX11_need_68 ?_
  refine g_aload_n h rfl 0 rfl dX11_need_69 ?_
  refine g_get h is_0 fl_X11_58 fr_0_8 dX11_need_70 ?_
  refine g_get h is_142 fl_X11_247 rfl dX11_need_73 ?_
  refine g_icmp_gt (tgt := 147) h (by decide) dX11_need_76 (fun q76 => ?_) (fun q76 => ?_)
  · replace hw := hw.1 q76
    refine g_bipush (v := (-2)) h (by decide) dX11_need_147 ?_
    exact g_iret h hr dX11_need_149 hw
  · replace hw := hw.2 q76
    refine g_aload_n h rfl 0 rfl dX11_need_79 ?_
    refine g_get h is_0 fl_X11_67 fr_0_9 dX11_need_80 ?_
    refine g_iload_n h rfl 1 rfl dX11_need_83 ?_
    refine g_iconst (v := 0) h (by decide) dX11_need_84 ?_
    refine g_iconst (v := 0) h (by decide) dX11_need_85 ?_
    refine g_callV [.int x2, .int 0, .int 0] h (c_X5_run X hw) sPv_v mw_X5_run lk_X11_248 is_220 rfl rfl ⟨by decide, by decide⟩ (Nat.le_of_ble_eq_true rfl) dX11_need_86 (sPv_k (fun I_86 J_86 hw => ?_))
    refine g_aload_n h rfl 0 rfl dX11_need_89 ?_
    refine g_get h is_0 fl_X11_67 fr_0_9 dX11_need_90 ?_
    refine g_callV [] h (c_X5_tooMany X hw) sPi_v mw_X5_tooMany lk_X11_192 is_220 rfl rfl ⟨by decide, by decide⟩ (Nat.le_of_ble_eq_true rfl) dX11_need_93 (sPi_k (fun r_93 I_93 J_93 hw => ?_))
    refine g_if_eq (tgt := 102) h (by decide) dX11_need_96 (fun q96 => ?_) (fun q96 => ?_)
    · replace hw := hw.1 q96
      refine g_aload_n h rfl 0 rfl dX11_need_102 ?_
      refine g_get h is_0 fl_X11_45 fr_0_6 dX11_need_103 ?_
      refine g_aload_n h rfl 0 rfl dX11_need_106 ?_
      refine g_get h is_0 fl_X11_67 fr_0_9 dX11_need_107 ?_
      refine g_get h is_220 fl_X11_197 rfl dX11_need_110 ?_
      refine g_i2l h dX11_need_113 ?_
      refine g_callV [.long (Int32.toInt64 (I_93 220 2))] h (c_X6_put X is_136 hw) sPv_v mw_X6_put lk_X11_227 is_136 rfl rfl ⟨by decide, by decide⟩ (Nat.le_of_ble_eq_true rfl) dX11_need_114 (sPv_k (fun I_114 J_114 hw => ?_))
      refine g_aload_n h rfl 0 rfl dX11_need_117 ?_
      refine g_get h is_0 fl_X11_67 fr_0_9 dX11_need_118 ?_
      refine g_get h is_220 fl_X11_197 rfl dX11_need_121 ?_
      refine g_iconst (v := 1) h (by decide) dX11_need_124 ?_
      refine g_icmp_gt (tgt := 141) h (by decide) dX11_need_125 (fun q125 => ?_) (fun q125 => ?_)
      · replace hw := hw.1 q125
        obtain ⟨v2_141, ev2_141⟩ : ∃ z : Int32, z = x2 + 1 := ⟨_, rfl⟩
        replace hw := hw v2_141 ev2_141
        refine g_iinc (v := v2_141) (lo2 := [(2, .int v2_141), (0, .ref 0)]) h 1 rfl (by rw [ev2_141]; rfl) (by decide) rfl dX11_need_141 ?_
        refine g_goto (tgt := 68) h (by decide) dX11_need_144 ?_
        exact g_sub [1, 0] rfl (hk68 _ _ _ hw)
      · replace hw := hw.2 q125
        refine g_aload_n h rfl 0 rfl dX11_need_128 ?_
        refine g_get h is_0 fl_X11_41 fr_0_5 dX11_need_129 ?_
        refine g_aload_n h rfl 0 rfl dX11_need_132 ?_
        refine g_get h is_0 fl_X11_45 fr_0_6 dX11_need_133 ?_
        refine g_callV [.ref 136] h (c_X6_take X is_134 is_136 hw) sPv_v mw_X6_take lk_X11_236 is_134 rfl rfl ⟨by decide, by decide⟩ (Nat.le_of_ble_eq_true rfl) dX11_need_136 (sPv_k (fun I_136 J_136 hw => ?_))
        refine g_iload_n h rfl 1 rfl dX11_need_139 ?_
        exact g_iret h hr dX11_need_140 hw
    · replace hw := hw.2 q96
      refine g_bipush (v := (-3)) h (by decide) dX11_need_99 ?_
      exact g_iret h hr dX11_need_101 hw
theorem t_X11_need_68 {X : sX} {post : Int32 → sI → sJ → Prop} (h : sOK X cX11_need RX11 3 32 949) (hr : sRt X (some .int) (sPi post)) {x2 : Int32} {I : sI} {J : sJ} (hw : w_X11_need_68 post x2 I J) : sG X 3 68 [(0, .ref 0), (2, .int x2)] [] I J := by
  obtain ⟨n, hw⟩ := hw
  induction n generalizing x2 I J with
  | zero => exact hw.elim
  | succ n ih => exact t_X11_need_68_s h hr (fun _ _ _ q => ih q) hw
def w_X11_need (a1 : Int32) (I : sI) (J : sJ) (post : Int32 → sI → sJ → Prop) : Prop :=
  w_X11_cannotRead a1 I J (fun (r_2 : Int32) (I_2 : sI) (J_2 : sJ) => (((r_2 = 0 → w_X10_open (I_2 3 3) (I_2 3 4) (I_2 3 5) I_2 J_2 (fun (I_35 : sI) (J_35 : sJ) => ((vp_in a1 4 ∧ w_X10_add 4 (sR 41 (Int32.toNatClampNeg a1)) I_35 J_35 (fun (I_55 : sI) (J_55 : sJ) => ((∀ I_63 : sI, I_63 = sUI I_55 136 1 0 → w_X11_need_68 post 1 I_63 J_55))))))) ∧ (¬ r_2 = 0 → post (-1) I_2 J_2))))
set_option maxHeartbeats 4000000 in
set_option maxRecDepth 100000 in
theorem t_X11_need {X : sX} {a1 : Int32} {I : sI} {J : sJ} {post : Int32 → sI → sJ → Prop} (h : sOK X cX11_need RX11 3 32 949) (hr : sRt X (some .int) (sPi post)) (hw : w_X11_need a1 I J post) : sG X 3 0 [(0, .ref 0), (1, .int a1)] [] I J := by
  unfold w_X11_need at hw
  refine g_aload_n h rfl 0 rfl dX11_need_0 ?_
  refine g_iload_n h rfl 1 rfl dX11_need_1 ?_
  refine g_callV [.int a1] h (c_X11_cannotRead X hw) sPi_v mw_X11_cannotRead lk_X11_182 is_0 rfl rfl ⟨by decide, by decide⟩ (Nat.le_of_ble_eq_true rfl) dX11_need_2 (sPi_k (fun r_2 I_2 J_2 hw => ?_))
  refine g_if_eq (tgt := 10) h (by decide) dX11_need_5 (fun q5 => ?_) (fun q5 => ?_)
  · replace hw := hw.1 q5
    refine g_aload_n h rfl 0 rfl dX11_need_10 ?_
    refine g_get h is_0 fl_X11_58 fr_0_8 dX11_need_11 ?_
    refine g_aload_n h rfl 0 rfl dX11_need_14 ?_
    refine g_get h is_0 fl_X11_19 fr_0_1 dX11_need_15 ?_
    refine g_get h is_3 fl_X11_160 rfl dX11_need_18 ?_
    refine g_aload_n h rfl 0 rfl dX11_need_21 ?_
    refine g_get h is_0 fl_X11_19 fr_0_1 dX11_need_22 ?_
    refine g_get h is_3 fl_X11_163 rfl dX11_need_25 ?_
    refine g_aload_n h rfl 0 rfl dX11_need_28 ?_
    refine g_get h is_0 fl_X11_19 fr_0_1 dX11_need_29 ?_
    refine g_get h is_3 fl_X11_166 rfl dX11_need_32 ?_
    refine g_callV [.int (I_2 3 3), .int (I_2 3 4), .int (I_2 3 5)] h (c_X10_open X hw) sPv_v mw_X10_open lk_X11_240 is_142 rfl rfl ⟨by decide, by decide⟩ (Nat.le_of_ble_eq_true rfl) dX11_need_35 (sPv_k (fun I_35 J_35 hw => ?_))
    refine g_aload_n h rfl 0 rfl dX11_need_38 ?_
    refine g_get h is_0 fl_X11_58 fr_0_8 dX11_need_39 ?_
    refine g_aload_n h rfl 0 rfl dX11_need_42 ?_
    refine g_get h is_0 fl_X11_19 fr_0_1 dX11_need_43 ?_
    refine g_get h is_3 fl_X11_117 fr_3_0 dX11_need_46 ?_
    refine g_aload_n h rfl 0 rfl dX11_need_49 ?_
    refine g_get h is_0 fl_X11_33 fr_0_4 dX11_need_50 ?_
    refine g_iload_n h rfl 1 rfl dX11_need_53 ?_
    obtain ⟨hi54, hw⟩ := hw
    refine g_aald (t := 1) h ar_41 (by decide) hi54 dX11_need_54 ?_
    refine g_callV [.ref 4, .ref (sR 41 (Int32.toNatClampNeg a1))] h (c_X10_add X is_4 (el_5_4 ar_41 hi54) hw) sPv_v mw_X10_add lk_X11_244 is_142 rfl rfl ⟨by decide, by decide⟩ (Nat.le_of_ble_eq_true rfl) dX11_need_55 (sPv_k (fun I_55 J_55 hw => ?_))
    refine g_aload_n h rfl 0 rfl dX11_need_58 ?_
    refine g_get h is_0 fl_X11_45 fr_0_6 dX11_need_59 ?_
    refine g_iconst (v := 0) h (by decide) dX11_need_62 ?_
    refine g_putI h is_136 fl_X11_196 rfl rfl dX11_need_63 ?_
    refine g_nI (fun I_63 eI_63 => ?_)
    replace hw := hw I_63 eI_63
    refine g_iconst (v := 1) h (by decide) dX11_need_66 ?_
    refine g_istore_n (lo2 := [(2, .int 1), (0, .ref 0), (1, .int a1)]) h rfl (by decide) rfl dX11_need_67 ?_
    exact g_sub [1, 0] rfl (t_X11_need_68 h hr hw)
  · replace hw := hw.2 q5
    refine g_iconst (v := (-1)) h (by decide) dX11_need_8 ?_
    exact g_iret h hr dX11_need_9 hw
theorem c_X11_need (X : sX) {a1 : Int32} {I : sI} {J : sJ} {post : Int32 → sI → sJ → Prop} (hw : w_X11_need a1 I J post) : sCall X yX11_need cX11_need 3 (some .int) 32 949 [.ref 0, .int a1] I J (sPi post) := sCall_of (by decide +kernel) (Nat.le_of_ble_eq_true rfl) (fun X h hr => t_X11_need h hr hw)
theorem dX11_second_0 : decode cX11_second 0 = .ok (.aload_n 0, 1) := by decide +kernel
theorem dX11_second_1 : decode cX11_second 1 = .ok (.getfield 12, 3) := by decide +kernel
theorem dX11_second_4 : decode cX11_second 4 = .ok (.invokevirtual 113, 3) := by decide +kernel
theorem dX11_second_7 : decode cX11_second 7 = .ok (.istore_n 2, 1) := by decide +kernel
theorem dX11_second_8 : decode cX11_second 8 = .ok (.iload_n 2, 1) := by decide +kernel
theorem dX11_second_9 : decode cX11_second 9 = .ok (.iconst (-1), 1) := by decide +kernel
theorem dX11_second_10 : decode cX11_second 10 = .ok (.if_icmp .ne 14, 3) := by decide +kernel
theorem dX11_second_13 : decode cX11_second 13 = .ok (.aload_n 0, 1) := by decide +kernel
theorem dX11_second_14 : decode cX11_second 14 = .ok (.getfield 51, 3) := by decide +kernel
theorem dX11_second_17 : decode cX11_second 17 = .ok (.aload_n 0, 1) := by decide +kernel
theorem dX11_second_18 : decode cX11_second 18 = .ok (.getfield 12, 3) := by decide +kernel
theorem dX11_second_21 : decode cX11_second 21 = .ok (.invokevirtual 120, 3) := by decide +kernel
theorem dX11_second_24 : decode cX11_second 24 = .ok (.aload_n 0, 1) := by decide +kernel
theorem dX11_second_25 : decode cX11_second 25 = .ok (.getfield 12, 3) := by decide +kernel
theorem dX11_second_28 : decode cX11_second 28 = .ok (.iconst 0, 1) := by decide +kernel
theorem dX11_second_29 : decode cX11_second 29 = .ok (.putfield 106, 3) := by decide +kernel
theorem dX11_second_32 : decode cX11_second 32 = .ok (.aload_n 0, 1) := by decide +kernel
theorem dX11_second_33 : decode cX11_second 33 = .ok (.iload_n 1, 1) := by decide +kernel
theorem dX11_second_34 : decode cX11_second 34 = .ok (.invokevirtual 182, 3) := by decide +kernel
theorem dX11_second_37 : decode cX11_second 37 = .ok (.ifCond .eq 5, 3) := by decide +kernel
theorem dX11_second_40 : decode cX11_second 40 = .ok (.iconst (-1), 1) := by decide +kernel
theorem dX11_second_41 : decode cX11_second 41 = .ok (.ireturn, 1) := by decide +kernel
theorem dX11_second_42 : decode cX11_second 42 = .ok (.iload_n 2, 1) := by decide +kernel
theorem dX11_second_43 : decode cX11_second 43 = .ok (.iconst (-1), 1) := by decide +kernel
theorem dX11_second_44 : decode cX11_second 44 = .ok (.if_icmp .eq 8, 3) := by decide +kernel
theorem dX11_second_47 : decode cX11_second 47 = .ok (.bipush (-100), 2) := by decide +kernel
theorem dX11_second_49 : decode cX11_second 49 = .ok (.iload_n 2, 1) := by decide +kernel
theorem dX11_second_50 : decode cX11_second 50 = .ok (.isub, 1) := by decide +kernel
theorem dX11_second_51 : decode cX11_second 51 = .ok (.ireturn, 1) := by decide +kernel
theorem dX11_second_52 : decode cX11_second 52 = .ok (.aload_n 0, 1) := by decide +kernel
theorem dX11_second_53 : decode cX11_second 53 = .ok (.getfield 58, 3) := by decide +kernel
theorem dX11_second_56 : decode cX11_second 56 = .ok (.aload_n 0, 1) := by decide +kernel
theorem dX11_second_57 : decode cX11_second 57 = .ok (.getfield 19, 3) := by decide +kernel
theorem dX11_second_60 : decode cX11_second 60 = .ok (.getfield 160, 3) := by decide +kernel
theorem dX11_second_63 : decode cX11_second 63 = .ok (.aload_n 0, 1) := by decide +kernel
theorem dX11_second_64 : decode cX11_second 64 = .ok (.getfield 19, 3) := by decide +kernel
theorem dX11_second_67 : decode cX11_second 67 = .ok (.getfield 163, 3) := by decide +kernel
theorem dX11_second_70 : decode cX11_second 70 = .ok (.aload_n 0, 1) := by decide +kernel
theorem dX11_second_71 : decode cX11_second 71 = .ok (.getfield 19, 3) := by decide +kernel
theorem dX11_second_74 : decode cX11_second 74 = .ok (.getfield 166, 3) := by decide +kernel
theorem dX11_second_77 : decode cX11_second 77 = .ok (.invokevirtual 240, 3) := by decide +kernel
theorem dX11_second_80 : decode cX11_second 80 = .ok (.aload_n 0, 1) := by decide +kernel
theorem dX11_second_81 : decode cX11_second 81 = .ok (.getfield 58, 3) := by decide +kernel
theorem dX11_second_84 : decode cX11_second 84 = .ok (.aload_n 0, 1) := by decide +kernel
theorem dX11_second_85 : decode cX11_second 85 = .ok (.getfield 19, 3) := by decide +kernel
theorem dX11_second_88 : decode cX11_second 88 = .ok (.getfield 117, 3) := by decide +kernel
theorem dX11_second_91 : decode cX11_second 91 = .ok (.aload_n 0, 1) := by decide +kernel
theorem dX11_second_92 : decode cX11_second 92 = .ok (.getfield 33, 3) := by decide +kernel
theorem dX11_second_95 : decode cX11_second 95 = .ok (.iload_n 1, 1) := by decide +kernel
theorem dX11_second_96 : decode cX11_second 96 = .ok (.aaload, 1) := by decide +kernel
theorem dX11_second_97 : decode cX11_second 97 = .ok (.invokevirtual 244, 3) := by decide +kernel
theorem dX11_second_100 : decode cX11_second 100 = .ok (.aload_n 0, 1) := by decide +kernel
theorem dX11_second_101 : decode cX11_second 101 = .ok (.getfield 58, 3) := by decide +kernel
theorem dX11_second_104 : decode cX11_second 104 = .ok (.aload_n 0, 1) := by decide +kernel
theorem dX11_second_105 : decode cX11_second 105 = .ok (.getfield 51, 3) := by decide +kernel
theorem dX11_second_108 : decode cX11_second 108 = .ok (.aload_n 0, 1) := by decide +kernel
theorem dX11_second_109 : decode cX11_second 109 = .ok (.getfield 33, 3) := by decide +kernel
theorem dX11_second_112 : decode cX11_second 112 = .ok (.iload_n 1, 1) := by decide +kernel
theorem dX11_second_113 : decode cX11_second 113 = .ok (.aaload, 1) := by decide +kernel
theorem dX11_second_114 : decode cX11_second 114 = .ok (.invokevirtual 244, 3) := by decide +kernel
theorem dX11_second_117 : decode cX11_second 117 = .ok (.aload_n 0, 1) := by decide +kernel
theorem dX11_second_118 : decode cX11_second 118 = .ok (.getfield 67, 3) := by decide +kernel
theorem dX11_second_121 : decode cX11_second 121 = .ok (.aload_n 0, 1) := by decide +kernel
theorem dX11_second_122 : decode cX11_second 122 = .ok (.getfield 58, 3) := by decide +kernel
theorem dX11_second_125 : decode cX11_second 125 = .ok (.getfield 247, 3) := by decide +kernel
theorem dX11_second_128 : decode cX11_second 128 = .ok (.iconst 4, 1) := by decide +kernel
theorem dX11_second_129 : decode cX11_second 129 = .ok (.aload_n 0, 1) := by decide +kernel
theorem dX11_second_130 : decode cX11_second 130 = .ok (.getfield 19, 3) := by decide +kernel
theorem dX11_second_133 : decode cX11_second 133 = .ok (.getfield 117, 3) := by decide +kernel
theorem dX11_second_136 : decode cX11_second 136 = .ok (.getfield 131, 3) := by decide +kernel
theorem dX11_second_139 : decode cX11_second 139 = .ok (.invokevirtual 248, 3) := by decide +kernel
theorem dX11_second_142 : decode cX11_second 142 = .ok (.aload_n 0, 1) := by decide +kernel
theorem dX11_second_143 : decode cX11_second 143 = .ok (.getfield 67, 3) := by decide +kernel
theorem dX11_second_146 : decode cX11_second 146 = .ok (.invokevirtual 192, 3) := by decide +kernel
theorem dX11_second_149 : decode cX11_second 149 = .ok (.ifCond .eq 6, 3) := by decide +kernel
theorem dX11_second_152 : decode cX11_second 152 = .ok (.bipush (-3), 2) := by decide +kernel
theorem dX11_second_154 : decode cX11_second 154 = .ok (.ireturn, 1) := by decide +kernel
theorem dX11_second_155 : decode cX11_second 155 = .ok (.aload_n 0, 1) := by decide +kernel
theorem dX11_second_156 : decode cX11_second 156 = .ok (.getfield 41, 3) := by decide +kernel
theorem dX11_second_159 : decode cX11_second 159 = .ok (.aload_n 0, 1) := by decide +kernel
theorem dX11_second_160 : decode cX11_second 160 = .ok (.getfield 67, 3) := by decide +kernel
theorem dX11_second_163 : decode cX11_second 163 = .ok (.getfield 197, 3) := by decide +kernel
theorem dX11_second_166 : decode cX11_second 166 = .ok (.i2l, 1) := by decide +kernel
theorem dX11_second_167 : decode cX11_second 167 = .ok (.invokevirtual 256, 3) := by decide +kernel
theorem dX11_second_170 : decode cX11_second 170 = .ok (.aload_n 0, 1) := by decide +kernel
theorem dX11_second_171 : decode cX11_second 171 = .ok (.getfield 67, 3) := by decide +kernel
theorem dX11_second_174 : decode cX11_second 174 = .ok (.getfield 258, 3) := by decide +kernel
theorem dX11_second_177 : decode cX11_second 177 = .ok (.ireturn, 1) := by decide +kernel
def w_X11_second_24 (post : Int32 → sI → sJ → Prop) (x1 : Int32) (x2 : Int32) (I : sI) (J : sJ) : Prop :=
  (∀ I_29 : sI, I_29 = sUI I 1 1 0 → w_X11_cannotRead x1 I_29 J (fun (r_34 : Int32) (I_34 : sI) (J_34 : sJ) => (((r_34 = 0 → ((x2 = (-1) → w_X10_open (I_34 3 3) (I_34 3 4) (I_34 3 5) I_34 J_34 (fun (I_77 : sI) (J_77 : sJ) => ((vp_in x1 4 ∧ w_X10_add 4 (sR 41 (Int32.toNatClampNeg x1)) I_77 J_77 (fun (I_97 : sI) (J_97 : sJ) => ((vp_in x1 4 ∧ w_X10_add 138 (sR 41 (Int32.toNatClampNeg x1)) I_97 J_97 (fun (I_114 : sI) (J_114 : sJ) => (w_X5_run (I_114 142 5) 4 (I_114 4 3) I_114 J_114 (fun (I_139 : sI) (J_139 : sJ) => (w_X5_tooMany I_139 J_139 (fun (r_146 : Int32) (I_146 : sI) (J_146 : sJ) => (((r_146 = 0 → w_X6_tell 134 (Int32.toInt64 (I_146 220 2)) I_146 J_146 (fun (I_167 : sI) (J_167 : sJ) => (post (I_167 220 3) I_167 J_167))) ∧ (¬ r_146 = 0 → post (-3) I_146 J_146))))))))))))))) ∧ (¬ x2 = (-1) → post ((-100) - x2) I_34 J_34))) ∧ (¬ r_34 = 0 → post (-1) I_34 J_34)))))
set_option maxHeartbeats 4000000 in
set_option maxRecDepth 100000 in
theorem t_X11_second_24 {X : sX} {post : Int32 → sI → sJ → Prop} (h : sOK X cX11_second RX11 3 32 949) (hr : sRt X (some .int) (sPi post)) {x1 : Int32} {x2 : Int32} {I : sI} {J : sJ} (hw : w_X11_second_24 post x1 x2 I J) : sG X 3 24 [(0, .ref 0), (1, .int x1), (2, .int x2)] [] I J := by
  unfold w_X11_second_24 at hw
  refine g_aload_n h rfl 0 rfl dX11_second_24 ?_
  refine g_get h is_0 fl_X11_12 fr_0_0 dX11_second_25 ?_
  refine g_iconst (v := 0) h (by decide) dX11_second_28 ?_
  refine g_putI h is_1 fl_X11_106 rfl rfl dX11_second_29 ?_
  refine g_nI (fun I_29 eI_29 => ?_)
  replace hw := hw I_29 eI_29
  refine g_aload_n h rfl 0 rfl dX11_second_32 ?_
  refine g_iload_n h rfl 1 rfl dX11_second_33 ?_
  refine g_callV [.int x1] h (c_X11_cannotRead X hw) sPi_v mw_X11_cannotRead lk_X11_182 is_0 rfl rfl ⟨by decide, by decide⟩ (Nat.le_of_ble_eq_true rfl) dX11_second_34 (sPi_k (fun r_34 I_34 J_34 hw => ?_))
  refine g_if_eq (tgt := 42) h (by decide) dX11_second_37 (fun q37 => ?_) (fun q37 => ?_)
  · replace hw := hw.1 q37
    refine g_iload_n h rfl 2 rfl dX11_second_42 ?_
    refine g_iconst (v := (-1)) h (by decide) dX11_second_43 ?_
    refine g_icmp_eq (tgt := 52) h (by decide) dX11_second_44 (fun q44 => ?_) (fun q44 => ?_)
    · replace hw := hw.1 q44
      refine g_aload_n h rfl 0 rfl dX11_second_52 ?_
      refine g_get h is_0 fl_X11_58 fr_0_8 dX11_second_53 ?_
      refine g_aload_n h rfl 0 rfl dX11_second_56 ?_
      refine g_get h is_0 fl_X11_19 fr_0_1 dX11_second_57 ?_
      refine g_get h is_3 fl_X11_160 rfl dX11_second_60 ?_
      refine g_aload_n h rfl 0 rfl dX11_second_63 ?_
      refine g_get h is_0 fl_X11_19 fr_0_1 dX11_second_64 ?_
      refine g_get h is_3 fl_X11_163 rfl dX11_second_67 ?_
      refine g_aload_n h rfl 0 rfl dX11_second_70 ?_
      refine g_get h is_0 fl_X11_19 fr_0_1 dX11_second_71 ?_
      refine g_get h is_3 fl_X11_166 rfl dX11_second_74 ?_
      refine g_callV [.int (I_34 3 3), .int (I_34 3 4), .int (I_34 3 5)] h (c_X10_open X hw) sPv_v mw_X10_open lk_X11_240 is_142 rfl rfl ⟨by decide, by decide⟩ (Nat.le_of_ble_eq_true rfl) dX11_second_77 (sPv_k (fun I_77 J_77 hw => ?_))
      refine g_aload_n h rfl 0 rfl dX11_second_80 ?_
      refine g_get h is_0 fl_X11_58 fr_0_8 dX11_second_81 ?_
      refine g_aload_n h rfl 0 rfl dX11_second_84 ?_
      refine g_get h is_0 fl_X11_19 fr_0_1 dX11_second_85 ?_
      refine g_get h is_3 fl_X11_117 fr_3_0 dX11_second_88 ?_
      refine g_aload_n h rfl 0 rfl dX11_second_91 ?_
      refine g_get h is_0 fl_X11_33 fr_0_4 dX11_second_92 ?_
      refine g_iload_n h rfl 1 rfl dX11_second_95 ?_
      obtain ⟨hi96, hw⟩ := hw
      refine g_aald (t := 1) h ar_41 (by decide) hi96 dX11_second_96 ?_
      refine g_callV [.ref 4, .ref (sR 41 (Int32.toNatClampNeg x1))] h (c_X10_add X is_4 (el_5_4 ar_41 hi96) hw) sPv_v mw_X10_add lk_X11_244 is_142 rfl rfl ⟨by decide, by decide⟩ (Nat.le_of_ble_eq_true rfl) dX11_second_97 (sPv_k (fun I_97 J_97 hw => ?_))
      refine g_aload_n h rfl 0 rfl dX11_second_100 ?_
      refine g_get h is_0 fl_X11_58 fr_0_8 dX11_second_101 ?_
      refine g_aload_n h rfl 0 rfl dX11_second_104 ?_
      refine g_get h is_0 fl_X11_51 fr_0_7 dX11_second_105 ?_
      refine g_aload_n h rfl 0 rfl dX11_second_108 ?_
      refine g_get h is_0 fl_X11_33 fr_0_4 dX11_second_109 ?_
      refine g_iload_n h rfl 1 rfl dX11_second_112 ?_
      obtain ⟨hi113, hw⟩ := hw
      refine g_aald (t := 1) h ar_41 (by decide) hi113 dX11_second_113 ?_
      refine g_callV [.ref 138, .ref (sR 41 (Int32.toNatClampNeg x1))] h (c_X10_add X is_138 (el_5_4 ar_41 hi113) hw) sPv_v mw_X10_add lk_X11_244 is_142 rfl rfl ⟨by decide, by decide⟩ (Nat.le_of_ble_eq_true rfl) dX11_second_114 (sPv_k (fun I_114 J_114 hw => ?_))
      refine g_aload_n h rfl 0 rfl dX11_second_117 ?_
      refine g_get h is_0 fl_X11_67 fr_0_9 dX11_second_118 ?_
      refine g_aload_n h rfl 0 rfl dX11_second_121 ?_
      refine g_get h is_0 fl_X11_58 fr_0_8 dX11_second_122 ?_
      refine g_get h is_142 fl_X11_247 rfl dX11_second_125 ?_
      refine g_iconst (v := 4) h (by decide) dX11_second_128 ?_
      refine g_aload_n h rfl 0 rfl dX11_second_129 ?_
      refine g_get h is_0 fl_X11_19 fr_0_1 dX11_second_130 ?_
      refine g_get h is_3 fl_X11_117 fr_3_0 dX11_second_133 ?_
      refine g_get h is_4 fl_X11_131 rfl dX11_second_136 ?_
      refine g_callV [.int (I_114 142 5), .int 4, .int (I_114 4 3)] h (c_X5_run X hw) sPv_v mw_X5_run lk_X11_248 is_220 rfl rfl ⟨by decide, by decide⟩ (Nat.le_of_ble_eq_true rfl) dX11_second_139 (sPv_k (fun I_139 J_139 hw => ?_))
      refine g_aload_n h rfl 0 rfl dX11_second_142 ?_
      refine g_get h is_0 fl_X11_67 fr_0_9 dX11_second_143 ?_
      refine g_callV [] h (c_X5_tooMany X hw) sPi_v mw_X5_tooMany lk_X11_192 is_220 rfl rfl ⟨by decide, by decide⟩ (Nat.le_of_ble_eq_true rfl) dX11_second_146 (sPi_k (fun r_146 I_146 J_146 hw => ?_))
      refine g_if_eq (tgt := 155) h (by decide) dX11_second_149 (fun q149 => ?_) (fun q149 => ?_)
      · replace hw := hw.1 q149
        refine g_aload_n h rfl 0 rfl dX11_second_155 ?_
        refine g_get h is_0 fl_X11_41 fr_0_5 dX11_second_156 ?_
        refine g_aload_n h rfl 0 rfl dX11_second_159 ?_
        refine g_get h is_0 fl_X11_67 fr_0_9 dX11_second_160 ?_
        refine g_get h is_220 fl_X11_197 rfl dX11_second_163 ?_
        refine g_i2l h dX11_second_166 ?_
        refine g_callV [.long (Int32.toInt64 (I_146 220 2))] h (c_X6_tell X is_134 hw) sPv_v mw_X6_tell lk_X11_256 is_134 rfl rfl ⟨by decide, by decide⟩ (Nat.le_of_ble_eq_true rfl) dX11_second_167 (sPv_k (fun I_167 J_167 hw => ?_))
        refine g_aload_n h rfl 0 rfl dX11_second_170 ?_
        refine g_get h is_0 fl_X11_67 fr_0_9 dX11_second_171 ?_
        refine g_get h is_220 fl_X11_258 rfl dX11_second_174 ?_
        exact g_iret h hr dX11_second_177 hw
      · replace hw := hw.2 q149
        refine g_bipush (v := (-3)) h (by decide) dX11_second_152 ?_
        exact g_iret h hr dX11_second_154 hw
    · replace hw := hw.2 q44
      refine g_bipush (v := (-100)) h (by decide) dX11_second_47 ?_
      refine g_iload_n h rfl 2 rfl dX11_second_49 ?_
      refine g_isub h dX11_second_50 ?_
      exact g_iret h hr dX11_second_51 hw
  · replace hw := hw.2 q37
    refine g_iconst (v := (-1)) h (by decide) dX11_second_40 ?_
    exact g_iret h hr dX11_second_41 hw
def w_X11_second (a1 : Int32) (I : sI) (J : sJ) (post : Int32 → sI → sJ → Prop) : Prop :=
  w_X7_faultAsDisc I J (fun (r_4 : Int32) (I_4 : sI) (J_4 : sJ) => (((¬ r_4 = (-1) → w_X11_second_24 post a1 r_4 I_4 J_4) ∧ (r_4 = (-1) → w_X2_fill 138 I_4 J_4 (fun (I_21 : sI) (J_21 : sJ) => (w_X11_second_24 post a1 r_4 I_21 J_21))))))
set_option maxHeartbeats 4000000 in
set_option maxRecDepth 100000 in
theorem t_X11_second {X : sX} {a1 : Int32} {I : sI} {J : sJ} {post : Int32 → sI → sJ → Prop} (h : sOK X cX11_second RX11 3 32 949) (hr : sRt X (some .int) (sPi post)) (hw : w_X11_second a1 I J post) : sG X 3 0 [(0, .ref 0), (1, .int a1)] [] I J := by
  unfold w_X11_second at hw
  refine g_aload_n h rfl 0 rfl dX11_second_0 ?_
  refine g_get h is_0 fl_X11_12 fr_0_0 dX11_second_1 ?_
  refine g_callV [] h (c_X7_faultAsDisc X hw) sPi_v mw_X7_faultAsDisc lk_X11_113 is_1 rfl rfl ⟨by decide, by decide⟩ (Nat.le_of_ble_eq_true rfl) dX11_second_4 (sPi_k (fun r_4 I_4 J_4 hw => ?_))
  refine g_istore_n (lo2 := [(2, .int r_4), (0, .ref 0), (1, .int a1)]) h rfl (by decide) rfl dX11_second_7 ?_
  refine g_iload_n h rfl 0 rfl dX11_second_8 ?_
  refine g_iconst (v := (-1)) h (by decide) dX11_second_9 ?_
  refine g_icmp_ne (tgt := 24) h (by decide) dX11_second_10 (fun q10 => ?_) (fun q10 => ?_)
  · replace hw := hw.1 q10
    exact g_sub [1, 2, 0] rfl (t_X11_second_24 h hr hw)
  · replace hw := hw.2 q10
    refine g_aload_n h rfl 1 rfl dX11_second_13 ?_
    refine g_get h is_0 fl_X11_51 fr_0_7 dX11_second_14 ?_
    refine g_aload_n h rfl 1 rfl dX11_second_17 ?_
    refine g_get h is_0 fl_X11_12 fr_0_0 dX11_second_18 ?_
    refine g_callV [.ref 1] h (c_X2_fill X is_138 hw) sPv_v mw_X2_fill lk_X11_120 is_138 rfl rfl ⟨by decide, by decide⟩ (Nat.le_of_ble_eq_true rfl) dX11_second_21 (sPv_k (fun I_21 J_21 hw => ?_))
    exact g_sub [1, 2, 0] rfl (t_X11_second_24 h hr hw)
theorem c_X11_second (X : sX) {a1 : Int32} {I : sI} {J : sJ} {post : Int32 → sI → sJ → Prop} (hw : w_X11_second a1 I J post) : sCall X yX11_second cX11_second 3 (some .int) 32 949 [.ref 0, .int a1] I J (sPi post) := sCall_of (by decide +kernel) (Nat.le_of_ble_eq_true rfl) (fun X h hr => t_X11_second h hr hw)
theorem dX11_draw_0 : decode cX11_draw 0 = .ok (.aload_n 0, 1) := by decide +kernel
theorem dX11_draw_1 : decode cX11_draw 1 = .ok (.aload_n 0, 1) := by decide +kernel
theorem dX11_draw_2 : decode cX11_draw 2 = .ok (.getfield 99, 3) := by decide +kernel
theorem dX11_draw_5 : decode cX11_draw 5 = .ok (.ldc_w 276, 3) := by decide +kernel
theorem dX11_draw_8 : decode cX11_draw 8 = .ok (.imul, 1) := by decide +kernel
theorem dX11_draw_9 : decode cX11_draw 9 = .ok (.sipush 12345, 3) := by decide +kernel
theorem dX11_draw_12 : decode cX11_draw 12 = .ok (.iadd, 1) := by decide +kernel
theorem dX11_draw_13 : decode cX11_draw 13 = .ok (.putfield 99, 3) := by decide +kernel
theorem dX11_draw_16 : decode cX11_draw 16 = .ok (.iload_n 1, 1) := by decide +kernel
theorem dX11_draw_17 : decode cX11_draw 17 = .ok (.ifCond .le 15, 3) := by decide +kernel
theorem dX11_draw_20 : decode cX11_draw 20 = .ok (.aload_n 0, 1) := by decide +kernel
theorem dX11_draw_21 : decode cX11_draw 21 = .ok (.getfield 99, 3) := by decide +kernel
theorem dX11_draw_24 : decode cX11_draw 24 = .ok (.bipush 16, 2) := by decide +kernel
theorem dX11_draw_26 : decode cX11_draw 26 = .ok (.iushr, 1) := by decide +kernel
theorem dX11_draw_27 : decode cX11_draw 27 = .ok (.iload_n 1, 1) := by decide +kernel
theorem dX11_draw_28 : decode cX11_draw 28 = .ok (.irem, 1) := by decide +kernel
theorem dX11_draw_29 : decode cX11_draw 29 = .ok (.goto 4, 3) := by decide +kernel
theorem dX11_draw_32 : decode cX11_draw 32 = .ok (.iconst 0, 1) := by decide +kernel
theorem dX11_draw_33 : decode cX11_draw 33 = .ok (.ireturn, 1) := by decide +kernel
def w_X11_draw (a1 : Int32) (I : sI) (J : sJ) (post : Int32 → sI → sJ → Prop) : Prop :=
  (∀ I_13 : sI, I_13 = sUI I 0 15 (((I 0 15) * 1103515245) + 12345) → ((a1 ≤ 0 → post 0 I_13 J) ∧ (¬ a1 ≤ 0 → (¬ a1 = 0 ∧ post ((((I_13 0 15).toUInt32 >>> (Int32.toUInt32 16 &&& Int32.toUInt32 31)).toInt32) - (((I_13 0 15).toUInt32 >>> (Int32.toUInt32 16 &&& Int32.toUInt32 31)).toInt32) / a1 * a1) I_13 J))))
set_option maxHeartbeats 4000000 in
set_option maxRecDepth 100000 in
theorem t_X11_draw {X : sX} {a1 : Int32} {I : sI} {J : sJ} {post : Int32 → sI → sJ → Prop} (h : sOK X cX11_draw RX11 2 0 0) (hr : sRt X (some .int) (sPi post)) (hw : w_X11_draw a1 I J post) : sG X 2 0 [(0, .ref 0), (1, .int a1)] [] I J := by
  unfold w_X11_draw at hw
  refine g_aload_n h rfl 0 rfl dX11_draw_0 ?_
  refine g_aload_n h rfl 0 rfl dX11_draw_1 ?_
  refine g_get h is_0 fl_X11_99 rfl dX11_draw_2 ?_
  refine g_ldcw h lc_X11_276 dX11_draw_5 ?_
  refine g_imul h dX11_draw_8 ?_
  refine g_sipush (v := 12345) h (by decide) dX11_draw_9 ?_
  refine g_iadd h dX11_draw_12 ?_
  refine g_putI h is_0 fl_X11_99 rfl rfl dX11_draw_13 ?_
  refine g_nI (fun I_13 eI_13 => ?_)
  replace hw := hw I_13 eI_13
  refine g_iload_n h rfl 1 rfl dX11_draw_16 ?_
  refine g_if_le (tgt := 32) h (by decide) dX11_draw_17 (fun q17 => ?_) (fun q17 => ?_)
  · replace hw := hw.1 q17
    refine g_iconst (v := 0) h (by decide) dX11_draw_32 ?_
    exact g_iret h hr dX11_draw_33 hw
  · replace hw := hw.2 q17
    refine g_aload_n h rfl 0 rfl dX11_draw_20 ?_
    refine g_get h is_0 fl_X11_99 rfl dX11_draw_21 ?_
    refine g_bipush (v := 16) h (by decide) dX11_draw_24 ?_
    refine g_iushr h dX11_draw_26 ?_
    refine g_iload_n h rfl 1 rfl dX11_draw_27 ?_
    obtain ⟨hz28, hw⟩ := hw
    refine g_irem h hz28 dX11_draw_28 ?_
    refine g_goto (tgt := 33) h (by decide) dX11_draw_29 ?_
    exact g_iret h hr dX11_draw_33 hw
theorem c_X11_draw (X : sX) {a1 : Int32} {I : sI} {J : sJ} {post : Int32 → sI → sJ → Prop} (hw : w_X11_draw a1 I J post) : sCall X yX11_draw cX11_draw 2 (some .int) 0 0 [.ref 0, .int a1] I J (sPi post) := sCall_of (by decide +kernel) (Nat.le_of_ble_eq_true rfl) (fun X h hr => t_X11_draw h hr hw)
theorem dX11_shuffle_0 : decode cX11_shuffle 0 = .ok (.aload_n 1, 1) := by decide +kernel
theorem dX11_shuffle_1 : decode cX11_shuffle 1 = .ok (.getfield 179, 3) := by decide +kernel
theorem dX11_shuffle_4 : decode cX11_shuffle 4 = .ok (.iconst 1, 1) := by decide +kernel
theorem dX11_shuffle_5 : decode cX11_shuffle 5 = .ok (.isub, 1) := by decide +kernel
theorem dX11_shuffle_6 : decode cX11_shuffle 6 = .ok (.istore_n 2, 1) := by decide +kernel
theorem dX11_shuffle_7 : decode cX11_shuffle 7 = .ok (.iload_n 2, 1) := by decide +kernel
theorem dX11_shuffle_8 : decode cX11_shuffle 8 = .ok (.iconst 1, 1) := by decide +kernel
theorem dX11_shuffle_9 : decode cX11_shuffle 9 = .ok (.if_icmp .lt 45, 3) := by decide +kernel
theorem dX11_shuffle_12 : decode cX11_shuffle 12 = .ok (.aload_n 0, 1) := by decide +kernel
theorem dX11_shuffle_13 : decode cX11_shuffle 13 = .ok (.iload_n 2, 1) := by decide +kernel
theorem dX11_shuffle_14 : decode cX11_shuffle 14 = .ok (.iconst 1, 1) := by decide +kernel
theorem dX11_shuffle_15 : decode cX11_shuffle 15 = .ok (.iadd, 1) := by decide +kernel
theorem dX11_shuffle_16 : decode cX11_shuffle 16 = .ok (.invokevirtual 273, 3) := by decide +kernel
theorem dX11_shuffle_19 : decode cX11_shuffle 19 = .ok (.istore_n 3, 1) := by decide +kernel
theorem dX11_shuffle_20 : decode cX11_shuffle 20 = .ok (.aload_n 1, 1) := by decide +kernel
theorem dX11_shuffle_21 : decode cX11_shuffle 21 = .ok (.getfield 176, 3) := by decide +kernel
theorem dX11_shuffle_24 : decode cX11_shuffle 24 = .ok (.iload_n 2, 1) := by decide +kernel
theorem dX11_shuffle_25 : decode cX11_shuffle 25 = .ok (.iaload, 1) := by decide +kernel
theorem dX11_shuffle_26 : decode cX11_shuffle 26 = .ok (.istore 4, 2) := by decide +kernel
theorem dX11_shuffle_28 : decode cX11_shuffle 28 = .ok (.aload_n 1, 1) := by decide +kernel
theorem dX11_shuffle_29 : decode cX11_shuffle 29 = .ok (.getfield 176, 3) := by decide +kernel
theorem dX11_shuffle_32 : decode cX11_shuffle 32 = .ok (.iload_n 2, 1) := by decide +kernel
theorem dX11_shuffle_33 : decode cX11_shuffle 33 = .ok (.aload_n 1, 1) := by decide +kernel
theorem dX11_shuffle_34 : decode cX11_shuffle 34 = .ok (.getfield 176, 3) := by decide +kernel
theorem dX11_shuffle_37 : decode cX11_shuffle 37 = .ok (.iload_n 3, 1) := by decide +kernel
theorem dX11_shuffle_38 : decode cX11_shuffle 38 = .ok (.iaload, 1) := by decide +kernel
theorem dX11_shuffle_39 : decode cX11_shuffle 39 = .ok (.iastore, 1) := by decide +kernel
theorem dX11_shuffle_40 : decode cX11_shuffle 40 = .ok (.aload_n 1, 1) := by decide +kernel
theorem dX11_shuffle_41 : decode cX11_shuffle 41 = .ok (.getfield 176, 3) := by decide +kernel
theorem dX11_shuffle_44 : decode cX11_shuffle 44 = .ok (.iload_n 3, 1) := by decide +kernel
theorem dX11_shuffle_45 : decode cX11_shuffle 45 = .ok (.iload 4, 2) := by decide +kernel
theorem dX11_shuffle_47 : decode cX11_shuffle 47 = .ok (.iastore, 1) := by decide +kernel
theorem dX11_shuffle_48 : decode cX11_shuffle 48 = .ok (.iinc 2 (-1), 3) := by decide +kernel
theorem dX11_shuffle_51 : decode cX11_shuffle 51 = .ok (.goto (-44), 3) := by decide +kernel
theorem dX11_shuffle_54 : decode cX11_shuffle 54 = .ok (.return_, 1) := by decide +kernel
def w_X11_shuffle_7_s (h1 : Nat) (post : sI → sJ → Prop) (k7 : Int32 → sI → sJ → Prop) (x2 : Int32) (I : sI) (J : sJ) : Prop :=
  ((x2 < 1 → post I J) ∧ (¬ x2 < 1 → w_X11_draw (x2 + 1) I J (fun (r_16 : Int32) (I_16 : sI) (J_16 : sJ) => ((vp_in x2 60 ∧ (∀ v4_26 : Int32, v4_26 = I_16 (sR h1 0) (Int32.toNatClampNeg x2) → (vp_in r_16 60 ∧ (vp_in x2 60 ∧ (∀ I_39 : sI, I_39 = sUI I_16 (sR h1 0) (Int32.toNatClampNeg x2) (I_16 (sR h1 0) (Int32.toNatClampNeg r_16)) → (vp_in r_16 60 ∧ (∀ I_47 : sI, I_47 = sUI I_39 (sR h1 0) (Int32.toNatClampNeg r_16) v4_26 → (∀ v2_48 : Int32, v2_48 = x2 + (-1) → k7 v2_48 I_47 J_16))))))))))))
def w_X11_shuffle_7_n (h1 : Nat) (post : sI → sJ → Prop) : Nat → Int32 → sI → sJ → Prop
  | 0 => fun _ _ _ => False
  | n + 1 => fun x2 I J => w_X11_shuffle_7_s h1 post (w_X11_shuffle_7_n h1 post n) x2 I J
def w_X11_shuffle_7 (h1 : Nat) (post : sI → sJ → Prop) (x2 : Int32) (I : sI) (J : sJ) : Prop := ∃ n, w_X11_shuffle_7_n h1 post n x2 I J
set_option maxHeartbeats 4000000 in
set_option maxRecDepth 100000 in
theorem t_X11_shuffle_7_s {X : sX} {h1 : Nat} (ph1 : sIs h1 2) {post : sI → sJ → Prop} (h : sOK X cX11_shuffle RX11 5 1 21) (hr : sRt X none (sPv post)) {k7 : Int32 → sI → sJ → Prop} (hk7 : ∀ (x2 : Int32) (I : sI) (J : sJ), k7 x2 I J → sG X 5 7 [(0, .ref 0), (1, .ref h1), (2, .int x2)] [] I J) {x2 : Int32} {I : sI} {J : sJ} (hw : w_X11_shuffle_7_s h1 post k7 x2 I J) : sG X 5 7 [(0, .ref 0), (1, .ref h1), (2, .int x2)] [] I J := by
  unfold w_X11_shuffle_7_s at hw
  refine g_iload_n h rfl 2 rfl dX11_shuffle_7 ?_
  refine g_iconst (v := 1) h (by decide) dX11_shuffle_8 ?_
  refine g_icmp_lt (tgt := 54) h (by decide) dX11_shuffle_9 (fun q9 => ?_) (fun q9 => ?_)
  · replace hw := hw.1 q9
    exact g_vret h hr dX11_shuffle_54 hw
  · replace hw := hw.2 q9
    refine g_aload_n h rfl 0 rfl dX11_shuffle_12 ?_
    refine g_iload_n h rfl 2 rfl dX11_shuffle_13 ?_
    refine g_iconst (v := 1) h (by decide) dX11_shuffle_14 ?_
    refine g_iadd h dX11_shuffle_15 ?_
    refine g_callV [.int (x2 + 1)] h (c_X11_draw X hw) sPi_v mw_X11_draw lk_X11_273 is_0 rfl rfl ⟨by decide, by decide⟩ (Nat.le_of_ble_eq_true rfl) dX11_shuffle_16 (sPi_k (fun r_16 I_16 J_16 hw => ?_))
    refine g_istore_n (lo2 := [(3, .int r_16), (0, .ref 0), (1, .ref h1), (2, .int x2)]) h rfl (by decide) rfl dX11_shuffle_19 ?_
    refine g_aload_n h rfl 2 rfl dX11_shuffle_20 ?_
    refine g_get h ph1 fl_X11_176 rfl dX11_shuffle_21 ?_
    refine g_iload_n h rfl 3 rfl dX11_shuffle_24 ?_
    obtain ⟨hi25, hw⟩ := hw
    refine g_iald h (arF_2_0 ph1) hi25 dX11_shuffle_25 ?_
    refine g_ni (fun v4_26 ev4_26 => ?_)
    replace hw := hw v4_26 ev4_26
    refine g_istore (lo2 := [(4, .int v4_26), (3, .int r_16), (0, .ref 0), (1, .ref h1), (2, .int x2)]) h (by decide) rfl dX11_shuffle_26 ?_
    refine g_aload_n h rfl 3 rfl dX11_shuffle_28 ?_
    refine g_get h ph1 fl_X11_176 rfl dX11_shuffle_29 ?_
    refine g_iload_n h rfl 4 rfl dX11_shuffle_32 ?_
    refine g_aload_n h rfl 3 rfl dX11_shuffle_33 ?_
    refine g_get h ph1 fl_X11_176 rfl dX11_shuffle_34 ?_
    refine g_iload_n h rfl 1 rfl dX11_shuffle_37 ?_
    obtain ⟨hi38, hw⟩ := hw
    refine g_iald h (arF_2_0 ph1) hi38 dX11_shuffle_38 ?_
    obtain ⟨hi39, hw⟩ := hw
    refine g_iast h (arF_2_0 ph1) hi39 dX11_shuffle_39 ?_
    refine g_nI (fun I_39 eI_39 => ?_)
    replace hw := hw I_39 eI_39
    refine g_aload_n h rfl 3 rfl dX11_shuffle_40 ?_
    refine g_get h ph1 fl_X11_176 rfl dX11_shuffle_41 ?_
    refine g_iload_n h rfl 1 rfl dX11_shuffle_44 ?_
    refine g_iload h 0 rfl dX11_shuffle_45 ?_
    obtain ⟨hi47, hw⟩ := hw
    refine g_iast h (arF_2_0 ph1) hi47 dX11_shuffle_47 ?_
    refine g_nI (fun I_47 eI_47 => ?_)
    replace hw := hw I_47 eI_47
    obtain ⟨v2_48, ev2_48⟩ : ∃ z : Int32, z = x2 + (-1) := ⟨_, rfl⟩
    replace hw := hw v2_48 ev2_48
    refine g_iinc (v := v2_48) (lo2 := [(2, .int v2_48), (4, .int v4_26), (3, .int r_16), (0, .ref 0), (1, .ref h1)]) h 4 rfl (by rw [ev2_48]; rfl) (by decide) rfl dX11_shuffle_48 ?_
    refine g_goto (tgt := 7) h (by decide) dX11_shuffle_51 ?_
    exact g_sub [3, 4, 0] rfl (hk7 _ _ _ hw)
theorem t_X11_shuffle_7 {X : sX} {h1 : Nat} (ph1 : sIs h1 2) {post : sI → sJ → Prop} (h : sOK X cX11_shuffle RX11 5 1 21) (hr : sRt X none (sPv post)) {x2 : Int32} {I : sI} {J : sJ} (hw : w_X11_shuffle_7 h1 post x2 I J) : sG X 5 7 [(0, .ref 0), (1, .ref h1), (2, .int x2)] [] I J := by
  obtain ⟨n, hw⟩ := hw
  induction n generalizing x2 I J with
  | zero => exact hw.elim
  | succ n ih => exact t_X11_shuffle_7_s ph1 h hr (fun _ _ _ q => ih q) hw
def w_X11_shuffle (h1 : Nat) (I : sI) (J : sJ) (post : sI → sJ → Prop) : Prop :=
  (∀ v2_6 : Int32, v2_6 = (I h1 4) - 1 → w_X11_shuffle_7 h1 post v2_6 I J)
set_option maxHeartbeats 4000000 in
set_option maxRecDepth 100000 in
theorem t_X11_shuffle {X : sX} {h1 : Nat} (ph1 : sIs h1 2) {I : sI} {J : sJ} {post : sI → sJ → Prop} (h : sOK X cX11_shuffle RX11 5 1 21) (hr : sRt X none (sPv post)) (hw : w_X11_shuffle h1 I J post) : sG X 5 0 [(0, .ref 0), (1, .ref h1)] [] I J := by
  unfold w_X11_shuffle at hw
  refine g_aload_n h rfl 1 rfl dX11_shuffle_0 ?_
  refine g_get h ph1 fl_X11_179 rfl dX11_shuffle_1 ?_
  refine g_iconst (v := 1) h (by decide) dX11_shuffle_4 ?_
  refine g_isub h dX11_shuffle_5 ?_
  refine g_ni (fun v2_6 ev2_6 => ?_)
  replace hw := hw v2_6 ev2_6
  refine g_istore_n (lo2 := [(2, .int v2_6), (0, .ref 0), (1, .ref h1)]) h rfl (by decide) rfl dX11_shuffle_6 ?_
  exact g_sub [1, 2, 0] rfl (t_X11_shuffle_7 ph1 h hr hw)
theorem c_X11_shuffle (X : sX) {h1 : Nat} (ph1 : sIs h1 2) {I : sI} {J : sJ} {post : sI → sJ → Prop} (hw : w_X11_shuffle h1 I J post) : sCall X yX11_shuffle cX11_shuffle 5 none 1 21 [.ref 0, .ref h1] I J (sPv post) := sCall_of (by decide +kernel) (Nat.le_of_ble_eq_true rfl) (fun X h hr => t_X11_shuffle ph1 h hr hw)
theorem dX11_chance_0 : decode cX11_chance 0 = .ok (.aload_n 0, 1) := by decide +kernel
theorem dX11_chance_1 : decode cX11_chance 1 = .ok (.iload_n 1, 1) := by decide +kernel
theorem dX11_chance_2 : decode cX11_chance 2 = .ok (.invokevirtual 182, 3) := by decide +kernel
theorem dX11_chance_5 : decode cX11_chance 5 = .ok (.ifCond .ne 14, 3) := by decide +kernel
theorem dX11_chance_8 : decode cX11_chance 8 = .ok (.iload_n 2, 1) := by decide +kernel
theorem dX11_chance_9 : decode cX11_chance 9 = .ok (.iconst 1, 1) := by decide +kernel
theorem dX11_chance_10 : decode cX11_chance 10 = .ok (.if_icmp .lt 9, 3) := by decide +kernel
theorem dX11_chance_13 : decode cX11_chance 13 = .ok (.iload_n 2, 1) := by decide +kernel
theorem dX11_chance_14 : decode cX11_chance 14 = .ok (.bipush 12, 2) := by decide +kernel
theorem dX11_chance_16 : decode cX11_chance 16 = .ok (.if_icmp .le 5, 3) := by decide +kernel
theorem dX11_chance_19 : decode cX11_chance 19 = .ok (.iconst (-1), 1) := by decide +kernel
theorem dX11_chance_20 : decode cX11_chance 20 = .ok (.ireturn, 1) := by decide +kernel
theorem dX11_chance_21 : decode cX11_chance 21 = .ok (.aload_n 0, 1) := by decide +kernel
theorem dX11_chance_22 : decode cX11_chance 22 = .ok (.getfield 99, 3) := by decide +kernel
theorem dX11_chance_25 : decode cX11_chance 25 = .ok (.istore_n 3, 1) := by decide +kernel
theorem dX11_chance_26 : decode cX11_chance 26 = .ok (.iconst 0, 1) := by decide +kernel
theorem dX11_chance_27 : decode cX11_chance 27 = .ok (.istore 4, 2) := by decide +kernel
theorem dX11_chance_29 : decode cX11_chance 29 = .ok (.aload_n 0, 1) := by decide +kernel
theorem dX11_chance_30 : decode cX11_chance 30 = .ok (.getfield 45, 3) := by decide +kernel
theorem dX11_chance_33 : decode cX11_chance 33 = .ok (.iconst 0, 1) := by decide +kernel
theorem dX11_chance_34 : decode cX11_chance 34 = .ok (.putfield 196, 3) := by decide +kernel
theorem dX11_chance_37 : decode cX11_chance 37 = .ok (.iconst 0, 1) := by decide +kernel
theorem dX11_chance_38 : decode cX11_chance 38 = .ok (.istore 5, 2) := by decide +kernel
theorem dX11_chance_40 : decode cX11_chance 40 = .ok (.iload 5, 2) := by decide +kernel
theorem dX11_chance_42 : decode cX11_chance 42 = .ok (.iload_n 2, 1) := by decide +kernel
theorem dX11_chance_43 : decode cX11_chance 43 = .ok (.if_icmp .ge 95, 3) := by decide +kernel
theorem dX11_chance_46 : decode cX11_chance 46 = .ok (.aload_n 0, 1) := by decide +kernel
theorem dX11_chance_47 : decode cX11_chance 47 = .ok (.getfield 51, 3) := by decide +kernel
theorem dX11_chance_50 : decode cX11_chance 50 = .ok (.aload_n 0, 1) := by decide +kernel
theorem dX11_chance_51 : decode cX11_chance 51 = .ok (.getfield 19, 3) := by decide +kernel
theorem dX11_chance_54 : decode cX11_chance 54 = .ok (.getfield 117, 3) := by decide +kernel
theorem dX11_chance_57 : decode cX11_chance 57 = .ok (.invokevirtual 261, 3) := by decide +kernel
theorem dX11_chance_60 : decode cX11_chance 60 = .ok (.aload_n 0, 1) := by decide +kernel
theorem dX11_chance_61 : decode cX11_chance 61 = .ok (.aload_n 0, 1) := by decide +kernel
theorem dX11_chance_62 : decode cX11_chance 62 = .ok (.getfield 51, 3) := by decide +kernel
theorem dX11_chance_65 : decode cX11_chance 65 = .ok (.invokevirtual 264, 3) := by decide +kernel
theorem dX11_chance_68 : decode cX11_chance 68 = .ok (.aload_n 0, 1) := by decide +kernel
theorem dX11_chance_69 : decode cX11_chance 69 = .ok (.aload_n 0, 1) := by decide +kernel
theorem dX11_chance_70 : decode cX11_chance 70 = .ok (.getfield 51, 3) := by decide +kernel
theorem dX11_chance_73 : decode cX11_chance 73 = .ok (.iload_n 1, 1) := by decide +kernel
theorem dX11_chance_74 : decode cX11_chance 74 = .ok (.iconst 0, 1) := by decide +kernel
theorem dX11_chance_75 : decode cX11_chance 75 = .ok (.iconst 0, 1) := by decide +kernel
theorem dX11_chance_76 : decode cX11_chance 76 = .ok (.invokevirtual 185, 3) := by decide +kernel
theorem dX11_chance_79 : decode cX11_chance 79 = .ok (.aload_n 0, 1) := by decide +kernel
theorem dX11_chance_80 : decode cX11_chance 80 = .ok (.getfield 67, 3) := by decide +kernel
theorem dX11_chance_83 : decode cX11_chance 83 = .ok (.invokevirtual 192, 3) := by decide +kernel
theorem dX11_chance_86 : decode cX11_chance 86 = .ok (.ifCond .eq 11, 3) := by decide +kernel
theorem dX11_chance_89 : decode cX11_chance 89 = .ok (.aload_n 0, 1) := by decide +kernel
theorem dX11_chance_90 : decode cX11_chance 90 = .ok (.iload_n 3, 1) := by decide +kernel
theorem dX11_chance_91 : decode cX11_chance 91 = .ok (.putfield 99, 3) := by decide +kernel
theorem dX11_chance_94 : decode cX11_chance 94 = .ok (.bipush (-3), 2) := by decide +kernel
theorem dX11_chance_96 : decode cX11_chance 96 = .ok (.ireturn, 1) := by decide +kernel
theorem dX11_chance_97 : decode cX11_chance 97 = .ok (.aload_n 0, 1) := by decide +kernel
theorem dX11_chance_98 : decode cX11_chance 98 = .ok (.getfield 45, 3) := by decide +kernel
theorem dX11_chance_101 : decode cX11_chance 101 = .ok (.aload_n 0, 1) := by decide +kernel
theorem dX11_chance_102 : decode cX11_chance 102 = .ok (.getfield 67, 3) := by decide +kernel
theorem dX11_chance_105 : decode cX11_chance 105 = .ok (.getfield 197, 3) := by decide +kernel
theorem dX11_chance_108 : decode cX11_chance 108 = .ok (.i2l, 1) := by decide +kernel
theorem dX11_chance_109 : decode cX11_chance 109 = .ok (.invokevirtual 227, 3) := by decide +kernel
theorem dX11_chance_112 : decode cX11_chance 112 = .ok (.iload 4, 2) := by decide +kernel
theorem dX11_chance_114 : decode cX11_chance 114 = .ok (.aload_n 0, 1) := by decide +kernel
theorem dX11_chance_115 : decode cX11_chance 115 = .ok (.getfield 67, 3) := by decide +kernel
theorem dX11_chance_118 : decode cX11_chance 118 = .ok (.getfield 197, 3) := by decide +kernel
theorem dX11_chance_121 : decode cX11_chance 121 = .ok (.ifCond .le 7, 3) := by decide +kernel
theorem dX11_chance_124 : decode cX11_chance 124 = .ok (.iconst 1, 1) := by decide +kernel
theorem dX11_chance_125 : decode cX11_chance 125 = .ok (.goto 4, 3) := by decide +kernel
theorem dX11_chance_128 : decode cX11_chance 128 = .ok (.iconst 0, 1) := by decide +kernel
theorem dX11_chance_129 : decode cX11_chance 129 = .ok (.iadd, 1) := by decide +kernel
theorem dX11_chance_130 : decode cX11_chance 130 = .ok (.istore 4, 2) := by decide +kernel
theorem dX11_chance_132 : decode cX11_chance 132 = .ok (.iinc 5 1, 3) := by decide +kernel
theorem dX11_chance_135 : decode cX11_chance 135 = .ok (.goto (-95), 3) := by decide +kernel
theorem dX11_chance_138 : decode cX11_chance 138 = .ok (.aload_n 0, 1) := by decide +kernel
theorem dX11_chance_139 : decode cX11_chance 139 = .ok (.getfield 41, 3) := by decide +kernel
theorem dX11_chance_142 : decode cX11_chance 142 = .ok (.aload_n 0, 1) := by decide +kernel
theorem dX11_chance_143 : decode cX11_chance 143 = .ok (.getfield 45, 3) := by decide +kernel
theorem dX11_chance_146 : decode cX11_chance 146 = .ok (.invokevirtual 236, 3) := by decide +kernel
theorem dX11_chance_149 : decode cX11_chance 149 = .ok (.iload 4, 2) := by decide +kernel
theorem dX11_chance_151 : decode cX11_chance 151 = .ok (.ireturn, 1) := by decide +kernel
def w_X11_chance_129 (post : Int32 → sI → sJ → Prop) (k40 : Int32 → Int32 → Int32 → Int32 → Int32 → sI → sJ → Prop) (x1 : Int32) (x2 : Int32) (x3 : Int32) (x5 : Int32) (s0 : Int32) (s1 : Int32) (I : sI) (J : sJ) : Prop :=
  (∀ v4_130 : Int32, v4_130 = s1 + s0 → (∀ v5_132 : Int32, v5_132 = x5 + 1 → k40 x1 x2 x3 v4_130 v5_132 I J))
set_option maxHeartbeats 4000000 in
set_option maxRecDepth 100000 in
theorem t_X11_chance_129 {X : sX} {post : Int32 → sI → sJ → Prop} (h : sOK X cX11_chance RX11 6 33 973) (hr : sRt X (some .int) (sPi post)) {k40 : Int32 → Int32 → Int32 → Int32 → Int32 → sI → sJ → Prop} (hk40 : ∀ (x1 : Int32) (x2 : Int32) (x3 : Int32) (x4 : Int32) (x5 : Int32) (I : sI) (J : sJ), k40 x1 x2 x3 x4 x5 I J → sG X 6 40 [(0, .ref 0), (1, .int x1), (2, .int x2), (3, .int x3), (4, .int x4), (5, .int x5)] [] I J) {x1 : Int32} {x2 : Int32} {x3 : Int32} {x5 : Int32} {s0 : Int32} {s1 : Int32} {I : sI} {J : sJ} (hw : w_X11_chance_129 post k40 x1 x2 x3 x5 s0 s1 I J) : sG X 6 129 [(0, .ref 0), (1, .int x1), (2, .int x2), (3, .int x3), (5, .int x5)] [.int s0, .int s1] I J := by
  unfold w_X11_chance_129 at hw
  refine g_iadd h dX11_chance_129 ?_
  refine g_ni (fun v4_130 ev4_130 => ?_)
  replace hw := hw v4_130 ev4_130
  refine g_istore (lo2 := [(4, .int v4_130), (0, .ref 0), (1, .int x1), (2, .int x2), (3, .int x3), (5, .int x5)]) h (by decide) rfl dX11_chance_130 ?_
  obtain ⟨v5_132, ev5_132⟩ : ∃ z : Int32, z = x5 + 1 := ⟨_, rfl⟩
  replace hw := hw v5_132 ev5_132
  refine g_iinc (v := v5_132) (lo2 := [(5, .int v5_132), (4, .int v4_130), (0, .ref 0), (1, .int x1), (2, .int x2), (3, .int x3)]) h 5 rfl (by rw [ev5_132]; rfl) (by decide) rfl dX11_chance_132 ?_
  refine g_goto (tgt := 40) h (by decide) dX11_chance_135 ?_
  exact g_sub [2, 3, 4, 5, 1, 0] rfl (hk40 _ _ _ _ _ _ _ hw)
def w_X11_chance_40_s (post : Int32 → sI → sJ → Prop) (k40 : Int32 → Int32 → Int32 → Int32 → Int32 → sI → sJ → Prop) (x1 : Int32) (x2 : Int32) (x3 : Int32) (x4 : Int32) (x5 : Int32) (I : sI) (J : sJ) : Prop :=
  ((x2 ≤ x5 → w_X6_take 134 136 I J (fun (I_146 : sI) (J_146 : sJ) => (post x4 I_146 J_146))) ∧ (¬ x2 ≤ x5 → w_X2_take 138 4 I J (fun (I_57 : sI) (J_57 : sJ) => (w_X11_shuffle 138 I_57 J_57 (fun (I_65 : sI) (J_65 : sJ) => (w_X11_read 138 x1 0 0 I_65 J_65 (fun (I_76 : sI) (J_76 : sJ) => (w_X5_tooMany I_76 J_76 (fun (r_83 : Int32) (I_83 : sI) (J_83 : sJ) => (((r_83 = 0 → w_X6_put 136 (Int32.toInt64 (I_83 220 2)) I_83 J_83 (fun (I_109 : sI) (J_109 : sJ) => ((((I_109 220 2) ≤ 0 → w_X11_chance_129 post k40 x1 x2 x3 x5 0 x4 I_109 J_109) ∧ (¬ (I_109 220 2) ≤ 0 → w_X11_chance_129 post k40 x1 x2 x3 x5 1 x4 I_109 J_109))))) ∧ (¬ r_83 = 0 → (∀ I_91 : sI, I_91 = sUI I_83 0 15 x3 → post (-3) I_91 J_83)))))))))))))
def w_X11_chance_40_n (post : Int32 → sI → sJ → Prop) : Nat → Int32 → Int32 → Int32 → Int32 → Int32 → sI → sJ → Prop
  | 0 => fun _ _ _ _ _ _ _ => False
  | n + 1 => fun x1 x2 x3 x4 x5 I J => w_X11_chance_40_s post (w_X11_chance_40_n post n) x1 x2 x3 x4 x5 I J
def w_X11_chance_40 (post : Int32 → sI → sJ → Prop) (x1 : Int32) (x2 : Int32) (x3 : Int32) (x4 : Int32) (x5 : Int32) (I : sI) (J : sJ) : Prop := ∃ n, w_X11_chance_40_n post n x1 x2 x3 x4 x5 I J
set_option maxHeartbeats 4000000 in
set_option maxRecDepth 100000 in
theorem t_X11_chance_40_s {X : sX} {post : Int32 → sI → sJ → Prop} (h : sOK X cX11_chance RX11 6 33 973) (hr : sRt X (some .int) (sPi post)) {k40 : Int32 → Int32 → Int32 → Int32 → Int32 → sI → sJ → Prop} (hk40 : ∀ (x1 : Int32) (x2 : Int32) (x3 : Int32) (x4 : Int32) (x5 : Int32) (I : sI) (J : sJ), k40 x1 x2 x3 x4 x5 I J → sG X 6 40 [(0, .ref 0), (1, .int x1), (2, .int x2), (3, .int x3), (4, .int x4), (5, .int x5)] [] I J) {x1 : Int32} {x2 : Int32} {x3 : Int32} {x4 : Int32} {x5 : Int32} {I : sI} {J : sJ} (hw : w_X11_chance_40_s post k40 x1 x2 x3 x4 x5 I J) : sG X 6 40 [(0, .ref 0), (1, .int x1), (2, .int x2), (3, .int x3), (4, .int x4), (5, .int x5)] [] I J := by
  unfold w_X11_chance_40_s at hw
  refine g_iload h 5 rfl dX11_chance_40 ?_
  refine g_iload_n h rfl 2 rfl dX11_chance_42 ?_
  refine g_icmp_ge (tgt := 138) h (by decide) dX11_chance_43 (fun q43 => ?_) (fun q43 => ?_)
  · replace hw := hw.1 q43
    refine g_aload_n h rfl 0 rfl dX11_chance_138 ?_
    refine g_get h is_0 fl_X11_41 fr_0_5 dX11_chance_139 ?_
    refine g_aload_n h rfl 0 rfl dX11_chance_142 ?_
    refine g_get h is_0 fl_X11_45 fr_0_6 dX11_chance_143 ?_
    refine g_callV [.ref 136] h (c_X6_take X is_134 is_136 hw) sPv_v mw_X6_take lk_X11_236 is_134 rfl rfl ⟨by decide, by decide⟩ (Nat.le_of_ble_eq_true rfl) dX11_chance_146 (sPv_k (fun I_146 J_146 hw => ?_))
    refine g_iload h 4 rfl dX11_chance_149 ?_
    exact g_iret h hr dX11_chance_151 hw
  · replace hw := hw.2 q43
    refine g_aload_n h rfl 0 rfl dX11_chance_46 ?_
    refine g_get h is_0 fl_X11_51 fr_0_7 dX11_chance_47 ?_
    refine g_aload_n h rfl 0 rfl dX11_chance_50 ?_
    refine g_get h is_0 fl_X11_19 fr_0_1 dX11_chance_51 ?_
    refine g_get h is_3 fl_X11_117 fr_3_0 dX11_chance_54 ?_
    refine g_callV [.ref 4] h (c_X2_take X is_138 is_4 hw) sPv_v mw_X2_take lk_X11_261 is_138 rfl rfl ⟨by decide, by decide⟩ (Nat.le_of_ble_eq_true rfl) dX11_chance_57 (sPv_k (fun I_57 J_57 hw => ?_))
    refine g_aload_n h rfl 0 rfl dX11_chance_60 ?_
    refine g_aload_n h rfl 0 rfl dX11_chance_61 ?_
    refine g_get h is_0 fl_X11_51 fr_0_7 dX11_chance_62 ?_
    refine g_callV [.ref 138] h (c_X11_shuffle X is_138 hw) sPv_v mw_X11_shuffle lk_X11_264 is_0 rfl rfl ⟨by decide, by decide⟩ (Nat.le_of_ble_eq_true rfl) dX11_chance_65 (sPv_k (fun I_65 J_65 hw => ?_))
    refine g_aload_n h rfl 0 rfl dX11_chance_68 ?_
    refine g_aload_n h rfl 0 rfl dX11_chance_69 ?_
    refine g_get h is_0 fl_X11_51 fr_0_7 dX11_chance_70 ?_
    refine g_iload_n h rfl 1 rfl dX11_chance_73 ?_
    refine g_iconst (v := 0) h (by decide) dX11_chance_74 ?_
    refine g_iconst (v := 0) h (by decide) dX11_chance_75 ?_
    refine g_callV [.ref 138, .int x1, .int 0, .int 0] h (c_X11_read X is_138 hw) sPv_v mw_X11_read lk_X11_185 is_0 rfl rfl ⟨by decide, by decide⟩ (Nat.le_of_ble_eq_true rfl) dX11_chance_76 (sPv_k (fun I_76 J_76 hw => ?_))
    refine g_aload_n h rfl 0 rfl dX11_chance_79 ?_
    refine g_get h is_0 fl_X11_67 fr_0_9 dX11_chance_80 ?_
    refine g_callV [] h (c_X5_tooMany X hw) sPi_v mw_X5_tooMany lk_X11_192 is_220 rfl rfl ⟨by decide, by decide⟩ (Nat.le_of_ble_eq_true rfl) dX11_chance_83 (sPi_k (fun r_83 I_83 J_83 hw => ?_))
    refine g_if_eq (tgt := 97) h (by decide) dX11_chance_86 (fun q86 => ?_) (fun q86 => ?_)
    · replace hw := hw.1 q86
      refine g_aload_n h rfl 0 rfl dX11_chance_97 ?_
      refine g_get h is_0 fl_X11_45 fr_0_6 dX11_chance_98 ?_
      refine g_aload_n h rfl 0 rfl dX11_chance_101 ?_
      refine g_get h is_0 fl_X11_67 fr_0_9 dX11_chance_102 ?_
      refine g_get h is_220 fl_X11_197 rfl dX11_chance_105 ?_
      refine g_i2l h dX11_chance_108 ?_
      refine g_callV [.long (Int32.toInt64 (I_83 220 2))] h (c_X6_put X is_136 hw) sPv_v mw_X6_put lk_X11_227 is_136 rfl rfl ⟨by decide, by decide⟩ (Nat.le_of_ble_eq_true rfl) dX11_chance_109 (sPv_k (fun I_109 J_109 hw => ?_))
      refine g_iload h 4 rfl dX11_chance_112 ?_
      refine g_aload_n h rfl 0 rfl dX11_chance_114 ?_
      refine g_get h is_0 fl_X11_67 fr_0_9 dX11_chance_115 ?_
      refine g_get h is_220 fl_X11_197 rfl dX11_chance_118 ?_
      refine g_if_le (tgt := 128) h (by decide) dX11_chance_121 (fun q121 => ?_) (fun q121 => ?_)
      · replace hw := hw.1 q121
        refine g_iconst (v := 0) h (by decide) dX11_chance_128 ?_
        exact g_sub [0, 1, 2, 3, 5] rfl (t_X11_chance_129 h hr hk40 hw)
      · replace hw := hw.2 q121
        refine g_iconst (v := 1) h (by decide) dX11_chance_124 ?_
        refine g_goto (tgt := 129) h (by decide) dX11_chance_125 ?_
        exact g_sub [0, 1, 2, 3, 5] rfl (t_X11_chance_129 h hr hk40 hw)
    · replace hw := hw.2 q86
      refine g_aload_n h rfl 0 rfl dX11_chance_89 ?_
      refine g_iload_n h rfl 3 rfl dX11_chance_90 ?_
      refine g_putI h is_0 fl_X11_99 rfl rfl dX11_chance_91 ?_
      refine g_nI (fun I_91 eI_91 => ?_)
      replace hw := hw I_91 eI_91
      refine g_bipush (v := (-3)) h (by decide) dX11_chance_94 ?_
      exact g_iret h hr dX11_chance_96 hw
theorem t_X11_chance_40 {X : sX} {post : Int32 → sI → sJ → Prop} (h : sOK X cX11_chance RX11 6 33 973) (hr : sRt X (some .int) (sPi post)) {x1 : Int32} {x2 : Int32} {x3 : Int32} {x4 : Int32} {x5 : Int32} {I : sI} {J : sJ} (hw : w_X11_chance_40 post x1 x2 x3 x4 x5 I J) : sG X 6 40 [(0, .ref 0), (1, .int x1), (2, .int x2), (3, .int x3), (4, .int x4), (5, .int x5)] [] I J := by
  obtain ⟨n, hw⟩ := hw
  induction n generalizing x1 x2 x3 x4 x5 I J with
  | zero => exact hw.elim
  | succ n ih => exact t_X11_chance_40_s h hr (fun _ _ _ _ _ _ _ q => ih q) hw
def w_X11_chance (a1 : Int32) (a2 : Int32) (I : sI) (J : sJ) (post : Int32 → sI → sJ → Prop) : Prop :=
  w_X11_cannotRead a1 I J (fun (r_2 : Int32) (I_2 : sI) (J_2 : sJ) => (((¬ r_2 = 0 → post (-1) I_2 J_2) ∧ (r_2 = 0 → ((a2 < 1 → post (-1) I_2 J_2) ∧ (¬ a2 < 1 → ((a2 ≤ 12 → (∀ v3_25 : Int32, v3_25 = I_2 0 15 → (∀ I_34 : sI, I_34 = sUI I_2 136 1 0 → w_X11_chance_40 post a1 a2 v3_25 0 0 I_34 J_2))) ∧ (¬ a2 ≤ 12 → post (-1) I_2 J_2))))))))
set_option maxHeartbeats 4000000 in
set_option maxRecDepth 100000 in
theorem t_X11_chance {X : sX} {a1 : Int32} {a2 : Int32} {I : sI} {J : sJ} {post : Int32 → sI → sJ → Prop} (h : sOK X cX11_chance RX11 6 33 973) (hr : sRt X (some .int) (sPi post)) (hw : w_X11_chance a1 a2 I J post) : sG X 6 0 [(0, .ref 0), (1, .int a1), (2, .int a2)] [] I J := by
  unfold w_X11_chance at hw
  refine g_aload_n h rfl 0 rfl dX11_chance_0 ?_
  refine g_iload_n h rfl 1 rfl dX11_chance_1 ?_
  refine g_callV [.int a1] h (c_X11_cannotRead X hw) sPi_v mw_X11_cannotRead lk_X11_182 is_0 rfl rfl ⟨by decide, by decide⟩ (Nat.le_of_ble_eq_true rfl) dX11_chance_2 (sPi_k (fun r_2 I_2 J_2 hw => ?_))
  refine g_if_ne (tgt := 19) h (by decide) dX11_chance_5 (fun q5 => ?_) (fun q5 => ?_)
  · replace hw := hw.1 q5
    refine g_iconst (v := (-1)) h (by decide) dX11_chance_19 ?_
    exact g_iret h hr dX11_chance_20 hw
  · replace hw := hw.2 q5
    refine g_iload_n h rfl 2 rfl dX11_chance_8 ?_
    refine g_iconst (v := 1) h (by decide) dX11_chance_9 ?_
    refine g_icmp_lt (tgt := 19) h (by decide) dX11_chance_10 (fun q10 => ?_) (fun q10 => ?_)
    · replace hw := hw.1 q10
      refine g_iconst (v := (-1)) h (by decide) dX11_chance_19 ?_
      exact g_iret h hr dX11_chance_20 hw
    · replace hw := hw.2 q10
      refine g_iload_n h rfl 2 rfl dX11_chance_13 ?_
      refine g_bipush (v := 12) h (by decide) dX11_chance_14 ?_
      refine g_icmp_le (tgt := 21) h (by decide) dX11_chance_16 (fun q16 => ?_) (fun q16 => ?_)
      · replace hw := hw.1 q16
        refine g_aload_n h rfl 0 rfl dX11_chance_21 ?_
        refine g_get h is_0 fl_X11_99 rfl dX11_chance_22 ?_
        refine g_ni (fun v3_25 ev3_25 => ?_)
        replace hw := hw v3_25 ev3_25
        refine g_istore_n (lo2 := [(3, .int v3_25), (0, .ref 0), (1, .int a1), (2, .int a2)]) h rfl (by decide) rfl dX11_chance_25 ?_
        refine g_iconst (v := 0) h (by decide) dX11_chance_26 ?_
        refine g_istore (lo2 := [(4, .int 0), (3, .int v3_25), (0, .ref 0), (1, .int a1), (2, .int a2)]) h (by decide) rfl dX11_chance_27 ?_
        refine g_aload_n h rfl 2 rfl dX11_chance_29 ?_
        refine g_get h is_0 fl_X11_45 fr_0_6 dX11_chance_30 ?_
        refine g_iconst (v := 0) h (by decide) dX11_chance_33 ?_
        refine g_putI h is_136 fl_X11_196 rfl rfl dX11_chance_34 ?_
        refine g_nI (fun I_34 eI_34 => ?_)
        replace hw := hw I_34 eI_34
        refine g_iconst (v := 0) h (by decide) dX11_chance_37 ?_
        refine g_istore (lo2 := [(5, .int 0), (4, .int 0), (3, .int v3_25), (0, .ref 0), (1, .int a1), (2, .int a2)]) h (by decide) rfl dX11_chance_38 ?_
        exact g_sub [3, 4, 5, 2, 1, 0] rfl (t_X11_chance_40 h hr hw)
      · replace hw := hw.2 q16
        refine g_iconst (v := (-1)) h (by decide) dX11_chance_19 ?_
        exact g_iret h hr dX11_chance_20 hw
theorem c_X11_chance (X : sX) {a1 : Int32} {a2 : Int32} {I : sI} {J : sJ} {post : Int32 → sI → sJ → Prop} (hw : w_X11_chance a1 a2 I J post) : sCall X yX11_chance cX11_chance 6 (some .int) 33 973 [.ref 0, .int a1, .int a2] I J (sPi post) := sCall_of (by decide +kernel) (Nat.le_of_ble_eq_true rfl) (fun X h hr => t_X11_chance h hr hw)
theorem dX11_next_0 : decode cX11_next 0 = .ok (.aload_n 0, 1) := by decide +kernel
theorem dX11_next_1 : decode cX11_next 1 = .ok (.iload_n 1, 1) := by decide +kernel
theorem dX11_next_2 : decode cX11_next 2 = .ok (.invokevirtual 182, 3) := by decide +kernel
theorem dX11_next_5 : decode cX11_next 5 = .ok (.ifCond .eq 5, 3) := by decide +kernel
theorem dX11_next_8 : decode cX11_next 8 = .ok (.iconst (-1), 1) := by decide +kernel
theorem dX11_next_9 : decode cX11_next 9 = .ok (.ireturn, 1) := by decide +kernel
theorem dX11_next_10 : decode cX11_next 10 = .ok (.aload_n 0, 1) := by decide +kernel
theorem dX11_next_11 : decode cX11_next 11 = .ok (.aload_n 0, 1) := by decide +kernel
theorem dX11_next_12 : decode cX11_next 12 = .ok (.getfield 19, 3) := by decide +kernel
theorem dX11_next_15 : decode cX11_next 15 = .ok (.getfield 117, 3) := by decide +kernel
theorem dX11_next_18 : decode cX11_next 18 = .ok (.iload_n 1, 1) := by decide +kernel
theorem dX11_next_19 : decode cX11_next 19 = .ok (.iconst 1, 1) := by decide +kernel
theorem dX11_next_20 : decode cX11_next 20 = .ok (.iconst 0, 1) := by decide +kernel
theorem dX11_next_21 : decode cX11_next 21 = .ok (.invokevirtual 185, 3) := by decide +kernel
theorem dX11_next_24 : decode cX11_next 24 = .ok (.aload_n 0, 1) := by decide +kernel
theorem dX11_next_25 : decode cX11_next 25 = .ok (.getfield 67, 3) := by decide +kernel
theorem dX11_next_28 : decode cX11_next 28 = .ok (.invokevirtual 192, 3) := by decide +kernel
theorem dX11_next_31 : decode cX11_next 31 = .ok (.ifCond .eq 6, 3) := by decide +kernel
theorem dX11_next_34 : decode cX11_next 34 = .ok (.bipush (-3), 2) := by decide +kernel
theorem dX11_next_36 : decode cX11_next 36 = .ok (.ireturn, 1) := by decide +kernel
theorem dX11_next_37 : decode cX11_next 37 = .ok (.bipush (-2), 2) := by decide +kernel
theorem dX11_next_39 : decode cX11_next 39 = .ok (.istore_n 2, 1) := by decide +kernel
theorem dX11_next_40 : decode cX11_next 40 = .ok (.iconst 0, 1) := by decide +kernel
theorem dX11_next_41 : decode cX11_next 41 = .ok (.istore_n 3, 1) := by decide +kernel
theorem dX11_next_42 : decode cX11_next 42 = .ok (.iconst 0, 1) := by decide +kernel
theorem dX11_next_43 : decode cX11_next 43 = .ok (.istore 4, 2) := by decide +kernel
theorem dX11_next_45 : decode cX11_next 45 = .ok (.iload 4, 2) := by decide +kernel
theorem dX11_next_47 : decode cX11_next 47 = .ok (.bipush 12, 2) := by decide +kernel
theorem dX11_next_49 : decode cX11_next 49 = .ok (.if_icmp .ge 43, 3) := by decide +kernel
theorem dX11_next_52 : decode cX11_next 52 = .ok (.aload_n 0, 1) := by decide +kernel
theorem dX11_next_53 : decode cX11_next 53 = .ok (.getfield 67, 3) := by decide +kernel
theorem dX11_next_56 : decode cX11_next 56 = .ok (.iload 4, 2) := by decide +kernel
theorem dX11_next_58 : decode cX11_next 58 = .ok (.invokevirtual 267, 3) := by decide +kernel
theorem dX11_next_61 : decode cX11_next 61 = .ok (.istore 5, 2) := by decide +kernel
theorem dX11_next_63 : decode cX11_next 63 = .ok (.iload 5, 2) := by decide +kernel
theorem dX11_next_65 : decode cX11_next 65 = .ok (.ifCond .le 21, 3) := by decide +kernel
theorem dX11_next_68 : decode cX11_next 68 = .ok (.iload_n 2, 1) := by decide +kernel
theorem dX11_next_69 : decode cX11_next 69 = .ok (.bipush (-2), 2) := by decide +kernel
theorem dX11_next_71 : decode cX11_next 71 = .ok (.if_icmp .eq 9, 3) := by decide +kernel
theorem dX11_next_74 : decode cX11_next 74 = .ok (.iload 5, 2) := by decide +kernel
theorem dX11_next_76 : decode cX11_next 76 = .ok (.iload_n 3, 1) := by decide +kernel
theorem dX11_next_77 : decode cX11_next 77 = .ok (.if_icmp .ge 9, 3) := by decide +kernel
theorem dX11_next_80 : decode cX11_next 80 = .ok (.iload 4, 2) := by decide +kernel
theorem dX11_next_82 : decode cX11_next 82 = .ok (.istore_n 2, 1) := by decide +kernel
theorem dX11_next_83 : decode cX11_next 83 = .ok (.iload 5, 2) := by decide +kernel
theorem dX11_next_85 : decode cX11_next 85 = .ok (.istore_n 3, 1) := by decide +kernel
theorem dX11_next_86 : decode cX11_next 86 = .ok (.iinc 4 1, 3) := by decide +kernel
theorem dX11_next_89 : decode cX11_next 89 = .ok (.goto (-44), 3) := by decide +kernel
theorem dX11_next_92 : decode cX11_next 92 = .ok (.iload_n 2, 1) := by decide +kernel
theorem dX11_next_93 : decode cX11_next 93 = .ok (.bipush (-2), 2) := by decide +kernel
theorem dX11_next_95 : decode cX11_next 95 = .ok (.if_icmp .eq 12, 3) := by decide +kernel
theorem dX11_next_98 : decode cX11_next 98 = .ok (.aload_n 0, 1) := by decide +kernel
theorem dX11_next_99 : decode cX11_next 99 = .ok (.getfield 41, 3) := by decide +kernel
theorem dX11_next_102 : decode cX11_next 102 = .ok (.iload_n 3, 1) := by decide +kernel
theorem dX11_next_103 : decode cX11_next 103 = .ok (.i2l, 1) := by decide +kernel
theorem dX11_next_104 : decode cX11_next 104 = .ok (.invokevirtual 256, 3) := by decide +kernel
theorem dX11_next_107 : decode cX11_next 107 = .ok (.iload_n 2, 1) := by decide +kernel
theorem dX11_next_108 : decode cX11_next 108 = .ok (.ireturn, 1) := by decide +kernel
def w_X11_next_86 (post : Int32 → sI → sJ → Prop) (k45 : Int32 → Int32 → Int32 → sI → sJ → Prop) (x2 : Int32) (x3 : Int32) (x4 : Int32) (I : sI) (J : sJ) : Prop :=
  (∀ v4_86 : Int32, v4_86 = x4 + 1 → k45 x2 x3 v4_86 I J)
set_option maxHeartbeats 4000000 in
set_option maxRecDepth 100000 in
theorem t_X11_next_86 {X : sX} {post : Int32 → sI → sJ → Prop} (h : sOK X cX11_next RX11 6 33 973) (hr : sRt X (some .int) (sPi post)) {k45 : Int32 → Int32 → Int32 → sI → sJ → Prop} (hk45 : ∀ (x2 : Int32) (x3 : Int32) (x4 : Int32) (I : sI) (J : sJ), k45 x2 x3 x4 I J → sG X 6 45 [(0, .ref 0), (2, .int x2), (3, .int x3), (4, .int x4)] [] I J) {x2 : Int32} {x3 : Int32} {x4 : Int32} {I : sI} {J : sJ} (hw : w_X11_next_86 post k45 x2 x3 x4 I J) : sG X 6 86 [(0, .ref 0), (2, .int x2), (3, .int x3), (4, .int x4)] [] I J := by
  unfold w_X11_next_86 at hw
  obtain ⟨v4_86, ev4_86⟩ : ∃ z : Int32, z = x4 + 1 := ⟨_, rfl⟩
  replace hw := hw v4_86 ev4_86
  refine g_iinc (v := v4_86) (lo2 := [(4, .int v4_86), (0, .ref 0), (2, .int x2), (3, .int x3)]) h 3 rfl (by rw [ev4_86]; rfl) (by decide) rfl dX11_next_86 ?_
  refine g_goto (tgt := 45) h (by decide) dX11_next_89 ?_
  exact g_sub [1, 2, 3, 0] rfl (hk45 _ _ _ _ _ hw)
def w_X11_next_80 (post : Int32 → sI → sJ → Prop) (k45 : Int32 → Int32 → Int32 → sI → sJ → Prop) (x4 : Int32) (x5 : Int32) (I : sI) (J : sJ) : Prop :=
  w_X11_next_86 post k45 x4 x5 x4 I J
set_option maxHeartbeats 4000000 in
set_option maxRecDepth 100000 in
theorem t_X11_next_80 {X : sX} {post : Int32 → sI → sJ → Prop} (h : sOK X cX11_next RX11 6 33 973) (hr : sRt X (some .int) (sPi post)) {k45 : Int32 → Int32 → Int32 → sI → sJ → Prop} (hk45 : ∀ (x2 : Int32) (x3 : Int32) (x4 : Int32) (I : sI) (J : sJ), k45 x2 x3 x4 I J → sG X 6 45 [(0, .ref 0), (2, .int x2), (3, .int x3), (4, .int x4)] [] I J) {x4 : Int32} {x5 : Int32} {I : sI} {J : sJ} (hw : w_X11_next_80 post k45 x4 x5 I J) : sG X 6 80 [(0, .ref 0), (4, .int x4), (5, .int x5)] [] I J := by
  unfold w_X11_next_80 at hw
  refine g_iload h 1 rfl dX11_next_80 ?_
  refine g_istore_n (lo2 := [(2, .int x4), (0, .ref 0), (4, .int x4), (5, .int x5)]) h rfl (by decide) rfl dX11_next_82 ?_
  refine g_iload h 3 rfl dX11_next_83 ?_
  refine g_istore_n (lo2 := [(3, .int x5), (2, .int x4), (0, .ref 0), (4, .int x4), (5, .int x5)]) h rfl (by decide) rfl dX11_next_85 ?_
  exact g_sub [2, 1, 0, 3] rfl (t_X11_next_86 h hr hk45 hw)
def w_X11_next_45_s (post : Int32 → sI → sJ → Prop) (k45 : Int32 → Int32 → Int32 → sI → sJ → Prop) (x2 : Int32) (x3 : Int32) (x4 : Int32) (I : sI) (J : sJ) : Prop :=
  ((12 ≤ x4 → ((x2 = (-2) → post x2 I J) ∧ (¬ x2 = (-2) → w_X6_tell 134 (Int32.toInt64 x3) I J (fun (I_104 : sI) (J_104 : sJ) => (post x2 I_104 J_104))))) ∧ (¬ 12 ≤ x4 → w_X5_worstOf x4 I J (fun (r_58 : Int32) (I_58 : sI) (J_58 : sJ) => (((r_58 ≤ 0 → w_X11_next_86 post k45 x2 x3 x4 I_58 J_58) ∧ (¬ r_58 ≤ 0 → ((x2 = (-2) → w_X11_next_80 post k45 x4 r_58 I_58 J_58) ∧ (¬ x2 = (-2) → ((x3 ≤ r_58 → w_X11_next_86 post k45 x2 x3 x4 I_58 J_58) ∧ (¬ x3 ≤ r_58 → w_X11_next_80 post k45 x4 r_58 I_58 J_58))))))))))
def w_X11_next_45_n (post : Int32 → sI → sJ → Prop) : Nat → Int32 → Int32 → Int32 → sI → sJ → Prop
  | 0 => fun _ _ _ _ _ => False
  | n + 1 => fun x2 x3 x4 I J => w_X11_next_45_s post (w_X11_next_45_n post n) x2 x3 x4 I J
def w_X11_next_45 (post : Int32 → sI → sJ → Prop) (x2 : Int32) (x3 : Int32) (x4 : Int32) (I : sI) (J : sJ) : Prop := ∃ n, w_X11_next_45_n post n x2 x3 x4 I J
set_option maxHeartbeats 4000000 in
set_option maxRecDepth 100000 in
theorem t_X11_next_45_s {X : sX} {post : Int32 → sI → sJ → Prop} (h : sOK X cX11_next RX11 6 33 973) (hr : sRt X (some .int) (sPi post)) {k45 : Int32 → Int32 → Int32 → sI → sJ → Prop} (hk45 : ∀ (x2 : Int32) (x3 : Int32) (x4 : Int32) (I : sI) (J : sJ), k45 x2 x3 x4 I J → sG X 6 45 [(0, .ref 0), (2, .int x2), (3, .int x3), (4, .int x4)] [] I J) {x2 : Int32} {x3 : Int32} {x4 : Int32} {I : sI} {J : sJ} (hw : w_X11_next_45_s post k45 x2 x3 x4 I J) : sG X 6 45 [(0, .ref 0), (2, .int x2), (3, .int x3), (4, .int x4)] [] I J := by
  unfold w_X11_next_45_s at hw
  refine g_iload h 3 rfl dX11_next_45 ?_
  refine g_bipush (v := 12) h (by decide) dX11_next_47 ?_
  refine g_icmp_ge (tgt := 92) h (by decide) dX11_next_49 (fun q49 => ?_) (fun q49 => ?_)
  · replace hw := hw.1 q49
    refine g_iload_n h rfl 1 rfl dX11_next_92 ?_
    refine g_bipush (v := (-2)) h (by decide) dX11_next_93 ?_
    refine g_icmp_eq (tgt := 107) h (by decide) dX11_next_95 (fun q95 => ?_) (fun q95 => ?_)
    · replace hw := hw.1 q95
      refine g_iload_n h rfl 1 rfl dX11_next_107 ?_
      exact g_iret h hr dX11_next_108 hw
    · replace hw := hw.2 q95
      refine g_aload_n h rfl 0 rfl dX11_next_98 ?_
      refine g_get h is_0 fl_X11_41 fr_0_5 dX11_next_99 ?_
      refine g_iload_n h rfl 2 rfl dX11_next_102 ?_
      refine g_i2l h dX11_next_103 ?_
      refine g_callV [.long (Int32.toInt64 x3)] h (c_X6_tell X is_134 hw) sPv_v mw_X6_tell lk_X11_256 is_134 rfl rfl ⟨by decide, by decide⟩ (Nat.le_of_ble_eq_true rfl) dX11_next_104 (sPv_k (fun I_104 J_104 hw => ?_))
      refine g_iload_n h rfl 1 rfl dX11_next_107 ?_
      exact g_iret h hr dX11_next_108 hw
  · replace hw := hw.2 q49
    refine g_aload_n h rfl 0 rfl dX11_next_52 ?_
    refine g_get h is_0 fl_X11_67 fr_0_9 dX11_next_53 ?_
    refine g_iload h 3 rfl dX11_next_56 ?_
    refine g_callV [.int x4] h (c_X5_worstOf X hw) sPi_v mw_X5_worstOf lk_X11_267 is_220 rfl rfl ⟨by decide, by decide⟩ (Nat.le_of_ble_eq_true rfl) dX11_next_58 (sPi_k (fun r_58 I_58 J_58 hw => ?_))
    refine g_istore (lo2 := [(5, .int r_58), (0, .ref 0), (2, .int x2), (3, .int x3), (4, .int x4)]) h (by decide) rfl dX11_next_61 ?_
    refine g_iload h 0 rfl dX11_next_63 ?_
    refine g_if_le (tgt := 86) h (by decide) dX11_next_65 (fun q65 => ?_) (fun q65 => ?_)
    · replace hw := hw.1 q65
      exact g_sub [1, 2, 3, 4] rfl (t_X11_next_86 h hr hk45 hw)
    · replace hw := hw.2 q65
      refine g_iload_n h rfl 2 rfl dX11_next_68 ?_
      refine g_bipush (v := (-2)) h (by decide) dX11_next_69 ?_
      refine g_icmp_eq (tgt := 80) h (by decide) dX11_next_71 (fun q71 => ?_) (fun q71 => ?_)
      · replace hw := hw.1 q71
        exact g_sub [1, 4, 0] rfl (t_X11_next_80 h hr hk45 hw)
      · replace hw := hw.2 q71
        refine g_iload h 0 rfl dX11_next_74 ?_
        refine g_iload_n h rfl 3 rfl dX11_next_76 ?_
        refine g_icmp_ge (tgt := 86) h (by decide) dX11_next_77 (fun q77 => ?_) (fun q77 => ?_)
        · replace hw := hw.1 q77
          exact g_sub [1, 2, 3, 4] rfl (t_X11_next_86 h hr hk45 hw)
        · replace hw := hw.2 q77
          exact g_sub [1, 4, 0] rfl (t_X11_next_80 h hr hk45 hw)
theorem t_X11_next_45 {X : sX} {post : Int32 → sI → sJ → Prop} (h : sOK X cX11_next RX11 6 33 973) (hr : sRt X (some .int) (sPi post)) {x2 : Int32} {x3 : Int32} {x4 : Int32} {I : sI} {J : sJ} (hw : w_X11_next_45 post x2 x3 x4 I J) : sG X 6 45 [(0, .ref 0), (2, .int x2), (3, .int x3), (4, .int x4)] [] I J := by
  obtain ⟨n, hw⟩ := hw
  induction n generalizing x2 x3 x4 I J with
  | zero => exact hw.elim
  | succ n ih => exact t_X11_next_45_s h hr (fun _ _ _ _ _ q => ih q) hw
def w_X11_next (a1 : Int32) (I : sI) (J : sJ) (post : Int32 → sI → sJ → Prop) : Prop :=
  w_X11_cannotRead a1 I J (fun (r_2 : Int32) (I_2 : sI) (J_2 : sJ) => (((r_2 = 0 → w_X11_read 4 a1 1 0 I_2 J_2 (fun (I_21 : sI) (J_21 : sJ) => (w_X5_tooMany I_21 J_21 (fun (r_28 : Int32) (I_28 : sI) (J_28 : sJ) => (((r_28 = 0 → w_X11_next_45 post (-2) 0 0 I_28 J_28) ∧ (¬ r_28 = 0 → post (-3) I_28 J_28))))))) ∧ (¬ r_2 = 0 → post (-1) I_2 J_2))))
set_option maxHeartbeats 4000000 in
set_option maxRecDepth 100000 in
theorem t_X11_next {X : sX} {a1 : Int32} {I : sI} {J : sJ} {post : Int32 → sI → sJ → Prop} (h : sOK X cX11_next RX11 6 33 973) (hr : sRt X (some .int) (sPi post)) (hw : w_X11_next a1 I J post) : sG X 6 0 [(0, .ref 0), (1, .int a1)] [] I J := by
  unfold w_X11_next at hw
  refine g_aload_n h rfl 0 rfl dX11_next_0 ?_
  refine g_iload_n h rfl 1 rfl dX11_next_1 ?_
  refine g_callV [.int a1] h (c_X11_cannotRead X hw) sPi_v mw_X11_cannotRead lk_X11_182 is_0 rfl rfl ⟨by decide, by decide⟩ (Nat.le_of_ble_eq_true rfl) dX11_next_2 (sPi_k (fun r_2 I_2 J_2 hw => ?_))
  refine g_if_eq (tgt := 10) h (by decide) dX11_next_5 (fun q5 => ?_) (fun q5 => ?_)
  · replace hw := hw.1 q5
    refine g_aload_n h rfl 0 rfl dX11_next_10 ?_
    refine g_aload_n h rfl 0 rfl dX11_next_11 ?_
    refine g_get h is_0 fl_X11_19 fr_0_1 dX11_next_12 ?_
    refine g_get h is_3 fl_X11_117 fr_3_0 dX11_next_15 ?_
    refine g_iload_n h rfl 1 rfl dX11_next_18 ?_
    refine g_iconst (v := 1) h (by decide) dX11_next_19 ?_
    refine g_iconst (v := 0) h (by decide) dX11_next_20 ?_
    refine g_callV [.ref 4, .int a1, .int 1, .int 0] h (c_X11_read X is_4 hw) sPv_v mw_X11_read lk_X11_185 is_0 rfl rfl ⟨by decide, by decide⟩ (Nat.le_of_ble_eq_true rfl) dX11_next_21 (sPv_k (fun I_21 J_21 hw => ?_))
    refine g_aload_n h rfl 0 rfl dX11_next_24 ?_
    refine g_get h is_0 fl_X11_67 fr_0_9 dX11_next_25 ?_
    refine g_callV [] h (c_X5_tooMany X hw) sPi_v mw_X5_tooMany lk_X11_192 is_220 rfl rfl ⟨by decide, by decide⟩ (Nat.le_of_ble_eq_true rfl) dX11_next_28 (sPi_k (fun r_28 I_28 J_28 hw => ?_))
    refine g_if_eq (tgt := 37) h (by decide) dX11_next_31 (fun q31 => ?_) (fun q31 => ?_)
    · replace hw := hw.1 q31
      refine g_bipush (v := (-2)) h (by decide) dX11_next_37 ?_
      refine g_istore_n (lo2 := [(2, .int (-2)), (0, .ref 0), (1, .int a1)]) h rfl (by decide) rfl dX11_next_39 ?_
      refine g_iconst (v := 0) h (by decide) dX11_next_40 ?_
      refine g_istore_n (lo2 := [(3, .int 0), (2, .int (-2)), (0, .ref 0), (1, .int a1)]) h rfl (by decide) rfl dX11_next_41 ?_
      refine g_iconst (v := 0) h (by decide) dX11_next_42 ?_
      refine g_istore (lo2 := [(4, .int 0), (3, .int 0), (2, .int (-2)), (0, .ref 0), (1, .int a1)]) h (by decide) rfl dX11_next_43 ?_
      exact g_sub [3, 2, 1, 0] rfl (t_X11_next_45 h hr hw)
    · replace hw := hw.2 q31
      refine g_bipush (v := (-3)) h (by decide) dX11_next_34 ?_
      exact g_iret h hr dX11_next_36 hw
  · replace hw := hw.2 q5
    refine g_iconst (v := (-1)) h (by decide) dX11_next_8 ?_
    exact g_iret h hr dX11_next_9 hw
theorem c_X11_next (X : sX) {a1 : Int32} {I : sI} {J : sJ} {post : Int32 → sI → sJ → Prop} (hw : w_X11_next a1 I J post) : sCall X yX11_next cX11_next 6 (some .int) 33 973 [.ref 0, .int a1] I J (sPi post) := sCall_of (by decide +kernel) (Nat.le_of_ble_eq_true rfl) (fun X h hr => t_X11_next h hr hw)
theorem dX11_blind_0 : decode cX11_blind 0 = .ok (.aload_n 0, 1) := by decide +kernel
theorem dX11_blind_1 : decode cX11_blind 1 = .ok (.iload_n 1, 1) := by decide +kernel
theorem dX11_blind_2 : decode cX11_blind 2 = .ok (.invokevirtual 182, 3) := by decide +kernel
theorem dX11_blind_5 : decode cX11_blind 5 = .ok (.ifCond .ne 14, 3) := by decide +kernel
theorem dX11_blind_8 : decode cX11_blind 8 = .ok (.iload_n 2, 1) := by decide +kernel
theorem dX11_blind_9 : decode cX11_blind 9 = .ok (.ifCond .lt 10, 3) := by decide +kernel
theorem dX11_blind_12 : decode cX11_blind 12 = .ok (.iload_n 2, 1) := by decide +kernel
theorem dX11_blind_13 : decode cX11_blind 13 = .ok (.sipush 4096, 3) := by decide +kernel
theorem dX11_blind_16 : decode cX11_blind 16 = .ok (.if_icmp .lt 5, 3) := by decide +kernel
theorem dX11_blind_19 : decode cX11_blind 19 = .ok (.iconst (-1), 1) := by decide +kernel
theorem dX11_blind_20 : decode cX11_blind 20 = .ok (.ireturn, 1) := by decide +kernel
theorem dX11_blind_21 : decode cX11_blind 21 = .ok (.aload_n 0, 1) := by decide +kernel
theorem dX11_blind_22 : decode cX11_blind 22 = .ok (.getfield 51, 3) := by decide +kernel
theorem dX11_blind_25 : decode cX11_blind 25 = .ok (.aload_n 0, 1) := by decide +kernel
theorem dX11_blind_26 : decode cX11_blind 26 = .ok (.getfield 19, 3) := by decide +kernel
theorem dX11_blind_29 : decode cX11_blind 29 = .ok (.getfield 117, 3) := by decide +kernel
theorem dX11_blind_32 : decode cX11_blind 32 = .ok (.invokevirtual 261, 3) := by decide +kernel
theorem dX11_blind_35 : decode cX11_blind 35 = .ok (.aload_n 0, 1) := by decide +kernel
theorem dX11_blind_36 : decode cX11_blind 36 = .ok (.getfield 51, 3) := by decide +kernel
theorem dX11_blind_39 : decode cX11_blind 39 = .ok (.iload_n 2, 1) := by decide +kernel
theorem dX11_blind_40 : decode cX11_blind 40 = .ok (.invokevirtual 270, 3) := by decide +kernel
theorem dX11_blind_43 : decode cX11_blind 43 = .ok (.aload_n 0, 1) := by decide +kernel
theorem dX11_blind_44 : decode cX11_blind 44 = .ok (.aload_n 0, 1) := by decide +kernel
theorem dX11_blind_45 : decode cX11_blind 45 = .ok (.getfield 51, 3) := by decide +kernel
theorem dX11_blind_48 : decode cX11_blind 48 = .ok (.iload_n 1, 1) := by decide +kernel
theorem dX11_blind_49 : decode cX11_blind 49 = .ok (.iconst 0, 1) := by decide +kernel
theorem dX11_blind_50 : decode cX11_blind 50 = .ok (.iconst 0, 1) := by decide +kernel
theorem dX11_blind_51 : decode cX11_blind 51 = .ok (.invokevirtual 185, 3) := by decide +kernel
theorem dX11_blind_54 : decode cX11_blind 54 = .ok (.aload_n 0, 1) := by decide +kernel
theorem dX11_blind_55 : decode cX11_blind 55 = .ok (.getfield 67, 3) := by decide +kernel
theorem dX11_blind_58 : decode cX11_blind 58 = .ok (.invokevirtual 192, 3) := by decide +kernel
theorem dX11_blind_61 : decode cX11_blind 61 = .ok (.ifCond .eq 8, 3) := by decide +kernel
theorem dX11_blind_64 : decode cX11_blind 64 = .ok (.bipush (-3), 2) := by decide +kernel
theorem dX11_blind_66 : decode cX11_blind 66 = .ok (.goto 10, 3) := by decide +kernel
theorem dX11_blind_69 : decode cX11_blind 69 = .ok (.aload_n 0, 1) := by decide +kernel
theorem dX11_blind_70 : decode cX11_blind 70 = .ok (.getfield 67, 3) := by decide +kernel
theorem dX11_blind_73 : decode cX11_blind 73 = .ok (.getfield 197, 3) := by decide +kernel
theorem dX11_blind_76 : decode cX11_blind 76 = .ok (.ireturn, 1) := by decide +kernel
def w_X11_blind (a1 : Int32) (a2 : Int32) (I : sI) (J : sJ) (post : Int32 → sI → sJ → Prop) : Prop :=
  w_X11_cannotRead a1 I J (fun (r_2 : Int32) (I_2 : sI) (J_2 : sJ) => (((¬ r_2 = 0 → post (-1) I_2 J_2) ∧ (r_2 = 0 → ((a2 < 0 → post (-1) I_2 J_2) ∧ (¬ a2 < 0 → ((a2 < 4096 → w_X2_take 138 4 I_2 J_2 (fun (I_32 : sI) (J_32 : sJ) => (w_X2_hide 138 a2 I_32 J_32 (fun (I_40 : sI) (J_40 : sJ) => (w_X11_read 138 a1 0 0 I_40 J_40 (fun (I_51 : sI) (J_51 : sJ) => (w_X5_tooMany I_51 J_51 (fun (r_58 : Int32) (I_58 : sI) (J_58 : sJ) => (((r_58 = 0 → post (I_58 220 2) I_58 J_58) ∧ (¬ r_58 = 0 → post (-3) I_58 J_58))))))))))) ∧ (¬ a2 < 4096 → post (-1) I_2 J_2))))))))
set_option maxHeartbeats 4000000 in
set_option maxRecDepth 100000 in
theorem t_X11_blind {X : sX} {a1 : Int32} {a2 : Int32} {I : sI} {J : sJ} {post : Int32 → sI → sJ → Prop} (h : sOK X cX11_blind RX11 3 33 973) (hr : sRt X (some .int) (sPi post)) (hw : w_X11_blind a1 a2 I J post) : sG X 3 0 [(0, .ref 0), (1, .int a1), (2, .int a2)] [] I J := by
  unfold w_X11_blind at hw
  refine g_aload_n h rfl 0 rfl dX11_blind_0 ?_
  refine g_iload_n h rfl 1 rfl dX11_blind_1 ?_
  refine g_callV [.int a1] h (c_X11_cannotRead X hw) sPi_v mw_X11_cannotRead lk_X11_182 is_0 rfl rfl ⟨by decide, by decide⟩ (Nat.le_of_ble_eq_true rfl) dX11_blind_2 (sPi_k (fun r_2 I_2 J_2 hw => ?_))
  refine g_if_ne (tgt := 19) h (by decide) dX11_blind_5 (fun q5 => ?_) (fun q5 => ?_)
  · replace hw := hw.1 q5
    refine g_iconst (v := (-1)) h (by decide) dX11_blind_19 ?_
    exact g_iret h hr dX11_blind_20 hw
  · replace hw := hw.2 q5
    refine g_iload_n h rfl 2 rfl dX11_blind_8 ?_
    refine g_if_lt (tgt := 19) h (by decide) dX11_blind_9 (fun q9 => ?_) (fun q9 => ?_)
    · replace hw := hw.1 q9
      refine g_iconst (v := (-1)) h (by decide) dX11_blind_19 ?_
      exact g_iret h hr dX11_blind_20 hw
    · replace hw := hw.2 q9
      refine g_iload_n h rfl 2 rfl dX11_blind_12 ?_
      refine g_sipush (v := 4096) h (by decide) dX11_blind_13 ?_
      refine g_icmp_lt (tgt := 21) h (by decide) dX11_blind_16 (fun q16 => ?_) (fun q16 => ?_)
      · replace hw := hw.1 q16
        refine g_aload_n h rfl 0 rfl dX11_blind_21 ?_
        refine g_get h is_0 fl_X11_51 fr_0_7 dX11_blind_22 ?_
        refine g_aload_n h rfl 0 rfl dX11_blind_25 ?_
        refine g_get h is_0 fl_X11_19 fr_0_1 dX11_blind_26 ?_
        refine g_get h is_3 fl_X11_117 fr_3_0 dX11_blind_29 ?_
        refine g_callV [.ref 4] h (c_X2_take X is_138 is_4 hw) sPv_v mw_X2_take lk_X11_261 is_138 rfl rfl ⟨by decide, by decide⟩ (Nat.le_of_ble_eq_true rfl) dX11_blind_32 (sPv_k (fun I_32 J_32 hw => ?_))
        refine g_aload_n h rfl 0 rfl dX11_blind_35 ?_
        refine g_get h is_0 fl_X11_51 fr_0_7 dX11_blind_36 ?_
        refine g_iload_n h rfl 2 rfl dX11_blind_39 ?_
        refine g_callV [.int a2] h (c_X2_hide X is_138 hw) sPv_v mw_X2_hide lk_X11_270 is_138 rfl rfl ⟨by decide, by decide⟩ (Nat.le_of_ble_eq_true rfl) dX11_blind_40 (sPv_k (fun I_40 J_40 hw => ?_))
        refine g_aload_n h rfl 0 rfl dX11_blind_43 ?_
        refine g_aload_n h rfl 0 rfl dX11_blind_44 ?_
        refine g_get h is_0 fl_X11_51 fr_0_7 dX11_blind_45 ?_
        refine g_iload_n h rfl 1 rfl dX11_blind_48 ?_
        refine g_iconst (v := 0) h (by decide) dX11_blind_49 ?_
        refine g_iconst (v := 0) h (by decide) dX11_blind_50 ?_
        refine g_callV [.ref 138, .int a1, .int 0, .int 0] h (c_X11_read X is_138 hw) sPv_v mw_X11_read lk_X11_185 is_0 rfl rfl ⟨by decide, by decide⟩ (Nat.le_of_ble_eq_true rfl) dX11_blind_51 (sPv_k (fun I_51 J_51 hw => ?_))
        refine g_aload_n h rfl 0 rfl dX11_blind_54 ?_
        refine g_get h is_0 fl_X11_67 fr_0_9 dX11_blind_55 ?_
        refine g_callV [] h (c_X5_tooMany X hw) sPi_v mw_X5_tooMany lk_X11_192 is_220 rfl rfl ⟨by decide, by decide⟩ (Nat.le_of_ble_eq_true rfl) dX11_blind_58 (sPi_k (fun r_58 I_58 J_58 hw => ?_))
        refine g_if_eq (tgt := 69) h (by decide) dX11_blind_61 (fun q61 => ?_) (fun q61 => ?_)
        · replace hw := hw.1 q61
          refine g_aload_n h rfl 0 rfl dX11_blind_69 ?_
          refine g_get h is_0 fl_X11_67 fr_0_9 dX11_blind_70 ?_
          refine g_get h is_220 fl_X11_197 rfl dX11_blind_73 ?_
          exact g_iret h hr dX11_blind_76 hw
        · replace hw := hw.2 q61
          refine g_bipush (v := (-3)) h (by decide) dX11_blind_64 ?_
          refine g_goto (tgt := 76) h (by decide) dX11_blind_66 ?_
          exact g_iret h hr dX11_blind_76 hw
      · replace hw := hw.2 q16
        refine g_iconst (v := (-1)) h (by decide) dX11_blind_19 ?_
        exact g_iret h hr dX11_blind_20 hw
theorem c_X11_blind (X : sX) {a1 : Int32} {a2 : Int32} {I : sI} {J : sJ} {post : Int32 → sI → sJ → Prop} (hw : w_X11_blind a1 a2 I J post) : sCall X yX11_blind cX11_blind 3 (some .int) 33 973 [.ref 0, .int a1, .int a2] I J (sPi post) := sCall_of (by decide +kernel) (Nat.le_of_ble_eq_true rfl) (fun X h hr => t_X11_blind h hr hw)
theorem dX11_over_0 : decode cX11_over 0 = .ok (.aload_n 0, 1) := by decide +kernel
theorem dX11_over_1 : decode cX11_over 1 = .ok (.iload_n 1, 1) := by decide +kernel
theorem dX11_over_2 : decode cX11_over 2 = .ok (.invokevirtual 170, 3) := by decide +kernel
theorem dX11_over_5 : decode cX11_over 5 = .ok (.ifCond .eq 16, 3) := by decide +kernel
theorem dX11_over_8 : decode cX11_over 8 = .ok (.aload_n 0, 1) := by decide +kernel
theorem dX11_over_9 : decode cX11_over 9 = .ok (.iload_n 2, 1) := by decide +kernel
theorem dX11_over_10 : decode cX11_over 10 = .ok (.invokevirtual 170, 3) := by decide +kernel
theorem dX11_over_13 : decode cX11_over 13 = .ok (.ifCond .eq 8, 3) := by decide +kernel
theorem dX11_over_16 : decode cX11_over 16 = .ok (.iload_n 1, 1) := by decide +kernel
theorem dX11_over_17 : decode cX11_over 17 = .ok (.iload_n 2, 1) := by decide +kernel
theorem dX11_over_18 : decode cX11_over 18 = .ok (.if_icmp .ne 5, 3) := by decide +kernel
theorem dX11_over_21 : decode cX11_over 21 = .ok (.iconst (-1), 1) := by decide +kernel
theorem dX11_over_22 : decode cX11_over 22 = .ok (.ireturn, 1) := by decide +kernel
theorem dX11_over_23 : decode cX11_over 23 = .ok (.aload_n 0, 1) := by decide +kernel
theorem dX11_over_24 : decode cX11_over 24 = .ok (.getfield 19, 3) := by decide +kernel
theorem dX11_over_27 : decode cX11_over 27 = .ok (.getfield 124, 3) := by decide +kernel
theorem dX11_over_30 : decode cX11_over 30 = .ok (.getfield 128, 3) := by decide +kernel
theorem dX11_over_33 : decode cX11_over 33 = .ok (.bipush 12, 2) := by decide +kernel
theorem dX11_over_35 : decode cX11_over 35 = .ok (.if_icmp .ge 18, 3) := by decide +kernel
theorem dX11_over_38 : decode cX11_over 38 = .ok (.aload_n 0, 1) := by decide +kernel
theorem dX11_over_39 : decode cX11_over 39 = .ok (.getfield 19, 3) := by decide +kernel
theorem dX11_over_42 : decode cX11_over 42 = .ok (.getfield 124, 3) := by decide +kernel
theorem dX11_over_45 : decode cX11_over 45 = .ok (.iload_n 1, 1) := by decide +kernel
theorem dX11_over_46 : decode cX11_over 46 = .ok (.iload_n 2, 1) := by decide +kernel
theorem dX11_over_47 : decode cX11_over 47 = .ok (.invokevirtual 282, 3) := by decide +kernel
theorem dX11_over_50 : decode cX11_over 50 = .ok (.ifCond .eq 5, 3) := by decide +kernel
theorem dX11_over_53 : decode cX11_over 53 = .ok (.iconst (-1), 1) := by decide +kernel
theorem dX11_over_54 : decode cX11_over 54 = .ok (.ireturn, 1) := by decide +kernel
theorem dX11_over_55 : decode cX11_over 55 = .ok (.aload_n 0, 1) := by decide +kernel
theorem dX11_over_56 : decode cX11_over 56 = .ok (.getfield 19, 3) := by decide +kernel
theorem dX11_over_59 : decode cX11_over 59 = .ok (.getfield 124, 3) := by decide +kernel
theorem dX11_over_62 : decode cX11_over 62 = .ok (.iload_n 1, 1) := by decide +kernel
theorem dX11_over_63 : decode cX11_over 63 = .ok (.iload_n 2, 1) := by decide +kernel
theorem dX11_over_64 : decode cX11_over 64 = .ok (.invokevirtual 285, 3) := by decide +kernel
theorem dX11_over_67 : decode cX11_over 67 = .ok (.ireturn, 1) := by decide +kernel
def w_X11_over (a1 : Int32) (a2 : Int32) (I : sI) (J : sJ) (post : Int32 → sI → sJ → Prop) : Prop :=
  w_X11_isPlace a1 I J (fun (r_2 : Int32) (I_2 : sI) (J_2 : sJ) => (((r_2 = 0 → post (-1) I_2 J_2) ∧ (¬ r_2 = 0 → w_X11_isPlace a2 I_2 J_2 (fun (r_10 : Int32) (I_10 : sI) (J_10 : sJ) => (((r_10 = 0 → post (-1) I_10 J_10) ∧ (¬ r_10 = 0 → ((¬ a1 = a2 → ((12 ≤ (I_10 8 2) → post (-1) I_10 J_10) ∧ (¬ 12 ≤ (I_10 8 2) → w_X4_has 8 a1 a2 I_10 J_10 (fun (r_47 : Int32) (I_47 : sI) (J_47 : sJ) => (((r_47 = 0 → w_X4_add 8 a1 a2 I_47 J_47 (fun (r_64 : Int32) (I_64 : sI) (J_64 : sJ) => (post r_64 I_64 J_64))) ∧ (¬ r_47 = 0 → post (-1) I_47 J_47))))))) ∧ (a1 = a2 → post (-1) I_10 J_10))))))))))
set_option maxHeartbeats 4000000 in
set_option maxRecDepth 100000 in
theorem t_X11_over {X : sX} {a1 : Int32} {a2 : Int32} {I : sI} {J : sJ} {post : Int32 → sI → sJ → Prop} (h : sOK X cX11_over RX11 3 1 23) (hr : sRt X (some .int) (sPi post)) (hw : w_X11_over a1 a2 I J post) : sG X 3 0 [(0, .ref 0), (1, .int a1), (2, .int a2)] [] I J := by
  unfold w_X11_over at hw
  refine g_aload_n h rfl 0 rfl dX11_over_0 ?_
  refine g_iload_n h rfl 1 rfl dX11_over_1 ?_
  refine g_callV [.int a1] h (c_X11_isPlace X hw) sPi_v mw_X11_isPlace lk_X11_170 is_0 rfl rfl ⟨by decide, by decide⟩ (Nat.le_of_ble_eq_true rfl) dX11_over_2 (sPi_k (fun r_2 I_2 J_2 hw => ?_))
  refine g_if_eq (tgt := 21) h (by decide) dX11_over_5 (fun q5 => ?_) (fun q5 => ?_)
  · replace hw := hw.1 q5
    refine g_iconst (v := (-1)) h (by decide) dX11_over_21 ?_
    exact g_iret h hr dX11_over_22 hw
  · replace hw := hw.2 q5
    refine g_aload_n h rfl 0 rfl dX11_over_8 ?_
    refine g_iload_n h rfl 2 rfl dX11_over_9 ?_
    refine g_callV [.int a2] h (c_X11_isPlace X hw) sPi_v mw_X11_isPlace lk_X11_170 is_0 rfl rfl ⟨by decide, by decide⟩ (Nat.le_of_ble_eq_true rfl) dX11_over_10 (sPi_k (fun r_10 I_10 J_10 hw => ?_))
    refine g_if_eq (tgt := 21) h (by decide) dX11_over_13 (fun q13 => ?_) (fun q13 => ?_)
    · replace hw := hw.1 q13
      refine g_iconst (v := (-1)) h (by decide) dX11_over_21 ?_
      exact g_iret h hr dX11_over_22 hw
    · replace hw := hw.2 q13
      refine g_iload_n h rfl 1 rfl dX11_over_16 ?_
      refine g_iload_n h rfl 2 rfl dX11_over_17 ?_
      refine g_icmp_ne (tgt := 23) h (by decide) dX11_over_18 (fun q18 => ?_) (fun q18 => ?_)
      · replace hw := hw.1 q18
        refine g_aload_n h rfl 0 rfl dX11_over_23 ?_
        refine g_get h is_0 fl_X11_19 fr_0_1 dX11_over_24 ?_
        refine g_get h is_3 fl_X11_124 fr_3_1 dX11_over_27 ?_
        refine g_get h is_8 fl_X11_128 rfl dX11_over_30 ?_
        refine g_bipush (v := 12) h (by decide) dX11_over_33 ?_
        refine g_icmp_ge (tgt := 53) h (by decide) dX11_over_35 (fun q35 => ?_) (fun q35 => ?_)
        · replace hw := hw.1 q35
          refine g_iconst (v := (-1)) h (by decide) dX11_over_53 ?_
          exact g_iret h hr dX11_over_54 hw
        · replace hw := hw.2 q35
          refine g_aload_n h rfl 0 rfl dX11_over_38 ?_
          refine g_get h is_0 fl_X11_19 fr_0_1 dX11_over_39 ?_
          refine g_get h is_3 fl_X11_124 fr_3_1 dX11_over_42 ?_
          refine g_iload_n h rfl 1 rfl dX11_over_45 ?_
          refine g_iload_n h rfl 2 rfl dX11_over_46 ?_
          refine g_callV [.int a1, .int a2] h (c_X4_has X is_8 hw) sPi_v mw_X4_has lk_X11_282 is_8 rfl rfl ⟨by decide, by decide⟩ (Nat.le_of_ble_eq_true rfl) dX11_over_47 (sPi_k (fun r_47 I_47 J_47 hw => ?_))
          refine g_if_eq (tgt := 55) h (by decide) dX11_over_50 (fun q50 => ?_) (fun q50 => ?_)
          · replace hw := hw.1 q50
            refine g_aload_n h rfl 0 rfl dX11_over_55 ?_
            refine g_get h is_0 fl_X11_19 fr_0_1 dX11_over_56 ?_
            refine g_get h is_3 fl_X11_124 fr_3_1 dX11_over_59 ?_
            refine g_iload_n h rfl 1 rfl dX11_over_62 ?_
            refine g_iload_n h rfl 2 rfl dX11_over_63 ?_
            refine g_callV [.int a1, .int a2] h (c_X4_add X is_8 hw) sPi_v mw_X4_add lk_X11_285 is_8 rfl rfl ⟨by decide, by decide⟩ (Nat.le_of_ble_eq_true rfl) dX11_over_64 (sPi_k (fun r_64 I_64 J_64 hw => ?_))
            exact g_iret h hr dX11_over_67 hw
          · replace hw := hw.2 q50
            refine g_iconst (v := (-1)) h (by decide) dX11_over_53 ?_
            exact g_iret h hr dX11_over_54 hw
      · replace hw := hw.2 q18
        refine g_iconst (v := (-1)) h (by decide) dX11_over_21 ?_
        exact g_iret h hr dX11_over_22 hw
theorem c_X11_over (X : sX) {a1 : Int32} {a2 : Int32} {I : sI} {J : sJ} {post : Int32 → sI → sJ → Prop} (hw : w_X11_over a1 a2 I J post) : sCall X yX11_over cX11_over 3 (some .int) 1 23 [.ref 0, .int a1, .int a2] I J (sPi post) := sCall_of (by decide +kernel) (Nat.le_of_ble_eq_true rfl) (fun X h hr => t_X11_over h hr hw)
theorem dX11_cannotOrder_0 : decode cX11_cannotOrder 0 = .ok (.aload_n 0, 1) := by decide +kernel
theorem dX11_cannotOrder_1 : decode cX11_cannotOrder 1 = .ok (.getfield 19, 3) := by decide +kernel
theorem dX11_cannotOrder_4 : decode cX11_cannotOrder 4 = .ok (.getfield 117, 3) := by decide +kernel
theorem dX11_cannotOrder_7 : decode cX11_cannotOrder 7 = .ok (.getfield 179, 3) := by decide +kernel
theorem dX11_cannotOrder_10 : decode cX11_cannotOrder 10 = .ok (.ifCond .eq 18, 3) := by decide +kernel
theorem dX11_cannotOrder_13 : decode cX11_cannotOrder 13 = .ok (.aload_n 0, 1) := by decide +kernel
theorem dX11_cannotOrder_14 : decode cX11_cannotOrder 14 = .ok (.getfield 19, 3) := by decide +kernel
theorem dX11_cannotOrder_17 : decode cX11_cannotOrder 17 = .ok (.getfield 117, 3) := by decide +kernel
theorem dX11_cannotOrder_20 : decode cX11_cannotOrder 20 = .ok (.getfield 179, 3) := by decide +kernel
theorem dX11_cannotOrder_23 : decode cX11_cannotOrder 23 = .ok (.bipush 14, 2) := by decide +kernel
theorem dX11_cannotOrder_25 : decode cX11_cannotOrder 25 = .ok (.if_icmp .le 7, 3) := by decide +kernel
theorem dX11_cannotOrder_28 : decode cX11_cannotOrder 28 = .ok (.iconst 1, 1) := by decide +kernel
theorem dX11_cannotOrder_29 : decode cX11_cannotOrder 29 = .ok (.goto 4, 3) := by decide +kernel
theorem dX11_cannotOrder_32 : decode cX11_cannotOrder 32 = .ok (.iconst 0, 1) := by decide +kernel
theorem dX11_cannotOrder_33 : decode cX11_cannotOrder 33 = .ok (.ireturn, 1) := by decide +kernel
def w_X11_cannotOrder_28 (post : Int32 → sI → sJ → Prop) (I : sI) (J : sJ) : Prop :=
  post 1 I J
set_option maxHeartbeats 4000000 in
set_option maxRecDepth 100000 in
theorem t_X11_cannotOrder_28 {X : sX} {post : Int32 → sI → sJ → Prop} (h : sOK X cX11_cannotOrder RX11 1 0 0) (hr : sRt X (some .boolean) (sPi post)) {I : sI} {J : sJ} (hw : w_X11_cannotOrder_28 post I J) : sG X 1 28 [] [] I J := by
  unfold w_X11_cannotOrder_28 at hw
  refine g_iconst (v := 1) h (by decide) dX11_cannotOrder_28 ?_
  refine g_goto (tgt := 33) h (by decide) dX11_cannotOrder_29 ?_
  exact g_zret h hr (Or.inr rfl) dX11_cannotOrder_33 hw
def w_X11_cannotOrder (I : sI) (J : sJ) (post : Int32 → sI → sJ → Prop) : Prop :=
  (((I 4 4) = 0 → w_X11_cannotOrder_28 post I J) ∧ (¬ (I 4 4) = 0 → (((I 4 4) ≤ 14 → post 0 I J) ∧ (¬ (I 4 4) ≤ 14 → w_X11_cannotOrder_28 post I J))))
set_option maxHeartbeats 4000000 in
set_option maxRecDepth 100000 in
theorem t_X11_cannotOrder {X : sX} {I : sI} {J : sJ} {post : Int32 → sI → sJ → Prop} (h : sOK X cX11_cannotOrder RX11 1 0 0) (hr : sRt X (some .boolean) (sPi post)) (hw : w_X11_cannotOrder I J post) : sG X 1 0 [(0, .ref 0)] [] I J := by
  unfold w_X11_cannotOrder at hw
  refine g_aload_n h rfl 0 rfl dX11_cannotOrder_0 ?_
  refine g_get h is_0 fl_X11_19 fr_0_1 dX11_cannotOrder_1 ?_
  refine g_get h is_3 fl_X11_117 fr_3_0 dX11_cannotOrder_4 ?_
  refine g_get h is_4 fl_X11_179 rfl dX11_cannotOrder_7 ?_
  refine g_if_eq (tgt := 28) h (by decide) dX11_cannotOrder_10 (fun q10 => ?_) (fun q10 => ?_)
  · replace hw := hw.1 q10
    exact g_sub [] rfl (t_X11_cannotOrder_28 h hr hw)
  · replace hw := hw.2 q10
    refine g_aload_n h rfl 0 rfl dX11_cannotOrder_13 ?_
    refine g_get h is_0 fl_X11_19 fr_0_1 dX11_cannotOrder_14 ?_
    refine g_get h is_3 fl_X11_117 fr_3_0 dX11_cannotOrder_17 ?_
    refine g_get h is_4 fl_X11_179 rfl dX11_cannotOrder_20 ?_
    refine g_bipush (v := 14) h (by decide) dX11_cannotOrder_23 ?_
    refine g_icmp_le (tgt := 32) h (by decide) dX11_cannotOrder_25 (fun q25 => ?_) (fun q25 => ?_)
    · replace hw := hw.1 q25
      refine g_iconst (v := 0) h (by decide) dX11_cannotOrder_32 ?_
      exact g_zret h hr (Or.inl rfl) dX11_cannotOrder_33 hw
    · replace hw := hw.2 q25
      exact g_sub [] rfl (t_X11_cannotOrder_28 h hr hw)
theorem c_X11_cannotOrder (X : sX) {I : sI} {J : sJ} {post : Int32 → sI → sJ → Prop} (hw : w_X11_cannotOrder I J post) : sCall X yX11_cannotOrder cX11_cannotOrder 1 (some .boolean) 0 0 [.ref 0] I J (sPi post) := sCall_of (by decide +kernel) (Nat.le_of_ble_eq_true rfl) (fun X h hr => t_X11_cannotOrder h hr hw)
theorem dX11_orders_0 : decode cX11_orders 0 = .ok (.aload_n 0, 1) := by decide +kernel
theorem dX11_orders_1 : decode cX11_orders 1 = .ok (.invokevirtual 288, 3) := by decide +kernel
theorem dX11_orders_4 : decode cX11_orders 4 = .ok (.ifCond .eq 5, 3) := by decide +kernel
theorem dX11_orders_7 : decode cX11_orders 7 = .ok (.iconst (-1), 1) := by decide +kernel
theorem dX11_orders_8 : decode cX11_orders 8 = .ok (.ireturn, 1) := by decide +kernel
theorem dX11_orders_9 : decode cX11_orders 9 = .ok (.aload_n 0, 1) := by decide +kernel
theorem dX11_orders_10 : decode cX11_orders 10 = .ok (.getfield 74, 3) := by decide +kernel
theorem dX11_orders_13 : decode cX11_orders 13 = .ok (.aload_n 0, 1) := by decide +kernel
theorem dX11_orders_14 : decode cX11_orders 14 = .ok (.getfield 19, 3) := by decide +kernel
theorem dX11_orders_17 : decode cX11_orders 17 = .ok (.getfield 117, 3) := by decide +kernel
theorem dX11_orders_20 : decode cX11_orders 20 = .ok (.getfield 179, 3) := by decide +kernel
theorem dX11_orders_23 : decode cX11_orders 23 = .ok (.aload_n 0, 1) := by decide +kernel
theorem dX11_orders_24 : decode cX11_orders 24 = .ok (.getfield 19, 3) := by decide +kernel
theorem dX11_orders_27 : decode cX11_orders 27 = .ok (.getfield 124, 3) := by decide +kernel
theorem dX11_orders_30 : decode cX11_orders 30 = .ok (.invokevirtual 291, 3) := by decide +kernel
theorem dX11_orders_33 : decode cX11_orders 33 = .ok (.aload_n 0, 1) := by decide +kernel
theorem dX11_orders_34 : decode cX11_orders 34 = .ok (.getfield 74, 3) := by decide +kernel
theorem dX11_orders_37 : decode cX11_orders 37 = .ok (.invokevirtual 294, 3) := by decide +kernel
theorem dX11_orders_40 : decode cX11_orders 40 = .ok (.lstore_n 1, 1) := by decide +kernel
theorem dX11_orders_41 : decode cX11_orders 41 = .ok (.lload_n 1, 1) := by decide +kernel
theorem dX11_orders_42 : decode cX11_orders 42 = .ok (.lconst 0, 1) := by decide +kernel
theorem dX11_orders_43 : decode cX11_orders 43 = .ok (.lcmp, 1) := by decide +kernel
theorem dX11_orders_44 : decode cX11_orders 44 = .ok (.ifCond .ne 6, 3) := by decide +kernel
theorem dX11_orders_47 : decode cX11_orders 47 = .ok (.bipush (-2), 2) := by decide +kernel
theorem dX11_orders_49 : decode cX11_orders 49 = .ok (.ireturn, 1) := by decide +kernel
theorem dX11_orders_50 : decode cX11_orders 50 = .ok (.aload_n 0, 1) := by decide +kernel
theorem dX11_orders_51 : decode cX11_orders 51 = .ok (.getfield 41, 3) := by decide +kernel
theorem dX11_orders_54 : decode cX11_orders 54 = .ok (.lload_n 1, 1) := by decide +kernel
theorem dX11_orders_55 : decode cX11_orders 55 = .ok (.invokevirtual 256, 3) := by decide +kernel
theorem dX11_orders_58 : decode cX11_orders 58 = .ok (.iconst 0, 1) := by decide +kernel
theorem dX11_orders_59 : decode cX11_orders 59 = .ok (.ireturn, 1) := by decide +kernel
def w_X11_orders (I : sI) (J : sJ) (post : Int32 → sI → sJ → Prop) : Prop :=
  w_X11_cannotOrder I J (fun (r_1 : Int32) (I_1 : sI) (J_1 : sJ) => (((r_1 = 0 → w_X3_open (I_1 4 4) 8 I_1 J_1 (fun (I_30 : sI) (J_30 : sJ) => (w_X3_number I_30 J_30 (fun (r_37 : Int64) (I_37 : sI) (J_37 : sJ) => (((¬ (lg_cmp r_37 0) = 0 → w_X6_tell 134 r_37 I_37 J_37 (fun (I_55 : sI) (J_55 : sJ) => (post 0 I_55 J_55))) ∧ ((lg_cmp r_37 0) = 0 → post (-2) I_37 J_37))))))) ∧ (¬ r_1 = 0 → post (-1) I_1 J_1))))
set_option maxHeartbeats 4000000 in
set_option maxRecDepth 100000 in
theorem t_X11_orders {X : sX} {I : sI} {J : sJ} {post : Int32 → sI → sJ → Prop} (h : sOK X cX11_orders RX11 3 2 45) (hr : sRt X (some .int) (sPi post)) (hw : w_X11_orders I J post) : sG X 3 0 [(0, .ref 0)] [] I J := by
  unfold w_X11_orders at hw
  refine g_aload_n h rfl 0 rfl dX11_orders_0 ?_
  refine g_callV [] h (c_X11_cannotOrder X hw) sPi_v mw_X11_cannotOrder lk_X11_288 is_0 rfl rfl ⟨by decide, by decide⟩ (Nat.le_of_ble_eq_true rfl) dX11_orders_1 (sPi_k (fun r_1 I_1 J_1 hw => ?_))
  refine g_if_eq (tgt := 9) h (by decide) dX11_orders_4 (fun q4 => ?_) (fun q4 => ?_)
  · replace hw := hw.1 q4
    refine g_aload_n h rfl 0 rfl dX11_orders_9 ?_
    refine g_get h is_0 fl_X11_74 fr_0_10 dX11_orders_10 ?_
    refine g_aload_n h rfl 0 rfl dX11_orders_13 ?_
    refine g_get h is_0 fl_X11_19 fr_0_1 dX11_orders_14 ?_
    refine g_get h is_3 fl_X11_117 fr_3_0 dX11_orders_17 ?_
    refine g_get h is_4 fl_X11_179 rfl dX11_orders_20 ?_
    refine g_aload_n h rfl 0 rfl dX11_orders_23 ?_
    refine g_get h is_0 fl_X11_19 fr_0_1 dX11_orders_24 ?_
    refine g_get h is_3 fl_X11_124 fr_3_1 dX11_orders_27 ?_
    refine g_callV [.int (I_1 4 4), .ref 8] h (c_X3_open X is_8 hw) sPv_v mw_X3_open lk_X11_291 is_224 rfl rfl ⟨by decide, by decide⟩ (Nat.le_of_ble_eq_true rfl) dX11_orders_30 (sPv_k (fun I_30 J_30 hw => ?_))
    refine g_aload_n h rfl 0 rfl dX11_orders_33 ?_
    refine g_get h is_0 fl_X11_74 fr_0_10 dX11_orders_34 ?_
    refine g_callV [] h (c_X3_number X hw) sPl_v mw_X3_number lk_X11_294 is_224 rfl rfl ⟨by decide, by decide⟩ (Nat.le_of_ble_eq_true rfl) dX11_orders_37 (sPl_k (fun r_37 I_37 J_37 hw => ?_))
    refine g_lstore_n (lo2 := [(1, .long r_37), (0, .ref 0)]) h rfl (by decide) rfl dX11_orders_40 ?_
    refine g_lload_n h rfl 0 rfl dX11_orders_41 ?_
    refine g_lconst (v := 0) h (by decide) dX11_orders_42 ?_
    refine g_lcmp h dX11_orders_43 ?_
    refine g_if_ne (tgt := 50) h (by decide) dX11_orders_44 (fun q44 => ?_) (fun q44 => ?_)
    · replace hw := hw.1 q44
      refine g_aload_n h rfl 1 rfl dX11_orders_50 ?_
      refine g_get h is_0 fl_X11_41 fr_0_5 dX11_orders_51 ?_
      refine g_lload_n h rfl 0 rfl dX11_orders_54 ?_
      refine g_callV [.long r_37] h (c_X6_tell X is_134 hw) sPv_v mw_X6_tell lk_X11_256 is_134 rfl rfl ⟨by decide, by decide⟩ (Nat.le_of_ble_eq_true rfl) dX11_orders_55 (sPv_k (fun I_55 J_55 hw => ?_))
      refine g_iconst (v := 0) h (by decide) dX11_orders_58 ?_
      exact g_iret h hr dX11_orders_59 hw
    · replace hw := hw.2 q44
      refine g_bipush (v := (-2)) h (by decide) dX11_orders_47 ?_
      exact g_iret h hr dX11_orders_49 hw
  · replace hw := hw.2 q4
    refine g_iconst (v := (-1)) h (by decide) dX11_orders_7 ?_
    exact g_iret h hr dX11_orders_8 hw
theorem c_X11_orders (X : sX) {I : sI} {J : sJ} {post : Int32 → sI → sJ → Prop} (hw : w_X11_orders I J post) : sCall X yX11_orders cX11_orders 3 (some .int) 2 45 [.ref 0] I J (sPi post) := sCall_of (by decide +kernel) (Nat.le_of_ble_eq_true rfl) (fun X h hr => t_X11_orders h hr hw)
theorem dX11_ahead_0 : decode cX11_ahead 0 = .ok (.aload_n 0, 1) := by decide +kernel
theorem dX11_ahead_1 : decode cX11_ahead 1 = .ok (.invokevirtual 288, 3) := by decide +kernel
theorem dX11_ahead_4 : decode cX11_ahead 4 = .ok (.ifCond .ne 24, 3) := by decide +kernel
theorem dX11_ahead_7 : decode cX11_ahead 7 = .ok (.aload_n 0, 1) := by decide +kernel
theorem dX11_ahead_8 : decode cX11_ahead 8 = .ok (.iload_n 1, 1) := by decide +kernel
theorem dX11_ahead_9 : decode cX11_ahead 9 = .ok (.invokevirtual 170, 3) := by decide +kernel
theorem dX11_ahead_12 : decode cX11_ahead 12 = .ok (.ifCond .eq 16, 3) := by decide +kernel
theorem dX11_ahead_15 : decode cX11_ahead 15 = .ok (.aload_n 0, 1) := by decide +kernel
theorem dX11_ahead_16 : decode cX11_ahead 16 = .ok (.iload_n 2, 1) := by decide +kernel
theorem dX11_ahead_17 : decode cX11_ahead 17 = .ok (.invokevirtual 170, 3) := by decide +kernel
theorem dX11_ahead_20 : decode cX11_ahead 20 = .ok (.ifCond .eq 8, 3) := by decide +kernel
theorem dX11_ahead_23 : decode cX11_ahead 23 = .ok (.iload_n 1, 1) := by decide +kernel
theorem dX11_ahead_24 : decode cX11_ahead 24 = .ok (.iload_n 2, 1) := by decide +kernel
theorem dX11_ahead_25 : decode cX11_ahead 25 = .ok (.if_icmp .ne 5, 3) := by decide +kernel
theorem dX11_ahead_28 : decode cX11_ahead 28 = .ok (.iconst (-1), 1) := by decide +kernel
theorem dX11_ahead_29 : decode cX11_ahead 29 = .ok (.ireturn, 1) := by decide +kernel
theorem dX11_ahead_30 : decode cX11_ahead 30 = .ok (.aload_n 0, 1) := by decide +kernel
theorem dX11_ahead_31 : decode cX11_ahead 31 = .ok (.getfield 74, 3) := by decide +kernel
theorem dX11_ahead_34 : decode cX11_ahead 34 = .ok (.aload_n 0, 1) := by decide +kernel
theorem dX11_ahead_35 : decode cX11_ahead 35 = .ok (.getfield 19, 3) := by decide +kernel
theorem dX11_ahead_38 : decode cX11_ahead 38 = .ok (.getfield 117, 3) := by decide +kernel
theorem dX11_ahead_41 : decode cX11_ahead 41 = .ok (.getfield 179, 3) := by decide +kernel
theorem dX11_ahead_44 : decode cX11_ahead 44 = .ok (.aload_n 0, 1) := by decide +kernel
theorem dX11_ahead_45 : decode cX11_ahead 45 = .ok (.getfield 19, 3) := by decide +kernel
theorem dX11_ahead_48 : decode cX11_ahead 48 = .ok (.getfield 124, 3) := by decide +kernel
theorem dX11_ahead_51 : decode cX11_ahead 51 = .ok (.invokevirtual 291, 3) := by decide +kernel
theorem dX11_ahead_54 : decode cX11_ahead 54 = .ok (.aload_n 0, 1) := by decide +kernel
theorem dX11_ahead_55 : decode cX11_ahead 55 = .ok (.getfield 74, 3) := by decide +kernel
theorem dX11_ahead_58 : decode cX11_ahead 58 = .ok (.invokevirtual 294, 3) := by decide +kernel
theorem dX11_ahead_61 : decode cX11_ahead 61 = .ok (.lstore_n 3, 1) := by decide +kernel
theorem dX11_ahead_62 : decode cX11_ahead 62 = .ok (.lload_n 3, 1) := by decide +kernel
theorem dX11_ahead_63 : decode cX11_ahead 63 = .ok (.lconst 0, 1) := by decide +kernel
theorem dX11_ahead_64 : decode cX11_ahead 64 = .ok (.lcmp, 1) := by decide +kernel
theorem dX11_ahead_65 : decode cX11_ahead 65 = .ok (.ifCond .ne 6, 3) := by decide +kernel
theorem dX11_ahead_68 : decode cX11_ahead 68 = .ok (.bipush (-2), 2) := by decide +kernel
theorem dX11_ahead_70 : decode cX11_ahead 70 = .ok (.ireturn, 1) := by decide +kernel
theorem dX11_ahead_71 : decode cX11_ahead 71 = .ok (.aload_n 0, 1) := by decide +kernel
theorem dX11_ahead_72 : decode cX11_ahead 72 = .ok (.getfield 74, 3) := by decide +kernel
theorem dX11_ahead_75 : decode cX11_ahead 75 = .ok (.iload_n 2, 1) := by decide +kernel
theorem dX11_ahead_76 : decode cX11_ahead 76 = .ok (.iload_n 1, 1) := by decide +kernel
theorem dX11_ahead_77 : decode cX11_ahead 77 = .ok (.invokevirtual 298, 3) := by decide +kernel
theorem dX11_ahead_80 : decode cX11_ahead 80 = .ok (.aload_n 0, 1) := by decide +kernel
theorem dX11_ahead_81 : decode cX11_ahead 81 = .ok (.getfield 41, 3) := by decide +kernel
theorem dX11_ahead_84 : decode cX11_ahead 84 = .ok (.aload_n 0, 1) := by decide +kernel
theorem dX11_ahead_85 : decode cX11_ahead 85 = .ok (.getfield 74, 3) := by decide +kernel
theorem dX11_ahead_88 : decode cX11_ahead 88 = .ok (.invokevirtual 294, 3) := by decide +kernel
theorem dX11_ahead_91 : decode cX11_ahead 91 = .ok (.lload_n 3, 1) := by decide +kernel
theorem dX11_ahead_92 : decode cX11_ahead 92 = .ok (.invokevirtual 302, 3) := by decide +kernel
theorem dX11_ahead_95 : decode cX11_ahead 95 = .ok (.iconst 0, 1) := by decide +kernel
theorem dX11_ahead_96 : decode cX11_ahead 96 = .ok (.ireturn, 1) := by decide +kernel
def w_X11_ahead (a1 : Int32) (a2 : Int32) (I : sI) (J : sJ) (post : Int32 → sI → sJ → Prop) : Prop :=
  w_X11_cannotOrder I J (fun (r_1 : Int32) (I_1 : sI) (J_1 : sJ) => (((¬ r_1 = 0 → post (-1) I_1 J_1) ∧ (r_1 = 0 → w_X11_isPlace a1 I_1 J_1 (fun (r_9 : Int32) (I_9 : sI) (J_9 : sJ) => (((r_9 = 0 → post (-1) I_9 J_9) ∧ (¬ r_9 = 0 → w_X11_isPlace a2 I_9 J_9 (fun (r_17 : Int32) (I_17 : sI) (J_17 : sJ) => (((r_17 = 0 → post (-1) I_17 J_17) ∧ (¬ r_17 = 0 → ((¬ a1 = a2 → w_X3_open (I_17 4 4) 8 I_17 J_17 (fun (I_51 : sI) (J_51 : sJ) => (w_X3_number I_51 J_51 (fun (r_58 : Int64) (I_58 : sI) (J_58 : sJ) => (((¬ (lg_cmp r_58 0) = 0 → w_X3_bind a2 a1 I_58 J_58 (fun (I_77 : sI) (J_77 : sJ) => (w_X3_number I_77 J_77 (fun (r_88 : Int64) (I_88 : sI) (J_88 : sJ) => (w_X6_tellFraction 134 r_88 r_58 I_88 J_88 (fun (I_92 : sI) (J_92 : sJ) => (post 0 I_92 J_92))))))) ∧ ((lg_cmp r_58 0) = 0 → post (-2) I_58 J_58))))))) ∧ (a1 = a2 → post (-1) I_17 J_17))))))))))))))
set_option maxHeartbeats 4000000 in
set_option maxRecDepth 100000 in
theorem t_X11_ahead {X : sX} {a1 : Int32} {a2 : Int32} {I : sI} {J : sJ} {post : Int32 → sI → sJ → Prop} (h : sOK X cX11_ahead RX11 5 4 94) (hr : sRt X (some .int) (sPi post)) (hw : w_X11_ahead a1 a2 I J post) : sG X 5 0 [(0, .ref 0), (1, .int a1), (2, .int a2)] [] I J := by
  unfold w_X11_ahead at hw
  refine g_aload_n h rfl 0 rfl dX11_ahead_0 ?_
  refine g_callV [] h (c_X11_cannotOrder X hw) sPi_v mw_X11_cannotOrder lk_X11_288 is_0 rfl rfl ⟨by decide, by decide⟩ (Nat.le_of_ble_eq_true rfl) dX11_ahead_1 (sPi_k (fun r_1 I_1 J_1 hw => ?_))
  refine g_if_ne (tgt := 28) h (by decide) dX11_ahead_4 (fun q4 => ?_) (fun q4 => ?_)
  · replace hw := hw.1 q4
    refine g_iconst (v := (-1)) h (by decide) dX11_ahead_28 ?_
    exact g_iret h hr dX11_ahead_29 hw
  · replace hw := hw.2 q4
    refine g_aload_n h rfl 0 rfl dX11_ahead_7 ?_
    refine g_iload_n h rfl 1 rfl dX11_ahead_8 ?_
    refine g_callV [.int a1] h (c_X11_isPlace X hw) sPi_v mw_X11_isPlace lk_X11_170 is_0 rfl rfl ⟨by decide, by decide⟩ (Nat.le_of_ble_eq_true rfl) dX11_ahead_9 (sPi_k (fun r_9 I_9 J_9 hw => ?_))
    refine g_if_eq (tgt := 28) h (by decide) dX11_ahead_12 (fun q12 => ?_) (fun q12 => ?_)
    · replace hw := hw.1 q12
      refine g_iconst (v := (-1)) h (by decide) dX11_ahead_28 ?_
      exact g_iret h hr dX11_ahead_29 hw
    · replace hw := hw.2 q12
      refine g_aload_n h rfl 0 rfl dX11_ahead_15 ?_
      refine g_iload_n h rfl 2 rfl dX11_ahead_16 ?_
      refine g_callV [.int a2] h (c_X11_isPlace X hw) sPi_v mw_X11_isPlace lk_X11_170 is_0 rfl rfl ⟨by decide, by decide⟩ (Nat.le_of_ble_eq_true rfl) dX11_ahead_17 (sPi_k (fun r_17 I_17 J_17 hw => ?_))
      refine g_if_eq (tgt := 28) h (by decide) dX11_ahead_20 (fun q20 => ?_) (fun q20 => ?_)
      · replace hw := hw.1 q20
        refine g_iconst (v := (-1)) h (by decide) dX11_ahead_28 ?_
        exact g_iret h hr dX11_ahead_29 hw
      · replace hw := hw.2 q20
        refine g_iload_n h rfl 1 rfl dX11_ahead_23 ?_
        refine g_iload_n h rfl 2 rfl dX11_ahead_24 ?_
        refine g_icmp_ne (tgt := 30) h (by decide) dX11_ahead_25 (fun q25 => ?_) (fun q25 => ?_)
        · replace hw := hw.1 q25
          refine g_aload_n h rfl 0 rfl dX11_ahead_30 ?_
          refine g_get h is_0 fl_X11_74 fr_0_10 dX11_ahead_31 ?_
          refine g_aload_n h rfl 0 rfl dX11_ahead_34 ?_
          refine g_get h is_0 fl_X11_19 fr_0_1 dX11_ahead_35 ?_
          refine g_get h is_3 fl_X11_117 fr_3_0 dX11_ahead_38 ?_
          refine g_get h is_4 fl_X11_179 rfl dX11_ahead_41 ?_
          refine g_aload_n h rfl 0 rfl dX11_ahead_44 ?_
          refine g_get h is_0 fl_X11_19 fr_0_1 dX11_ahead_45 ?_
          refine g_get h is_3 fl_X11_124 fr_3_1 dX11_ahead_48 ?_
          refine g_callV [.int (I_17 4 4), .ref 8] h (c_X3_open X is_8 hw) sPv_v mw_X3_open lk_X11_291 is_224 rfl rfl ⟨by decide, by decide⟩ (Nat.le_of_ble_eq_true rfl) dX11_ahead_51 (sPv_k (fun I_51 J_51 hw => ?_))
          refine g_aload_n h rfl 0 rfl dX11_ahead_54 ?_
          refine g_get h is_0 fl_X11_74 fr_0_10 dX11_ahead_55 ?_
          refine g_callV [] h (c_X3_number X hw) sPl_v mw_X3_number lk_X11_294 is_224 rfl rfl ⟨by decide, by decide⟩ (Nat.le_of_ble_eq_true rfl) dX11_ahead_58 (sPl_k (fun r_58 I_58 J_58 hw => ?_))
          refine g_lstore_n (lo2 := [(3, .long r_58), (0, .ref 0), (1, .int a1), (2, .int a2)]) h rfl (by decide) rfl dX11_ahead_61 ?_
          refine g_lload_n h rfl 0 rfl dX11_ahead_62 ?_
          refine g_lconst (v := 0) h (by decide) dX11_ahead_63 ?_
          refine g_lcmp h dX11_ahead_64 ?_
          refine g_if_ne (tgt := 71) h (by decide) dX11_ahead_65 (fun q65 => ?_) (fun q65 => ?_)
          · replace hw := hw.1 q65
            refine g_aload_n h rfl 1 rfl dX11_ahead_71 ?_
            refine g_get h is_0 fl_X11_74 fr_0_10 dX11_ahead_72 ?_
            refine g_iload_n h rfl 3 rfl dX11_ahead_75 ?_
            refine g_iload_n h rfl 2 rfl dX11_ahead_76 ?_
            refine g_callV [.int a2, .int a1] h (c_X3_bind X hw) sPv_v mw_X3_bind lk_X11_298 is_224 rfl rfl ⟨by decide, by decide⟩ (Nat.le_of_ble_eq_true rfl) dX11_ahead_77 (sPv_k (fun I_77 J_77 hw => ?_))
            refine g_aload_n h rfl 1 rfl dX11_ahead_80 ?_
            refine g_get h is_0 fl_X11_41 fr_0_5 dX11_ahead_81 ?_
            refine g_aload_n h rfl 1 rfl dX11_ahead_84 ?_
            refine g_get h is_0 fl_X11_74 fr_0_10 dX11_ahead_85 ?_
            refine g_callV [] h (c_X3_number X hw) sPl_v mw_X3_number lk_X11_294 is_224 rfl rfl ⟨by decide, by decide⟩ (Nat.le_of_ble_eq_true rfl) dX11_ahead_88 (sPl_k (fun r_88 I_88 J_88 hw => ?_))
            refine g_lload_n h rfl 0 rfl dX11_ahead_91 ?_
            refine g_callV [.long r_88, .long r_58] h (c_X6_tellFraction X is_134 hw) sPv_v mw_X6_tellFraction lk_X11_302 is_134 rfl rfl ⟨by decide, by decide⟩ (Nat.le_of_ble_eq_true rfl) dX11_ahead_92 (sPv_k (fun I_92 J_92 hw => ?_))
            refine g_iconst (v := 0) h (by decide) dX11_ahead_95 ?_
            exact g_iret h hr dX11_ahead_96 hw
          · replace hw := hw.2 q65
            refine g_bipush (v := (-2)) h (by decide) dX11_ahead_68 ?_
            exact g_iret h hr dX11_ahead_70 hw
        · replace hw := hw.2 q25
          refine g_iconst (v := (-1)) h (by decide) dX11_ahead_28 ?_
          exact g_iret h hr dX11_ahead_29 hw
theorem c_X11_ahead (X : sX) {a1 : Int32} {a2 : Int32} {I : sI} {J : sJ} {post : Int32 → sI → sJ → Prop} (hw : w_X11_ahead a1 a2 I J post) : sCall X yX11_ahead cX11_ahead 5 (some .int) 4 94 [.ref 0, .int a1, .int a2] I J (sPi post) := sCall_of (by decide +kernel) (Nat.le_of_ble_eq_true rfl) (fun X h hr => t_X11_ahead h hr hw)
