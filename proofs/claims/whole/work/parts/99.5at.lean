theorem dX11_at_0 : decode cX11_at 0 = .ok (.aload_n 0, 1) := by decide +kernel
theorem dX11_at_1 : decode cX11_at 1 = .ok (.iload_n 1, 1) := by decide +kernel
theorem dX11_at_2 : decode cX11_at 2 = .ok (.invokevirtual 170, 3) := by decide +kernel
theorem dX11_at_5 : decode cX11_at 5 = .ok (.ifCond .ne 11, 3) := by decide +kernel
theorem dX11_at_8 : decode cX11_at 8 = .ok (.new 173, 3) := by decide +kernel
theorem dX11_at_11 : decode cX11_at 11 = .ok (.dup, 1) := by decide +kernel
theorem dX11_at_12 : decode cX11_at 12 = .ok (.invokespecial 175, 3) := by decide +kernel
theorem dX11_at_15 : decode cX11_at 15 = .ok (.athrow, 1) := by decide +kernel
theorem dX11_at_16 : decode cX11_at 16 = .ok (.aload_n 0, 1) := by decide +kernel
theorem dX11_at_17 : decode cX11_at 17 = .ok (.getfield 19, 3) := by decide +kernel
theorem dX11_at_20 : decode cX11_at 20 = .ok (.getfield 117, 3) := by decide +kernel
theorem dX11_at_23 : decode cX11_at 23 = .ok (.getfield 176, 3) := by decide +kernel
theorem dX11_at_26 : decode cX11_at 26 = .ok (.iload_n 1, 1) := by decide +kernel
theorem dX11_at_27 : decode cX11_at 27 = .ok (.iaload, 1) := by decide +kernel
theorem dX11_at_28 : decode cX11_at 28 = .ok (.ireturn, 1) := by decide +kernel
theorem dX11_row_0 : decode cX11_row 0 = .ok (.iload_n 1, 1) := by decide +kernel
theorem dX11_row_1 : decode cX11_row 1 = .ok (.ifCond .lt 14, 3) := by decide +kernel
theorem dX11_row_4 : decode cX11_row 4 = .ok (.iload_n 1, 1) := by decide +kernel
theorem dX11_row_5 : decode cX11_row 5 = .ok (.aload_n 0, 1) := by decide +kernel
theorem dX11_row_6 : decode cX11_row 6 = .ok (.getfield 41, 3) := by decide +kernel
theorem dX11_row_9 : decode cX11_row 9 = .ok (.getfield 196, 3) := by decide +kernel
theorem dX11_row_12 : decode cX11_row 12 = .ok (.if_icmp .lt 11, 3) := by decide +kernel
theorem dX11_row_15 : decode cX11_row 15 = .ok (.new 173, 3) := by decide +kernel
theorem dX11_row_18 : decode cX11_row 18 = .ok (.dup, 1) := by decide +kernel
theorem dX11_row_19 : decode cX11_row 19 = .ok (.invokespecial 175, 3) := by decide +kernel
theorem dX11_row_22 : decode cX11_row 22 = .ok (.athrow, 1) := by decide +kernel
theorem dX11_row_23 : decode cX11_row 23 = .ok (.aload_n 0, 1) := by decide +kernel
theorem dX11_row_24 : decode cX11_row 24 = .ok (.getfield 41, 3) := by decide +kernel
theorem dX11_row_27 : decode cX11_row 27 = .ok (.getfield 428, 3) := by decide +kernel
theorem dX11_row_30 : decode cX11_row 30 = .ok (.iload_n 1, 1) := by decide +kernel
theorem dX11_row_31 : decode cX11_row 31 = .ok (.laload, 1) := by decide +kernel
theorem dX11_row_32 : decode cX11_row 32 = .ok (.lreturn, 1) := by decide +kernel
theorem fl_X11_428 : sFL RX11 428 6 0 := ⟨by decide, lw_i1 164 (by decide +kernel) (by decide +kernel)⟩
theorem fr_4_0 {I : sI} {J : sJ} : sF I J 4 2 0 = .ref 5 := by
  show Value.ref (sR 4 0) = _
  decide +kernel
theorem fr_134_0 {I : sI} {J : sJ} : sF I J 134 6 0 = .ref 135 := by
  show Value.ref (sR 134 0) = _
  decide +kernel
def w_X11_at (a1 : Int32) (I : sI) (J : sJ) (post : Int32 → sI → sJ → Prop) (px : sI → sJ → Prop) : Prop :=
  w_X11_isPlace a1 I J (fun (r_2 : Int32) (I_2 : sI) (J_2 : sJ) => ((¬ r_2 = 0 → (vp_in a1 60 ∧ post (I_2 5 (Int32.toNatClampNeg a1)) I_2 J_2)) ∧ (r_2 = 0 → px I_2 J_2)))
theorem t_X11_at {X : sX} {a1 : Int32} {I : sI} {J : sJ} {post : Int32 → sI → sJ → Prop} {px : sI → sJ → Prop} (h : sOK X cX11_at RX11 2 6 100) (hr : tRt X (some .int) (sPi post) px) (hw : w_X11_at a1 I J post px) : sG X 2 0 [(0, .ref 0), (1, .int a1)] [] I J := by
  unfold w_X11_at at hw
  refine g_aload_n h rfl 0 rfl dX11_at_0 ?_
  refine g_iload_n h rfl 1 rfl dX11_at_1 ?_
  refine g_callV [.int a1] h (c_X11_isPlace X hw) sPi_v mw_X11_isPlace lk_X11_170 is_0 rfl rfl ⟨by decide, by decide⟩ (Nat.le_of_ble_eq_true rfl) dX11_at_2 (sPi_k (fun r_2 I_2 J_2 hw => ?_))
  refine g_if_ne (tgt := 16) h (by decide) dX11_at_5 (fun q5 => ?_) (fun q5 => ?_)
  · obtain ⟨hi, hw⟩ := hw.1 q5
    refine g_aload_n h rfl 0 rfl dX11_at_16 ?_
    refine g_get h is_0 fl_X11_19 fr_0_1 dX11_at_17 ?_
    refine g_get h is_3 fl_X11_117 fr_3_0 dX11_at_20 ?_
    refine g_get h is_4 fl_X11_176 fr_4_0 dX11_at_23 ?_
    refine g_iload_n h rfl 1 rfl dX11_at_26 ?_
    refine g_iald h ar_5 hi dX11_at_27 ?_
    exact t_iret h hr dX11_at_28 hw
  · exact t_throw h hr (hw.2 q5) ⟨by decide, by decide⟩ (Nat.le_of_ble_eq_true rfl) dX11_at_8 dX11_at_11 dX11_at_12 dX11_at_15
def w_X11_row (a1 : Int32) (I : sI) (J : sJ) (post : Int64 → sI → sJ → Prop) (px : sI → sJ → Prop) : Prop :=
  ((a1 < 0 → px I J) ∧ (¬ a1 < 0 → ((a1 < (I 134 1) → (vp_in a1 13 ∧ post (J 135 (Int32.toNatClampNeg a1)) I J)) ∧ (¬ a1 < (I 134 1) → px I J))))
theorem t_X11_row {X : sX} {a1 : Int32} {I : sI} {J : sJ} {post : Int64 → sI → sJ → Prop} {px : sI → sJ → Prop} (h : sOK X cX11_row RX11 2 6 100) (hr : tRt X (some .long) (sPl post) px) (hw : w_X11_row a1 I J post px) : sG X 2 0 [(0, .ref 0), (1, .int a1)] [] I J := by
  unfold w_X11_row at hw
  refine g_iload_n h rfl 1 rfl dX11_row_0 ?_
  refine g_if_lt (tgt := 15) h (by decide) dX11_row_1 (fun q1 => ?_) (fun q1 => ?_)
  · exact t_throw h hr (hw.1 q1) ⟨by decide, by decide⟩ (Nat.le_of_ble_eq_true rfl) dX11_row_15 dX11_row_18 dX11_row_19 dX11_row_22
  · replace hw := hw.2 q1
    refine g_iload_n h rfl 1 rfl dX11_row_4 ?_
    refine g_aload_n h rfl 0 rfl dX11_row_5 ?_
    refine g_get h is_0 fl_X11_41 fr_0_5 dX11_row_6 ?_
    refine g_get h is_134 fl_X11_196 rfl dX11_row_9 ?_
    refine g_icmp_lt (tgt := 23) h (by decide) dX11_row_12 (fun q12 => ?_) (fun q12 => ?_)
    · obtain ⟨hi, hw⟩ := hw.1 q12
      refine g_aload_n h rfl 0 rfl dX11_row_23 ?_
      refine g_get h is_0 fl_X11_41 fr_0_5 dX11_row_24 ?_
      refine g_get h is_134 fl_X11_428 fr_134_0 dX11_row_27 ?_
      refine g_iload_n h rfl 1 rfl dX11_row_30 ?_
      refine g_lald h ar_135 hi dX11_row_31 ?_
      exact t_lret h hr dX11_row_32 hw
    · exact t_throw h hr (hw.2 q12) ⟨by decide, by decide⟩ (Nat.le_of_ble_eq_true rfl) dX11_row_15 dX11_row_18 dX11_row_19 dX11_row_22
/-- contracts of at and row at the launch and the places of X -/
theorem c_X11_at {l : Launch} {D : va_G} {cy : Nat → ClassId} {ad : Nat → Nat} {a1 : Int32} {I : sI} {J : sJ} {post : Int32 → sI → sJ → Prop} {px : sI → sJ → Prop} (hst : l.stackTraces = false) (hw : w_X11_at a1 I J post px) : tMet l D cy ad yX11_at cX11_at 2 (some .int) 6 100 [.ref 0, .int a1] I J (sPi post) px := tMet_of hst (by decide +kernel) (Nat.le_of_ble_eq_true rfl) (fun X h hr => t_X11_at h hr hw)
theorem c_X11_row {l : Launch} {D : va_G} {cy : Nat → ClassId} {ad : Nat → Nat} {a1 : Int32} {I : sI} {J : sJ} {post : Int64 → sI → sJ → Prop} {px : sI → sJ → Prop} (hst : l.stackTraces = false) (hw : w_X11_row a1 I J post px) : tMet l D cy ad yX11_row cX11_row 2 (some .long) 6 100 [.ref 0, .int a1] I J (sPl post) px := tMet_of hst (by decide +kernel) (Nat.le_of_ble_eq_true rfl) (fun X h hr => t_X11_row h hr hw)
