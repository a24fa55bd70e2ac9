theorem mw_X11_at : sMwV yX11_at cX11_at 2 (some .int) 1 := ⟨⟨lw_i4 230 (by decide +kernel) (by decide +kernel), lw_i1 1 (by decide +kernel) (by decide +kernel), by decide +kernel, by decide +kernel, by decide +kernel⟩, lw_i4 228 (by decide +kernel) (by decide +kernel), lw_i4 229 (by decide +kernel) (by decide +kernel)⟩
theorem mw_X11_row : sMwV yX11_row cX11_row 2 (some .long) 1 := ⟨⟨lw_i5 58 (by decide +kernel) (by decide +kernel), lw_i1 1 (by decide +kernel) (by decide +kernel), by decide +kernel, by decide +kernel, by decide +kernel⟩, lw_i5 56 (by decide +kernel) (by decide +kernel), lw_i5 57 (by decide +kernel) (by decide +kernel)⟩
theorem lk_L_7 : Cond.methodLink RL 7 yX11_at ∈ lw_good := lw_i4 227 (by decide +kernel) (by decide +kernel)
theorem lk_L_15 : Cond.methodLink RL 15 yX11_row ∈ lw_good := lw_i5 55 (by decide +kernel) (by decide +kernel)
theorem dL_at_0 : decode cL_at 0 = .ok (.aload_n 2, 1) := by decide +kernel
theorem dL_at_1 : decode cL_at 1 = .ok (.iconst 0, 1) := by decide +kernel
theorem dL_at_2 : decode cL_at 2 = .ok (.aload_n 0, 1) := by decide +kernel
theorem dL_at_3 : decode cL_at 3 = .ok (.iload_n 1, 1) := by decide +kernel
theorem dL_at_4 : decode cL_at 4 = .ok (.invokevirtual 7, 3) := by decide +kernel
theorem dL_at_7 : decode cL_at 7 = .ok (.i2l, 1) := by decide +kernel
theorem dL_at_8 : decode cL_at 8 = .ok (.lastore, 1) := by decide +kernel
theorem dL_at_9 : decode cL_at 9 = .ok (.goto 6, 3) := by decide +kernel
theorem dL_at_12 : decode cL_at 12 = .ok (.astore_n 3, 1) := by decide +kernel
theorem dL_at_13 : decode cL_at 13 = .ok (.iconst 1, 1) := by decide +kernel
theorem dL_at_14 : decode cL_at 14 = .ok (.ireturn, 1) := by decide +kernel
theorem dL_at_15 : decode cL_at 15 = .ok (.iconst 0, 1) := by decide +kernel
theorem dL_at_16 : decode cL_at 16 = .ok (.ireturn, 1) := by decide +kernel
theorem dL_row_0 : decode cL_row 0 = .ok (.aload_n 2, 1) := by decide +kernel
theorem dL_row_1 : decode cL_row 1 = .ok (.iconst 0, 1) := by decide +kernel
theorem dL_row_2 : decode cL_row 2 = .ok (.aload_n 0, 1) := by decide +kernel
theorem dL_row_3 : decode cL_row 3 = .ok (.iload_n 1, 1) := by decide +kernel
theorem dL_row_4 : decode cL_row 4 = .ok (.invokevirtual 15, 3) := by decide +kernel
theorem dL_row_7 : decode cL_row 7 = .ok (.lastore, 1) := by decide +kernel
theorem dL_row_8 : decode cL_row 8 = .ok (.goto 6, 3) := by decide +kernel
theorem dL_row_11 : decode cL_row 11 = .ok (.astore_n 3, 1) := by decide +kernel
theorem dL_row_12 : decode cL_row 12 = .ok (.iconst 1, 1) := by decide +kernel
theorem dL_row_13 : decode cL_row 13 = .ok (.ireturn, 1) := by decide +kernel
theorem dL_row_14 : decode cL_row 14 = .ok (.iconst 0, 1) := by decide +kernel
theorem dL_row_15 : decode cL_row 15 = .ok (.ireturn, 1) := by decide +kernel
theorem ar_281 : sAr 281 3 1 := ⟨by decide, by decide +kernel, by decide +kernel⟩
theorem lw_nse : Cond.classLink RL 13 "java/util/NoSuchElementException" ∈ lw_good := List.mem_filter.mpr ⟨by decide +kernel, by decide +kernel⟩
section LAT
variable {X : sX} {cc : ByteArray} {fr lc pc : Nat} {lo : List (Nat × Value)} {st : List Value} {I : sI} {J : sJ} {hh : List (Nat × Nat × Nat × Nat)}
theorem lUp {nL : Nat} {own : String} {ret : Option FieldType} {post : Option Value → sI → sJ → Prop} (h : sOK X cc own nL fr lc) (hr : lRt X ret hh post) : sOK (xUp X) cc own nL fr lc := by
  obtain ⟨p, l, e, R, s, m, args, below, meth, c, D, cy, ad, A, H0, Q, ce, sl⟩ := X
  obtain ⟨hx, hb, hml, hown, hts, hK, hN, hA, hRm, rfl⟩ := h
  obtain ⟨-, -, -, -, -, -, -, -, -, -, hc1, hc6, rfl, rfl⟩ := hr
  exact ⟨hx, hb, hml, hown, hts, hK, hN, hA, ⟨hRm.1, hRm.2.1, hc1, hc6⟩, rfl⟩
theorem l_iret {nL : Nat} {own : String} {P : Int32 → sI → sJ → Prop} {r : Int32} (h : sOK X cc own nL fr lc) (hr : lRt X (some .int) hh (sPi P)) (d : decode cc pc = .ok (.ireturn, 1)) (hp : P r I J) : sG (xUp X) nL pc lo ([.int r]) I J := by
  obtain ⟨p, l, e, R, s, m, args, below, meth, c, D, cy, ad, A, H0, Q, ce, sl⟩ := X
  obtain ⟨hx, hb, hml, hown, hts, hK, hN, hA, hRm, rfl⟩ := h
  obtain ⟨hr, hlk, -, -, -, rfl, -, -, -, -, -, -, rfl, rfl⟩ := hr
  exact fun H locs ls hP hD hS hl => W.iret hx hb hr (fun t ht hW => ⟨⟨some (.int r), I, J, rfl, ⟨r, rfl, hp⟩, by rw [ht]; exact hP, va_K.moved hW.alike hK, hD⟩, hS.F ht⟩) hS.2.2 d hlk
/-- the handler: 1 is returned -/
theorem l_hand {P : Int32 → sI → sJ → Prop} {s0 e0 h0 : Nat} (h : sOK X cc RL 4 fr lc) (hr : lRt X (some .int) [(s0, e0, h0, 13)] (sPi P)) (hc : s0 ≤ pc ∧ pc < e0) (d0 : decode cc h0 = .ok (.astore_n 3, 1)) (d1 : decode cc (h0 + 1) = .ok (.iconst 1, 1)) (d2 : decode cc (h0 + 1 + 1) = .ok (.ireturn, 1)) (hp : P 1 I J) : lH X 4 pc lo st I J := by
  obtain ⟨p, l, e, R, s, m, args, below, meth, c, D, cy, ad, A, H0, Q, ce, sl⟩ := X
  obtain ⟨hx, hb, hml, hown, hts, hK, hN, hA, hRm, rfl⟩ := h
  obtain ⟨hr, hlk, -, -, -, rfl, -, hT, -, htab, -, -, rfl, rfl⟩ := hr
  intro H locs ls q9 ce hP hD hS hl hce hcv hcls T hT0 Xs
  refine W_catch (x := ⟨s0, e0, h0, 13⟩) (suf := []) (name := "java/util/NoSuchElementException") (E := "java/util/NoSuchElementException") hown htab (by simp [covers, hc.1, hc.2]) (fun z => by cases z) (hts _ lw_nse) (va_Nw.use rfl hT.2.2.2) hce hcv hcls ?_ hT0 Xs
  exact lv_astore_n hx hb d0 rfl hl (by decide) rfl (fun ls2 hl2 => lv_iconst (v := 1) hx hb d1 (by decide) (W.iret hx hb hr (fun t ht hW => ⟨⟨some (.int 1), I, J, rfl, ⟨1, rfl, hp⟩, by rw [ht]; exact hP, va_K.moved hW.alike hK, hD⟩, hS.F ht⟩) hS.2.2 d2 hlk))
end LAT
def w_L_at (a1 : Int32) (I : sI) (J : sJ) (post : Int32 → sI → sJ → Prop) : Prop := w_X11_at a1 I J (fun r I1 J1 => post 0 I1 (sUJ J1 281 0 r.toInt64)) (fun I1 J1 => post 1 I1 J1)
def w_L_row (a1 : Int32) (I : sI) (J : sJ) (post : Int32 → sI → sJ → Prop) : Prop := w_X11_row a1 I J (fun r I1 J1 => post 0 I1 (sUJ J1 281 0 r)) (fun I1 J1 => post 1 I1 J1)
theorem l_in0 : vp_in 0 1 := by
  unfold vp_in
  decide
theorem t_L_at {X : sX} {a1 : Int32} {I : sI} {J : sJ} {post : Int32 → sI → sJ → Prop} (h : sOK X cL_at RL 4 7 130) (hr : lRt X (some .int) [(0, 9, 12, 13)] (sPi post)) (hw : w_L_at a1 I J post) : sG X 4 0 [(0, .ref 0), (1, .int a1), (2, .ref 281)] [] I J := by
  refine g_aload_n h rfl 2 rfl dL_at_0 ?_
  refine g_iconst (v := 0) h (by decide) dL_at_1 ?_
  refine g_aload_n h rfl 0 rfl dL_at_2 ?_
  refine g_iload_n h rfl 1 rfl dL_at_3 ?_
  refine l_callX [.int a1] h hr (fun l D cy ad hst => c_X11_at (px := fun I1 J1 => post 1 I1 J1) hst hw) sPi_v mw_X11_at lk_L_7 is_0 rfl rfl ⟨by decide, by decide⟩ (Nat.le_of_ble_eq_true rfl) dL_at_4 (sPi_k (fun r I1 J1 hp => ?_)) (fun I1 J1 hp => ?_)
  · have h2 := lUp h hr
    refine g_i2l h2 dL_at_7 ?_
    refine g_last h2 ar_281 l_in0 dL_at_8 ?_
    refine g_goto (tgt := 15) h2 (by decide) dL_at_9 ?_
    refine g_iconst (v := 0) h2 (by decide) dL_at_15 ?_
    exact l_iret h hr dL_at_16 hp
  · exact l_hand h hr ⟨by decide, by decide⟩ dL_at_12 dL_at_13 dL_at_14 hp
theorem t_L_row {X : sX} {a1 : Int32} {I : sI} {J : sJ} {post : Int32 → sI → sJ → Prop} (h : sOK X cL_row RL 4 7 130) (hr : lRt X (some .int) [(0, 8, 11, 13)] (sPi post)) (hw : w_L_row a1 I J post) : sG X 4 0 [(0, .ref 0), (1, .int a1), (2, .ref 281)] [] I J := by
  refine g_aload_n h rfl 2 rfl dL_row_0 ?_
  refine g_iconst (v := 0) h (by decide) dL_row_1 ?_
  refine g_aload_n h rfl 0 rfl dL_row_2 ?_
  refine g_iload_n h rfl 1 rfl dL_row_3 ?_
  refine l_callX [.int a1] h hr (fun l D cy ad hst => c_X11_row (px := fun I1 J1 => post 1 I1 J1) hst hw) sPl_v mw_X11_row lk_L_15 is_0 rfl rfl ⟨by decide, by decide⟩ (Nat.le_of_ble_eq_true rfl) dL_row_4 (sPl_k (fun r I1 J1 hp => ?_)) (fun I1 J1 hp => ?_)
  · have h2 := lUp h hr
    refine g_last h2 ar_281 l_in0 dL_row_7 ?_
    refine g_goto (tgt := 14) h2 (by decide) dL_row_8 ?_
    refine g_iconst (v := 0) h2 (by decide) dL_row_14 ?_
    exact l_iret h hr dL_row_15 hp
  · exact l_hand h hr ⟨by decide, by decide⟩ dL_row_11 dL_row_12 dL_row_13 hp
theorem c_L_at {l : Launch} {D : va_G} {cy : Nat → ClassId} {ad : Nat → Nat} {a1 : Int32} {I : sI} {J : sJ} {post : Int32 → sI → sJ → Prop} (hst : l.stackTraces = false) (hw : w_L_at a1 I J post) : lMet l D cy ad yL_at cL_at 4 (some .int) [(0, 9, 12, 13)] 7 130 [.ref 0, .int a1, .ref 281] I J (sPi post) := lMet_of hst (by decide +kernel) (Nat.le_of_ble_eq_true rfl) (fun X h hr => t_L_at h hr hw)
theorem c_L_row {l : Launch} {D : va_G} {cy : Nat → ClassId} {ad : Nat → Nat} {a1 : Int32} {I : sI} {J : sJ} {post : Int32 → sI → sJ → Prop} (hst : l.stackTraces = false) (hw : w_L_row a1 I J post) : lMet l D cy ad yL_row cL_row 4 (some .int) [(0, 8, 11, 13)] 7 130 [.ref 0, .int a1, .ref 281] I J (sPi post) := lMet_of hst (by decide +kernel) (Nat.le_of_ble_eq_true rfl) (fun X h hr => t_L_row h hr hw)
