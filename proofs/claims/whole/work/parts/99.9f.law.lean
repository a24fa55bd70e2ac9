/-! the law's start: the walk -/
section LST
variable {X : sX} {cy : Nat → ClassId} {cc : ByteArray} {own : String} {nL fr lc rc rs pc sz ce sl b : Nat} {lo : List (Nat × Value)} {st : List Value} {ws : va_W}
theorem a_astore_n {k0 : Fin 4} {i x : Nat} {lo2 : List (Nat × Value)} (h : gOK X cy cc own nL fr lc rc rs) (hi : (k0 : Nat) = i) (hn : i < nL) (he : (i, Value.ref x) :: lo.filter (fun q : Nat × Value => !(q.1 == i) && !(q.1 + 1 == i && q.2.category == 2)) = lo2) (d : decode cc pc = .ok (.astore_n k0, 1)) (k : gG X nL (pc + 1) lo2 st ws sz ce sl) : gG X nL pc lo (.ref x :: st) ws sz ce sl := by
  obtain ⟨p, l, e, R, s, m, args, below, meth, c, D, cy', ad, A, H0, Q, ce0, sl0⟩ := X
  obtain ⟨hx, hb, hml, hown, hts, hK, hN, hN2, hA, hRm, rfl, rfl⟩ := h
  exact fun H locs ls hz hP hD hS hl => lv_astore_n hx hb d hi hl hn he (fun ls2 hl2 => k H locs ls2 hz hP hD hS hl2)
theorem gG_n {sz' ce' sl' : Nat} (e0 : sz = sz') (e1 : ce = ce') (e2 : sl = sl') (k : gG X nL pc lo st ws sz' ce' sl') : gG X nL pc lo st ws sz ce sl := by
  subst e0; subst e1; subst e2; exact k
/-- <init> of the first object -/
theorem a_init0 {q n k mc ms nLy fry lcy ix base pz : Nat} {fs0 : List Value} {y : MethodName} {cy1 : ByteArray} (As : List Value) (h : gOK X cy cc own nL fr lc rc rs) (hbs : gB X base) (hM : gCall X cy b q n k fs0 As y cy1 nLy fry lcy mc ms) (hsz : b + q + 1 = sz) (hpz : b + q = pz) (hbq : base ≤ b + q) (hk : 1 ≤ k) (hw : sMw y cy1 nLy none As.length) (hi : y.name = "<init>" ∧ Cond.instanceMethod y ∈ lw_good) (hlk : Cond.methodLink own ix y ∈ lw_good) (hR : (fry + 1 ≤ fr ∧ 8 + (nLy + 11) + lcy ≤ lc) ∧ ce + mc ≤ rc ∧ sl + ms ≤ rs) (hst : (st.map fun v => v.category).sum ≤ 8) (d : decode cc pc = .ok (.invokespecial ix, 3)) (kk : gG X nL (pc + 3) lo st (wN cy b q k) (b + q + k) (ce + mc) (sl + ms)) : gG X nL pc lo (As.reverse ++ .ref (b + q) :: st) [(pz, .inr (n, fs0))] sz ce sl := by
  obtain ⟨p, l, e, R, s, m, args, below, meth, c, D, cy', ad, A, H0, Q, ce0, sl0⟩ := X
  obtain ⟨hx, hb, hml, hown, hts, hK, hN1, hN2, hA, hRm, rfl, rfl⟩ := h
  subst hsz; subst hpz
  have hbs : s.heap.size = base := hbs
  obtain ⟨hcode, hini, hm1, hm2, hpar⟩ := hw
  intro H locs ls hz hP hD hS hl
  refine gAfter (cy := cy') (mc := mc) (ms := ms) (a := (Value.ref (b + q) :: As).toArray) (ws := []) (st := st) hA (by omega) hz hP hD hS hk ?_ (fun H1 locs1 z1 P1 D1 S1 => kk H1 locs1 ls z1 P1 D1 S1 hl)
  exact va_runI (b := b + q) (As := As) (rest := st) (n := As.length) ⟨hx, hb, hml, hown, hts⟩ hM ⟨callB_of As.length hts (sGood hcode) rfl rfl rfl (hts _ hini) (hts _ hlk) ⟨hm1, hm2, hpar⟩ ⟨Nat.le_trans hR.1.1 hRm.1, Nat.le_trans hR.1.2 hRm.2.1⟩, hi.1, hts _ hi.2⟩ ⟨gBlind, fun U hU hW => ⟨rfl, by rw [hU]; exact hz, by rw [hU]; exact hP 0 _ rfl, va_K.moved hW.alike hK, hN1.warm hW, hN2.warm hW⟩⟩ rfl rfl hl.1 rfl (lv_room hst) d ⟨by omega, by omega⟩
end LST
theorem ls_walk {X : sX} {cy : Nat → ClassId} {B b0 : Nat} (h : gOK X cy cL_law RL 8 40 1200 601024 7293034) (hB : gB X B) (hM1 : gCall X cy B 0 11 248 lf_11 [] yX11_init cX11_init 2 3 60 247 21281) (hM2 : gCall X cy B 248 12 33 lf_12 [] yX12_init cX12_init 1 1 20 32 105094) (kk : gG X 8 20 [(3, .ref (B + 281)), (2, .ref (B + 248)), (1, .ref (B + 0)), (0, .ref b0)] [] (wN cy B 0 282) (B + 282) 282 126449) : gG X 8 0 [(0, .ref b0)] [] [] B 0 0 := by
  refine a_new (n := 11) (fs := lf_11) h (by decide) nw_L_8 df_X11 (by decide) dL_law_0 ?_
  refine gG_w (ws' := [(B + 0, .inr (11, lf_11))]) rfl ?_
  refine gG_n (sz' := B + 0 + 1) (ce' := 1) (sl' := 17) rfl rfl (by decide) ?_
  refine a_dup h rfl dL_law_3 ?_
  refine a_init0 (b := B) (q := 0) [] h hB hM1 rfl rfl (Nat.le_refl _) (by decide) mw_X11_init im_X11_init lk_L_19 (by decide) (Nat.le_of_ble_eq_true rfl) dL_law_4 ?_
  refine a_astore_n (lo2 := [(1, .ref (B + 0)), (0, .ref b0)]) h rfl (by decide) rfl dL_law_7 ?_
  refine gG_w (ws' := (B + 0, gE cy B 0) :: ([] ++ wN cy B 1 247)) rfl ?_
  refine gG_n (sz' := B + 248) (ce' := 248) (sl' := 21298) (by omega) rfl rfl ?_
  refine a_new (n := 12) (fs := lf_12) h (by decide) nw_L_20 df_X12 (by decide) dL_law_8 ?_
  refine gG_n (sz' := B + 248 + 1) (ce' := 249) (sl' := 21354) rfl rfl (by decide) ?_
  refine a_dup h rfl dL_law_11 ?_
  refine a_initP (b := B) (q := 248) (lw := 1) (j := 247) [] h hB hM2 rfl rfl rfl (Nat.le_add_right _ _) (by decide) mw_X12_init im_X12_init lk_L_22 (by decide) (Nat.le_of_ble_eq_true rfl) dL_law_12 ?_
  refine a_astore_n (lo2 := [(2, .ref (B + 248)), (1, .ref (B + 0)), (0, .ref b0)]) h rfl (by decide) rfl dL_law_15 ?_
  refine a_iconst (v := 1) h (by decide) dL_law_16 ?_
  refine gG_w (ws' := (B + 0, gE cy B 0) :: ([] ++ wN cy B 1 280)) rfl ?_
  refine gG_n (sz' := B + 281) (ce' := 281) (sl' := 126448) (by omega) rfl rfl ?_
  refine a_newL (b := B) (q := 281) (lw := 1) (j := 280) (N := 1) h rfl rfl ar_281 lw_acL (by decide) (by decide) (by decide) (by decide) dL_law_17 ?_
  refine a_astore_n (lo2 := [(3, .ref (B + 281)), (2, .ref (B + 248)), (1, .ref (B + 0)), (0, .ref b0)]) h rfl (by decide) rfl dL_law_19 ?_
  exact gG_w (ws' := wN cy B 0 282) rfl (gG_n (sz' := B + 282) (ce' := 282) (sl' := 126449) rfl rfl rfl kk)
/-- places, with the script at 282 -/
def lA (B b0 : Nat) : Nat → Nat := fun q => if q = 282 then b0 else B + q
theorem lA_ne {B b0 q : Nat} (h : q ≠ 282) : lA B b0 q = B + q := if_neg h
theorem sR_ne (q k : Nat) : sR q k ≠ 282 := by
  have key : ∀ p, p < 282 → ∀ x ∈ (sSp p).2.2, x < 282 := by decide +kernel
  unfold sR
  by_cases hq : q < 282
  · rw [List.getD_eq_getElem?_getD]
    cases e : (sSp q).2.2[k]? with
    | none => exact fun z => by cases z
    | some x => exact Nat.ne_of_lt (key q hq x (List.mem_of_getElem? e))
  · have : sSp q = (9, 0, []) := by
      unfold sSp
      rw [List.getD_eq_getElem?_getD, List.getElem?_eq_none (by show sShL.length ≤ q; have : sShL.length = 282 := by decide +kernel
                                                                omega)]
      rfl
    rw [this]
    exact fun z => by cases z
theorem lA_R {B b0 : Nat} (q k : Nat) : lA B b0 (sR q k) = B + sR q k := lA_ne (sR_ne q k)
theorem sE_lA {cy : Nat → ClassId} {B b0 : Nat} {I : sI} {J : sJ} {p : Nat} : sE cy (lA B b0) I J p = sE cy (fun q => B + q) I J p := by
  have hV : ∀ n k, sV (lA B b0) (sF I J p n k) = sV (fun q => B + q) (sF I J p n k) := fun n k => by
    unfold sF
    cases sTy n k <;> first | rfl | exact congrArg Value.ref (lA_R _ _)
  unfold sE
  simp only [hV, lA_R]
theorem sW_lA {cy : Nat → ClassId} {B b0 : Nat} {I : sI} {J : sJ} : sW cy (lA B b0) I J = sW cy (fun q => B + q) I J := by
  unfold sW
  apply List.map_congr_left
  intro p hp
  have hp : p < 282 := List.mem_range.mp hp
  rw [sE_lA, lA_ne (Nat.ne_of_lt hp)]
theorem lA_D {cy : Nat → ClassId} {B b0 : Nat} {I : sI} {J : sJ} : va_D (fun q => B ≤ q) (sW cy (lA B b0) I J) := by
  rw [sW_lA]
  have key : ∀ (k : Nat) (q : Nat × va_E), (sW cy (fun q => B + q) I J)[k]? = some q → q.1 = B + k := fun k q hk => by
    by_cases hl : k < sLen
    · rw [sW_at hl] at hk
      cases hk
      rfl
    · unfold sW at hk
      simp [hl] at hk
  refine ⟨fun i j p q hi hj e => ?_, fun k q hk => ?_⟩
  · have := key i p hi
    have := key j q hj
    omega
  · show B ≤ q.1
    have := key k q hk
    omega
/-- THE LAW, from its entry -/
theorem whole_start {p : Program} {e : Env} {s : State} {m : MethodId} {below : List Frame} {meth : Method} {c : Code} (l : Launch) (hst : l.stackTraces = false) {b L : Nat} {xs : Nat → Int32} (hL : L ≤ 3072) (C0 : lw_At p s m meth c b L xs) : W p l e room_1 s m #[Value.ref b] below meth c s.heap [] 0 0 (lw_Z below #[Value.ref b] s) (entryFrame m ([Value.ref b] : List Value).toArray 8) := by
  obtain ⟨hx, hb, hr, hml, hown, hts, hX, hbl, hlocks, hgv⟩ := C0
  obtain ⟨D, cy, hK⟩ := ls_K hts
  have hg : ∀ w ∈ lw_good, w.before #[Value.ref b] s = true := fun w hw => hts w (List.mem_filter.mp hw).1
  have hl := lv_entry ([.ref b]) (n := 8) (Nat.le_of_ble_eq_true rfl)
  rw [lg_entry_eq]
  generalize (lg_sl ([.ref b]) ++ List.replicate (8 - (lg_sl ([.ref b])).length) Slot.unset).toArray = ls at hl ⊢
  have hl : lv_has ls 8 [(0, .ref b)] := hl
  have hN2 := ls_sNW hts
  have h0 : sOK (p, l, e, room_1, s, m, #[Value.ref b], below, meth, c, D, cy, lA s.heap.size b, (fun q => s.heap.size ≤ q), s.heap, lw_Z below #[Value.ref b] s, 0, 0) cL_law RL 8 40 1200 := ⟨hx, hb, hml, hown, hg, hK, hN2, fun q h => h, ⟨by decide, by decide, by decide, by decide⟩, rfl⟩
  have ho0 : lO (p, l, e, room_1, s, m, #[Value.ref b], below, meth, c, D, cy, lA s.heap.size b, (fun q => s.heap.size ≤ q), s.heap, lw_Z below #[Value.ref b] s, 0, 0) L xs := by
    have : lOb l room_1 s #[Value.ref b] below meth (lA s.heap.size b) (fun q => s.heap.size ≤ q) s.heap (lw_Z below #[Value.ref b] s) L xs := ⟨hX, hbl, Nat.not_le.mpr hbl, rfl, rfl, rfl, hr, hlocks, rfl, hst, ls_tNW hts, ls_tZ hts hgv⟩
    exact this
  have K1 := l_loop hL h0 ho0 (L + 1) 0 282 126449 gI0 gJ0 (by omega) (by omega) rfl rfl R_0
  obtain ⟨h1, -⟩ := xC_ok (ce := 282) (sl := 126449) h0 ho0 (by decide) (by decide)
  have K2 : sG (xC (p, l, e, room_1, s, m, #[Value.ref b], below, meth, c, D, cy, lA s.heap.size b, (fun q => s.heap.size ≤ q), s.heap, lw_Z below #[Value.ref b] s, 0, 0) 282 126449) 8 20 [(3, .ref 281), (2, .ref 248), (1, .ref 0), (0, .ref 282)] [] gI0 gJ0 := by
    refine g_iconst (v := 0) h1 (by decide) dL_law_20 ?_
    refine g_istore (lo2 := [(4, .int 0), (3, .ref 281), (2, .ref 248), (1, .ref 0), (0, .ref 282)]) h1 (by decide) rfl dL_law_21 ?_
    exact g_sub (lo2 := [(0, .ref 282), (1, .ref 0), (2, .ref 248), (3, .ref 281), (4, .int (nI (6 * 0)))]) [4, 3, 2, 1, 0] rfl K1
  have K3 : gG (p, l, e, room_1, s, m, #[Value.ref b], below, meth, c, D, cy, lA s.heap.size b, (fun q => s.heap.size ≤ q), s.heap, lw_Z below #[Value.ref b] s, 0, 0) 8 20 [(3, .ref (s.heap.size + 281)), (2, .ref (s.heap.size + 248)), (1, .ref (s.heap.size + 0)), (0, .ref b)] [] (wN cy s.heap.size 0 282) (s.heap.size + 282) 282 126449 := fun H locs ls hz hP hD hS hl => K2 H locs ls (by rw [sW_lA]; exact sW_wN hP) lA_D hS hl
  have K4 := ls_walk (X := (p, l, e, room_1, s, m, #[Value.ref b], below, meth, c, D, cy, lA s.heap.size b, (fun q => s.heap.size ≤ q), s.heap, lw_Z below #[Value.ref b] s, 0, 0)) (cy := cy) (B := s.heap.size) (b0 := b) ⟨hx, hb, hml, hown, hg, hK, ls_gNW hts, hN2, fun q h => h, ⟨by decide, by decide, Nat.le_refl _, Nat.le_refl _⟩, rfl, rfl⟩ rfl (i_X11_0 l D cy s.heap.size) (i_X12_248 l D cy s.heap.size) K3
  exact K4 s.heap [] ls rfl (fun k q h => by cases h) ⟨fun i j p q h => (by cases h), fun k q h => (by cases h)⟩ va_S.rf hl
