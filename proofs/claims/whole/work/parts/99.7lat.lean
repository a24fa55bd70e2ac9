/-! the law's own at and row: a call that may throw, caught by the first row of the table -/
def lMet (l : Launch) (D : va_G) (cy : Nat → ClassId) (ad : Nat → Nat) (y : MethodName) (cc : ByteArray) (nL : Nat) (ret : Option FieldType) (hh : List (Nat × Nat × Nat × Nat)) (fr lc : Nat) (av : List Value) (I : sI) (J : sJ) (post : Option Value → sI → sJ → Prop) : Prop :=
  ∀ sz : Nat, Met l y (Cond.codeWith y cc nL ret hh :: lw_good) { frames := fr, cells := 1, slots := 6, locals := lc } (va_Pc (av.map (sV ad)) (tPre D cy ad sz I J)) (sQ D cy ad (sA ad sz) post) 1 6 (sA ad sz)
def lRt (X : sX) (ret : Option FieldType) (hh : List (Nat × Nat × Nat × Nat)) (post : Option Value → sI → sJ → Prop) : Prop := match X with
  | (_, l, _, R, s, _, args, below, meth, c, D, cy, ad, A, H0, Q, ce, sl) => meth.sig.returnType = ret ∧ meth.locks = false ∧ H0 = s.heap ∧ A = sA ad s.heap.size ∧ va_K D vwCl (sTys cy) s ∧ Q = MQ below (sQ D cy ad A post) args s 1 6 A ∧ l.stackTraces = false ∧ tNW s ∧ tZ A s ∧ c.exceptionTable.toList = tableOf hh ∧ 1 ≤ R.cells ∧ 6 ≤ R.slots ∧ ce = 0 ∧ sl = 0
theorem lMet_of {l : Launch} {D : va_G} {cy : Nat → ClassId} {ad : Nat → Nat} {y : MethodName} {cc : ByteArray} {nL : Nat} {ret : Option FieldType} {hh : List (Nat × Nat × Nat × Nat)} {fr lc : Nat} {av : List Value} {I : sI} {J : sJ} {post : Option Value → sI → sJ → Prop} (hst : l.stackTraces = false) (hy : plainFor y = true) (hn : (lg_sl av).length ≤ nL)
    (k : ∀ (X : sX), sOK X cc y.cls nL fr lc → lRt X ret hh post → sG X nL 0 (lv_args 0 av) [] I J) : lMet l D cy ad y cc nL ret hh fr lc av I J post := by
  intro sz
  refine MetFree.of_bodySF (code := cc) (maxLocals := nL) (ret := ret) hy ?_ ?_
  · intro args s m h hn9
    obtain ⟨m9, meth, c, h0, h1, h2, h3, h4, h5, h6, h7, h8⟩ := Cond.codeWith_spec (atoms_spec (ws := Cond.codeWith y cc nL ret hh :: lw_good) h _ List.mem_cons_self)
    cases Option.some.inj (h0.symm.trans hn9)
    exact ⟨meth, c, h1, h2, h3, h4, h6, h7⟩
  · intro p e s m args below meth c s₁ B hml hv _
    obtain ⟨rfl, ⟨hsz, hP, hK, hN, hD0⟩, hT, hZ⟩ := hv
    have hts := atoms_spec (ws := Cond.codeWith y cc nL ret hh :: lw_good) B.pre
    have htab := vx_table (x := y) B (hts _ List.mem_cons_self)
    subst hsz
    have hD := sA_D (sz := s.heap.size) hD0
    have hcat : ∀ vs : List Value, lg_sl (vs.map (sV ad)) = (lg_sl vs).map (fun x => match x with | .val v => .val (sV ad v) | z => z) := by
      intro vs
      induction vs with
      | nil => rfl
      | cons v t ih =>
        unfold lg_sl at ih ⊢
        rw [List.map_cons, List.flatMap_cons, List.flatMap_cons, ih, sV_cat, List.map_append]
        by_cases hc : v.category = 2 <;> simp [hc]
    have hlen : (lg_sl (av.map (sV ad))).length ≤ nL := by rw [hcat, List.length_map]; exact hn
    have hl := lv_entry (av.map (sV ad)) (n := nL) hlen
    have hargs : ∀ (vs : List Value) (i : Nat), lv_args i (vs.map (sV ad)) = sLo ad (lv_args i vs) := by
      intro vs
      induction vs with
      | nil => intro i; rfl
      | cons v t ih =>
        intro i
        show (i, sV ad v) :: lv_args _ (t.map (sV ad)) = (i, sV ad v) :: sLo ad (lv_args _ t)
        rw [sV_cat, ih]
    rw [hargs] at hl
    have hh0 : s₁.heap = s.heap := by rw [B.state]; rfl
    have K := k (p, l, e, (headSpec (Cond.codeWith y cc nL ret hh :: lw_good) { frames := fr, cells := 1, slots := 6, locals := lc }).room, s, m, (av.map (sV ad)).toArray, below, meth, c, D, cy, ad, sA ad s.heap.size, s.heap, MQ below (sQ D cy ad (sA ad s.heap.size) post) (av.map (sV ad)).toArray s 1 6 (sA ad s.heap.size), 0, 0) ⟨B.exec, B.bytes, hml, findClass_of_methodNamed B.named, fun w hw => hts w (List.mem_cons_of_mem _ hw), hK, hN, fun q h => Or.inr h, ⟨Nat.le_refl _, Nat.le_refl _, Nat.zero_le _, Nat.zero_le _⟩, rfl⟩ ⟨B.returns, B.notSynchronized, rfl, rfl, hK, rfl, hst, hT, hZ, htab, Nat.le_refl _, Nat.le_refl _, rfl, rfl⟩ s.heap [] _ hP hD va_S.rf hl
    rw [lg_entry_eq]
    obtain ⟨t, a1, o, b1, b2, b3⟩ := K s₁ hh0 (Stand.of_body B)
    exact ⟨t, o, a1, b1, b2, ⟨b3.1, b3.2⟩⟩
/-- X behind the making of the exception -/
def xUp (X : sX) : sX := match X with
  | (p, l, e, R, s, m, args, below, meth, c, D, cy, ad, A, H0, Q, _, _) => (p, l, e, R, s, m, args, below, meth, c, D, cy, ad, A, H0, Q, 1, 6)
theorem tBlind {D : va_G} {cy : Nat → ClassId} {ad : Nat → Nat} {av : List Value} {sz : Nat} {I : sI} {J : sJ} : FrameBlind (va_Pc av (tPre D cy ad sz I J)) := by
  intro a U g mk q
  obtain ⟨q0, ⟨q1, qP, qK, qN, qD⟩, qT, qZ⟩ := q
  exact ⟨q0, ⟨q1, qP, va_K.moved (u := U) (U := U.calling g mk a) (Vm.Alike.refl U.vm) qK, ⟨va_Nw.same rfl rfl qN.1, va_Nw.same rfl rfl qN.2.1, va_Nw.same rfl rfl qN.2.2⟩, qD⟩, ⟨va_Nw.same rfl rfl qT.1, va_Nw.same rfl rfl qT.2.1, va_Nw.same rfl rfl qT.2.2.1, va_Nw.same rfl rfl qT.2.2.2⟩, vx_Zq.moved (u := U) (U := U.calling g mk a) (Vm.Alike.refl U.vm) qZ.1, vx_Zq.moved (u := U) (U := U.calling g mk a) (Vm.Alike.refl U.vm) qZ.2⟩
/-- at a throw, with the light heap as it then is -/
def lH (X : sX) (nL pc : Nat) (lo : List (Nat × Value)) (st : List Value) (I : sI) (J : sJ) : Prop := match X with
  | (p, l, e, R, s, m, args, below, meth, c, D, cy, ad, A, H0, Q, _, _) => ∀ (H : Heap) (locs : List Loc) (ls : Array Slot) (q9 : Addr) (ce : Cell), va_P D vwCl (sW cy ad I J) H → va_D A (sW cy ad I J) → va_S A H0 H locs → lv_has ls nL (sLo ad lo) → H[q9]? = some ce → ce.vm = .none → s.vm.findClass "java/util/NoSuchElementException" = some ce.cls → vx_W p l e R s m args below meth c H locs 1 6 Q (F0 m pc ls (st.map (sV ad))) q9
theorem l_callX {X : sX} {cc : ByteArray} {own : String} {nL fr lc pc : Nat} {lo : List (Nat × Value)} {st : List Value} {I : sI} {J : sJ} {P post : Option Value → sI → sJ → Prop} {px : sI → sJ → Prop} {ret rety : Option FieldType} {hh : List (Nat × Nat × Nat × Nat)} {y : MethodName} {cy1 : ByteArray} {nLy fry lcy n ix q ci : Nat} (As : List Value) (h : sOK X cc own nL fr lc) (hr : lRt X ret hh post) (hM : ∀ (l : Launch) (D : va_G) (cy : Nat → ClassId) (ad : Nat → Nat), l.stackTraces = false → tMet l D cy ad y cy1 nLy rety fry lcy (.ref q :: As) I J P px) (hv : ∀ v I1 J1, P v I1 J1 → v = none ∨ (∃ r, v = some (.int r)) ∨ ∃ r, v = some (.long r)) (hw : sMwV y cy1 nLy rety n) (hlk : Cond.methodLink own ix y ∈ lw_good) (hq : sIs q ci) (hcl : (sCl ci).1 = y.cls) (hn : As.length = n) (hR : fry + 1 ≤ fr ∧ 8 + (nLy + 11) + lcy ≤ lc) (hst : (st.map fun v => v.category).sum ≤ 8) (d : decode cc pc = .ok (.invokevirtual ix, 3))
    (kk : ∀ v I1 J1, P v I1 J1 → sG (xUp X) nL (pc + 3) lo (v.toList ++ st) I1 J1) (kx : ∀ I1 J1, px I1 J1 → lH X nL pc lo st I1 J1) : sG X nL pc lo (As.reverse ++ .ref q :: st) I J := by
  obtain ⟨p, l, e, R, s, m, args, below, meth, c, D, cy, ad, A, H0, Q, ce, sl⟩ := X
  obtain ⟨hx, hb, hml, hown, hts, hK, hN, hA, hRm, rfl⟩ := h
  obtain ⟨-, -, -, -, -, -, hstk, hT, hZ, -, hc1, hc6, rfl, rfl⟩ := hr
  have hR : fry + 1 ≤ R.frames ∧ 8 + (nLy + 11) + lcy ≤ R.locals := ⟨Nat.le_trans hR.1 hRm.1, Nat.le_trans hR.2 hRm.2.1⟩
  obtain ⟨⟨hcode, hini, hm1, hm2, hpar⟩, hinst, hsel⟩ := hw
  intro H locs ls hP hD hS hl
  have hin := sA_in hD hS hA
  have e1 : List.map (sV ad) (As.reverse ++ .ref q :: st) = (As.map (sV ad)).reverse ++ .ref (ad q) :: st.map (sV ad) := by rw [List.map_append, List.map_reverse]; rfl
  have run := vx_runV (p := p) (e := e) (below := below) (meth := meth) (locs := locs) (cells := 0) (slots := 0) (H := H) (g := F0 m pc ls (List.map (sV ad) (As.reverse ++ .ref q :: st))) (C := y.cls) (As := As.map (sV ad)) (rest := st.map (sV ad)) (n := n) ⟨hx, hb, hml, hown, hts⟩ (hM l D cy ad hstk H.size) ⟨callB_of n hts (sGood hcode) rfl rfl rfl (hts _ hini) (hts _ hlk) ⟨hm1, hm2, hpar⟩ hR, hts _ hinst, hts _ hsel⟩
    ⟨tBlind, (by have z := va_recv hK hP (sCl_get ci hq.2.2.2) (he := (by rw [sW_at hq.1, sE_is hq])); rw [hcl] at z; exact z), fun U hU hW => ⟨rfl, ⟨by rw [hU], by rw [hU]; exact hP, va_K.moved hW.alike hK, hN.warm hW, hD.weaken (fun _ _ _ _ => trivial)⟩, hT.warm hW, by
      have zq : ∀ C n d, vx_Zq C n d A s s.heap → vx_Zq C n d (sA ad H.size) U U.heap := fun C n d z => by rw [hU]; exact vx_Zq.narrow (vx_Zq.moved hW.alike (vx_Zq.kept z hS.2.1)) hin
      exact ⟨zq _ _ _ hZ.1, zq _ _ _ hZ.2⟩⟩⟩ rfl (by rw [List.length_map]; exact hn) hl.1 e1 (lv_room (by rw [sCats]; exact hst)) d ⟨by omega, by omega⟩
  intro T hT0 Xs
  have keep : ∀ (T' t : State) (L : List Loc), T'.heap = t.heap → (∀ q ∈ L, sA ad H.size q.base) → H.size ≤ t.heap.size → (∀ q : Nat, q < H.size → ¬ sA ad H.size q → t.heap[q]? = H[q]?) → va_S A s.heap T'.heap (locs ++ L) := fun T' t L e1 hL hz hk => ⟨Nat.le_trans hS.1 (by rw [e1]; exact hz), fun q h1 h2 => by rw [e1, hk q (Nat.lt_of_lt_of_le h1 hS.1) (fun z => h2 (hin q z))]; exact hS.2.1 q h1 h2, fun q hq => by
    rcases List.mem_append.mp hq with h | h
    · exact hS.2.2 q h
    · exact hin _ (hL q h)⟩
  rcases run T hT0 Xs with ⟨v, st₀, t, T', L, h0, X', hL, e1, e2, ⟨⟨v', I1, J1, hv', hp, hP1, hK1, hD1⟩, hz, hk⟩, stp⟩ | ⟨q9, st₀, t, T', L, E, ce, h0, X', hL, e1, e2, ⟨rfl, I1, J1, hp, hP1, hz, hk⟩, hce, hcv, hcls, stp⟩
  · cases hv'
    rw [h0] at hz hk
    have K := kk v I1 J1 hp T'.heap (locs ++ L) ls (by rw [e1]; exact hP1) (sD_any hD) (keep T' t L e1 hL hz hk) hl
    have K2 : W p l e R s m args below meth c T'.heap (locs ++ L) 1 6 Q (F0 m (pc + 3) ls (v.toList ++ st.map (sV ad))) := by
      rcases hv v I1 J1 hp with rfl | ⟨r, rfl⟩ | ⟨r, rfl⟩ <;> exact K
    obtain ⟨t2, a1, b1⟩ := K2 T' rfl X'
    exact ⟨t2, stp t2 a1, b1⟩
  · rw [h0] at hz hk
    obtain ⟨t2, a1, b1⟩ := kx I1 J1 hp T'.heap (locs ++ L) ls q9 ce (by rw [e1]; exact hP1) (sD_any hD) (keep T' t L e1 hL hz hk) hl (by rw [e1]; exact hce) hcv hcls T' rfl X'
    exact ⟨t2, stp.trans a1, b1⟩
