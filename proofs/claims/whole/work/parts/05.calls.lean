/-- a contract at the launch and the places of X -/
def sCall (X : sX) (y : MethodName) (cc : ByteArray) (nL : Nat) (ret : Option FieldType) (fr lc : Nat) (av : List Value) (I : sI) (J : sJ) (post : Option Value → sI → sJ → Prop) : Prop := match X with
  | (_, l, _, _, _, _, _, _, _, _, D, cy, ad, _, _, _, _, _) => sMet l D cy ad y cc nL ret fr lc av I J post
theorem sCall_of {X : sX} {y : MethodName} {cc : ByteArray} {nL : Nat} {ret : Option FieldType} {fr lc : Nat} {av : List Value} {I : sI} {J : sJ} {post : Option Value → sI → sJ → Prop} (hy : plainFor y = true) (hn : (lg_sl av).length ≤ nL) (k : ∀ X : sX, sOK X cc y.cls nL fr lc → sRt X ret post → sG X nL 0 (lv_args 0 av) [] I J) : sCall X y cc nL ret fr lc av I J post := by
  obtain ⟨p, l, e, R, s, m, args, below, meth, c, D, cy, ad, A, H0, Q, ce, sl⟩ := X
  exact sMet_of hy hn k
/-- the words of a method that is called: n is the number of its parameters -/
def sMw (y : MethodName) (cc : ByteArray) (nL : Nat) (ret : Option FieldType) (n : Nat) : Prop := Cond.code y cc nL ret ∈ lw_good ∧ Cond.initialized y.cls ∈ lw_good ∧ y.cls ≠ "java/lang/invoke/MethodHandle" ∧ y.cls ≠ "java/lang/invoke/VarHandle" ∧ (parseMethodDescriptor y.desc).map (fun d => d.parameters.length) = some n
def sMwV (y : MethodName) (cc : ByteArray) (nL : Nat) (ret : Option FieldType) (n : Nat) : Prop := sMw y cc nL ret n ∧ Cond.instanceMethod y ∈ lw_good ∧ Cond.selects y.cls y y ∈ lw_good
def sMwS (y : MethodName) (cc : ByteArray) (nL : Nat) (ret : Option FieldType) (n : Nat) : Prop := sMw y cc nL ret n ∧ Cond.static y ∈ lw_good
theorem sGood {y : MethodName} {cc : ByteArray} {nL : Nat} {ret : Option FieldType} (h : Cond.code y cc nL ret ∈ lw_good) : GoodIn lw_good (Cond.code y cc nL ret :: lw_good) := by
  have key : ∀ w ∈ lw_good, w ∈ lw_good ∧ ((w.onTables && w.keeps) = true ∨ ∃ ty, w = .arrayClass ty) := fun w hw => ⟨hw, good_of_word (List.mem_filter.mp hw).2⟩
  intro w hw
  rcases List.mem_cons.mp hw with rfl | hw
  · exact key _ h
  · exact key _ hw
theorem sBlind {D : va_G} {cy : Nat → ClassId} {ad : Nat → Nat} {av : List Value} {sz : Nat} {I : sI} {J : sJ} : FrameBlind (va_Pc av (sPre D cy ad sz I J)) := by
  intro a U g mk q
  obtain ⟨q0, q1, qP, qK, qN, qD⟩ := q
  exact ⟨q0, q1, qP, va_K.moved (u := U) (U := U.calling g mk a) (Vm.Alike.refl U.vm) qK, ⟨va_Nw.same rfl rfl qN.1, va_Nw.same rfl rfl qN.2.1, va_Nw.same rfl rfl qN.2.2⟩, qD⟩
theorem sCats (ad : Nat → Nat) (st : List Value) : ((st.map (sV ad)).map fun v => v.category) = st.map fun v => v.category := by
  rw [List.map_map]
  congr 1
  funext v
  exact sV_cat ad v
section SCALLS
variable {X : sX} {cc : ByteArray} {own : String} {nL fr lc pc : Nat} {lo : List (Nat × Value)} {st : List Value} {I : sI} {J : sJ}
/-- behind a call -/
theorem sAfter {p : Program} {l : Launch} {e : Env} {R : Room} {s : State} {m : MethodId} {args a : Array Value} {below : List Frame} {meth : Method} {c : Code} {D : va_G} {cy : Nat → ClassId} {ad : Nat → Nat} {A : Nat → Prop} {H0 H : Heap} {Q : State → Prop} {ce sl : Nat} {P : Option Value → sI → sJ → Prop} {locs : List Loc} {ls : Array Slot} {st0 : List Value}
    (hA : ∀ q, H0.size ≤ q → A q) (hD : va_D A (sW cy ad I J)) (hS : va_S A H0 H locs) (hl : lv_has ls nL (sLo ad lo))
    (hr : va_Run p l e R s m args below meth c H locs ce sl 0 0 (F0 m pc ls st0) (st.map (sV ad)) (sQ D cy ad (sA ad H.size) P a) (sA ad H.size))
    (kk : ∀ (v : Option Value) (I1 : sI) (J1 : sJ), P v I1 J1 → ∀ (H : Heap) (locs : List Loc) (ls : Array Slot), va_P D vwCl (sW cy ad I1 J1) H → va_D A (sW cy ad I1 J1) → va_S A H0 H locs → lv_has ls nL (sLo ad lo) → W p l e R s m args below meth c H locs ce sl Q (F0 m (pc + 3) ls (v.toList ++ st.map (sV ad)))) :
    W p l e R s m args below meth c H locs ce sl Q (F0 m pc ls st0) := by
  intro T hT X
  have hin := sA_in hD hS hA
  obtain ⟨v, st₀, t, T', L, h0, X', hL, e1, e2, ⟨⟨v', I1, J1, hv, hp, hP1, hK1, hD1⟩, hz, hk⟩, stp⟩ := hr T hT X
  cases hv
  rw [h0] at hz hk
  obtain ⟨t2, a1, b1⟩ := kk v I1 J1 hp T'.heap (locs ++ L) ls (by rw [e1]; exact hP1) (sD_any hD)
    ⟨Nat.le_trans hS.1 (by rw [e1]; exact hz), fun q h1 h2 => by rw [e1, hk q (Nat.lt_of_lt_of_le h1 hS.1) (fun z => h2 (hin q z))]; exact hS.2.1 q h1 h2, fun q hq => by
      rcases List.mem_append.mp hq with h | h
      · exact hS.2.2 q h
      · exact hin _ (hL q h)⟩ hl T' rfl X'
  exact ⟨t2, stp t2 a1, b1⟩
theorem sVn {P : Option Value → sI → sJ → Prop} {p : Program} {l : Launch} {e : Env} {R : Room} {s : State} {m : MethodId} {args : Array Value} {below : List Frame} {meth : Method} {c : Code} {D : va_G} {cy : Nat → ClassId} {ad : Nat → Nat} {A : Nat → Prop} {H0 : Heap} {Q : State → Prop} {ce sl : Nat} {v : Option Value} (hv : v = none ∨ (∃ r, v = some (.int r)) ∨ ∃ r, v = some (.long r)) (k : sG (p, l, e, R, s, m, args, below, meth, c, D, cy, ad, A, H0, Q, ce, sl) nL pc lo (v.toList ++ st) I J) (H : Heap) (locs : List Loc) (ls : Array Slot) (hP : va_P D vwCl (sW cy ad I J) H) (hD : va_D A (sW cy ad I J)) (hS : va_S A H0 H locs) (hl : lv_has ls nL (sLo ad lo)) :
    W p l e R s m args below meth c H locs ce sl Q (F0 m pc ls (v.toList ++ st.map (sV ad))) := by
  rcases hv with rfl | ⟨r, rfl⟩ | ⟨r, rfl⟩ <;> exact k H locs ls hP hD hS hl
theorem g_callV {P : Option Value → sI → sJ → Prop} {y : MethodName} {cy1 : ByteArray} {nLy fry lcy n ix q ci : Nat} {rety : Option FieldType} (As : List Value) (h : sOK X cc own nL fr lc) (hM : sCall X y cy1 nLy rety fry lcy (.ref q :: As) I J P) (hv : ∀ v I1 J1, P v I1 J1 → v = none ∨ (∃ r, v = some (.int r)) ∨ ∃ r, v = some (.long r)) (hw : sMwV y cy1 nLy rety n) (hlk : Cond.methodLink own ix y ∈ lw_good) (hq : sIs q ci) (hcl : (sCl ci).1 = y.cls) (hn : As.length = n) (hR : fry + 1 ≤ fr ∧ 8 + (nLy + 11) + lcy ≤ lc) (hst : (st.map fun v => v.category).sum ≤ 8) (d : decode cc pc = .ok (.invokevirtual ix, 3))
    (kk : ∀ v I1 J1, P v I1 J1 → sG X nL (pc + 3) lo (v.toList ++ st) I1 J1) : sG X nL pc lo (As.reverse ++ .ref q :: st) I J := by
  obtain ⟨p, l, e, R, s, m, args, below, meth, c, D, cy, ad, A, H0, Q, ce, sl⟩ := X
  obtain ⟨hx, hb, hml, hown, hts, hK, hN, hA, hRm, rfl⟩ := h
  have hR : fry + 1 ≤ R.frames ∧ 8 + (nLy + 11) + lcy ≤ R.locals := ⟨Nat.le_trans hR.1 hRm.1, Nat.le_trans hR.2 hRm.2.1⟩
  obtain ⟨⟨hcode, hini, hm1, hm2, hpar⟩, hinst, hsel⟩ := hw
  intro H locs ls hP hD hS hl
  refine sAfter (P := P) (st := st) (a := (Value.ref (ad q) :: As.map (sV ad)).toArray) hA hD hS hl ?_ (fun v I1 J1 hp => sVn (P := P) (hv v I1 J1 hp) (kk v I1 J1 hp))
  have e1 : List.map (sV ad) (As.reverse ++ .ref q :: st) = (As.map (sV ad)).reverse ++ .ref (ad q) :: st.map (sV ad) := by rw [List.map_append, List.map_reverse]; rfl
  exact va_runV (C := y.cls) (As := As.map (sV ad)) (rest := st.map (sV ad)) (n := n) ⟨hx, hb, hml, hown, hts⟩ (hM H.size) ⟨callB_of n hts (sGood hcode) rfl rfl rfl (hts _ hini) (hts _ hlk) ⟨hm1, hm2, hpar⟩ hR, hts _ hinst, hts _ hsel⟩
    ⟨sBlind, (by have z := va_recv hK hP (sCl_get ci hq.2.2.2) (he := (by rw [sW_at hq.1, sE_is hq])); rw [hcl] at z; exact z), fun U hU hW => ⟨rfl, by rw [hU], by rw [hU]; exact hP, va_K.moved hW.alike hK, hN.warm hW, hD.weaken (fun _ _ _ _ => trivial)⟩⟩ rfl (by rw [List.length_map]; exact hn) hl.1 e1 (lv_room (by rw [sCats]; exact hst)) d ⟨hRm.2.2.1, hRm.2.2.2⟩
theorem g_callS {P : Option Value → sI → sJ → Prop} {y : MethodName} {cy1 : ByteArray} {nLy fry lcy n ix : Nat} {rety : Option FieldType} (As : List Value) (h : sOK X cc own nL fr lc) (hM : sCall X y cy1 nLy rety fry lcy As I J P) (hv : ∀ v I1 J1, P v I1 J1 → v = none ∨ (∃ r, v = some (.int r)) ∨ ∃ r, v = some (.long r)) (hw : sMwS y cy1 nLy rety n) (hlk : Cond.methodLink own ix y ∈ lw_good) (hn : As.length = n) (hR : fry + 1 ≤ fr ∧ 8 + (nLy + 11) + lcy ≤ lc) (hst : (st.map fun v => v.category).sum ≤ 8) (d : decode cc pc = .ok (.invokestatic ix, 3))
    (kk : ∀ v I1 J1, P v I1 J1 → sG X nL (pc + 3) lo (v.toList ++ st) I1 J1) : sG X nL pc lo (As.reverse ++ st) I J := by
  obtain ⟨p, l, e, R, s, m, args, below, meth, c, D, cy, ad, A, H0, Q, ce, sl⟩ := X
  obtain ⟨hx, hb, hml, hown, hts, hK, hN, hA, hRm, rfl⟩ := h
  have hR : fry + 1 ≤ R.frames ∧ 8 + (nLy + 11) + lcy ≤ R.locals := ⟨Nat.le_trans hR.1 hRm.1, Nat.le_trans hR.2 hRm.2.1⟩
  obtain ⟨⟨hcode, hini, hm1, hm2, hpar⟩, hstat⟩ := hw
  intro H locs ls hP hD hS hl
  refine sAfter (P := P) (st := st) (a := (As.map (sV ad)).toArray) hA hD hS hl ?_ (fun v I1 J1 hp => sVn (P := P) (hv v I1 J1 hp) (kk v I1 J1 hp))
  have e1 : List.map (sV ad) (As.reverse ++ st) = (As.map (sV ad)).reverse ++ st.map (sV ad) := by rw [List.map_append, List.map_reverse]
  exact va_runS (As := As.map (sV ad)) (rest := st.map (sV ad)) (n := n) ⟨hx, hb, hml, hown, hts⟩ (hM H.size) ⟨callB_of n hts (sGood hcode) rfl rfl rfl (hts _ hini) (hts _ hlk) ⟨hm1, hm2, hpar⟩ hR, hts _ hstat⟩
    ⟨sBlind, fun U hU hW => ⟨rfl, by rw [hU], by rw [hU]; exact hP, va_K.moved hW.alike hK, hN.warm hW, hD.weaken (fun _ _ _ _ => trivial)⟩⟩ rfl (by rw [List.length_map]; exact hn) hl.1 e1 (lv_room (by rw [sCats]; exact hst)) d ⟨hRm.2.2.1, hRm.2.2.2⟩
theorem g_callN {P : Option Value → sI → sJ → Prop} {y : MethodName} {cy1 : ByteArray} {nLy fry lcy n ix : Nat} {rety : Option FieldType} (host : String) (As : List Value) (h : sOK X cc own nL fr lc) (hM : sCall X y cy1 nLy rety fry lcy As I J P) (hv : ∀ v I1 J1, P v I1 J1 → v = none ∨ (∃ r, v = some (.int r)) ∨ ∃ r, v = some (.long r)) (hw : sMwS y cy1 nLy rety n) (hlk : ∀ U, sNW U → va_Nw (.methodLinkNest own ix y host) U) (hn : As.length = n) (hR : fry + 1 ≤ fr ∧ 8 + (nLy + 11) + lcy ≤ lc) (hst : (st.map fun v => v.category).sum ≤ 8) (d : decode cc pc = .ok (.invokestatic ix, 3))
    (kk : ∀ v I1 J1, P v I1 J1 → sG X nL (pc + 3) lo (v.toList ++ st) I1 J1) : sG X nL pc lo (As.reverse ++ st) I J := by
  obtain ⟨p, l, e, R, s, m, args, below, meth, c, D, cy, ad, A, H0, Q, ce, sl⟩ := X
  obtain ⟨hx, hb, hml, hown, hts, hK, hN, hA, hRm, rfl⟩ := h
  have hR : fry + 1 ≤ R.frames ∧ 8 + (nLy + 11) + lcy ≤ R.locals := ⟨Nat.le_trans hR.1 hRm.1, Nat.le_trans hR.2 hRm.2.1⟩
  obtain ⟨⟨hcode, hini, hm1, hm2, hpar⟩, hstat⟩ := hw
  intro H locs ls hP hD hS hl
  refine sAfter (P := P) (st := st) (a := (As.map (sV ad)).toArray) hA hD hS hl ?_ (fun v I1 J1 hp => sVn (P := P) (hv v I1 J1 hp) (kk v I1 J1 hp))
  have e1 : List.map (sV ad) (As.reverse ++ st) = (As.map (sV ad)).reverse ++ st.map (sV ad) := by rw [List.map_append, List.map_reverse]
  exact va_runSN (As := As.map (sV ad)) (rest := st.map (sV ad)) (n := n) ⟨hx, hb, hml, hown, hts⟩ (hM H.size) ⟨va_cnB n hts (sGood hcode) rfl rfl rfl (hlk s hN) (hts _ hini) ⟨hm1, hm2, hpar⟩ hR, hts _ hstat, trivial⟩
    ⟨sBlind, fun U hU hW => ⟨rfl, by rw [hU], by rw [hU]; exact hP, va_K.moved hW.alike hK, hN.warm hW, hD.weaken (fun _ _ _ _ => trivial)⟩⟩ rfl (by rw [List.length_map]; exact hn) hl.1 e1 (lv_room (by rw [sCats]; exact hst)) d ⟨hRm.2.2.1, hRm.2.2.2⟩
end SCALLS
/-- typed ends of calls -/
theorem sPi_v {P : Int32 → sI → sJ → Prop} : ∀ v I1 J1, sPi P v I1 J1 → v = none ∨ (∃ r, v = some (.int r)) ∨ ∃ r, v = some (.long r) := fun v _ _ h => Or.inr (Or.inl ⟨h.choose, h.choose_spec.1⟩)
theorem sPl_v {P : Int64 → sI → sJ → Prop} : ∀ v I1 J1, sPl P v I1 J1 → v = none ∨ (∃ r, v = some (.int r)) ∨ ∃ r, v = some (.long r) := fun v _ _ h => Or.inr (Or.inr ⟨h.choose, h.choose_spec.1⟩)
theorem sPv_v {P : sI → sJ → Prop} : ∀ v I1 J1, sPv P v I1 J1 → v = none ∨ (∃ r, v = some (.int r)) ∨ ∃ r, v = some (.long r) := fun v _ _ h => Or.inl h.1
theorem sPi_k {X : sX} {nL pc : Nat} {lo : List (Nat × Value)} {st : List Value} {P : Int32 → sI → sJ → Prop} (k : ∀ r I1 J1, P r I1 J1 → sG X nL pc lo (.int r :: st) I1 J1) : ∀ v I1 J1, sPi P v I1 J1 → sG X nL pc lo (v.toList ++ st) I1 J1 := by
  rintro v I1 J1 ⟨r, rfl, hp⟩
  exact k r I1 J1 hp
theorem sPl_k {X : sX} {nL pc : Nat} {lo : List (Nat × Value)} {st : List Value} {P : Int64 → sI → sJ → Prop} (k : ∀ r I1 J1, P r I1 J1 → sG X nL pc lo (.long r :: st) I1 J1) : ∀ v I1 J1, sPl P v I1 J1 → sG X nL pc lo (v.toList ++ st) I1 J1 := by
  rintro v I1 J1 ⟨r, rfl, hp⟩
  exact k r I1 J1 hp
theorem sPv_k {X : sX} {nL pc : Nat} {lo : List (Nat × Value)} {st : List Value} {P : sI → sJ → Prop} (k : ∀ I1 J1, P I1 J1 → sG X nL pc lo st I1 J1) : ∀ v I1 J1, sPv P v I1 J1 → sG X nL pc lo (v.toList ++ st) I1 J1 := by
  rintro v I1 J1 ⟨rfl, hp⟩
  exact k I1 J1 hp
