/-! methods that return or throw NoSuchElementException -/
def tE : String := "java/util/NoSuchElementException"
def tNW (U : State) : Prop := va_Nw (.declares ⟨"java/lang/RuntimeException", "<init>", "()V"⟩) U ∧ va_Nw (.declares ⟨"java/lang/Exception", "<init>", "()V"⟩) U ∧ va_Nw (.declares ⟨"java/lang/Throwable", "<init>", "()V"⟩) U ∧ va_Nw (.castable "java/util/NoSuchElementException" "java/util/NoSuchElementException") U
theorem tNW.warm {s U : State} (hW : s.WarmedH U.vm) (h : tNW s) : tNW U := ⟨va_Nw.warmD hW h.1, va_Nw.warmD hW h.2.1, va_Nw.warmD hW h.2.2.1, va_Nw.warmC hW h.2.2.2⟩
def tZ (A : Nat → Prop) (U : State) : Prop := vx_Zq Jvm.Bundle.tN "UNASSIGNED_STACK" Jvm.Bundle.steD A U U.heap ∧ vx_Zq Jvm.Bundle.tN "SUPPRESSED_SENTINEL" Jvm.Bundle.listD A U U.heap
def tPre (D : va_G) (cy : Nat → ClassId) (ad : Nat → Nat) (sz : Nat) (I : sI) (J : sJ) (U : State) : Prop := sPre D cy ad sz I J U ∧ tNW U ∧ tZ (sA ad sz) U
def tXC (D : va_G) (cy : Nat → ClassId) (ad : Nat → Nat) (A : Nat → Prop) (px : sI → sJ → Prop) : String → State → State → Prop := fun E st t => E = "java/util/NoSuchElementException" ∧ ∃ I J, px I J ∧ va_P D vwCl (sW cy ad I J) t.heap ∧ va_F A st t
def tMet (l : Launch) (D : va_G) (cy : Nat → ClassId) (ad : Nat → Nat) (y : MethodName) (cc : ByteArray) (nL : Nat) (ret : Option FieldType) (fr lc : Nat) (av : List Value) (I : sI) (J : sJ) (post : Option Value → sI → sJ → Prop) (px : sI → sJ → Prop) : Prop :=
  ∀ sz : Nat, vx_Met l y (Cond.code y cc nL ret :: lw_good) { frames := fr, cells := 1, slots := 6, locals := lc } (va_Pc (av.map (sV ad)) (tPre D cy ad sz I J)) (sQ D cy ad (sA ad sz) post) (tXC D cy ad (sA ad sz) px) 1 6 (sA ad sz)
def tRt (X : sX) (ret : Option FieldType) (post : Option Value → sI → sJ → Prop) (px : sI → sJ → Prop) : Prop := match X with
  | (_, l, _, R, s, _, args, below, meth, c, D, cy, ad, A, H0, Q, ce, sl) => meth.sig.returnType = ret ∧ meth.locks = false ∧ H0 = s.heap ∧ va_K D vwCl (sTys cy) s ∧ Q = vx_MQ below (sQ D cy ad A post) (tXC D cy ad A px) args s 1 6 A ∧ l.stackTraces = false ∧ tNW s ∧ tZ A s ∧ (∀ x ∈ c.exceptionTable.toList, False) ∧ 1 ≤ R.cells ∧ 6 ≤ R.slots ∧ ce = 0 ∧ sl = 0
theorem tMet_of {l : Launch} {D : va_G} {cy : Nat → ClassId} {ad : Nat → Nat} {y : MethodName} {cc : ByteArray} {nL : Nat} {ret : Option FieldType} {fr lc : Nat} {av : List Value} {I : sI} {J : sJ} {post : Option Value → sI → sJ → Prop} {px : sI → sJ → Prop} (hst : l.stackTraces = false) (hy : plainName y.cls = true) (hn : (lg_sl av).length ≤ nL)
    (k : ∀ (X : sX), sOK X cc y.cls nL fr lc → tRt X ret post px → sG X nL 0 (lv_args 0 av) [] I J) : tMet l D cy ad y cc nL ret fr lc av I J post px := by
  intro sz
  refine vx_ofW (cc := cc) (maxL := nL) (ret := ret) hy rfl ?_
  intro p e s m args below meth c s₁ B hml hno hv
  obtain ⟨rfl, ⟨hsz, hP, hK, hN, hD0⟩, hT, hZ⟩ := hv
  have hts := atoms_spec (ws := Cond.code y cc nL ret :: lw_good) B.pre
  subst hsz
  have hD := sA_D (sz := s.heap.size) hD0
  have hcat : ∀ vs : List Value, lg_sl (vs.map (sV ad)) = (lg_sl vs).map (fun x => match x with | .val v => .val (sV ad v) | z => z) := by
    intro vs
    induction vs with
    | nil => rfl
    | cons v t ih =>
      unfold lg_sl at ih ⊢
      rw [List.map_cons, List.flatMap_cons, List.flatMap_cons, ih, sV_cat, List.map_append]
      by_cases hc : v.category = 2 <;> simp [hc]
  have hlen : (lg_sl (av.map (sV ad))).length ≤ nL := by rw [hcat, List.length_map]; exact hn
  have hl := lv_entry (av.map (sV ad)) (n := nL) hlen
  have hargs : ∀ (vs : List Value) (i : Nat), lv_args i (vs.map (sV ad)) = sLo ad (lv_args i vs) := by
    intro vs
    induction vs with
    | nil => intro i; rfl
    | cons v t ih =>
      intro i
      show (i, sV ad v) :: lv_args _ (t.map (sV ad)) = (i, sV ad v) :: sLo ad (lv_args _ t)
      rw [sV_cat, ih]
  rw [hargs] at hl
  rw [lg_entry_eq]
  exact k (p, l, e, _, s, m, _, below, meth, c, D, cy, ad, sA ad s.heap.size, s.heap, _, 0, 0) ⟨B.exec, B.bytes, hml, findClass_of_methodNamed B.named, fun w hw => hts w (List.mem_cons_of_mem _ hw), hK, hN, fun q h => Or.inr h, ⟨Nat.le_refl _, Nat.le_refl _, Nat.zero_le _, Nat.zero_le _⟩, rfl⟩ ⟨B.returns, B.notSynchronized, rfl, hK, rfl, hst, hT, hZ, hno, Nat.le_refl _, Nat.le_refl _, rfl, rfl⟩ s.heap [] _ hP hD va_S.rf hl
theorem tw_k : Cond.classLink RX11 173 "java/util/NoSuchElementException" ∈ lw_good := List.mem_filter.mpr ⟨by decide +kernel, by decide +kernel⟩
theorem tw_i : Cond.initialized "java/util/NoSuchElementException" ∈ lw_good := List.mem_filter.mpr ⟨by decide +kernel, by decide +kernel⟩
theorem tw_a : ∀ w ∈ (vx_at0 RX11 175 "java/util/NoSuchElementException" ["java/lang/RuntimeException", "java/lang/Exception"]).filter goodWord, w ∈ lw_tbl := by decide +kernel
theorem tw_b : ∀ w ∈ (vx_at0 RX11 175 "java/util/NoSuchElementException" ["java/lang/RuntimeException", "java/lang/Exception"]).filter (fun w => !goodWord w), w ∈ [Cond.declares ⟨"java/lang/RuntimeException", "<init>", "()V"⟩, Cond.declares ⟨"java/lang/Exception", "<init>", "()V"⟩, Cond.declares ⟨"java/lang/Throwable", "<init>", "()V"⟩, Cond.castable "java/util/NoSuchElementException" "java/util/NoSuchElementException"] := by decide +kernel
theorem tw_g : ∀ w ∈ Cond.classLink RX11 173 "java/util/NoSuchElementException" :: Cond.initialized "java/util/NoSuchElementException" :: vx_at0 RX11 175 "java/util/NoSuchElementException" ["java/lang/RuntimeException", "java/lang/Exception"], vx_ot w = true := by decide +kernel
section TROWS
variable {X : sX} {cc : ByteArray} {nL fr lc pc : Nat} {lo : List (Nat × Value)} {st : List Value} {I : sI} {J : sJ} {px : sI → sJ → Prop}
theorem t_iret {P : Int32 → sI → sJ → Prop} {own : String} {r : Int32} (h : sOK X cc own nL fr lc) (hr : tRt X (some .int) (sPi P) px) (d : decode cc pc = .ok (.ireturn, 1)) (hp : P r I J) : sG X nL pc lo ([.int r]) I J := by
  obtain ⟨p, l, e, R, s, m, args, below, meth, c, D, cy, ad, A, H0, Q, ce, sl⟩ := X
  obtain ⟨hx, hb, hml, hown, hts, hK, hN, hA, hRm, rfl⟩ := h
  obtain ⟨hr, hlk, -, -, rfl, -, -, -, -, -, -, rfl, rfl⟩ := hr
  exact fun H locs ls hP hD hS hl => W.widen (k := 1) (n := 6) (Nat.zero_le _) (Nat.zero_le _) (vx_ret (W.iret hx hb hr (fun t ht hW => ⟨⟨some (.int r), I, J, rfl, ⟨r, rfl, hp⟩, by rw [ht]; exact hP, va_K.moved hW.alike hK, hD⟩, hS.F ht⟩) hS.2.2 d hlk))
theorem t_lret {P : Int64 → sI → sJ → Prop} {own : String} {r : Int64} (h : sOK X cc own nL fr lc) (hr : tRt X (some .long) (sPl P) px) (d : decode cc pc = .ok (.lreturn, 1)) (hp : P r I J) : sG X nL pc lo ([.long r]) I J := by
  obtain ⟨p, l, e, R, s, m, args, below, meth, c, D, cy, ad, A, H0, Q, ce, sl⟩ := X
  obtain ⟨hx, hb, hml, hown, hts, hK, hN, hA, hRm, rfl⟩ := h
  obtain ⟨hr, hlk, -, -, rfl, -, -, -, -, -, -, rfl, rfl⟩ := hr
  exact fun H locs ls hP hD hS hl => W.widen (k := 1) (n := 6) (Nat.zero_le _) (Nat.zero_le _) (vx_ret (W.lret hx hb hr (fun t ht hW => ⟨⟨some (.long r), I, J, rfl, ⟨r, rfl, hp⟩, by rw [ht]; exact hP, va_K.moved hW.alike hK, hD⟩, hS.F ht⟩) hS.2.2 d hlk))
theorem t_throw {ret : Option FieldType} {post : Option Value → sI → sJ → Prop} (h : sOK X cc RX11 nL fr lc) (hr : tRt X ret post px) (hp : px I J) (hR : 6 ≤ fr ∧ 100 ≤ lc) (hst : (st.map fun v => v.category).sum ≤ 8) (d0 : decode cc pc = .ok (.new 173, 3)) (d3 : decode cc (pc + 3) = .ok (.dup, 1)) (d4 : decode cc (pc + 4) = .ok (.invokespecial 175, 3)) (d7 : decode cc (pc + 7) = .ok (.athrow, 1)) : sG X nL pc lo st I J := by
  obtain ⟨p, l, e, R, s, m, args, below, meth, c, D, cy, ad, A, H0, Q, ce, sl⟩ := X
  obtain ⟨hx, hb, hml, hown, hts, hK, hN, hA, hRm, rfl⟩ := h
  obtain ⟨-, hlk, -, -, rfl, hstk, hT, hZ, hno, hc1, hc6, rfl, rfl⟩ := hr
  intro H locs ls hP hD hS hl
  have hat : ∀ w ∈ vx_at0 RX11 175 "java/util/NoSuchElementException" ["java/lang/RuntimeException", "java/lang/Exception"], w.before args s = true := vx_hat (fun w hw => hts w (List.mem_filter.mpr ⟨tw_a w hw, (List.mem_filter.mp hw).2⟩)) tw_b (vx_c (va_Nw.use rfl hT.1) (vx_c (va_Nw.use rfl hT.2.1) (vx_c (va_Nw.use rfl hT.2.2.1) (vx_c (va_Nw.use rfl hT.2.2.2) vx_n))))
  refine vx_throw0 (A := A) (names := ["java/lang/RuntimeException", "java/lang/Exception"]) hx hb hstk hown (by decide +kernel) (by decide +kernel) (hts _ tw_k) (hts _ tw_i) hat tw_g hZ.1 hZ.2 hS (by rw [hml]; exact hl.1) d0 d3 d4 d7 (fun x hx => (hno x hx).elim) (by show 2 + 3 < R.frames; omega) ?_ (by omega) (by omega) hlk (fun t ha hle ho => ⟨rfl, I, J, hp, hP.kept (fun k q hk => ho q.1 (hP k q hk).lt), ⟨Nat.le_trans hS.1 hle, fun q h1 h2 => by rw [ho q (Nat.lt_of_lt_of_le h1 hS.1)]; exact hS.2.1 q h1 h2⟩⟩) hS.2.2 (by omega) (by omega)
  rw [sCats]
  show _ + (13 * (2 + 1) + 42) ≤ R.locals
  omega
end TROWS
