/-! THE CLAIM OUT OF ONE WALK OF THE LAW'S BODY. Your part is whole_start (and what it stands on); all else here is the same for every law, but numbers. -/
def R_law : String := "ClayDiscLaw"
def lw_P (b : Addr) (xs : List Int32) (args : Array Value) (s : State) : Prop := args = #[.ref b] ∧ s.IntsAt b xs ∧ xs.length ≤ 3072 ∧ (Jvm.Cond.and given_1 narrow_1).before args s = true
def lw_Q (_ : Array Value) (s : State) (o : Outcome) (t : State) : Prop := o = .returned (some (.int 1)) ∧ Framed s o t [] 601024 7293034
def lw_Z (below : List Frame) (a : Array Value) (s : State) : State → Prop := fun t => ∃ o, t.status = .running ∧ Ended t below o ∧ lw_Q a s o t
/-- the law's own end, with 1 on the stack, nothing written that was there before, its room as the claim has it -/
theorem lw_ret {p : Program} {l : Launch} {e : Env} {s : State} {m : MethodId} {below : List Frame} {meth : Method} {c : Code} {b : Nat} (hx : p.tables.exec = Jvm.exec) (hb : c.code = code) (hr : meth.sig.returnType = ret) (hlocks : meth.locks = false) {pc : Nat} {H : Heap} {ls : Array Slot} (hdg : decode code pc = .ok (.ireturn, 1)) : W p l e room_1 s m #[Value.ref b] below meth c H [] 601024 7293034 (lw_Z below #[Value.ref b] s) (F0 m pc ls [.int 1]) := by
  intro T hT X
  obtain ⟨fs, hret, hrun, hended, hW, hframe⟩ := X.leave (v := some (.int 1)) (hlocks := hlocks) (fun h => by rw [hr] at h; cases h)
  have hmeth' : T.vm.method? m = some meth := X.method'
  refine ⟨T.setFrames fs, ?_, .returned (some (.int 1)), hrun, hended, rfl, ⟨_, rfl⟩, hW, hframe⟩
  jvm_step X.here [X.here.top, hx, hb, hdg, hmeth', hr, ret, narrow_b1]
  (try refine ⟨rfl, ?_⟩); (try refine ⟨rfl, ?_⟩)
  first | (intro acts; rw [hret _ acts rfl rfl rfl]) | rw [hret _ _ rfl rfl rfl]
  exact Steps.refl _
/-- what holds at the law's entry: the machine, the code, the tables' words (any of lw_tbl by 'hts w (by decide +kernel)'), the script of L ints xs at the cell b, what the Statement gives of the start (any of its parts by flat_of_before) -/
def lw_At (p : Program) (s : State) (m : MethodId) (meth : Method) (c : Code) (b L : Nat) (xs : Nat → Int32) : Prop :=
  p.tables.exec = Jvm.exec ∧ c.code = code ∧ meth.sig.returnType = ret ∧ c.maxLocals = 8 ∧ s.vm.findClass R_law = some m.cls ∧ (∀ w ∈ lw_tbl, w.before #[Value.ref b] s = true) ∧ va_X b L xs s s.heap ∧ b < s.heap.size ∧ meth.locks = false ∧ (Jvm.Cond.and given_1 narrow_1).before #[Value.ref b] s = true
/-! the law's own rows over the light heap: the script is place 282, which is no place of the shape -/
def lOb (l : Launch) (R : Room) (s : State) (args : Array Value) (below : List Frame) (meth : Method) (ad : Nat → Nat) (A : Nat → Prop) (H0 : Heap) (Q : State → Prop) (L : Nat) (xs : Nat → Int32) : Prop := va_X (ad 282) L xs s H0 ∧ ad 282 < H0.size ∧ ¬ A (ad 282) ∧ R = room_1 ∧ args = #[Value.ref (ad 282)] ∧ Q = lw_Z below args s ∧ meth.sig.returnType = ret ∧ meth.locks = false ∧ A = (fun q => s.heap.size ≤ q) ∧ l.stackTraces = false ∧ tNW s ∧ tZ A s
def lO (X : sX) (L : Nat) (xs : Nat → Int32) : Prop := match X with
  | (_, l, _, R, s, _, args, below, meth, _, _, _, ad, A, H0, Q, _, _) => lOb l R s args below meth ad A H0 Q L xs
/-- X with other counts of cells and slots -/
def xC (X : sX) (ce sl : Nat) : sX := match X with
  | (p, l, e, R, s, m, args, below, meth, c, D, cy, ad, A, H0, Q, _, _) => (p, l, e, R, s, m, args, below, meth, c, D, cy, ad, A, H0, Q, ce, sl)
theorem xC_ok {X : sX} {L ce sl : Nat} {xs : Nat → Int32} {cc : ByteArray} {own : String} {nL fr lc : Nat} (h : sOK X cc own nL fr lc) (ho : lO X L xs) (h1 : ce ≤ 601024) (h2 : sl ≤ 7293034) : sOK (xC X ce sl) cc own nL fr lc ∧ lO (xC X ce sl) L xs := by
  obtain ⟨p, l, e, R, s, m, args, below, meth, c, D, cy, ad, A, H0, Q, ce0, sl0⟩ := X
  obtain ⟨hx, hb, hml, hown, hts, hK, hN, hA, hRm, rfl⟩ := h
  have ho2 : lOb l R s args below meth ad A s.heap Q L xs := ho
  have e1 : R.cells = 601024 := by rw [ho2.2.2.2.1]; rfl
  have e2 : R.slots = 7293034 := by rw [ho2.2.2.2.1]; rfl
  refine ⟨?_, ?_⟩
  · exact ⟨hx, hb, hml, hown, hts, hK, hN, hA, ⟨hRm.1, hRm.2.1, Nat.le_trans h1 (Nat.le_of_eq e1.symm), Nat.le_trans h2 (Nat.le_of_eq e2.symm)⟩, rfl⟩
  · exact ho2
section LAWROWS
variable {X : sX} {cc : ByteArray} {own : String} {nL fr lc pc L : Nat} {xs : Nat → Int32} {lo : List (Nat × Value)} {st : List Value} {I : sI} {J : sJ}
theorem l_sld {i : Int32} (h : sOK X cc own nL fr lc) (ho : lO X L xs) (hi : vp_in i L) (d : decode cc pc = .ok (.iaload, 1)) (k : sG X nL (pc + 1) lo (.int (xs i.toNatClampNeg) :: st) I J) : sG X nL pc lo (.int i :: .ref 282 :: st) I J := by
  obtain ⟨p, l, e, R, s, m, args, below, meth, c, D, cy, ad, A, H0, Q, ce, sl⟩ := X
  obtain ⟨hx, hb, hml, hown, hts, hK, hN, hA, hRm, rfl⟩ := h
  exact fun H locs ls hP hD hS hl => va_sld hx hb ho.1 ho.2.1 ho.2.2.1 hS hi d (k H locs ls hP hD hS hl)
theorem l_slen (h : sOK X cc own nL fr lc) (ho : lO X L xs) (d : decode cc pc = .ok (.arraylength, 1)) (k : sG X nL (pc + 1) lo (.int (nI L) :: st) I J) : sG X nL pc lo (.ref 282 :: st) I J := by
  obtain ⟨p, l, e, R, s, m, args, below, meth, c, D, cy, ad, A, H0, Q, ce, sl⟩ := X
  obtain ⟨hx, hb, hml, hown, hts, hK, hN, hA, hRm, rfl⟩ := h
  exact fun H locs ls hP hD hS hl => va_slen hx hb ho.1 ho.2.1 ho.2.2.1 hS d (k H locs ls hP hD hS hl)
theorem l_tabIn {dflt a z off : Int} {offs : Array Int} {len tgt : Nat} {x : Int32} (h : sOK X cc own nL fr lc) (d : decode cc pc = .ok (.tableswitch dflt a z offs, len)) (h1 : ¬ x.toInt < a) (h2 : ¬ z < x.toInt) (ho : offs[(x.toInt - a).toNat]? = some off) (ht : (pc : Int) + off = (tgt : Int)) (k : sG X nL tgt lo st I J) : sG X nL pc lo (.int x :: st) I J := by
  obtain ⟨p, l, e, R, s, m, args, below, meth, c, D, cy, ad, A, H0, Q, ce, sl⟩ := X
  obtain ⟨hx, hb, hml, hown, hts, hK, hN, hA, hRm, rfl⟩ := h
  exact fun H locs ls hP hD hS hl => lv_tableIn hx hb d h1 h2 ho ht (k H locs ls hP hD hS hl)
theorem l_tabOut {dflt a z : Int} {offs : Array Int} {len tgt : Nat} {x : Int32} (h : sOK X cc own nL fr lc) (d : decode cc pc = .ok (.tableswitch dflt a z offs, len)) (h1 : x.toInt < a ∨ z < x.toInt) (ht : (pc : Int) + dflt = (tgt : Int)) (k : sG X nL tgt lo st I J) : sG X nL pc lo (.int x :: st) I J := by
  obtain ⟨p, l, e, R, s, m, args, below, meth, c, D, cy, ad, A, H0, Q, ce, sl⟩ := X
  obtain ⟨hx, hb, hml, hown, hts, hK, hN, hA, hRm, rfl⟩ := h
  exact fun H locs ls hP hD hS hl => lv_tableOut hx hb d h1 ht (k H locs ls hP hD hS hl)
theorem l_wide {ce sl ce' sl' : Nat} (h1 : ce ≤ ce') (h2 : sl ≤ sl') (k : sG (xC X ce' sl') nL pc lo st I J) : sG (xC X ce sl) nL pc lo st I J := by
  obtain ⟨p, l, e, R, s, m, args, below, meth, c, D, cy, ad, A, H0, Q, ce0, sl0⟩ := X
  exact fun H locs ls hP hD hS hl => W.widen h1 h2 (k H locs ls hP hD hS hl)
/-- the law's end -/
theorem l_end (h : sOK X code own nL fr lc) (ho : lO X L xs) (d : decode code pc = .ok (.ireturn, 1)) : sG X nL pc lo [.int 1] I J := by
  obtain ⟨p, l, e, R, s, m, args, below, meth, c, D, cy, ad, A, H0, Q, ce, sl⟩ := X
  obtain ⟨hx, hb, hml, hown, hts, hK, hN, hA, hRm, rfl⟩ := h
  obtain ⟨hX, hbl, hbA, rfl, rfl, rfl, hr, hlk, rfl, -, -, -⟩ := ho
  exact fun H locs ls hP hD hS hl => va_forget (fun q hq => hS.2.2 q hq) (W.widen (k := 601024) (n := 7293034) hRm.2.2.1 hRm.2.2.2 (lw_ret hx hb hr hlk d))
/-- the words of a static method with a table -/
def lMw (ix : Nat) (y : MethodName) (cc : ByteArray) (nL : Nat) (ret : Option FieldType) (hh : List (Nat × Nat × Nat × Nat)) (n : Nat) : Prop := Cond.codeWith y cc nL ret hh ∈ lw_good ∧ Cond.initialized y.cls ∈ lw_good ∧ (y.cls ≠ "java/lang/invoke/MethodHandle" ∧ y.cls ≠ "java/lang/invoke/VarHandle" ∧ (parseMethodDescriptor y.desc).map (fun d => d.parameters.length) = some n) ∧ Cond.methodLink RL ix y ∈ lw_good ∧ Cond.static y ∈ lw_good
theorem l_callL {ce sl : Nat} {P : Option Value → sI → sJ → Prop} {y : MethodName} {cy1 : ByteArray} {nLy fry lcy n ix : Nat} {rety : Option FieldType} {hh : List (Nat × Nat × Nat × Nat)} (As : List Value) (h : sOK (xC X ce sl) cc RL nL fr lc) (ho : lO (xC X ce sl) L xs) (hM : ∀ (l : Launch) (D : va_G) (cy : Nat → ClassId) (ad : Nat → Nat), l.stackTraces = false → lMet l D cy ad y cy1 nLy rety hh fry lcy As I J P) (hv : ∀ v I1 J1, P v I1 J1 → v = none ∨ (∃ r, v = some (.int r)) ∨ ∃ r, v = some (.long r)) (hw : lMw ix y cy1 nLy rety hh n) (hn : As.length = n) (hR : fry + 1 ≤ fr ∧ 8 + (nLy + 11) + lcy ≤ lc) (hc : ce + 1 ≤ 601024 ∧ sl + 6 ≤ 7293034) (hst : (st.map fun v => v.category).sum ≤ 8) (d : decode cc pc = .ok (.invokestatic ix, 3))
    (kk : ∀ v I1 J1, P v I1 J1 → sG (xC X (ce + 1) (sl + 6)) nL (pc + 3) lo (v.toList ++ st) I1 J1) : sG (xC X ce sl) nL pc lo (As.reverse ++ st) I J := by
  obtain ⟨p, l, e, R, s, m, args, below, meth, c, D, cy, ad, A, H0, Q, ce0, sl0⟩ := X
  obtain ⟨hx, hb, hml, hown, hts, hK, hN, hA, hRm, rfl⟩ := h
  obtain ⟨hX, hbl, hbA, rfl, -, -, -, -, -, hstk, hT, hZ⟩ := ho
  have hR : fry + 1 ≤ room_1.frames ∧ 8 + (nLy + 11) + lcy ≤ room_1.locals := ⟨Nat.le_trans hR.1 hRm.1, Nat.le_trans hR.2 hRm.2.1⟩
  obtain ⟨hcode, hini, hd, hlk, hstat⟩ := hw
  intro H locs ls hP hD hS hl
  have hin := sA_in hD hS hA
  have e1 : List.map (sV ad) (As.reverse ++ st) = (As.map (sV ad)).reverse ++ st.map (sV ad) := by rw [List.map_append, List.map_reverse]
  have gd : GoodIn lw_good (va_wsS RL ix y (Cond.codeWith y cy1 nLy rety hh :: lw_good)) := by
    have key : ∀ w ∈ lw_good, w ∈ lw_good ∧ ((w.onTables && w.keeps) = true ∨ ∃ ty, w = .arrayClass ty) := fun w hw => ⟨hw, good_of_word (List.mem_filter.mp hw).2⟩
    intro w hw
    unfold va_wsS at hw
    simp only [List.cons_append, List.nil_append, List.mem_cons] at hw
    rcases hw with rfl | rfl | rfl | rfl | hw
    · exact key _ hlk
    · exact key _ hstat
    · exact key _ hini
    · exact key _ hcode
    · exact key _ hw
  have run := vx_runSW (p := p) (e := e) (below := below) (meth := meth) (locs := locs) (cells := ce) (slots := sl) (H := H) (g := F0 m pc ls (List.map (sV ad) (As.reverse ++ st))) (As := As.map (sV ad)) (rest := st.map (sV ad)) (n := n) ⟨hx, hb, hml, hown, hts⟩ (hM l D cy ad hstk H.size) (vx_cwSW n hts gd rfl rfl rfl hd hR)
    ⟨tBlind, fun U hU hW => ⟨rfl, ⟨by rw [hU], by rw [hU]; exact hP, va_K.moved hW.alike hK, hN.warm hW, hD.weaken (fun _ _ _ _ => trivial)⟩, hT.warm hW, by
      have zq : ∀ C n d, vx_Zq C n d A s s.heap → vx_Zq C n d (sA ad H.size) U U.heap := fun C n d z => by rw [hU]; exact vx_Zq.narrow (vx_Zq.moved hW.alike (vx_Zq.kept z hS.2.1)) hin
      exact ⟨zq _ _ _ hZ.1, zq _ _ _ hZ.2⟩⟩⟩ rfl (by rw [List.length_map]; exact hn) hl.1 e1 (lv_room (by rw [sCats]; exact hst)) d hc
  intro T hT0 Xs
  obtain ⟨v, st₀, t, T', L9, h0, X', hL, e1, e2, ⟨⟨v', I1, J1, hv', hp, hP1, hK1, hD1⟩, hz, hk⟩, stp⟩ := run T hT0 Xs
  cases hv'
  rw [h0] at hz hk
  have K := kk v I1 J1 hp T'.heap (locs ++ L9) ls (by rw [e1]; exact hP1) (sD_any hD)
    ⟨Nat.le_trans hS.1 (by rw [e1]; exact hz), fun q h1 h2 => by rw [e1, hk q (Nat.lt_of_lt_of_le h1 hS.1) (fun z => h2 (hin q z))]; exact hS.2.1 q h1 h2, fun q hq => by
      rcases List.mem_append.mp hq with h | h
      · exact hS.2.2 q h
      · exact hin _ (hL q h)⟩ hl
  have K2 : W p l e room_1 s m args below meth c T'.heap (locs ++ L9) (ce + 1) (sl + 6) Q (F0 m (pc + 3) ls (v.toList ++ st.map (sV ad))) := by
    rcases hv v I1 J1 hp with rfl | ⟨r, rfl⟩ | ⟨r, rfl⟩ <;> exact K
  obtain ⟨t2, a1, b1⟩ := K2 T' rfl X'
  exact ⟨t2, stp t2 a1, b1⟩
end LAWROWS
theorem lMw_at : lMw 49 yL_at cL_at 4 (some .int) [(0, 9, 12, 13)] 3 := ⟨lw_i4 225 (by decide +kernel) (by decide +kernel), lw_i1 0 (by decide +kernel) (by decide +kernel), ⟨by decide +kernel, by decide +kernel, by decide +kernel⟩, lw_i4 223 (by decide +kernel) (by decide +kernel), lw_i4 224 (by decide +kernel) (by decide +kernel)⟩
theorem lMw_row : lMw 222 yL_row cL_row 4 (some .int) [(0, 8, 11, 13)] 3 := ⟨lw_i5 54 (by decide +kernel) (by decide +kernel), lw_i1 0 (by decide +kernel) (by decide +kernel), ⟨by decide +kernel, by decide +kernel, by decide +kernel⟩, lw_i5 52 (by decide +kernel) (by decide +kernel), lw_i5 53 (by decide +kernel) (by decide +kernel)⟩
theorem St_use {f g : sI → sJ → (Int32 → sI → sJ → Prop) → Prop} {I : sI} {J : sJ} (h : St f g I J) : f I J (fun r I1 J1 => g I1 J1 (fun r2 I2 J2 => r = r2 ∧ RR0 I2 J2)) := h
