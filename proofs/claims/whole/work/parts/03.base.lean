/-! the light heap: places instead of addresses, a static shape, ints in I and longs in J by (place, slot) -/
abbrev sI : Type := Nat → Nat → Int32
abbrev sJ : Type := Nat → Nat → Int64
def sSp (p : Nat) : Nat × Nat × List Nat := sShL.getD p (9, 0, [])
def sR (q k : Nat) : Nat := (sSp q).2.2.getD k 0
/-- q is an object of class n; q is an array of tag t and length n -/
def sIs (q n : Nat) : Prop := q < sLen ∧ (sSp q).1 = 0 ∧ (sSp q).2.1 = n ∧ n < 13
def sAr (q t n : Nat) : Prop := q < sLen ∧ (sSp q).1 = t ∧ (sSp q).2.1 = n
def sUI (I : sI) (p k : Nat) (x : Int32) : sI := fun q j => if q = p ∧ j = k then x else I q j
def sUJ (J : sJ) (p k : Nat) (x : Int64) : sJ := fun q j => if q = p ∧ j = k then x else J q j
def sV (ad : Nat → Nat) : Value → Value
  | .ref q => .ref (ad q)
  | v => v
def sF (I : sI) (J : sJ) (q n k : Nat) : Value := match sTy n k with
  | .long => .long (J q k)
  | .object _ => .ref (sR q k)
  | .array _ => .ref (sR q k)
  | _ => .int (I q k)
def sE (cy : Nat → ClassId) (ad : Nat → Nat) (I : sI) (J : sJ) (p : Nat) : va_E := match (sSp p).1 with
  | 0 => .inr ((sSp p).2.1, (List.range (sCl (sSp p).2.1).2.2).map (fun k => sV ad (sF I J p (sSp p).2.1 k)))
  | 1 => .inl (cy 1, (sSp p).2.1, .inl (I p))
  | 2 => .inl (cy 2, (sSp p).2.1, .inl (I p))
  | 3 => .inl (cy 3, (sSp p).2.1, .inr (.inl (J p)))
  | t => .inl (cy t, (sSp p).2.1, .inr (.inr (.inr (.inr (fun i => some (ad (sR p i)))))))
def sW (cy : Nat → ClassId) (ad : Nat → Nat) (I : sI) (J : sJ) : va_W := (List.range sLen).map (fun p => (ad p, sE cy ad I J p))
def sTys (cy : Nat → ClassId) : List (ClassId × FieldType) := [(cy 0, .int), (cy 1, .int), (cy 2, .boolean), (cy 3, .long), (cy 4, .object "ClayDisc$Told"), (cy 5, .object "ClayDisc$Tongue"), (cy 6, .array .int), (cy 7, .array .long)]
/-- the words of nest mates -/
def sNW (U : State) : Prop := va_Nw (.methodLinkNest RX10 81 yX11_shiftOf RX11) U ∧ va_Nw (.methodLinkNest RX10 94 yX11_letterIn RX11) U ∧ va_Nw (.methodLinkNest RX5 105 yX11_letterIn RX11) U
theorem sNW.warm {s U : State} (hW : s.WarmedH U.vm) (h : sNW s) : sNW U := ⟨va_Nw.warmM hW h.1, va_Nw.warmM hW h.2.1, va_Nw.warmM hW h.2.2⟩
theorem sW_at {cy : Nat → ClassId} {ad : Nat → Nat} {I : sI} {J : sJ} {p : Nat} (h : p < sLen) : (sW cy ad I J)[p]? = some (ad p, sE cy ad I J p) := by
  unfold sW
  rw [List.getElem?_map, List.getElem?_range h]
  rfl
theorem sE_congr {cy : Nat → ClassId} {ad : Nat → Nat} {I I' : sI} {J J' : sJ} {q : Nat} (hI : I' q = I q) (hJ : J' q = J q) : sE cy ad I' J' q = sE cy ad I J q := by
  have hF : ∀ n k, sF I' J' q n k = sF I J q n k := fun n k => by unfold sF; rw [hI, hJ]
  unfold sE
  simp only [hF, hI, hJ]
theorem sW_set {cy : Nat → ClassId} {ad : Nat → Nat} {I I' : sI} {J J' : sJ} {p : Nat} {e : va_E} (h1 : sE cy ad I' J' p = e) (h2 : ∀ q, q ≠ p → I' q = I q ∧ J' q = J q) : (sW cy ad I J).set p (ad p, e) = sW cy ad I' J' := by
  apply List.ext_getElem?
  intro q
  unfold sW
  rw [List.getElem?_set]
  by_cases hq : p = q
  · subst hq
    by_cases hp : p < sLen
    · simp [hp, h1]
    · simp [hp]
  · rw [if_neg hq]
    by_cases hp : q < sLen
    · rw [List.getElem?_map, List.getElem?_map, List.getElem?_range hp]
      obtain ⟨a, b⟩ := h2 q (fun h => hq h.symm)
      simp [sE_congr (cy := cy) (ad := ad) a b]
    · simp [hp]
theorem sUI_ne {I : sI} {p k q : Nat} {x : Int32} (h : q ≠ p) : sUI I p k x q = I q := by
  funext j
  simp [sUI, h]
theorem sUJ_ne {J : sJ} {p k q : Nat} {x : Int64} (h : q ≠ p) : sUJ J p k x q = J q := by
  funext j
  simp [sUJ, h]
theorem sUI_eq {I : sI} {p k : Nat} {x : Int32} : sUI I p k x p = upd (I p) k x := by
  funext j
  simp [sUI, upd]
theorem sUJ_eq {J : sJ} {p k : Nat} {x : Int64} : sUJ J p k x p = vp_updL (J p) k x := by
  funext j
  simp [sUJ, vp_updL]
theorem sE_is {cy : Nat → ClassId} {ad : Nat → Nat} {I : sI} {J : sJ} {q n : Nat} (h : sIs q n) : sE cy ad I J q = .inr (n, (List.range (sCl n).2.2).map (fun k => sV ad (sF I J q n k))) := by
  obtain ⟨-, h1, h2, -⟩ := h
  unfold sE
  rw [h1, h2]
  rfl
theorem sE_i {cy : Nat → ClassId} {ad : Nat → Nat} {I : sI} {J : sJ} {q n : Nat} (h : sAr q 1 n) : sE cy ad I J q = .inl (cy 1, n, .inl (I q)) := by
  obtain ⟨-, h1, h2⟩ := h
  unfold sE
  rw [h1, h2]
  rfl
theorem sE_z {cy : Nat → ClassId} {ad : Nat → Nat} {I : sI} {J : sJ} {q n : Nat} (h : sAr q 2 n) : sE cy ad I J q = .inl (cy 2, n, .inl (I q)) := by
  obtain ⟨-, h1, h2⟩ := h
  unfold sE
  rw [h1, h2]
  rfl
theorem sE_l {cy : Nat → ClassId} {ad : Nat → Nat} {I : sI} {J : sJ} {q n : Nat} (h : sAr q 3 n) : sE cy ad I J q = .inl (cy 3, n, .inr (.inl (J q))) := by
  obtain ⟨-, h1, h2⟩ := h
  unfold sE
  rw [h1, h2]
  rfl
theorem sE_r {cy : Nat → ClassId} {ad : Nat → Nat} {I : sI} {J : sJ} {q n t : Nat} (h : sAr q (t + 4) n) : sE cy ad I J q = .inl (cy (t + 4), n, .inr (.inr (.inr (.inr (fun i => some (ad (sR q i))))))) := by
  obtain ⟨-, h1, h2⟩ := h
  unfold sE
  rw [h1, h2]
  rfl
def sLo (ad : Nat → Nat) (lo : List (Nat × Value)) : List (Nat × Value) := lo.map (fun q => (q.1, sV ad q.2))
theorem sV_cat (ad : Nat → Nat) (v : Value) : (sV ad v).category = v.category := by cases v <;> rfl
theorem sLo_at {ad : Nat → Nat} {lo : List (Nat × Value)} {k i : Nat} {v : Value} (h : lo[k]? = some (i, v)) : (sLo ad lo)[k]? = some (i, sV ad v) := by
  unfold sLo
  rw [List.getElem?_map, h]
  rfl
theorem sLo_filter {ad : Nat → Nat} {lo : List (Nat × Value)} (f : Nat × Value → Bool) (hf : ∀ q : Nat × Value, f (q.1, sV ad q.2) = f q) : (sLo ad lo).filter f = sLo ad (lo.filter f) := by
  unfold sLo
  rw [List.filter_map]
  congr 1
  congr 1
  funext q
  exact hf q
theorem sLo_pick {ad : Nat → Nat} {lo : List (Nat × Value)} (ks : List Nat) : lv_pick (sLo ad lo) ks = sLo ad (lv_pick lo ks) := by
  unfold lv_pick sLo
  rw [List.map_filterMap]
  congr 1
  funext k
  rw [List.getElem?_map]
/-- everything that a walk needs, in one tuple -/
abbrev sX : Type := Program × Launch × Env × Room × State × MethodId × Array Value × List Frame × Method × Code × va_G × (Nat → ClassId) × (Nat → Nat) × (Nat → Prop) × Heap × (State → Prop) × Nat × Nat
/-- from pc with these locals, this stack and this light heap the machine comes to the end that X names -/
def sG (X : sX) (nL pc : Nat) (lo : List (Nat × Value)) (st : List Value) (I : sI) (J : sJ) : Prop := match X with
  | (p, l, e, R, s, m, args, below, meth, c, D, cy, ad, A, H0, Q, ce, sl) => ∀ (H : Heap) (locs : List Loc) (ls : Array Slot), va_P D vwCl (sW cy ad I J) H → va_D A (sW cy ad I J) → va_S A H0 H locs → lv_has ls nL (sLo ad lo) → W p l e R s m args below meth c H locs ce sl Q (F0 m pc ls (st.map (sV ad)))
/-- a method's end -/
def sQ (D : va_G) (cy : Nat → ClassId) (ad : Nat → Nat) (A : Nat → Prop) (post : Option Value → sI → sJ → Prop) : Array Value → State → Outcome → State → Prop := fun _ st oc t =>
  (∃ (v : Option Value) (I : sI) (J : sJ), oc = .returned v ∧ post v I J ∧ va_P D vwCl (sW cy ad I J) t.heap ∧ va_K D vwCl (sTys cy) t ∧ va_D A (sW cy ad I J)) ∧ va_F A st t
def sOK (X : sX) (cc : ByteArray) (own : String) (nL : Nat) (fr lc : Nat) : Prop := match X with
  | (p, _, _, R, s, m, args, _, _, c, D, cy, _, A, H0, _, ce, sl) => p.tables.exec = Jvm.exec ∧ c.code = cc ∧ c.maxLocals = nL ∧ s.vm.findClass own = some m.cls ∧ (∀ w ∈ lw_good, w.before args s = true) ∧ va_K D vwCl (sTys cy) s ∧ sNW s ∧ (∀ q, H0.size ≤ q → A q) ∧ (fr ≤ R.frames ∧ lc ≤ R.locals ∧ ce ≤ R.cells ∧ sl ≤ R.slots) ∧ H0 = s.heap
def sRt (X : sX) (ret : Option FieldType) (post : Option Value → sI → sJ → Prop) : Prop := match X with
  | (_, _, _, _, s, _, args, below, meth, _, D, cy, ad, A, H0, Q, ce, sl) => meth.sig.returnType = ret ∧ meth.locks = false ∧ H0 = s.heap ∧ va_K D vwCl (sTys cy) s ∧ Q = MQ below (sQ D cy ad A post) args s ce sl A
/-- which cells may change: the light heap's, and new ones -/
def sA (ad : Nat → Nat) (sz : Nat) : Nat → Prop := fun q => (∃ p, p < sLen ∧ q = ad p) ∨ sz ≤ q
def sPre (D : va_G) (cy : Nat → ClassId) (ad : Nat → Nat) (sz : Nat) (I : sI) (J : sJ) (U : State) : Prop := U.heap.size = sz ∧ va_P D vwCl (sW cy ad I J) U.heap ∧ va_K D vwCl (sTys cy) U ∧ sNW U ∧ va_D (fun _ => True) (sW cy ad I J)
/-- a method's contract over the light heap -/
def sMet (l : Launch) (D : va_G) (cy : Nat → ClassId) (ad : Nat → Nat) (y : MethodName) (cc : ByteArray) (nL : Nat) (ret : Option FieldType) (fr lc : Nat) (av : List Value) (I : sI) (J : sJ) (post : Option Value → sI → sJ → Prop) : Prop :=
  ∀ sz : Nat, Met l y (Cond.code y cc nL ret :: lw_good) { frames := fr, cells := 0, slots := 0, locals := lc } (va_Pc (av.map (sV ad)) (sPre D cy ad sz I J)) (sQ D cy ad (sA ad sz) post) 0 0 (sA ad sz)
theorem sA_D {A : Nat → Prop} {cy : Nat → ClassId} {ad : Nat → Nat} {I : sI} {J : sJ} {sz : Nat} (h : va_D A (sW cy ad I J)) : va_D (sA ad sz) (sW cy ad I J) := by
  refine ⟨h.1, fun k q hk => ?_⟩
  by_cases hl : k < sLen
  · rw [sW_at hl] at hk
    cases hk
    exact Or.inl ⟨k, hl, rfl⟩
  · unfold sW at hk
    simp [hl] at hk
theorem sA_in {A : Nat → Prop} {cy : Nat → ClassId} {ad : Nat → Nat} {I : sI} {J : sJ} {H0 H : Heap} {locs : List Loc} (hD : va_D A (sW cy ad I J)) (hS : va_S A H0 H locs) (hA : ∀ q, H0.size ≤ q → A q) : ∀ q, sA ad H.size q → A q := by
  intro q h
  rcases h with ⟨p, hp, rfl⟩ | h
  · exact hD.2 p _ (sW_at hp)
  · exact hA q (Nat.le_trans hS.1 h)
theorem sD_any {A : Nat → Prop} {cy : Nat → ClassId} {ad : Nat → Nat} {I I' : sI} {J J' : sJ} (hD : va_D A (sW cy ad I J)) : va_D A (sW cy ad I' J') := by
  have key : ∀ (k : Nat) (q : Nat × va_E), (sW cy ad I' J')[k]? = some q → ∃ q0 : Nat × va_E, (sW cy ad I J)[k]? = some q0 ∧ q0.1 = q.1 := by
    intro k q hk
    by_cases hl : k < sLen
    · rw [sW_at hl] at hk
      cases hk
      exact ⟨_, sW_at hl, rfl⟩
    · unfold sW at hk
      simp [hl] at hk
  refine ⟨fun i j a b ha hb hab => ?_, fun k q hk => ?_⟩
  · obtain ⟨a0, h1, h2⟩ := key i a ha
    obtain ⟨b0, h3, h4⟩ := key j b hb
    exact hD.1 i j a0 b0 h1 h3 (by rw [h2, h4, hab])
  · obtain ⟨q0, h1, h2⟩ := key k q hk
    rw [← h2]
    exact hD.2 k q0 h1
/-- a contract out of a walk, whatever class the method lies in, if no native row stands for it -/
theorem sMetW {l : Launch} {y : MethodName} {ws ws' : List Cond} {rm : Room} {Pc : Array Value → State → Prop} {Qc : Array Value → State → Outcome → State → Prop} {mc ms : Nat} {free : Addr → Prop} {cc : ByteArray} {maxL : Nat} {ret : Option FieldType}
    (hy : plainFor y = true) (hw : ws = Cond.code y cc maxL ret :: ws')
    (body : ∀ p e s m args below meth c s₁, BodyLoose p l y (headSpec ws rm) cc maxL ret e s m args below meth c s₁ → c.maxLocals = maxL → Pc args s →
      W p l e (headSpec ws rm).room s m args below meth c s.heap [] 0 0 (MQ below Qc args s mc ms free) (entryFrame m args maxL)) : Met l y ws rm Pc Qc mc ms free := by
  refine MetFree.of_bodySF (code := cc) (maxLocals := maxL) (ret := ret) hy ?_ ?_
  · intro args s m h hn
    obtain ⟨meth, c, h1, h2, h3, h4, h5, h6, -, -⟩ := Cond.code_spec hn (atoms_spec (ws := ws) h _ (by rw [hw]; exact List.mem_cons_self))
    exact ⟨meth, c, h1, h2, h3, h4, h5, h6⟩
  · intro p e s m args below meth c s₁ B hml hP _
    have hh0 : s₁.heap = s.heap := by rw [B.state]; rfl
    obtain ⟨t, a1, o, b1, b2, b3⟩ := body p e s m args below meth c s₁ B hml hP s₁ hh0 (Stand.of_body B)
    exact ⟨t, o, a1, b1, b2, ⟨b3.1, b3.2⟩⟩
/-- a method's contract out of a walk of its body -/
theorem sMet_of {l : Launch} {D : va_G} {cy : Nat → ClassId} {ad : Nat → Nat} {y : MethodName} {cc : ByteArray} {nL : Nat} {ret : Option FieldType} {fr lc : Nat} {av : List Value} {I : sI} {J : sJ} {post : Option Value → sI → sJ → Prop} (hy : plainFor y = true) (hn : (lg_sl av).length ≤ nL)
    (k : ∀ (X : sX), sOK X cc y.cls nL fr lc → sRt X ret post → sG X nL 0 (lv_args 0 av) [] I J) : sMet l D cy ad y cc nL ret fr lc av I J post := by
  intro sz
  refine sMetW (cc := cc) (maxL := nL) (ret := ret) hy rfl ?_
  intro p e s m args below meth c s₁ B hml hv
  obtain ⟨rfl, hsz, hP, hK, hN, hD0⟩ := hv
  have hts := atoms_spec (ws := Cond.code y cc nL ret :: lw_good) B.pre
  subst hsz
  have hD := sA_D (sz := s.heap.size) hD0
  have hcat : ∀ vs : List Value, lg_sl (vs.map (sV ad)) = (lg_sl vs).map (fun x => match x with | .val v => .val (sV ad v) | z => z) := by
    intro vs
    induction vs with
    | nil => rfl
    | cons v t ih =>
      unfold lg_sl at ih ⊢
      rw [List.map_cons, List.flatMap_cons, List.flatMap_cons, ih, sV_cat, List.map_append]
      by_cases hc : v.category = 2 <;> simp [hc]
  have hlen : (lg_sl (av.map (sV ad))).length ≤ nL := by rw [hcat, List.length_map]; exact hn
  have hl := lv_entry (av.map (sV ad)) (n := nL) hlen
  have hargs : ∀ (vs : List Value) (i : Nat), lv_args i (vs.map (sV ad)) = sLo ad (lv_args i vs) := by
    intro vs
    induction vs with
    | nil => intro i; rfl
    | cons v t ih =>
      intro i
      show (i, sV ad v) :: lv_args _ (t.map (sV ad)) = (i, sV ad v) :: sLo ad (lv_args _ t)
      rw [sV_cat, ih]
  rw [hargs] at hl
  rw [lg_entry_eq]
  exact k (p, l, e, _, s, m, _, below, meth, c, D, cy, ad, sA ad s.heap.size, s.heap, _, 0, 0) ⟨B.exec, B.bytes, hml, findClass_of_methodNamed B.named, fun w hw => hts w (List.mem_cons_of_mem _ hw), hK, hN, fun q h => Or.inr h, ⟨Nat.le_refl _, Nat.le_refl _, Nat.le_refl _, Nat.le_refl _⟩, rfl⟩ ⟨B.returns, B.notSynchronized, rfl, hK, rfl⟩ s.heap [] _ hP hD va_S.rf hl
