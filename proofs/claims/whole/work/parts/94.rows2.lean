/-! rows of rows are made: the machine's own making, step by step, with what holds of the state between -/
/-- i of the N inner rows are there -/
def mnS (h0 N M : Nat) (cA comp : ClassId) (dv : Value) (T1 : State) (i : Nat) (T : State) : Prop :=
  T.vm = T1.vm ∧ T.heap.size = h0 + 1 + i ∧ T.slotsUsed = T1.slotsUsed + N + i * M ∧ T.heap[h0]? = some (arrV cA N (fun j => if j < i then .ref (h0 + 1 + j) else .null)) ∧ (∀ j : Nat, j < i → T.heap[h0 + 1 + j]? = some (arrV comp M (fun _ => dv))) ∧ ∀ q : Nat, q < h0 → T.heap[q]? = T1.heap[q]?
theorem mnS_0 {h0 N M : Nat} {cA comp : ClassId} {dv : Value} {T1 : State} (hh : T1.heap.size = h0) : mnS h0 N M cA comp dv T1 0 (T1.pushCell (arrV cA N (fun _ => .null))) := by
  refine ⟨rfl, ?_, ?_, ?_, fun j hj => by omega, fun q hq => ?_⟩
  · show (Array.push T1.heap _).size = _
    rw [Array.size_push, hh]
  · show T1.slotsUsed + (arrV cA N _).slots.size = _
    rw [arrV_size]; omega
  · show (Array.push T1.heap _)[h0]? = _
    rw [← hh, Array.getElem?_push_size]
    congr 2
  · show (Array.push T1.heap _)[q]? = _
    rw [Array.getElem?_push, if_neg (by rw [hh]; exact Nat.ne_of_lt hq)]
theorem mnS_s {h0 N M i : Nat} {cA comp : ClassId} {dv : Value} {T1 T : State} (h : mnS h0 N M cA comp dv T1 i T) : mnS h0 N M cA comp dv T1 (i + 1) ((T.pushCell (arrV comp M (fun _ => dv))).setCell h0 ((arrV cA N (fun j => if j < i then .ref (h0 + 1 + j) else .null)).setSlot i (.ref (h0 + 1 + i)))) := by
  obtain ⟨a, b, u, d, r, o⟩ := h
  have hp : ∀ q : Nat, q < h0 + 1 + i → (Array.push T.heap (arrV comp M (fun _ => dv)))[q]? = T.heap[q]? := fun q hq => by
    rw [Array.getElem?_push, if_neg (by rw [b]; exact Nat.ne_of_lt hq)]
  have hs : ∀ (q : Nat) (x : Cell), q ≠ h0 → (Array.setIfInBounds (Array.push T.heap (arrV comp M (fun _ => dv))) h0 x)[q]? = (Array.push T.heap (arrV comp M (fun _ => dv)))[q]? := fun q x hq => by
    rw [Array.getElem?_setIfInBounds, if_neg (fun z => hq z.symm)]
  refine ⟨a, ?_, ?_, ?_, fun j hj => ?_, fun q hq => ?_⟩
  · show (Array.setIfInBounds (Array.push T.heap _) h0 _).size = _
    rw [Array.size_setIfInBounds, Array.size_push, b]; omega
  · show T.slotsUsed + (arrV comp M (fun _ => dv)).slots.size = _
    rw [arrV_size, u, Nat.succ_mul]; omega
  · show (Array.setIfInBounds (Array.push T.heap _) h0 _)[h0]? = _
    rw [Array.getElem?_setIfInBounds, if_pos rfl, if_pos (by rw [Array.size_push, b]; omega), arrV_store]
    congr 2
    funext j
    unfold updV
    by_cases e : j = i
    · subst e; simp
    · by_cases z : j < i
      · simp [e, z, Nat.lt_succ_of_lt z]
      · simp [e, z, show ¬ j < i + 1 by omega]
  · show (Array.setIfInBounds (Array.push T.heap _) h0 _)[h0 + 1 + j]? = _
    rw [hs _ _ (by omega)]
    by_cases e : j = i
    · subst e
      rw [← b, Array.getElem?_push_size]
    · rw [hp _ (by omega)]; exact r j (by omega)
  · show (Array.setIfInBounds (Array.push T.heap _) h0 _)[q]? = _
    rw [hs _ _ (by omega), hp _ (by omega)]; exact o q hq
/-- the state itself -/
def mnT (h0 N M : Nat) (cA comp : ClassId) (dv : Value) (T1 : State) : Nat → State
  | 0 => T1.pushCell (arrV cA N (fun _ => .null))
  | i + 1 => ((mnT h0 N M cA comp dv T1 i).pushCell (arrV comp M (fun _ => dv))).setCell h0 ((arrV cA N (fun j => if j < i then .ref (h0 + 1 + j) else .null)).setSlot i (.ref (h0 + 1 + i)))
theorem mnT_S {h0 N M : Nat} {cA comp : ClassId} {dv : Value} {T1 : State} (hh : T1.heap.size = h0) : ∀ i, mnS h0 N M cA comp dv T1 i (mnT h0 N M cA comp dv T1 i)
  | 0 => mnS_0 hh
  | i + 1 => mnS_s (mnT_S hh i)
section GMN
variable {E : CtlPost} {e : Env} {d : Bool} {acts : List Action}
theorem mn_new {s : State} {c comp : ClassId} {k : Class} {type : FieldType} {len : Nat} {init : Value} (hk : s.vm.classes[c]? = some k) (hkind : k.kind = .array comp type)
    (hlimit : len ≤ e.platform.arrayLengthLimit) (hheap : len * componentBytes type ≤ e.platform.maxHeapBytes) (hfit : fits type init = true) (hdef : init.isDefault = true) {Q : Addr → Pre}
    (h1 : s.heap.size < e.platform.maxCells) (h2 : s.slotsUsed + len ≤ e.platform.maxSlots)
    (hq : Q s.heap.size d acts (s.pushCell (arrV c len (fun _ => init)))) : wp (Jvm.newArray c len init) Q E e d acts s := by
  rw [← arrV_new] at hq
  have all : ((Array.replicate len init).all (·.isDefault)) = true := by
    rw [Array.all_replicate]; split <;> simp [hdef]
  have acts0 : allocActs (Array.replicate len init) s.heap.size acts = acts := by unfold allocActs; rw [if_pos all]
  have g1 : ¬ len > e.platform.arrayLengthLimit := Nat.not_lt.mpr hlimit
  have g2 : ¬ len * componentBytes type > e.platform.maxHeapBytes := Nat.not_lt.mpr hheap
  simp only [Jvm.newArray, Jvm.arrayFits, wp_bind', W.ask, W.ite, g1, if_false, wp_pure', W.theClass, hk, hkind, g2, W.alloc, W.stop, Option.some.injEq, exists_eq_left', Array.size_replicate, acts0]
  rw [if_neg (by omega)]
  refine ⟨h1, h2, fun i v hv => ?_, hq⟩
  rw [Array.getElem?_replicate] at hv
  by_cases z : i < len
  · rw [if_pos z] at hv
    cases hv
    simp [State.fitsSlot, State.slotType?, hk, hkind, hfit]
  · rw [if_neg z] at hv
    cases hv
theorem mn_fit {t : FieldType} (h : t.isReference = true) {v : Value} (hv : v = .null ∨ ∃ a, v = .ref a) : fits t v = true := by
  rcases hv with rfl | ⟨a, rfl⟩ <;> cases t <;> first | rfl | (simp [FieldType.isReference] at h)
variable {p : Program} {l : Launch} {R : Room} {s : State} {m : MethodId} {args : Array Value} {below : List Frame} {meth : Method} {c0 : Code}
theorem mnT_X {T1 : State} {locs : List Loc} {cells slots h0 N M : Nat} {cA comp : ClassId} {dv : Value} (X : Stand p l e R s m args below meth c0 T1 locs cells slots) (hh : T1.heap.size = h0) : ∀ i, ∃ locs', Stand p l e R s m args below meth c0 (mnT h0 N M cA comp dv T1 i) locs' (cells + 1 + i) (slots + N + i * M) ∧ ∀ q ∈ locs', q ∈ locs ∨ q.base = h0
  | 0 => by
    have := X.pushed (arrV cA N (fun _ => .null))
    rw [arrV_size] at this
    exact ⟨locs, by rw [Nat.zero_mul]; exact this, fun q hq => Or.inl hq⟩
  | i + 1 => by
    obtain ⟨locs', X', L'⟩ := mnT_X (N := N) (M := M) (cA := cA) (comp := comp) (dv := dv) X hh i
    obtain ⟨-, z', -, o', -, -⟩ := mnT_S (N := N) (M := M) (cA := cA) (comp := comp) (dv := dv) hh i
    have lt0 : h0 < Array.size (mnT h0 N M cA comp dv T1 i).heap := by rw [z']; omega
    have h1 := (X'.pushed (arrV comp M (fun _ => dv))).stored ((State.heap_pushCell_of_lt _ _ lt0).trans o') i (.ref (h0 + 1 + i))
    rw [arrV_size] at h1
    refine ⟨_, by rw [Nat.succ_mul, ← Nat.add_assoc (slots + N)]; exact h1, fun q hq => ?_⟩
    rcases List.mem_append.mp hq with h | h
    · exact L' q h
    · rw [List.mem_singleton.mp h]; exact Or.inr rfl
/-- both dimensions -/
theorem mn_make {T1 : State} {f : JFrame} {c comp cc : ClassId} {k kc : Class} {t0 type : FieldType} {n M : Int32} {N M' h0 : Nat} (hN : n.toNatClampNeg = N) (hM : M.toNatClampNeg = M') (hk : T1.vm.classes[c]? = some k) (hkind : k.kind = .array comp t0) (href : t0.isReference = true)
    (hkc : T1.vm.classes[comp]? = some kc) (hkindc : kc.kind = .array cc type) (hn : ¬ n < 0) (hm : ¬ M < 0)
    (hl1 : N ≤ e.platform.arrayLengthLimit) (hh1 : N * componentBytes t0 ≤ e.platform.maxHeapBytes)
    (hl2 : M' ≤ e.platform.arrayLengthLimit) (hh2 : M' * componentBytes type ≤ e.platform.maxHeapBytes)
    (hdf : fits type (defaultValue type) = true) (hdd : (defaultValue type).isDefault = true) (hz : T1.heap.size = h0)
    (hc : h0 + 1 + N ≤ e.platform.maxCells) (hs : T1.slotsUsed + N + N * M' ≤ e.platform.maxSlots)
    {Q : Addr → Pre} (hq : ∀ d' acts', Q h0 d' acts' ((mnT h0 N M' c comp (defaultValue type) T1 N).setTop f)) : wp (multianewarray.make c [n, M]) Q E e d acts (T1.setTop f) := by
  subst hN; subst hM
  rw [multianewarray.make]
  have vm0 : (T1.setTop f).vm = T1.vm := rfl
  have hp0 : (T1.setTop f).heap.size = h0 := hz
  simp only [wp_bind', W.ite, hn, if_false, wp_pure', W.theClass, vm0, hk, hkind, Option.some.injEq, exists_eq_left']
  refine mn_new (s := T1.setTop f) hk hkind hl1 hh1 (mn_fit href (Or.inl rfl)) rfl (by omega) (by show T1.slotsUsed + _ ≤ _; have := Nat.zero_le (n.toNatClampNeg * M.toNatClampNeg); omega) ?_
  simp only [show ([M].find? (· < 0)) = none by simp [hm]]
  rw [ite_self, wp_bind', Std.Legacy.Range.forIn_eq_forIn_range', show ([:n.toNatClampNeg] : Std.Legacy.Range).size = n.toNatClampNeg by simp [Std.Legacy.Range.size]]
  show wp (forIn (List.range' 0 n.toNatClampNeg 1) PUnit.unit _) _ E e d acts _
  refine wp_forIn_inv (fun rest s' => ∃ i, i ≤ n.toNatClampNeg ∧ rest = List.range' i (n.toNatClampNeg - i) ∧ s' = (mnT h0 n.toNatClampNeg M.toNatClampNeg c comp (defaultValue type) T1 i).setTop f) _ _ ⟨0, Nat.zero_le _, rfl, rfl⟩ ?_ ?_
  · rintro x rest s' d' acts' Q' ⟨i, hi, hl, rfl⟩ next
    have lt : i < n.toNatClampNeg := by
      rcases Nat.lt_or_ge i n.toNatClampNeg with h | h
      · exact h
      · rw [show n.toNatClampNeg - i = 0 by omega] at hl; cases hl
    rw [show n.toNatClampNeg - i = (n.toNatClampNeg - (i + 1)) + 1 by omega, List.range'_succ] at hl
    obtain ⟨rfl, hr⟩ := List.cons.inj hl
    have mul : x * M.toNatClampNeg + M.toNatClampNeg ≤ n.toNatClampNeg * M.toNatClampNeg := by
      have := Nat.mul_le_mul_right M.toNatClampNeg (show x + 1 ≤ n.toNatClampNeg from lt)
      rw [Nat.succ_mul] at this; exact this
    obtain ⟨v', z', u', o', -, -⟩ := mnT_S (N := n.toNatClampNeg) (M := M.toNatClampNeg) (cA := c) (comp := comp) (dv := defaultValue type) hz x
    obtain ⟨T', eT⟩ : ∃ T', mnT h0 n.toNatClampNeg M.toNatClampNeg c comp (defaultValue type) T1 x = T' := ⟨_, rfl⟩
    rw [eT] at v' z' u' o' ⊢
    have vm1 : (T'.setTop f).vm = T1.vm := v'
    have hp1 : (T'.setTop f).heap.size = h0 + 1 + x := z'
    simp only [wp_bind']
    rw [multianewarray.make]
    simp only [wp_bind', W.ite, hm, if_false, wp_pure', W.theClass, vm1, hkc, hkindc, Option.some.injEq, exists_eq_left']
    refine mn_new (s := T'.setTop f) (by rw [vm1]; exact hkc) hkindc hl2 hh2 hdf hdd (by omega) (by show T'.slotsUsed + _ ≤ _; omega) ?_
    simp only [wp_bind', W.writeLoc, wp_pure']
    have cell : ((T'.pushCell (arrV comp M.toNatClampNeg (fun _ => defaultValue type))).heap)[h0]? = some (arrV c n.toNatClampNeg (fun j => if j < x then .ref (h0 + 1 + j) else .null)) := by
      have lt0 : h0 < Array.size T'.heap := by rw [z']; omega
      exact (State.heap_pushCell_of_lt T' _ lt0).trans o'
    refine ⟨arrV c n.toNatClampNeg (fun j => if j < x then .ref (h0 + 1 + j) else .null), by rw [hp0]; exact cell, (by intro h; cases h), by rw [arrV_size]; exact lt, ?_, next _ _ _ ⟨x + 1, lt, hr, ?_⟩⟩
    · show State.fitsSlot _ c .none x _ = true
      simp [State.fitsSlot, State.slotType?, v', hk, hkind, mn_fit href (Or.inr ⟨_, rfl⟩)]
    · rw [hp0, hp1, mnT, eT]; rfl
  · rintro s' d' acts' ⟨i, hi, hl, rfl⟩
    have e : i = n.toNatClampNeg := by
      rcases Nat.lt_or_ge i n.toNatClampNeg with h | h
      · rw [show n.toNatClampNeg - i = (n.toNatClampNeg - (i + 1)) + 1 by omega, List.range'_succ] at hl; cases hl
      · omega
    subst e
    simp only [wp_pure', hp0]
    exact hq _ _
/-- new T[n][M] -/
theorem W.mn {H : Heap} {locs : List Loc} {cells slots : Nat} {Qz : State → Prop} {bs : ByteArray} (hexec : p.tables.exec = Jvm.exec) (hb : c0.code = bs) {own : String} {index : Nat} {ty : FieldType} (hown : s.vm.findClass own = some m.cls) (hclink : (Cond.classLink own index ("[" ++ (FieldType.array ty).toString)).before args s = true)
    (hover : (Cond.arrayOver (.array ty)).before args s = true) (harr : (Cond.arrayClass ty).before args s = true) {pc : Nat} {ls : Array Slot} {rest : List Value} (hdg : decode bs pc = .ok (.multianewarray index 2, 4)) {n M : Int32} {N M' : Nat} (hN : n.toNatClampNeg = N) (hM : M.toNatClampNeg = M') (hn : ¬ n < 0) (hm : ¬ M < 0) (hb1 : N * 4 ≤ 536870912) (hb2 : M' * componentBytes ty ≤ 536870912) (hb3 : M' ≤ 536870912)
    (hdf : fits ty (defaultValue ty) = true) (hdd : (defaultValue ty).isDefault = true) (hcells : cells + (1 + N) ≤ R.cells) (hslots : slots + (N + N * M') ≤ R.slots)
    (kk : ∀ (cA comp : ClassId) (H1 : Heap) (locs1 : List Loc), s.vm.findClass ("[" ++ (FieldType.array ty).toString) = some cA → s.vm.findClass ("[" ++ ty.toString) = some comp → H1.size = H.size + 1 + N → H1[H.size]? = some (arrV cA N (fun j => if j < N then .ref (H.size + 1 + j) else .null)) → (∀ j : Nat, j < N → H1[H.size + 1 + j]? = some (arrV comp M' (fun _ => defaultValue ty))) → (∀ q : Nat, q < H.size → H1[q]? = H[q]?) → (∀ q ∈ locs1, q ∈ locs ∨ q.base = H.size) →
      W p l e R s m args below meth c0 H1 locs1 (cells + 1 + N) (slots + N + N * M') Qz (F0 m (pc + 4) ls (.ref H.size :: rest))) : W p l e R s m args below meth c0 H locs cells slots Qz (F0 m pc ls (.int M :: .int n :: rest)) := by
  intro T hT X
  subst hT
  subst hb
  have hpl : e.platform.magicAccessors = ({} : Platform).magicAccessors := by rw [X.admits.platform]
  obtain ⟨comp, cA, kA, hcomp, -, hkA, hkindA, hnameA⟩ := arrayOverA_spec hover
  obtain ⟨comp', kC, cc, hcomp', hkC, hkindC⟩ := Cond.arrayClass_spec harr
  cases (show some comp' = some comp from hcomp'.symm.trans hcomp)
  obtain ⟨c1, hfc, hcl⟩ := Cond.classLink_spec hown hclink e.platform hpl
  cases hnameA.symm.trans hfc
  obtain ⟨hg1, hwarm, hready⟩ := State.classEntry (e := e) X.warmed hcl
  generalize T.vm.noted m.cls index (.cls cA) = vm1 at hg1 hwarm hready
  obtain ⟨kA1, hkA1, heA⟩ := hwarm.alike.2.2 _ _ hkA
  obtain ⟨kC1, hkC1, heC⟩ := hwarm.alike.2.2 _ _ hkC
  have X1 := X.noted hwarm
  obtain ⟨hr1, hr2⟩ := X.roomAbove hcells hslots
  have hl1 : N ≤ e.platform.arrayLengthLimit := by rw [Launch.admits_arrayLengthLimit X.admits]; omega
  have hh1 : N * componentBytes (.array ty) ≤ e.platform.maxHeapBytes := by rw [Launch.admits_maxHeapBytes X.admits]; exact hb1
  have hl2 : M' ≤ e.platform.arrayLengthLimit := by rw [Launch.admits_arrayLengthLimit X.admits]; omega
  have hh2 : M' * componentBytes ty ≤ e.platform.maxHeapBytes := by rw [Launch.admits_maxHeapBytes X.admits]; exact hb2
  obtain ⟨locs', X', L'⟩ := mnT_X (N := N) (M := M') (cA := cA) (comp := comp) (dv := defaultValue ty) X1 (h0 := T.heap.size) rfl N
  obtain ⟨-, z', -, o', r', q'⟩ := mnT_S (N := N) (M := M') (cA := cA) (comp := comp) (dv := defaultValue ty) (T1 := T.setVm vm1) (h0 := T.heap.size) rfl N
  obtain ⟨t, a1, b1⟩ := kk cA comp _ locs' hfc hcomp' z' o' r' q' L' _ rfl X'
  refine ⟨t, ?_, b1⟩
  jvm_step X.here [hexec, hdg]
  simp only [multianewarray.sem, wp_bind', W.resolveClassAt_links (State.method?_setTop (F0 m pc ls (.int M :: .int n :: rest)) X.here.top) hg1]
  rw [W.popN, if_neg (by decide)]
  refine ⟨F0 m pc ls (.int M :: .int n :: rest), State.topJava?_setTop' (s := T.setVm vm1) _ X.here.top, [.int n, .int M], rest, rfl, rfl, ?_⟩
  simp only [List.mapM_cons, List.mapM_nil, wp_bind', wp_pure']
  rw [show ((T.setTop (F0 m pc ls (.int M :: .int n :: rest))).setVm vm1).setTop { F0 m pc ls (.int M :: .int n :: rest) with stack := rest } = (T.setVm vm1).setTop { F0 m pc ls (.int M :: .int n :: rest) with stack := rest } by
    show ((T.setVm vm1).setTop (F0 m pc ls (.int M :: .int n :: rest))).setTop _ = _
    rw [State.setTop_setTop]]
  refine mn_make (T1 := T.setVm vm1) (k := kA1) (kc := kC1) (comp := comp) (cc := cc) (t0 := .array ty) (type := ty) hN hM hkA1 (by rw [heA]; exact hkindA) rfl hkC1 (by rw [heC]; exact hkindC) hn hm hl1 hh1 hl2 hh2 hdf hdd (h0 := T.heap.size) rfl (by omega) (by show T.slotsUsed + _ + _ ≤ _; omega) (fun d' acts' => ?_)
  simp only [wp_bind', W.mark, W.pushRef, State.topJava?_setTop' _ X'.here.top, Option.some.injEq, exists_eq_left', State.setTop_setTop, State.heap_setTop]
  intro acts
  simp [jvm, X'.here.top]
  exact a1
end GMN
