/-- from pc with these locals, this stack, this world of sz cells in all the machine comes to the end that X names -/
def gG (X : sX) (nL pc : Nat) (lo : List (Nat × Value)) (st : List Value) (ws : va_W) (sz ce sl : Nat) : Prop := match X with
  | (p, l, e, R, s, m, args, below, meth, c, D, _, _, A, H0, Q, _, _) => ∀ (H : Heap) (locs : List Loc) (ls : Array Slot), H.size = sz → va_P D vwCl ws H → va_D A ws → va_S A H0 H locs → lv_has ls nL lo → W p l e R s m args below meth c H locs ce sl Q (F0 m pc ls st)
def gOK (X : sX) (cy : Nat → ClassId) (cc : ByteArray) (own : String) (nL fr lc rc rs : Nat) : Prop := match X with
  | (p, _, _, R, s, m, args, _, _, c, D, cy', _, A, H0, _, _, _) => p.tables.exec = Jvm.exec ∧ c.code = cc ∧ c.maxLocals = nL ∧ s.vm.findClass own = some m.cls ∧ (∀ w ∈ lw_good, w.before args s = true) ∧ va_K D vwCl (sTys cy) s ∧ gNW s ∧ sNW s ∧ (∀ q, H0.size ≤ q → A q) ∧ (fr ≤ R.frames ∧ lc ≤ R.locals ∧ rc ≤ R.cells ∧ rs ≤ R.slots) ∧ H0 = s.heap ∧ cy' = cy
/-- the place is one of <init> -/
def gIn (X : sX) : Prop := match X with
  | (_, _, _, _, _, _, _, _, meth, _, _, _, _, _, _, _, _, _) => meth.name = "<init>"
/-- how many cells there were at the entry -/
def gB (X : sX) (base : Nat) : Prop := match X with
  | (_, _, _, _, _, _, _, _, _, _, _, _, _, _, H0, _, _, _) => H0.size = base
/-- no more cells than were counted -/
theorem W_sz {p : Program} {l : Launch} {e : Env} {R : Room} {s : State} {m : MethodId} {args : Array Value} {below : List Frame} {meth : Method} {c : Code} {H : Heap} {locs : List Loc} {cells slots : Nat} {Q : State → Prop} {g : JFrame} (k : H.size ≤ s.heap.size + cells → W p l e R s m args below meth c H locs cells slots Q g) : W p l e R s m args below meth c H locs cells slots Q g := fun T hT X => k (by rw [← hT]; exact X.same.2.2.1) T hT X
theorem wN_last {cy : Nat → ClassId} {b lw j : Nat} {hd : Nat × va_E} {T0 : va_W} : ∃ (i : Nat) (q : Nat × va_E), (hd :: (T0 ++ wN cy b lw (j + 1)))[i]? = some q ∧ q.1 + 1 = b + (lw + (j + 1)) := by
  refine ⟨T0.length + j + 1, (b + (lw + j), gE cy b (lw + j)), ?_, by show b + (lw + j) + 1 = _; omega⟩
  show (T0 ++ wN cy b lw (j + 1))[T0.length + j]? = _
  rw [List.getElem?_append_right (by omega), Nat.add_sub_cancel_left, wN_at, if_pos (by omega)]
section GROWS
variable {X : sX} {cy : Nat → ClassId} {cc : ByteArray} {own : String} {nL fr lc rc rs pc sz ce sl b : Nat} {lo : List (Nat × Value)} {st : List Value} {ws : va_W}
theorem a_aload_n {k0 : Fin 4} {i x : Nat} (h : gOK X cy cc own nL fr lc rc rs) (hi : (k0 : Nat) = i) (j : Nat) (hj : lo[j]? = some (i, .ref x)) (d : decode cc pc = .ok (.aload_n k0, 1)) (k : gG X nL (pc + 1) lo (.ref x :: st) ws sz ce sl) : gG X nL pc lo st ws sz ce sl := by
  obtain ⟨p, l, e, R, s, m, args, below, meth, c, D, cy', ad, A, H0, Q, ce0, sl0⟩ := X
  obtain ⟨hx, hb, hml, hown, hts, hK, hN, hN2, hA, hRm, rfl, rfl⟩ := h
  exact fun H locs ls hz hP hD hS hl => lv_aload_n hx hb d hi (lv_at hl j hj) (k H locs ls hz hP hD hS hl)
theorem a_iload_n {k0 : Fin 4} {i : Nat} {x : Int32} (h : gOK X cy cc own nL fr lc rc rs) (hi : (k0 : Nat) = i) (j : Nat) (hj : lo[j]? = some (i, .int x)) (d : decode cc pc = .ok (.iload_n k0, 1)) (k : gG X nL (pc + 1) lo (.int x :: st) ws sz ce sl) : gG X nL pc lo st ws sz ce sl := by
  obtain ⟨p, l, e, R, s, m, args, below, meth, c, D, cy', ad, A, H0, Q, ce0, sl0⟩ := X
  obtain ⟨hx, hb, hml, hown, hts, hK, hN, hN2, hA, hRm, rfl, rfl⟩ := h
  exact fun H locs ls hz hP hD hS hl => lv_iload_n hx hb d hi (lv_at hl j hj) (k H locs ls hz hP hD hS hl)
theorem a_iconst {n : Int} {v : Int32} (h : gOK X cy cc own nL fr lc rc rs) (hv : Int32.ofInt n = v) (d : decode cc pc = .ok (.iconst n, 1)) (k : gG X nL (pc + 1) lo (.int v :: st) ws sz ce sl) : gG X nL pc lo st ws sz ce sl := by
  obtain ⟨p, l, e, R, s, m, args, below, meth, c, D, cy', ad, A, H0, Q, ce0, sl0⟩ := X
  obtain ⟨hx, hb, hml, hown, hts, hK, hN, hN2, hA, hRm, rfl, rfl⟩ := h
  exact fun H locs ls hz hP hD hS hl => lv_iconst hx hb d hv (k H locs ls hz hP hD hS hl)
theorem a_bipush {n : Int} {v : Int32} (h : gOK X cy cc own nL fr lc rc rs) (hv : (Int8.ofInt n).toInt32 = v) (d : decode cc pc = .ok (.bipush n, 2)) (k : gG X nL (pc + 2) lo (.int v :: st) ws sz ce sl) : gG X nL pc lo st ws sz ce sl := by
  obtain ⟨p, l, e, R, s, m, args, below, meth, c, D, cy', ad, A, H0, Q, ce0, sl0⟩ := X
  obtain ⟨hx, hb, hml, hown, hts, hK, hN, hN2, hA, hRm, rfl, rfl⟩ := h
  exact fun H locs ls hz hP hD hS hl => lv_bipush hx hb d hv (k H locs ls hz hP hD hS hl)
theorem a_sipush {n : Int} {v : Int32} (h : gOK X cy cc own nL fr lc rc rs) (hv : (Int16.ofInt n).toInt32 = v) (d : decode cc pc = .ok (.sipush n, 3)) (k : gG X nL (pc + 3) lo (.int v :: st) ws sz ce sl) : gG X nL pc lo st ws sz ce sl := by
  obtain ⟨p, l, e, R, s, m, args, below, meth, c, D, cy', ad, A, H0, Q, ce0, sl0⟩ := X
  obtain ⟨hx, hb, hml, hown, hts, hK, hN, hN2, hA, hRm, rfl, rfl⟩ := h
  exact fun H locs ls hz hP hD hS hl => lv_sipush hx hb d hv (k H locs ls hz hP hD hS hl)
theorem a_dup {v : Value} (h : gOK X cy cc own nL fr lc rc rs) (hc : v.category = 1) (d : decode cc pc = .ok (.dup, 1)) (k : gG X nL (pc + 1) lo (v :: v :: st) ws sz ce sl) : gG X nL pc lo (v :: st) ws sz ce sl := by
  obtain ⟨p, l, e, R, s, m, args, below, meth, c, D, cy', ad, A, H0, Q, ce0, sl0⟩ := X
  obtain ⟨hx, hb, hml, hown, hts, hK, hN, hN2, hA, hRm, rfl, rfl⟩ := h
  exact fun H locs ls hz hP hD hS hl => lv_dup hx hb d hc (k H locs ls hz hP hD hS hl)
theorem a_istore_n {k0 : Fin 4} {i : Nat} {x : Int32} {lo2 : List (Nat × Value)} (h : gOK X cy cc own nL fr lc rc rs) (hi : (k0 : Nat) = i) (hn : i < nL) (he : (i, Value.int x) :: lo.filter (fun q : Nat × Value => !(q.1 == i) && !(q.1 + 1 == i && q.2.category == 2)) = lo2) (d : decode cc pc = .ok (.istore_n k0, 1)) (k : gG X nL (pc + 1) lo2 st ws sz ce sl) : gG X nL pc lo (.int x :: st) ws sz ce sl := by
  obtain ⟨p, l, e, R, s, m, args, below, meth, c, D, cy', ad, A, H0, Q, ce0, sl0⟩ := X
  obtain ⟨hx, hb, hml, hown, hts, hK, hN, hN2, hA, hRm, rfl, rfl⟩ := h
  exact fun H locs ls hz hP hD hS hl => lv_istore_n hx hb d hi hl hn he (fun ls2 hl2 => k H locs ls2 hz hP hD hS hl2)
theorem a_iinc {i : Nat} {n : Int} {x v : Int32} {lo2 : List (Nat × Value)} (h : gOK X cy cc own nL fr lc rc rs) (j : Nat) (hj : lo[j]? = some (i, .int x)) (hv : x + Int32.ofInt n = v) (hn : i < nL) (he : (i, Value.int v) :: lo.filter (fun q : Nat × Value => !(q.1 == i) && !(q.1 + 1 == i && q.2.category == 2)) = lo2) (d : decode cc pc = .ok (.iinc i n, 3)) (k : gG X nL (pc + 3) lo2 st ws sz ce sl) : gG X nL pc lo st ws sz ce sl := by
  obtain ⟨p, l, e, R, s, m, args, below, meth, c, D, cy', ad, A, H0, Q, ce0, sl0⟩ := X
  obtain ⟨hx, hb, hml, hown, hts, hK, hN, hN2, hA, hRm, rfl, rfl⟩ := h
  exact fun H locs ls hz hP hD hS hl => lv_iinc hx hb d hl hj hv hn he (fun ls2 hl2 => k H locs ls2 hz hP hD hS hl2)
theorem a_icmp_ge {x y : Int32} {off : Int} {tgt : Nat} (h : gOK X cy cc own nL fr lc rc rs) (ht : (pc : Int) + off = (tgt : Int)) (d : decode cc pc = .ok (.if_icmp .ge off, 3)) (kt : y ≤ x → gG X nL tgt lo st ws sz ce sl) (kf : ¬ y ≤ x → gG X nL (pc + 3) lo st ws sz ce sl) : gG X nL pc lo (.int y :: .int x :: st) ws sz ce sl := by
  obtain ⟨p, l, e, R, s, m, args, below, meth, c, D, cy', ad, A, H0, Q, ce0, sl0⟩ := X
  obtain ⟨hx, hb, hml, hown, hts, hK, hN, hN2, hA, hRm, rfl, rfl⟩ := h
  exact fun H locs ls hz hP hD hS hl => lv_icmp_ge hx hb d ht (fun z => kt z H locs ls hz hP hD hS hl) (fun z => kf z H locs ls hz hP hD hS hl)
theorem a_goto {off : Int} {tgt : Nat} (h : gOK X cy cc own nL fr lc rc rs) (ht : (pc : Int) + off = (tgt : Int)) (d : decode cc pc = .ok (.goto off, 3)) (k : gG X nL tgt lo st ws sz ce sl) : gG X nL pc lo st ws sz ce sl := by
  obtain ⟨p, l, e, R, s, m, args, below, meth, c, D, cy', ad, A, H0, Q, ce0, sl0⟩ := X
  obtain ⟨hx, hb, hml, hown, hts, hK, hN, hN2, hA, hRm, rfl, rfl⟩ := h
  exact fun H locs ls hz hP hD hS hl => lv_goto hx hb d ht (k H locs ls hz hP hD hS hl)
theorem a_obj {a ix : Nat} (h : gOK X cy cc own nL fr lc rc rs) (hw : Cond.methodLink own ix objectInit ∈ lw_good ∧ Cond.instanceMethod objectInit ∈ lw_good ∧ Cond.code objectInit ⟨#[0xb1]⟩ 1 none ∈ lw_good) (hR : 1 ≤ fr ∧ 20 ≤ lc) (hst : (st.map fun v => v.category).sum ≤ 8) (d : decode cc pc = .ok (.invokespecial ix, 3)) (k : gG X nL (pc + 3) lo st ws sz ce sl) : gG X nL pc lo (.ref a :: st) ws sz ce sl := by
  obtain ⟨p, l, e, R, s, m, args, below, meth, c, D, cy', ad, A, H0, Q, ce0, sl0⟩ := X
  obtain ⟨hx, hb, hml, hown, hts, hK, hN, hN2, hA, hRm, rfl, rfl⟩ := h
  refine fun H locs ls hz hP hD hS hl => W.objInit hx hb hown (hts _ hw.1) (hts _ hw.2.1) (hts _ hw.2.2) rfl (by rw [hml]; exact hl.1) rfl d (Nat.le_trans hR.1 hRm.1) ?_ ?_
  · have := lv_room (m := m) (pc := pc) (ls := ls) (rest := Value.ref a :: st) (st := st) hst
    have := hRm.2.1
    omega
  · exact W.eq (g2 := F0 m (pc + 3) ls st) rfl (k H locs ls hz hP hD hS hl)
/-- a field of the object at place q0 of the world is set -/
theorem a_put {a n k ix base : Nat} {fs : List Value} {v : Value} {ws' : va_W} (q0 : Nat) (ty : FieldType) (h : gOK X cy cc own nL fr lc rc rs) (hin : gIn X) (hbs : gB X base) (hsz : base + ce = sz) (hlast : ∃ (i : Nat) (q : Nat × va_E), ws'[i]? = some q ∧ q.1 + 1 = sz) (hq : ws[q0]? = some (a, .inr (n, fs))) (hn : n < 13) (hf : sFL own ix n k) (ho : ((sCl n).2.1 k).1 = own) (hty : sTy n k = ty) (hnar : narrow ty v = v) (hfit : fits ty v = true) (hlen : k < fs.length) (d : decode cc pc = .ok (.putfield ix, 3)) (hw' : ws.set q0 (a, .inr (n, fs.set k v)) = ws') (kk : gG X nL (pc + 3) lo st ws' sz ce sl) : gG X nL pc lo (v :: .ref a :: st) ws sz ce sl := by
  obtain ⟨p, l, e, R, s, m, args, below, meth, c, D, cy', ad, A, H0, Q, ce0, sl0⟩ := X
  obtain ⟨hx, hb, hml, hown, hts, hK, hN, hN2, hA, hRm, rfl, rfl⟩ := h
  subst hw'
  intro H locs ls hz hP hD hS hl
  have hnm : meth.name = "<init>" := hin
  have hbs : s.heap.size = base := hbs
  obtain ⟨i9, q9, hl9, he9⟩ := hlast
  have hz1 : ∀ H1 : Heap, va_P D vwCl (ws.set q0 (a, .inr (n, fs.set k v))) H1 → H1.size ≤ s.heap.size + ce → H1.size = sz := fun H1 hP1 h1 => by
    have := (hP1 i9 q9 hl9).lt
    omega
  have hd : parseFieldDescriptor ((sCl n).2.1 k).2.2.1 = some ty := by rw [sCl_ty n hn k hf.1, hty]
  by_cases z : ((sCl n).2.1 k).2.2.2 = true
  · exact va_putF (D := D) (ci := n) (C := (sCl n).1) (T := (sCl n).2.1) (N := (sCl n).2.2) (v := v) (ty := ty) hx hb hts (sCl_ws n hn) (sTy n) (sCl_ty n hn) (sCl_nm n hn) hown hK hP hD hS q0 hq (sCl_get n hn) k hf.1 (hts _ hf.2) (fun _ h9 => h9) z hnm ho hd hnar hfit hlen d (fun H1 locs1 hP1 hD1 hS1 => W_sz fun h1 => kk H1 locs1 ls (hz1 H1 hP1 h1) hP1 hD1 hS1 hl)
  · exact va_put (D := D) (ci := n) (C := (sCl n).1) (T := (sCl n).2.1) (N := (sCl n).2.2) (v := v) (ty := ty) hx hb hts (sCl_ws n hn) (sTy n) (sCl_ty n hn) (sCl_nm n hn) hown hK hP hD hS q0 hq (sCl_get n hn) k hf.1 (hts _ hf.2) (fun _ h9 => h9) (Bool.eq_false_iff.mpr z) hd hnar hfit hlen d (fun H1 locs1 hP1 hD1 hS1 => W_sz fun h1 => kk H1 locs1 ls (hz1 H1 hP1 h1) hP1 hD1 hS1 hl)
/-- a row of ints, of booleans, of longs is made -/
theorem a_newI {n : Int32} {q N lw j : Nat} {hd : Nat × va_E} {T0 : va_W} (h : gOK X cy cc own nL fr lc rc rs) (hj : lw + j = q) (hsz : b + q = sz) (ha : sAr q 1 N) (h0 : ∀ k, gI0 q k = 0) (hw : Cond.arrayClass .int ∈ lw_good) (hn : ¬ n < 0) (hN : n.toNatClampNeg = N) (hby : N * 4 ≤ 536870912) (hR : ce + 1 ≤ rc ∧ sl + N ≤ rs) (d : decode cc pc = .ok (.newarray .int, 2)) (kk : gG X nL (pc + 2) lo (.ref (b + q) :: st) (hd :: (T0 ++ wN cy b lw (j + 1))) (sz + 1) (ce + 1) (sl + N)) : gG X nL pc lo (.int n :: st) (hd :: (T0 ++ wN cy b lw j)) sz ce sl := by
  obtain ⟨p, l, e, R, s, m, args, below, meth, c, D, cy', ad, A, H0, Q, ce0, sl0⟩ := X
  obtain ⟨hx, hb, hml, hown, hts, hK, hN1, hN2, hA, hRm, rfl, rfl⟩ := h
  subst hj; subst hsz
  intro H locs ls hz hP hD hS hl
  refine va_newaK (atype := .int) (g := F0 m pc ls (.int n :: st)) hx hb (hts _ hw) rfl d rfl hn hN hby (by omega) (by omega) hz fun H1 cA e1 z1 o1 hAr hNm => ?_
  have ec : cA = cy' 1 := Option.some.inj (hNm.symm.trans (hK.2 1 (cy' 1, .int) rfl).2)
  subst ec
  have at1 : va_at D vwCl (b + (lw + j), gE cy' b (lw + j)) H1 := by
    unfold gE
    rw [sE_i ha]
    show H1[b + (lw + j)]? = some (arrV (cy' 1) N (fun k => .int (gI0 (lw + j) k)))
    rw [e1, show (fun k => Value.int (gI0 (lw + j) k)) = (fun _ => Value.int 0) from funext fun k => by rw [h0 k]]
    rfl
  have hn1 : va_P D vwCl (wN cy' b (lw + j) 1) H1 := wN_P fun p h1 h2 => by
    rw [show p = lw + j by omega]; exact at1
  obtain ⟨P1, D1, S1⟩ := gGrow hP hD hS hA (by omega) (fun q hq => o1 q (by omega)) hn1 wN_dis.1 (fun k q hk => by rw [hz]; exact wN_dis.2 k q hk) (fun q hq => Or.inl hq)
  rw [List.cons_append, List.append_assoc, wN_app] at P1 D1
  exact W.eq (g2 := F0 m (pc + 2) ls (.ref (b + (lw + j)) :: st)) rfl (kk H1 locs ls (by omega) P1 D1 S1 hl)
theorem a_newZ {n : Int32} {q N lw j : Nat} {hd : Nat × va_E} {T0 : va_W} (h : gOK X cy cc own nL fr lc rc rs) (hj : lw + j = q) (hsz : b + q = sz) (ha : sAr q 2 N) (h0 : ∀ k, gI0 q k = 0) (hw : Cond.arrayClass .boolean ∈ lw_good) (hn : ¬ n < 0) (hN : n.toNatClampNeg = N) (hby : N * 1 ≤ 536870912) (hR : ce + 1 ≤ rc ∧ sl + N ≤ rs) (d : decode cc pc = .ok (.newarray .boolean, 2)) (kk : gG X nL (pc + 2) lo (.ref (b + q) :: st) (hd :: (T0 ++ wN cy b lw (j + 1))) (sz + 1) (ce + 1) (sl + N)) : gG X nL pc lo (.int n :: st) (hd :: (T0 ++ wN cy b lw j)) sz ce sl := by
  obtain ⟨p, l, e, R, s, m, args, below, meth, c, D, cy', ad, A, H0, Q, ce0, sl0⟩ := X
  obtain ⟨hx, hb, hml, hown, hts, hK, hN1, hN2, hA, hRm, rfl, rfl⟩ := h
  subst hj; subst hsz
  intro H locs ls hz hP hD hS hl
  refine va_newaK (atype := .boolean) (g := F0 m pc ls (.int n :: st)) hx hb (hts _ hw) rfl d rfl hn hN hby (by omega) (by omega) hz fun H1 cA e1 z1 o1 hAr hNm => ?_
  have ec : cA = cy' 2 := Option.some.inj (hNm.symm.trans (hK.2 2 (cy' 2, .boolean) rfl).2)
  subst ec
  have at1 : va_at D vwCl (b + (lw + j), gE cy' b (lw + j)) H1 := by
    unfold gE
    rw [sE_z ha]
    show H1[b + (lw + j)]? = some (arrV (cy' 2) N (fun k => .int (gI0 (lw + j) k)))
    rw [e1, show (fun k => Value.int (gI0 (lw + j) k)) = (fun _ => Value.int 0) from funext fun k => by rw [h0 k]]
    rfl
  have hn1 : va_P D vwCl (wN cy' b (lw + j) 1) H1 := wN_P fun p h1 h2 => by
    rw [show p = lw + j by omega]; exact at1
  obtain ⟨P1, D1, S1⟩ := gGrow hP hD hS hA (by omega) (fun q hq => o1 q (by omega)) hn1 wN_dis.1 (fun k q hk => by rw [hz]; exact wN_dis.2 k q hk) (fun q hq => Or.inl hq)
  rw [List.cons_append, List.append_assoc, wN_app] at P1 D1
  exact W.eq (g2 := F0 m (pc + 2) ls (.ref (b + (lw + j)) :: st)) rfl (kk H1 locs ls (by omega) P1 D1 S1 hl)
theorem a_newL {n : Int32} {q N lw j : Nat} {hd : Nat × va_E} {T0 : va_W} (h : gOK X cy cc own nL fr lc rc rs) (hj : lw + j = q) (hsz : b + q = sz) (ha : sAr q 3 N) (hw : Cond.arrayClass .long ∈ lw_good) (hn : ¬ n < 0) (hN : n.toNatClampNeg = N) (hby : N * 8 ≤ 536870912) (hR : ce + 1 ≤ rc ∧ sl + N ≤ rs) (d : decode cc pc = .ok (.newarray .long, 2)) (kk : gG X nL (pc + 2) lo (.ref (b + q) :: st) (hd :: (T0 ++ wN cy b lw (j + 1))) (sz + 1) (ce + 1) (sl + N)) : gG X nL pc lo (.int n :: st) (hd :: (T0 ++ wN cy b lw j)) sz ce sl := by
  obtain ⟨p, l, e, R, s, m, args, below, meth, c, D, cy', ad, A, H0, Q, ce0, sl0⟩ := X
  obtain ⟨hx, hb, hml, hown, hts, hK, hN1, hN2, hA, hRm, rfl, rfl⟩ := h
  subst hj; subst hsz
  intro H locs ls hz hP hD hS hl
  refine va_newaK (atype := .long) (g := F0 m pc ls (.int n :: st)) hx hb (hts _ hw) rfl d rfl hn hN hby (by omega) (by omega) hz fun H1 cA e1 z1 o1 hAr hNm => ?_
  have ec : cA = cy' 3 := Option.some.inj (hNm.symm.trans (hK.2 3 (cy' 3, .long) rfl).2)
  subst ec
  have at1 : va_at D vwCl (b + (lw + j), gE cy' b (lw + j)) H1 := by
    unfold gE
    rw [sE_l ha]
    show H1[b + (lw + j)]? = some (arrV (cy' 3) N (fun k => .long (gJ0 (lw + j) k)))
    rw [e1]
    rfl
  have hn1 : va_P D vwCl (wN cy' b (lw + j) 1) H1 := wN_P fun p h1 h2 => by
    rw [show p = lw + j by omega]; exact at1
  obtain ⟨P1, D1, S1⟩ := gGrow hP hD hS hA (by omega) (fun q hq => o1 q (by omega)) hn1 wN_dis.1 (fun k q hk => by rw [hz]; exact wN_dis.2 k q hk) (fun q hq => Or.inl hq)
  rw [List.cons_append, List.append_assoc, wN_app] at P1 D1
  exact W.eq (g2 := F0 m (pc + 2) ls (.ref (b + (lw + j)) :: st)) rfl (kk H1 locs ls (by omega) P1 D1 S1 hl)
/-- an object is made: it stands behind the world until its <init> has run -/
theorem a_new {n ix : Nat} {fs : List Value} (h : gOK X cy cc own nL fr lc rc rs) (hn : n < 13) (hw : Cond.classLink own ix (sCl n).1 ∈ lw_good ∧ Cond.instantiable (sCl n).1 (sCl n).2.2 ∈ lw_good ∧ Cond.initialized (sCl n).1 ∈ lw_good) (hfs : ∀ j, j < (sCl n).2.2 → defaultValue (sTy n j) = vp_V fs j) (hR : ce + 1 ≤ rc ∧ sl + (sCl n).2.2 ≤ rs) (d : decode cc pc = .ok (.new ix, 3)) (kk : gG X nL (pc + 3) lo (.ref sz :: st) (ws ++ [(sz, .inr (n, fs))]) (sz + 1) (ce + 1) (sl + (sCl n).2.2)) : gG X nL pc lo st ws sz ce sl := by
  obtain ⟨p, l, e, R, s, m, args, below, meth, c, D, cy', ad, A, H0, Q, ce0, sl0⟩ := X
  obtain ⟨hx, hb, hml, hown, hts, hK, hN1, hN2, hA, hRm, rfl, rfl⟩ := h
  intro H locs ls hz hP hD hS hl
  have hKn := hK.1 n _ (sCl_get n hn)
  refine W.newcK (g := F0 m pc ls st) hx hb hown (hts _ hw.1) (hts _ hw.2.1) (hts _ hw.2.2) rfl d (by omega) (by omega) hKn.2.1 hz fun H1 kC hkC e1 z1 o1 => ?_
  have at1 : va_at D vwCl (sz, .inr (n, fs)) H1 := ⟨_, sCl_get n hn, (u_born (sTy n) hts (sCl_ws n hn) hKn hkC e1 (sCl_ty n hn)).to hfs⟩
  have one : ∀ (i : Nat) (q : Nat × va_E), ([(sz, Sum.inr (n, fs))] : va_W)[i]? = some q → i = 0 ∧ q = (sz, .inr (n, fs)) := fun i q hq => by
    cases i with
    | zero => cases hq; exact ⟨rfl, rfl⟩
    | succ i => cases hq
  obtain ⟨P1, D1, S1⟩ := gGrow (new := [(sz, .inr (n, fs))]) hP hD hS hA (by omega) (fun q hq => o1 q (by omega)) (fun k q hk => by rw [(one k q hk).2]; exact at1) (fun i j p q hi hj _ => by rw [(one i p hi).1, (one j q hj).1]) (fun k q hk => by rw [(one k q hk).2, hz]; exact Nat.le_refl _) (fun q hq => Or.inl hq)
  exact W.eq (g2 := F0 m (pc + 3) ls (.ref sz :: st)) rfl (kk H1 locs ls z1 P1 D1 S1 hl)
/-- rows of rows -/
theorem a_mn {n M : Int32} {q N M' lw j t u ix : Nat} {ty : FieldType} {hd : Nat × va_E} {T0 : va_W} (h : gOK X cy cc own nL fr lc rc rs) (hj : lw + j = q) (hsz : b + q = sz) (hty : (ty = .int ∧ t = 2 ∧ u = 1) ∨ (ty = .long ∧ t = 3 ∧ u = 3)) (ha : sAr q (t + 4) N) (hrow : ∀ i, i < N → sAr (q + 1 + i) u M' ∧ sR q i = q + 1 + i ∧ ∀ k, gI0 (q + 1 + i) k = 0) (hw : Cond.classLink own ix ("[" ++ (FieldType.array ty).toString) ∈ lw_good ∧ Cond.arrayClass ty ∈ lw_good) (hn : ¬ n < 0) (hm : ¬ M < 0) (hN : n.toNatClampNeg = N) (hM : M.toNatClampNeg = M') (hby : N ≤ 1000 ∧ M' ≤ 1000) (hR : ce + (1 + N) ≤ rc ∧ sl + (N + N * M') ≤ rs) (d : decode cc pc = .ok (.multianewarray ix 2, 4)) (kk : gG X nL (pc + 4) lo (.ref (b + q) :: st) (hd :: (T0 ++ wN cy b lw (j + (1 + N)))) (sz + 1 + N) (ce + 1 + N) (sl + N + N * M')) : gG X nL pc lo (.int M :: .int n :: st) (hd :: (T0 ++ wN cy b lw j)) sz ce sl := by
  obtain ⟨p, l, e, R, s, m, args, below, meth, c, D, cy', ad, A, H0, Q, ce0, sl0⟩ := X
  obtain ⟨hx, hb, hml, hown, hts, hK, hN1, hN2, hA, hRm, rfl, rfl⟩ := h
  subst hj; subst hsz
  intro H locs ls hz hP hD hS hl
  have hcb : componentBytes ty ≤ 8 := by rcases hty with ⟨rfl, -, -⟩ | ⟨rfl, -, -⟩ <;> decide
  have hb2 : M' * componentBytes ty ≤ 536870912 := Nat.le_trans (Nat.mul_le_mul_left M' hcb) (by omega)
  have hov : (Cond.arrayOver (.array ty)).before args s = true := hN1.2.2.2 ty (by rcases hty with ⟨rfl, -, -⟩ | ⟨rfl, -, -⟩ <;> decide)
  refine W.mn hx hb hown (hts _ hw.1) hov (hts _ hw.2) d hN hM hn hm (by omega) hb2 (by omega) (by rcases hty with ⟨rfl, -, -⟩ | ⟨rfl, -, -⟩ <;> rfl) (by rcases hty with ⟨rfl, -, -⟩ | ⟨rfl, -, -⟩ <;> rfl) (by omega) (by omega) fun cA comp H1 locs1 f1 f2 z1 e1 r1 o1 l1 => ?_
  rw [hz] at z1 e1 r1 o1 l1 ⊢
  have ecA : cA = cy' (t + 4) := by
    rcases hty with ⟨rfl, rfl, rfl⟩ | ⟨rfl, rfl, rfl⟩
    · exact Option.some.inj (f1.symm.trans (hK.2 6 (cy' 6, .array .int) rfl).2)
    · exact Option.some.inj (f1.symm.trans (hK.2 7 (cy' 7, .array .long) rfl).2)
  have eco : comp = cy' u := by
    rcases hty with ⟨rfl, rfl, rfl⟩ | ⟨rfl, rfl, rfl⟩
    · exact Option.some.inj (f2.symm.trans (hK.2 1 (cy' 1, .int) rfl).2)
    · exact Option.some.inj (f2.symm.trans (hK.2 3 (cy' 3, .long) rfl).2)
  subst ecA; subst eco
  have at0 : va_at D vwCl (b + (lw + j), gE cy' b (lw + j)) H1 := by
    unfold gE
    rw [sE_r ha]
    show H1[b + (lw + j)]? = some (arrV (cy' (t + 4)) N (fun k => va_rf (some (b + sR (lw + j) k))))
    rw [e1]
    congr 1
    unfold arrV
    congr 2
    funext i
    show (if (i : Nat) < N then Value.ref (b + (lw + j) + 1 + i) else .null) = Value.ref (b + sR (lw + j) i)
    rw [if_pos i.2, (hrow i i.2).2.1, show b + (lw + j) + 1 + (i : Nat) = b + (lw + j + 1 + i) by omega]
  have at1 : ∀ i, i < N → va_at D vwCl (b + (lw + j + 1 + i), gE cy' b (lw + j + 1 + i)) H1 := fun i hi => by
    obtain ⟨s1, -, s3⟩ := hrow i hi
    have e2 := r1 i hi
    rw [show b + (lw + j) + 1 + i = b + (lw + j + 1 + i) by omega] at e2
    unfold gE
    rcases hty with ⟨rfl, rfl, rfl⟩ | ⟨rfl, rfl, rfl⟩
    · rw [sE_i s1]
      show H1[b + (lw + j + 1 + i)]? = some (arrV (cy' 1) M' (fun k => .int (gI0 (lw + j + 1 + i) k)))
      rw [e2, show (fun k => Value.int (gI0 (lw + j + 1 + i) k)) = (fun _ => Value.int 0) from funext fun k => by rw [s3 k]]
      rfl
    · rw [sE_l s1]
      exact e2
  have hn1 : va_P D vwCl (wN cy' b (lw + j) (1 + N)) H1 := wN_P fun p h1 h2 => by
    by_cases z : p = lw + j
    · rw [z]; exact at0
    · have := at1 (p - (lw + j + 1)) (by omega)
      rw [show lw + j + 1 + (p - (lw + j + 1)) = p by omega] at this
      exact this
  obtain ⟨P1, D1, S1⟩ := gGrow (locs1 := locs1) hP hD hS hA (by omega) (fun q hq => o1 q (by omega)) hn1 wN_dis.1 (fun k q hk => by rw [hz]; exact wN_dis.2 k q hk) (fun q hq => (l1 q hq).elim Or.inl (fun z => Or.inr (by rw [z]; exact hA _ (by rw [← hz]; exact hS.1))))
  rw [List.cons_append, List.append_assoc, wN_app] at P1 D1
  exact kk H1 locs1 ls (by omega) P1 D1 S1 hl
/-- a row of references is made, with nothing in it -/
theorem a_anew {n : Int32} {t N ix : Nat} {C : String} (h : gOK X cy cc own nL fr lc rc rs) (hC : (sTys cy)[t]? = some (cy t, .object C)) (ho : C = "ClayDisc$Told" ∨ C = "ClayDisc$Tongue") (hw : Cond.classLink own ix C ∈ lw_good) (hn : ¬ n < 0) (hN : n.toNatClampNeg = N) (hby : N ≤ 1000) (hR : ce + 1 ≤ rc ∧ sl + N ≤ rs) (d : decode cc pc = .ok (.anewarray ix, 3)) (kk : gG X nL (pc + 3) lo (.ref sz :: st) (ws ++ [(sz, .inl (cy t, N, .inr (.inr (.inr (.inr (fun _ => none))))))]) (sz + 1) (ce + 1) (sl + N)) : gG X nL pc lo (.int n :: st) ws sz ce sl := by
  obtain ⟨p, l, e, R, s, m, args, below, meth, c, D, cy', ad, A, H0, Q, ce0, sl0⟩ := X
  obtain ⟨hx, hb, hml, hown, hts, hK, hN1, hN2, hA, hRm, rfl, rfl⟩ := h
  subst hN
  intro H locs ls hz hP hD hS hl
  have hov : va_AO C s := by rcases ho with rfl | rfl; exact hN1.2.1; exact hN1.2.2.1
  refine W.anew (g := F0 m pc ls (.int n :: st)) hx hb hown (hts _ hw) (va_AO.use hov) rfl d rfl hn (by omega) (by omega) (by omega) fun cA kA comp f1 f2 f3 f4 => ?_
  have ec : cA = cy' t := by
    obtain ⟨_, _, _, _, _, g4⟩ := (hK.2 t _ hC).2
    exact Option.some.inj (f1.symm.trans g4)
  subst ec
  have at1 : va_at D vwCl (sz, .inl (cy' t, n.toNatClampNeg, .inr (.inr (.inr (.inr (fun _ => none)))))) (H.push { cls := cy' t, slots := Array.replicate n.toNatClampNeg .null, vm := .none }) := by
    show (H.push _)[sz]? = some (arrV (cy' t) n.toNatClampNeg (fun _ => .null))
    rw [← hz, Array.getElem?_push_size, ← arrV_new]
  have one : ∀ (i : Nat) (q : Nat × va_E), ([(sz, Sum.inl (cy' t, n.toNatClampNeg, .inr (.inr (.inr (.inr (fun _ => none))))))] : va_W)[i]? = some q → i = 0 ∧ q = (sz, Sum.inl (cy' t, n.toNatClampNeg, .inr (.inr (.inr (.inr (fun _ => none)))))) := fun i q hq => by
    cases i with
    | zero => cases hq; exact ⟨rfl, rfl⟩
    | succ i => cases hq
  obtain ⟨P1, D1, S1⟩ := gGrow (new := [(sz, Sum.inl (cy' t, n.toNatClampNeg, .inr (.inr (.inr (.inr (fun _ => none))))))]) (H1 := H.push { cls := cy' t, slots := Array.replicate n.toNatClampNeg .null, vm := .none }) (locs1 := locs) hP hD hS hA (by rw [Array.size_push]; omega) (fun q hq => by rw [Array.getElem?_push, if_neg (Nat.ne_of_lt hq)]) (fun k q hk => by rw [(one k q hk).2]; exact at1) (fun i j p q hi hj _ => by rw [(one i p hi).1, (one j q hj).1]) (fun k q hk => by rw [(one k q hk).2, hz]; exact Nat.le_refl _) (fun q hq => Or.inl hq)
  refine W.eq (g2 := F0 m (pc + 3) ls (.ref sz :: st)) (by rw [hz]) (kk _ locs ls (by rw [Array.size_push, hz]) P1 D1 S1 hl)
/-- a reference is put into a row -/
theorem a_aast {a v n t ci base : Nat} {vs : List Value} {f : Nat → Option Nat} {i : Int32} {ws' : va_W} (q0 qk : Nat) (h : gOK X cy cc own nL fr lc rc rs) (hbs : gB X base) (hsz : base + ce = sz) (hlast : ∃ (i : Nat) (q : Nat × va_E), ws'[i]? = some q ∧ q.1 + 1 = sz) (hq : ws[q0]? = some (a, .inl (cy t, n, .inr (.inr (.inr (.inr f)))))) (ht : (sTys cy)[t]? = some (cy t, .object (sCl ci).1)) (hv : ws[qk]? = some (v, .inr (ci, vs))) (hc : ci < 13) (hi : vp_in i n) (d : decode cc pc = .ok (.aastore, 1)) (hw' : ws.set q0 (a, .inl (cy t, n, .inr (.inr (.inr (.inr (va_up f i.toNatClampNeg (some v))))))) = ws') (kk : gG X nL (pc + 1) lo st ws' sz ce sl) : gG X nL pc lo (.ref v :: .int i :: .ref a :: st) ws sz ce sl := by
  obtain ⟨p, l, e, R, s, m, args, below, meth, c, D, cy', ad, A, H0, Q, ce0, sl0⟩ := X
  obtain ⟨hx, hb, hml, hown, hts, hK, hN1, hN2, hA, hRm, rfl, rfl⟩ := h
  subst hw'
  intro H locs ls hz hP hD hS hl
  have hbs : s.heap.size = base := hbs
  obtain ⟨i9, q9, hl9, he9⟩ := hlast
  refine va_astq hx hb hK hP hD hS q0 t qk ci hq ht hv (sCl_get ci hc) hi d (fun H1 locs1 hP1 hD1 hS1 => W_sz fun h1 => kk H1 locs1 ls ?_ hP1 hD1 hS1 hl)
  have := (hP1 i9 q9 hl9).lt
  omega
theorem a_get {a n k ix : Nat} {fs : List Value} {v : Value} (q0 : Nat) (h : gOK X cy cc own nL fr lc rc rs) (hq : ws[q0]? = some (a, .inr (n, fs))) (hn : n < 13) (hf : sFL own ix n k) (hv : fs[k]? = some v) (d : decode cc pc = .ok (.getfield ix, 3)) (kk : gG X nL (pc + 3) lo (v :: st) ws sz ce sl) : gG X nL pc lo (.ref a :: st) ws sz ce sl := by
  obtain ⟨p, l, e, R, s, m, args, below, meth, c, D, cy', ad, A, H0, Q, ce0, sl0⟩ := X
  obtain ⟨hx, hb, hml, hown, hts, hK, hN1, hN2, hA, hRm, rfl, rfl⟩ := h
  exact fun H locs ls hz hP hD hS hl => va_get (D := D) (ci := n) (C := (sCl n).1) (T := (sCl n).2.1) (N := (sCl n).2.2) hx hb hts (sCl_ws n hn) hown hK hP q0 hq (sCl_get n hn) k hf.1 (hts _ hf.2) (fun _ h9 => h9) hv d (kk H locs ls hz hP hD hS hl)
theorem gG_w {ws' : va_W} (e : ws = ws') (k : gG X nL pc lo st ws' sz ce sl) : gG X nL pc lo st ws sz ce sl := e ▸ k
end GROWS
