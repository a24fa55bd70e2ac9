section SROWS
variable {X : sX} {cc : ByteArray} {own : String} {nL fr lc pc : Nat} {lo : List (Nat × Value)} {st : List Value} {I : sI} {J : sJ}
theorem g_iconst {n : Int} {v : Int32} (h : sOK X cc own nL fr lc) (hv : Int32.ofInt n = v) (d : decode cc pc = .ok (.iconst n, 1)) (k : sG X nL (pc + 1) lo (.int v :: st) I J) : sG X nL pc lo (st) I J := by
  obtain ⟨p, l, e, R, s, m, args, below, meth, c, D, cy, ad, A, H0, Q, ce, sl⟩ := X
  obtain ⟨hx, hb, hml, hown, hts, hK, hN, hA, hRm, rfl⟩ := h
  exact fun H locs ls hP hD hS hl => lv_iconst hx hb d hv (k H locs ls hP hD hS hl)
theorem g_bipush {n : Int} {v : Int32} (h : sOK X cc own nL fr lc) (hv : (Int8.ofInt n).toInt32 = v) (d : decode cc pc = .ok (.bipush n, 2)) (k : sG X nL (pc + 2) lo (.int v :: st) I J) : sG X nL pc lo (st) I J := by
  obtain ⟨p, l, e, R, s, m, args, below, meth, c, D, cy, ad, A, H0, Q, ce, sl⟩ := X
  obtain ⟨hx, hb, hml, hown, hts, hK, hN, hA, hRm, rfl⟩ := h
  exact fun H locs ls hP hD hS hl => lv_bipush hx hb d hv (k H locs ls hP hD hS hl)
theorem g_sipush {n : Int} {v : Int32} (h : sOK X cc own nL fr lc) (hv : (Int16.ofInt n).toInt32 = v) (d : decode cc pc = .ok (.sipush n, 3)) (k : sG X nL (pc + 3) lo (.int v :: st) I J) : sG X nL pc lo (st) I J := by
  obtain ⟨p, l, e, R, s, m, args, below, meth, c, D, cy, ad, A, H0, Q, ce, sl⟩ := X
  obtain ⟨hx, hb, hml, hown, hts, hK, hN, hA, hRm, rfl⟩ := h
  exact fun H locs ls hP hD hS hl => lv_sipush hx hb d hv (k H locs ls hP hD hS hl)
theorem g_lconst {n : Fin 2} {v : Int64} (h : sOK X cc own nL fr lc) (hv : Int64.ofNat (n : Nat) = v) (d : decode cc pc = .ok (.lconst n, 1)) (k : sG X nL (pc + 1) lo (.long v :: st) I J) : sG X nL pc lo (st) I J := by
  obtain ⟨p, l, e, R, s, m, args, below, meth, c, D, cy, ad, A, H0, Q, ce, sl⟩ := X
  obtain ⟨hx, hb, hml, hown, hts, hK, hN, hA, hRm, rfl⟩ := h
  exact fun H locs ls hP hD hS hl => lv_lconst hx hb d hv (k H locs ls hP hD hS hl)
theorem g_ldc {ix : Nat} {v : Int32} (h : sOK X cc own nL fr lc) (hw : Cond.constant own ix v ∈ lw_good) (d : decode cc pc = .ok (.ldc ix, 2)) (k : sG X nL (pc + 2) lo (.int v :: st) I J) : sG X nL pc lo (st) I J := by
  obtain ⟨p, l, e, R, s, m, args, below, meth, c, D, cy, ad, A, H0, Q, ce, sl⟩ := X
  obtain ⟨hx, hb, hml, hown, hts, hK, hN, hA, hRm, rfl⟩ := h
  exact fun H locs ls hP hD hS hl => lv_ldc hx hb hown (hts _ hw) d (k H locs ls hP hD hS hl)
theorem g_ldcw {ix : Nat} {v : Int32} (h : sOK X cc own nL fr lc) (hw : Cond.constant own ix v ∈ lw_good) (d : decode cc pc = .ok (.ldc_w ix, 3)) (k : sG X nL (pc + 3) lo (.int v :: st) I J) : sG X nL pc lo (st) I J := by
  obtain ⟨p, l, e, R, s, m, args, below, meth, c, D, cy, ad, A, H0, Q, ce, sl⟩ := X
  obtain ⟨hx, hb, hml, hown, hts, hK, hN, hA, hRm, rfl⟩ := h
  exact fun H locs ls hP hD hS hl => lv_ldcw hx hb hown (hts _ hw) d (k H locs ls hP hD hS hl)
theorem g_ldc2 {ix : Nat} {v : Int64} (h : sOK X cc own nL fr lc) (hw : Cond.constantLong own ix v ∈ lw_good) (d : decode cc pc = .ok (.ldc2_w ix, 3)) (k : sG X nL (pc + 3) lo (.long v :: st) I J) : sG X nL pc lo (st) I J := by
  obtain ⟨p, l, e, R, s, m, args, below, meth, c, D, cy, ad, A, H0, Q, ce, sl⟩ := X
  obtain ⟨hx, hb, hml, hown, hts, hK, hN, hA, hRm, rfl⟩ := h
  exact fun H locs ls hP hD hS hl => W.ldc2 hx hb hown (hts _ hw) rfl d (k H locs ls hP hD hS hl)
theorem g_iload_n {k0 : Fin 4} {i : Nat} {x : Int32} (h : sOK X cc own nL fr lc) (hi : (k0 : Nat) = i) (j : Nat) (hj : lo[j]? = some (i, .int x)) (d : decode cc pc = .ok (.iload_n k0, 1)) (k : sG X nL (pc + 1) lo (.int x :: st) I J) : sG X nL pc lo (st) I J := by
  obtain ⟨p, l, e, R, s, m, args, below, meth, c, D, cy, ad, A, H0, Q, ce, sl⟩ := X
  obtain ⟨hx, hb, hml, hown, hts, hK, hN, hA, hRm, rfl⟩ := h
  exact fun H locs ls hP hD hS hl => lv_iload_n hx hb d hi (lv_at hl j (sLo_at hj)) (k H locs ls hP hD hS hl)
theorem g_iload {i : Nat} {x : Int32} (h : sOK X cc own nL fr lc) (j : Nat) (hj : lo[j]? = some (i, .int x)) (d : decode cc pc = .ok (.iload i, 2)) (k : sG X nL (pc + 2) lo (.int x :: st) I J) : sG X nL pc lo (st) I J := by
  obtain ⟨p, l, e, R, s, m, args, below, meth, c, D, cy, ad, A, H0, Q, ce, sl⟩ := X
  obtain ⟨hx, hb, hml, hown, hts, hK, hN, hA, hRm, rfl⟩ := h
  exact fun H locs ls hP hD hS hl => lv_iload hx hb d (lv_at hl j (sLo_at hj)) (k H locs ls hP hD hS hl)
theorem g_lload_n {k0 : Fin 4} {i : Nat} {x : Int64} (h : sOK X cc own nL fr lc) (hi : (k0 : Nat) = i) (j : Nat) (hj : lo[j]? = some (i, .long x)) (d : decode cc pc = .ok (.lload_n k0, 1)) (k : sG X nL (pc + 1) lo (.long x :: st) I J) : sG X nL pc lo (st) I J := by
  obtain ⟨p, l, e, R, s, m, args, below, meth, c, D, cy, ad, A, H0, Q, ce, sl⟩ := X
  obtain ⟨hx, hb, hml, hown, hts, hK, hN, hA, hRm, rfl⟩ := h
  exact fun H locs ls hP hD hS hl => lv_lload_n hx hb d hi (lv_at hl j (sLo_at hj)) (k H locs ls hP hD hS hl)
theorem g_lload {i : Nat} {x : Int64} (h : sOK X cc own nL fr lc) (j : Nat) (hj : lo[j]? = some (i, .long x)) (d : decode cc pc = .ok (.lload i, 2)) (k : sG X nL (pc + 2) lo (.long x :: st) I J) : sG X nL pc lo (st) I J := by
  obtain ⟨p, l, e, R, s, m, args, below, meth, c, D, cy, ad, A, H0, Q, ce, sl⟩ := X
  obtain ⟨hx, hb, hml, hown, hts, hK, hN, hA, hRm, rfl⟩ := h
  exact fun H locs ls hP hD hS hl => lv_lload hx hb d (lv_at hl j (sLo_at hj)) (k H locs ls hP hD hS hl)
theorem g_aload_n {k0 : Fin 4} {i : Nat} {x : Nat} (h : sOK X cc own nL fr lc) (hi : (k0 : Nat) = i) (j : Nat) (hj : lo[j]? = some (i, .ref x)) (d : decode cc pc = .ok (.aload_n k0, 1)) (k : sG X nL (pc + 1) lo (.ref x :: st) I J) : sG X nL pc lo (st) I J := by
  obtain ⟨p, l, e, R, s, m, args, below, meth, c, D, cy, ad, A, H0, Q, ce, sl⟩ := X
  obtain ⟨hx, hb, hml, hown, hts, hK, hN, hA, hRm, rfl⟩ := h
  exact fun H locs ls hP hD hS hl => lv_aload_n hx hb d hi (lv_at hl j (sLo_at hj)) (k H locs ls hP hD hS hl)
theorem g_aload {i : Nat} {x : Nat} (h : sOK X cc own nL fr lc) (j : Nat) (hj : lo[j]? = some (i, .ref x)) (d : decode cc pc = .ok (.aload i, 2)) (k : sG X nL (pc + 2) lo (.ref x :: st) I J) : sG X nL pc lo (st) I J := by
  obtain ⟨p, l, e, R, s, m, args, below, meth, c, D, cy, ad, A, H0, Q, ce, sl⟩ := X
  obtain ⟨hx, hb, hml, hown, hts, hK, hN, hA, hRm, rfl⟩ := h
  exact fun H locs ls hP hD hS hl => lv_aload hx hb d (lv_at hl j (sLo_at hj)) (k H locs ls hP hD hS hl)
theorem g_istore_n {k0 : Fin 4} {i : Nat} {x : Int32} {lo2 : List (Nat × Value)} (h : sOK X cc own nL fr lc) (hi : (k0 : Nat) = i) (hn : i < nL) (he : (i, Value.int x) :: lo.filter (fun q : Nat × Value => !(q.1 == i) && !(q.1 + 1 == i && q.2.category == 2)) = lo2) (d : decode cc pc = .ok (.istore_n k0, 1)) (k : sG X nL (pc + 1) lo2 st I J) : sG X nL pc lo (.int x :: st) I J := by
  obtain ⟨p, l, e, R, s, m, args, below, meth, c, D, cy, ad, A, H0, Q, ce, sl⟩ := X
  obtain ⟨hx, hb, hml, hown, hts, hK, hN, hA, hRm, rfl⟩ := h
  subst he
  refine fun H locs ls hP hD hS hl => lv_istore_n hx hb d hi hl hn rfl (fun ls2 hl2 => k H locs ls2 hP hD hS ?_)
  rw [sLo_filter _ (fun q => by simp only [sV_cat])] at hl2
  exact hl2
theorem g_istore {i : Nat} {x : Int32} {lo2 : List (Nat × Value)} (h : sOK X cc own nL fr lc) (hn : i < nL) (he : (i, Value.int x) :: lo.filter (fun q : Nat × Value => !(q.1 == i) && !(q.1 + 1 == i && q.2.category == 2)) = lo2) (d : decode cc pc = .ok (.istore i, 2)) (k : sG X nL (pc + 2) lo2 st I J) : sG X nL pc lo (.int x :: st) I J := by
  obtain ⟨p, l, e, R, s, m, args, below, meth, c, D, cy, ad, A, H0, Q, ce, sl⟩ := X
  obtain ⟨hx, hb, hml, hown, hts, hK, hN, hA, hRm, rfl⟩ := h
  subst he
  refine fun H locs ls hP hD hS hl => lv_istore hx hb d hl hn rfl (fun ls2 hl2 => k H locs ls2 hP hD hS ?_)
  rw [sLo_filter _ (fun q => by simp only [sV_cat])] at hl2
  exact hl2
theorem g_lstore_n {k0 : Fin 4} {i : Nat} {x : Int64} {lo2 : List (Nat × Value)} (h : sOK X cc own nL fr lc) (hi : (k0 : Nat) = i) (hn : i + 1 < nL) (he : (i, Value.long x) :: lo.filter (fun q : Nat × Value => !(q.1 == i) && (!(q.1 == i + 1) && !(q.1 + 1 == i && q.2.category == 2))) = lo2) (d : decode cc pc = .ok (.lstore_n k0, 1)) (k : sG X nL (pc + 1) lo2 st I J) : sG X nL pc lo (.long x :: st) I J := by
  obtain ⟨p, l, e, R, s, m, args, below, meth, c, D, cy, ad, A, H0, Q, ce, sl⟩ := X
  obtain ⟨hx, hb, hml, hown, hts, hK, hN, hA, hRm, rfl⟩ := h
  subst he
  refine fun H locs ls hP hD hS hl => lv_lstore_n hx hb d hi hl hn rfl (fun ls2 hl2 => k H locs ls2 hP hD hS ?_)
  rw [sLo_filter _ (fun q => by simp only [sV_cat])] at hl2
  exact hl2
theorem g_lstore {i : Nat} {x : Int64} {lo2 : List (Nat × Value)} (h : sOK X cc own nL fr lc) (hn : i + 1 < nL) (he : (i, Value.long x) :: lo.filter (fun q : Nat × Value => !(q.1 == i) && (!(q.1 == i + 1) && !(q.1 + 1 == i && q.2.category == 2))) = lo2) (d : decode cc pc = .ok (.lstore i, 2)) (k : sG X nL (pc + 2) lo2 st I J) : sG X nL pc lo (.long x :: st) I J := by
  obtain ⟨p, l, e, R, s, m, args, below, meth, c, D, cy, ad, A, H0, Q, ce, sl⟩ := X
  obtain ⟨hx, hb, hml, hown, hts, hK, hN, hA, hRm, rfl⟩ := h
  subst he
  refine fun H locs ls hP hD hS hl => lv_lstore hx hb d hl hn rfl (fun ls2 hl2 => k H locs ls2 hP hD hS ?_)
  rw [sLo_filter _ (fun q => by simp only [sV_cat])] at hl2
  exact hl2
theorem g_astore_n {k0 : Fin 4} {i : Nat} {x : Nat} {lo2 : List (Nat × Value)} (h : sOK X cc own nL fr lc) (hi : (k0 : Nat) = i) (hn : i < nL) (he : (i, Value.ref x) :: lo.filter (fun q : Nat × Value => !(q.1 == i) && !(q.1 + 1 == i && q.2.category == 2)) = lo2) (d : decode cc pc = .ok (.astore_n k0, 1)) (k : sG X nL (pc + 1) lo2 st I J) : sG X nL pc lo (.ref x :: st) I J := by
  obtain ⟨p, l, e, R, s, m, args, below, meth, c, D, cy, ad, A, H0, Q, ce, sl⟩ := X
  obtain ⟨hx, hb, hml, hown, hts, hK, hN, hA, hRm, rfl⟩ := h
  subst he
  refine fun H locs ls hP hD hS hl => lv_astore_n hx hb d hi hl hn rfl (fun ls2 hl2 => k H locs ls2 hP hD hS ?_)
  rw [sLo_filter _ (fun q => by simp only [sV_cat])] at hl2
  exact hl2
theorem g_astore {i : Nat} {x : Nat} {lo2 : List (Nat × Value)} (h : sOK X cc own nL fr lc) (hn : i < nL) (he : (i, Value.ref x) :: lo.filter (fun q : Nat × Value => !(q.1 == i) && !(q.1 + 1 == i && q.2.category == 2)) = lo2) (d : decode cc pc = .ok (.astore i, 2)) (k : sG X nL (pc + 2) lo2 st I J) : sG X nL pc lo (.ref x :: st) I J := by
  obtain ⟨p, l, e, R, s, m, args, below, meth, c, D, cy, ad, A, H0, Q, ce, sl⟩ := X
  obtain ⟨hx, hb, hml, hown, hts, hK, hN, hA, hRm, rfl⟩ := h
  subst he
  refine fun H locs ls hP hD hS hl => lv_astore hx hb d hl hn rfl (fun ls2 hl2 => k H locs ls2 hP hD hS ?_)
  rw [sLo_filter _ (fun q => by simp only [sV_cat])] at hl2
  exact hl2
theorem g_iinc {i : Nat} {n : Int} {x v : Int32} {lo2 : List (Nat × Value)} (h : sOK X cc own nL fr lc) (j : Nat) (hj : lo[j]? = some (i, .int x)) (hv : x + Int32.ofInt n = v) (hn : i < nL) (he : (i, Value.int v) :: lo.filter (fun q : Nat × Value => !(q.1 == i) && !(q.1 + 1 == i && q.2.category == 2)) = lo2) (d : decode cc pc = .ok (.iinc i n, 3)) (k : sG X nL (pc + 3) lo2 st I J) : sG X nL pc lo st I J := by
  obtain ⟨p, l, e, R, s, m, args, below, meth, c, D, cy, ad, A, H0, Q, ce, sl⟩ := X
  obtain ⟨hx, hb, hml, hown, hts, hK, hN, hA, hRm, rfl⟩ := h
  subst he
  refine fun H locs ls hP hD hS hl => lv_iinc hx hb d hl (k := j) (sLo_at hj) hv hn rfl (fun ls2 hl2 => k H locs ls2 hP hD hS ?_)
  rw [sLo_filter _ (fun q => by simp only [sV_cat])] at hl2
  exact hl2
theorem g_iadd {x y : Int32} (h : sOK X cc own nL fr lc) (d : decode cc pc = .ok (.iadd, 1)) (k : sG X nL (pc + 1) lo (.int (x + y) :: st) I J) : sG X nL pc lo (.int y :: .int x :: st) I J := by
  obtain ⟨p, l, e, R, s, m, args, below, meth, c, D, cy, ad, A, H0, Q, ce, sl⟩ := X
  obtain ⟨hx, hb, hml, hown, hts, hK, hN, hA, hRm, rfl⟩ := h
  exact fun H locs ls hP hD hS hl => lv_iadd hx hb d (k H locs ls hP hD hS hl)
theorem g_isub {x y : Int32} (h : sOK X cc own nL fr lc) (d : decode cc pc = .ok (.isub, 1)) (k : sG X nL (pc + 1) lo (.int (x - y) :: st) I J) : sG X nL pc lo (.int y :: .int x :: st) I J := by
  obtain ⟨p, l, e, R, s, m, args, below, meth, c, D, cy, ad, A, H0, Q, ce, sl⟩ := X
  obtain ⟨hx, hb, hml, hown, hts, hK, hN, hA, hRm, rfl⟩ := h
  exact fun H locs ls hP hD hS hl => lv_isub hx hb d (k H locs ls hP hD hS hl)
theorem g_imul {x y : Int32} (h : sOK X cc own nL fr lc) (d : decode cc pc = .ok (.imul, 1)) (k : sG X nL (pc + 1) lo (.int (x * y) :: st) I J) : sG X nL pc lo (.int y :: .int x :: st) I J := by
  obtain ⟨p, l, e, R, s, m, args, below, meth, c, D, cy, ad, A, H0, Q, ce, sl⟩ := X
  obtain ⟨hx, hb, hml, hown, hts, hK, hN, hA, hRm, rfl⟩ := h
  exact fun H locs ls hP hD hS hl => lv_imul hx hb d (k H locs ls hP hD hS hl)
theorem g_iand {x y : Int32} (h : sOK X cc own nL fr lc) (d : decode cc pc = .ok (.iand, 1)) (k : sG X nL (pc + 1) lo (.int (x &&& y) :: st) I J) : sG X nL pc lo (.int y :: .int x :: st) I J := by
  obtain ⟨p, l, e, R, s, m, args, below, meth, c, D, cy, ad, A, H0, Q, ce, sl⟩ := X
  obtain ⟨hx, hb, hml, hown, hts, hK, hN, hA, hRm, rfl⟩ := h
  exact fun H locs ls hP hD hS hl => lv_iand hx hb d (k H locs ls hP hD hS hl)
theorem g_ior {x y : Int32} (h : sOK X cc own nL fr lc) (d : decode cc pc = .ok (.ior, 1)) (k : sG X nL (pc + 1) lo (.int (x ||| y) :: st) I J) : sG X nL pc lo (.int y :: .int x :: st) I J := by
  obtain ⟨p, l, e, R, s, m, args, below, meth, c, D, cy, ad, A, H0, Q, ce, sl⟩ := X
  obtain ⟨hx, hb, hml, hown, hts, hK, hN, hA, hRm, rfl⟩ := h
  exact fun H locs ls hP hD hS hl => lv_ior hx hb d (k H locs ls hP hD hS hl)
theorem g_ixor {x y : Int32} (h : sOK X cc own nL fr lc) (d : decode cc pc = .ok (.ixor, 1)) (k : sG X nL (pc + 1) lo (.int (x ^^^ y) :: st) I J) : sG X nL pc lo (.int y :: .int x :: st) I J := by
  obtain ⟨p, l, e, R, s, m, args, below, meth, c, D, cy, ad, A, H0, Q, ce, sl⟩ := X
  obtain ⟨hx, hb, hml, hown, hts, hK, hN, hA, hRm, rfl⟩ := h
  exact fun H locs ls hP hD hS hl => lv_ixor hx hb d (k H locs ls hP hD hS hl)
theorem g_ishl {x y : Int32} (h : sOK X cc own nL fr lc) (d : decode cc pc = .ok (.ishl, 1)) (k : sG X nL (pc + 1) lo (.int (x <<< (y &&& 31)) :: st) I J) : sG X nL pc lo (.int y :: .int x :: st) I J := by
  obtain ⟨p, l, e, R, s, m, args, below, meth, c, D, cy, ad, A, H0, Q, ce, sl⟩ := X
  obtain ⟨hx, hb, hml, hown, hts, hK, hN, hA, hRm, rfl⟩ := h
  exact fun H locs ls hP hD hS hl => lv_ishl hx hb d (k H locs ls hP hD hS hl)
theorem g_ishr {x y : Int32} (h : sOK X cc own nL fr lc) (d : decode cc pc = .ok (.ishr, 1)) (k : sG X nL (pc + 1) lo (.int (x >>> (y &&& 31)) :: st) I J) : sG X nL pc lo (.int y :: .int x :: st) I J := by
  obtain ⟨p, l, e, R, s, m, args, below, meth, c, D, cy, ad, A, H0, Q, ce, sl⟩ := X
  obtain ⟨hx, hb, hml, hown, hts, hK, hN, hA, hRm, rfl⟩ := h
  exact fun H locs ls hP hD hS hl => lv_ishr hx hb d (k H locs ls hP hD hS hl)
theorem g_iushr {x y : Int32} (h : sOK X cc own nL fr lc) (d : decode cc pc = .ok (.iushr, 1)) (k : sG X nL (pc + 1) lo (.int ((x.toUInt32 >>> (y.toUInt32 &&& Int32.toUInt32 31)).toInt32) :: st) I J) : sG X nL pc lo (.int y :: .int x :: st) I J := by
  obtain ⟨p, l, e, R, s, m, args, below, meth, c, D, cy, ad, A, H0, Q, ce, sl⟩ := X
  obtain ⟨hx, hb, hml, hown, hts, hK, hN, hA, hRm, rfl⟩ := h
  exact fun H locs ls hP hD hS hl => lv_iushr hx hb d rfl (k H locs ls hP hD hS hl)
theorem g_idiv {x y : Int32} (h : sOK X cc own nL fr lc) (hne : ¬ y = 0) (d : decode cc pc = .ok (.idiv, 1)) (k : sG X nL (pc + 1) lo (.int (x / y) :: st) I J) : sG X nL pc lo (.int y :: .int x :: st) I J := by
  obtain ⟨p, l, e, R, s, m, args, below, meth, c, D, cy, ad, A, H0, Q, ce, sl⟩ := X
  obtain ⟨hx, hb, hml, hown, hts, hK, hN, hA, hRm, rfl⟩ := h
  exact fun H locs ls hP hD hS hl => lv_idiv hx hb d hne (k H locs ls hP hD hS hl)
theorem g_irem {x y : Int32} (h : sOK X cc own nL fr lc) (hne : ¬ y = 0) (d : decode cc pc = .ok (.irem, 1)) (k : sG X nL (pc + 1) lo (.int (x - x / y * y) :: st) I J) : sG X nL pc lo (.int y :: .int x :: st) I J := by
  obtain ⟨p, l, e, R, s, m, args, below, meth, c, D, cy, ad, A, H0, Q, ce, sl⟩ := X
  obtain ⟨hx, hb, hml, hown, hts, hK, hN, hA, hRm, rfl⟩ := h
  exact fun H locs ls hP hD hS hl => lv_irem hx hb d hne (k H locs ls hP hD hS hl)
theorem g_ladd {x y : Int64} (h : sOK X cc own nL fr lc) (d : decode cc pc = .ok (.ladd, 1)) (k : sG X nL (pc + 1) lo (.long (x + y) :: st) I J) : sG X nL pc lo (.long y :: .long x :: st) I J := by
  obtain ⟨p, l, e, R, s, m, args, below, meth, c, D, cy, ad, A, H0, Q, ce, sl⟩ := X
  obtain ⟨hx, hb, hml, hown, hts, hK, hN, hA, hRm, rfl⟩ := h
  exact fun H locs ls hP hD hS hl => lv_ladd hx hb d (k H locs ls hP hD hS hl)
theorem g_lsub {x y : Int64} (h : sOK X cc own nL fr lc) (d : decode cc pc = .ok (.lsub, 1)) (k : sG X nL (pc + 1) lo (.long (x - y) :: st) I J) : sG X nL pc lo (.long y :: .long x :: st) I J := by
  obtain ⟨p, l, e, R, s, m, args, below, meth, c, D, cy, ad, A, H0, Q, ce, sl⟩ := X
  obtain ⟨hx, hb, hml, hown, hts, hK, hN, hA, hRm, rfl⟩ := h
  exact fun H locs ls hP hD hS hl => lv_lsub hx hb d (k H locs ls hP hD hS hl)
theorem g_lmul {x y : Int64} (h : sOK X cc own nL fr lc) (d : decode cc pc = .ok (.lmul, 1)) (k : sG X nL (pc + 1) lo (.long (x * y) :: st) I J) : sG X nL pc lo (.long y :: .long x :: st) I J := by
  obtain ⟨p, l, e, R, s, m, args, below, meth, c, D, cy, ad, A, H0, Q, ce, sl⟩ := X
  obtain ⟨hx, hb, hml, hown, hts, hK, hN, hA, hRm, rfl⟩ := h
  exact fun H locs ls hP hD hS hl => lv_lmul hx hb d (k H locs ls hP hD hS hl)
theorem g_land {x y : Int64} (h : sOK X cc own nL fr lc) (d : decode cc pc = .ok (.land, 1)) (k : sG X nL (pc + 1) lo (.long (x &&& y) :: st) I J) : sG X nL pc lo (.long y :: .long x :: st) I J := by
  obtain ⟨p, l, e, R, s, m, args, below, meth, c, D, cy, ad, A, H0, Q, ce, sl⟩ := X
  obtain ⟨hx, hb, hml, hown, hts, hK, hN, hA, hRm, rfl⟩ := h
  exact fun H locs ls hP hD hS hl => lv_land hx hb d (k H locs ls hP hD hS hl)
theorem g_lor {x y : Int64} (h : sOK X cc own nL fr lc) (d : decode cc pc = .ok (.lor, 1)) (k : sG X nL (pc + 1) lo (.long (x ||| y) :: st) I J) : sG X nL pc lo (.long y :: .long x :: st) I J := by
  obtain ⟨p, l, e, R, s, m, args, below, meth, c, D, cy, ad, A, H0, Q, ce, sl⟩ := X
  obtain ⟨hx, hb, hml, hown, hts, hK, hN, hA, hRm, rfl⟩ := h
  exact fun H locs ls hP hD hS hl => lv_lor hx hb d (k H locs ls hP hD hS hl)
theorem g_lxor {x y : Int64} (h : sOK X cc own nL fr lc) (d : decode cc pc = .ok (.lxor, 1)) (k : sG X nL (pc + 1) lo (.long (x ^^^ y) :: st) I J) : sG X nL pc lo (.long y :: .long x :: st) I J := by
  obtain ⟨p, l, e, R, s, m, args, below, meth, c, D, cy, ad, A, H0, Q, ce, sl⟩ := X
  obtain ⟨hx, hb, hml, hown, hts, hK, hN, hA, hRm, rfl⟩ := h
  exact fun H locs ls hP hD hS hl => lv_lxor hx hb d (k H locs ls hP hD hS hl)
theorem g_ldiv {x y : Int64} (h : sOK X cc own nL fr lc) (hne : ¬ y = 0) (d : decode cc pc = .ok (.ldiv, 1)) (k : sG X nL (pc + 1) lo (.long (x / y) :: st) I J) : sG X nL pc lo (.long y :: .long x :: st) I J := by
  obtain ⟨p, l, e, R, s, m, args, below, meth, c, D, cy, ad, A, H0, Q, ce, sl⟩ := X
  obtain ⟨hx, hb, hml, hown, hts, hK, hN, hA, hRm, rfl⟩ := h
  exact fun H locs ls hP hD hS hl => lv_ldiv hx hb d hne (k H locs ls hP hD hS hl)
theorem g_lrem {x y : Int64} (h : sOK X cc own nL fr lc) (hne : ¬ y = 0) (d : decode cc pc = .ok (.lrem, 1)) (k : sG X nL (pc + 1) lo (.long (x - x / y * y) :: st) I J) : sG X nL pc lo (.long y :: .long x :: st) I J := by
  obtain ⟨p, l, e, R, s, m, args, below, meth, c, D, cy, ad, A, H0, Q, ce, sl⟩ := X
  obtain ⟨hx, hb, hml, hown, hts, hK, hN, hA, hRm, rfl⟩ := h
  exact fun H locs ls hP hD hS hl => lv_lrem hx hb d hne (k H locs ls hP hD hS hl)
theorem g_lushr {x : Int64} {y : Int32} (h : sOK X cc own nL fr lc) (d : decode cc pc = .ok (.lushr, 1)) (k : sG X nL (pc + 1) lo (.long ((x.toUInt64 >>> (y.toInt64.toUInt64 &&& Int64.toUInt64 63)).toInt64) :: st) I J) : sG X nL pc lo (.int y :: .long x :: st) I J := by
  obtain ⟨p, l, e, R, s, m, args, below, meth, c, D, cy, ad, A, H0, Q, ce, sl⟩ := X
  obtain ⟨hx, hb, hml, hown, hts, hK, hN, hA, hRm, rfl⟩ := h
  exact fun H locs ls hP hD hS hl => lv_lushr hx hb d rfl (k H locs ls hP hD hS hl)
theorem g_lshl {x : Int64} {y : Int32} (h : sOK X cc own nL fr lc) (d : decode cc pc = .ok (.lshl, 1)) (k : sG X nL (pc + 1) lo (.long (x <<< (y.toInt64 &&& 63)) :: st) I J) : sG X nL pc lo (.int y :: .long x :: st) I J := by
  obtain ⟨p, l, e, R, s, m, args, below, meth, c, D, cy, ad, A, H0, Q, ce, sl⟩ := X
  obtain ⟨hx, hb, hml, hown, hts, hK, hN, hA, hRm, rfl⟩ := h
  exact fun H locs ls hP hD hS hl => lv_lshl hx hb d rfl (k H locs ls hP hD hS hl)
theorem g_lshr {x : Int64} {y : Int32} (h : sOK X cc own nL fr lc) (d : decode cc pc = .ok (.lshr, 1)) (k : sG X nL (pc + 1) lo (.long (x >>> (y.toInt64 &&& 63)) :: st) I J) : sG X nL pc lo (.int y :: .long x :: st) I J := by
  obtain ⟨p, l, e, R, s, m, args, below, meth, c, D, cy, ad, A, H0, Q, ce, sl⟩ := X
  obtain ⟨hx, hb, hml, hown, hts, hK, hN, hA, hRm, rfl⟩ := h
  exact fun H locs ls hP hD hS hl => lv_lshr hx hb d rfl (k H locs ls hP hD hS hl)
theorem g_i2l {x : Int32} (h : sOK X cc own nL fr lc) (d : decode cc pc = .ok (.i2l, 1)) (k : sG X nL (pc + 1) lo (.long x.toInt64 :: st) I J) : sG X nL pc lo (.int x :: st) I J := by
  obtain ⟨p, l, e, R, s, m, args, below, meth, c, D, cy, ad, A, H0, Q, ce, sl⟩ := X
  obtain ⟨hx, hb, hml, hown, hts, hK, hN, hA, hRm, rfl⟩ := h
  exact fun H locs ls hP hD hS hl => lv_i2l hx hb d rfl (k H locs ls hP hD hS hl)
theorem g_l2i {x : Int64} (h : sOK X cc own nL fr lc) (d : decode cc pc = .ok (.l2i, 1)) (k : sG X nL (pc + 1) lo (.int x.toInt32 :: st) I J) : sG X nL pc lo (.long x :: st) I J := by
  obtain ⟨p, l, e, R, s, m, args, below, meth, c, D, cy, ad, A, H0, Q, ce, sl⟩ := X
  obtain ⟨hx, hb, hml, hown, hts, hK, hN, hA, hRm, rfl⟩ := h
  exact fun H locs ls hP hD hS hl => lv_l2i hx hb d rfl (k H locs ls hP hD hS hl)
theorem g_i2b {x : Int32} (h : sOK X cc own nL fr lc) (d : decode cc pc = .ok (.i2b, 1)) (k : sG X nL (pc + 1) lo (.int x.toInt8.toInt32 :: st) I J) : sG X nL pc lo (.int x :: st) I J := by
  obtain ⟨p, l, e, R, s, m, args, below, meth, c, D, cy, ad, A, H0, Q, ce, sl⟩ := X
  obtain ⟨hx, hb, hml, hown, hts, hK, hN, hA, hRm, rfl⟩ := h
  exact fun H locs ls hP hD hS hl => lv_i2b hx hb d rfl (k H locs ls hP hD hS hl)
theorem g_i2s {x : Int32} (h : sOK X cc own nL fr lc) (d : decode cc pc = .ok (.i2s, 1)) (k : sG X nL (pc + 1) lo (.int x.toInt16.toInt32 :: st) I J) : sG X nL pc lo (.int x :: st) I J := by
  obtain ⟨p, l, e, R, s, m, args, below, meth, c, D, cy, ad, A, H0, Q, ce, sl⟩ := X
  obtain ⟨hx, hb, hml, hown, hts, hK, hN, hA, hRm, rfl⟩ := h
  exact fun H locs ls hP hD hS hl => lv_i2s hx hb d rfl (k H locs ls hP hD hS hl)
theorem g_lcmp {x y : Int64} (h : sOK X cc own nL fr lc) (d : decode cc pc = .ok (.lcmp, 1)) (k : sG X nL (pc + 1) lo (.int (lg_cmp x y) :: st) I J) : sG X nL pc lo (.long y :: .long x :: st) I J := by
  obtain ⟨p, l, e, R, s, m, args, below, meth, c, D, cy, ad, A, H0, Q, ce, sl⟩ := X
  obtain ⟨hx, hb, hml, hown, hts, hK, hN, hA, hRm, rfl⟩ := h
  exact fun H locs ls hP hD hS hl => W.lcmp hx hb d (k H locs ls hP hD hS hl)
theorem g_dup {v : Value} (h : sOK X cc own nL fr lc) (hc : v.category = 1) (d : decode cc pc = .ok (.dup, 1)) (k : sG X nL (pc + 1) lo (v :: v :: st) I J) : sG X nL pc lo (v :: st) I J := by
  obtain ⟨p, l, e, R, s, m, args, below, meth, c, D, cy, ad, A, H0, Q, ce, sl⟩ := X
  obtain ⟨hx, hb, hml, hown, hts, hK, hN, hA, hRm, rfl⟩ := h
  exact fun H locs ls hP hD hS hl => lv_dup hx hb d (by rw [sV_cat]; exact hc) (k H locs ls hP hD hS hl)
theorem g_dup2 {v w : Value} (h : sOK X cc own nL fr lc) (hc : v.category = 1) (hc2 : w.category = 1) (d : decode cc pc = .ok (.dup2, 1)) (k : sG X nL (pc + 1) lo (v :: w :: v :: w :: st) I J) : sG X nL pc lo (v :: w :: st) I J := by
  obtain ⟨p, l, e, R, s, m, args, below, meth, c, D, cy, ad, A, H0, Q, ce, sl⟩ := X
  obtain ⟨hx, hb, hml, hown, hts, hK, hN, hA, hRm, rfl⟩ := h
  exact fun H locs ls hP hD hS hl => lv_dup2_11 hx hb d (by rw [sV_cat]; exact hc) (by rw [sV_cat]; exact hc2) (k H locs ls hP hD hS hl)
theorem g_if_eq {x : Int32} {off : Int} {tgt : Nat} (h : sOK X cc own nL fr lc) (ht : (pc : Int) + off = (tgt : Int)) (d : decode cc pc = .ok (.ifCond .eq off, 3)) (kt : x = 0 → sG X nL tgt lo st I J) (kf : ¬ x = 0 → sG X nL (pc + 3) lo st I J) : sG X nL pc lo (.int x :: st) I J := by
  obtain ⟨p, l, e, R, s, m, args, below, meth, c, D, cy, ad, A, H0, Q, ce, sl⟩ := X
  obtain ⟨hx, hb, hml, hown, hts, hK, hN, hA, hRm, rfl⟩ := h
  exact fun H locs ls hP hD hS hl => lv_if_eq hx hb d ht (fun q => kt q H locs ls hP hD hS hl) (fun q => kf q H locs ls hP hD hS hl)
theorem g_icmp_eq {x y : Int32} {off : Int} {tgt : Nat} (h : sOK X cc own nL fr lc) (ht : (pc : Int) + off = (tgt : Int)) (d : decode cc pc = .ok (.if_icmp .eq off, 3)) (kt : x = y → sG X nL tgt lo st I J) (kf : ¬ x = y → sG X nL (pc + 3) lo st I J) : sG X nL pc lo (.int y :: .int x :: st) I J := by
  obtain ⟨p, l, e, R, s, m, args, below, meth, c, D, cy, ad, A, H0, Q, ce, sl⟩ := X
  obtain ⟨hx, hb, hml, hown, hts, hK, hN, hA, hRm, rfl⟩ := h
  exact fun H locs ls hP hD hS hl => lv_icmp_eq hx hb d ht (fun q => kt q H locs ls hP hD hS hl) (fun q => kf q H locs ls hP hD hS hl)
theorem g_if_ne {x : Int32} {off : Int} {tgt : Nat} (h : sOK X cc own nL fr lc) (ht : (pc : Int) + off = (tgt : Int)) (d : decode cc pc = .ok (.ifCond .ne off, 3)) (kt : ¬ x = 0 → sG X nL tgt lo st I J) (kf : x = 0 → sG X nL (pc + 3) lo st I J) : sG X nL pc lo (.int x :: st) I J := by
  obtain ⟨p, l, e, R, s, m, args, below, meth, c, D, cy, ad, A, H0, Q, ce, sl⟩ := X
  obtain ⟨hx, hb, hml, hown, hts, hK, hN, hA, hRm, rfl⟩ := h
  exact fun H locs ls hP hD hS hl => lv_if_ne hx hb d ht (fun q => kt q H locs ls hP hD hS hl) (fun q => kf q H locs ls hP hD hS hl)
theorem g_icmp_ne {x y : Int32} {off : Int} {tgt : Nat} (h : sOK X cc own nL fr lc) (ht : (pc : Int) + off = (tgt : Int)) (d : decode cc pc = .ok (.if_icmp .ne off, 3)) (kt : ¬ x = y → sG X nL tgt lo st I J) (kf : x = y → sG X nL (pc + 3) lo st I J) : sG X nL pc lo (.int y :: .int x :: st) I J := by
  obtain ⟨p, l, e, R, s, m, args, below, meth, c, D, cy, ad, A, H0, Q, ce, sl⟩ := X
  obtain ⟨hx, hb, hml, hown, hts, hK, hN, hA, hRm, rfl⟩ := h
  exact fun H locs ls hP hD hS hl => lv_icmp_ne hx hb d ht (fun q => kt q H locs ls hP hD hS hl) (fun q => kf q H locs ls hP hD hS hl)
theorem g_if_lt {x : Int32} {off : Int} {tgt : Nat} (h : sOK X cc own nL fr lc) (ht : (pc : Int) + off = (tgt : Int)) (d : decode cc pc = .ok (.ifCond .lt off, 3)) (kt : x < 0 → sG X nL tgt lo st I J) (kf : ¬ x < 0 → sG X nL (pc + 3) lo st I J) : sG X nL pc lo (.int x :: st) I J := by
  obtain ⟨p, l, e, R, s, m, args, below, meth, c, D, cy, ad, A, H0, Q, ce, sl⟩ := X
  obtain ⟨hx, hb, hml, hown, hts, hK, hN, hA, hRm, rfl⟩ := h
  exact fun H locs ls hP hD hS hl => lv_if_lt hx hb d ht (fun q => kt q H locs ls hP hD hS hl) (fun q => kf q H locs ls hP hD hS hl)
theorem g_icmp_lt {x y : Int32} {off : Int} {tgt : Nat} (h : sOK X cc own nL fr lc) (ht : (pc : Int) + off = (tgt : Int)) (d : decode cc pc = .ok (.if_icmp .lt off, 3)) (kt : x < y → sG X nL tgt lo st I J) (kf : ¬ x < y → sG X nL (pc + 3) lo st I J) : sG X nL pc lo (.int y :: .int x :: st) I J := by
  obtain ⟨p, l, e, R, s, m, args, below, meth, c, D, cy, ad, A, H0, Q, ce, sl⟩ := X
  obtain ⟨hx, hb, hml, hown, hts, hK, hN, hA, hRm, rfl⟩ := h
  exact fun H locs ls hP hD hS hl => lv_icmp_lt hx hb d ht (fun q => kt q H locs ls hP hD hS hl) (fun q => kf q H locs ls hP hD hS hl)
theorem g_if_ge {x : Int32} {off : Int} {tgt : Nat} (h : sOK X cc own nL fr lc) (ht : (pc : Int) + off = (tgt : Int)) (d : decode cc pc = .ok (.ifCond .ge off, 3)) (kt : 0 ≤ x → sG X nL tgt lo st I J) (kf : ¬ 0 ≤ x → sG X nL (pc + 3) lo st I J) : sG X nL pc lo (.int x :: st) I J := by
  obtain ⟨p, l, e, R, s, m, args, below, meth, c, D, cy, ad, A, H0, Q, ce, sl⟩ := X
  obtain ⟨hx, hb, hml, hown, hts, hK, hN, hA, hRm, rfl⟩ := h
  exact fun H locs ls hP hD hS hl => lv_if_ge hx hb d ht (fun q => kt q H locs ls hP hD hS hl) (fun q => kf q H locs ls hP hD hS hl)
theorem g_icmp_ge {x y : Int32} {off : Int} {tgt : Nat} (h : sOK X cc own nL fr lc) (ht : (pc : Int) + off = (tgt : Int)) (d : decode cc pc = .ok (.if_icmp .ge off, 3)) (kt : y ≤ x → sG X nL tgt lo st I J) (kf : ¬ y ≤ x → sG X nL (pc + 3) lo st I J) : sG X nL pc lo (.int y :: .int x :: st) I J := by
  obtain ⟨p, l, e, R, s, m, args, below, meth, c, D, cy, ad, A, H0, Q, ce, sl⟩ := X
  obtain ⟨hx, hb, hml, hown, hts, hK, hN, hA, hRm, rfl⟩ := h
  exact fun H locs ls hP hD hS hl => lv_icmp_ge hx hb d ht (fun q => kt q H locs ls hP hD hS hl) (fun q => kf q H locs ls hP hD hS hl)
theorem g_if_gt {x : Int32} {off : Int} {tgt : Nat} (h : sOK X cc own nL fr lc) (ht : (pc : Int) + off = (tgt : Int)) (d : decode cc pc = .ok (.ifCond .gt off, 3)) (kt : 0 < x → sG X nL tgt lo st I J) (kf : ¬ 0 < x → sG X nL (pc + 3) lo st I J) : sG X nL pc lo (.int x :: st) I J := by
  obtain ⟨p, l, e, R, s, m, args, below, meth, c, D, cy, ad, A, H0, Q, ce, sl⟩ := X
  obtain ⟨hx, hb, hml, hown, hts, hK, hN, hA, hRm, rfl⟩ := h
  exact fun H locs ls hP hD hS hl => lv_if_gt hx hb d ht (fun q => kt q H locs ls hP hD hS hl) (fun q => kf q H locs ls hP hD hS hl)
theorem g_icmp_gt {x y : Int32} {off : Int} {tgt : Nat} (h : sOK X cc own nL fr lc) (ht : (pc : Int) + off = (tgt : Int)) (d : decode cc pc = .ok (.if_icmp .gt off, 3)) (kt : y < x → sG X nL tgt lo st I J) (kf : ¬ y < x → sG X nL (pc + 3) lo st I J) : sG X nL pc lo (.int y :: .int x :: st) I J := by
  obtain ⟨p, l, e, R, s, m, args, below, meth, c, D, cy, ad, A, H0, Q, ce, sl⟩ := X
  obtain ⟨hx, hb, hml, hown, hts, hK, hN, hA, hRm, rfl⟩ := h
  exact fun H locs ls hP hD hS hl => lv_icmp_gt hx hb d ht (fun q => kt q H locs ls hP hD hS hl) (fun q => kf q H locs ls hP hD hS hl)
theorem g_if_le {x : Int32} {off : Int} {tgt : Nat} (h : sOK X cc own nL fr lc) (ht : (pc : Int) + off = (tgt : Int)) (d : decode cc pc = .ok (.ifCond .le off, 3)) (kt : x ≤ 0 → sG X nL tgt lo st I J) (kf : ¬ x ≤ 0 → sG X nL (pc + 3) lo st I J) : sG X nL pc lo (.int x :: st) I J := by
  obtain ⟨p, l, e, R, s, m, args, below, meth, c, D, cy, ad, A, H0, Q, ce, sl⟩ := X
  obtain ⟨hx, hb, hml, hown, hts, hK, hN, hA, hRm, rfl⟩ := h
  exact fun H locs ls hP hD hS hl => lv_if_le hx hb d ht (fun q => kt q H locs ls hP hD hS hl) (fun q => kf q H locs ls hP hD hS hl)
theorem g_icmp_le {x y : Int32} {off : Int} {tgt : Nat} (h : sOK X cc own nL fr lc) (ht : (pc : Int) + off = (tgt : Int)) (d : decode cc pc = .ok (.if_icmp .le off, 3)) (kt : x ≤ y → sG X nL tgt lo st I J) (kf : ¬ x ≤ y → sG X nL (pc + 3) lo st I J) : sG X nL pc lo (.int y :: .int x :: st) I J := by
  obtain ⟨p, l, e, R, s, m, args, below, meth, c, D, cy, ad, A, H0, Q, ce, sl⟩ := X
  obtain ⟨hx, hb, hml, hown, hts, hK, hN, hA, hRm, rfl⟩ := h
  exact fun H locs ls hP hD hS hl => lv_icmp_le hx hb d ht (fun q => kt q H locs ls hP hD hS hl) (fun q => kf q H locs ls hP hD hS hl)
theorem g_goto {off : Int} {tgt : Nat} (h : sOK X cc own nL fr lc) (ht : (pc : Int) + off = (tgt : Int)) (d : decode cc pc = .ok (.goto off, 3)) (k : sG X nL tgt lo st I J) : sG X nL pc lo st I J := by
  obtain ⟨p, l, e, R, s, m, args, below, meth, c, D, cy, ad, A, H0, Q, ce, sl⟩ := X
  obtain ⟨hx, hb, hml, hown, hts, hK, hN, hA, hRm, rfl⟩ := h
  exact fun H locs ls hP hD hS hl => lv_goto hx hb d ht (k H locs ls hP hD hS hl)
theorem g_tabIn {dflt a b : Int} {offs : Array Int} {len : Nat} {x : Int32} {off : Int} {tgt : Nat} (h : sOK X cc own nL fr lc) (d : decode cc pc = .ok (.tableswitch dflt a b offs, len)) (h1 : ¬ x.toInt < a) (h2 : ¬ b < x.toInt) (ho : offs[(x.toInt - a).toNat]? = some off) (ht : (pc : Int) + off = (tgt : Int)) (k : sG X nL tgt lo st I J) : sG X nL pc lo (.int x :: st) I J := by
  obtain ⟨p, l, e, R, s, m, args, below, meth, c, D, cy, ad, A, H0, Q, ce, sl⟩ := X
  obtain ⟨hx, hb, hml, hown, hts, hK, hN, hA, hRm, rfl⟩ := h
  exact fun H locs ls hP hD hS hl => lv_tableIn hx hb d h1 h2 ho ht (k H locs ls hP hD hS hl)
theorem g_tabOut {dflt a b : Int} {offs : Array Int} {len : Nat} {x : Int32} {tgt : Nat} (h : sOK X cc own nL fr lc) (d : decode cc pc = .ok (.tableswitch dflt a b offs, len)) (h1 : x.toInt < a ∨ b < x.toInt) (ht : (pc : Int) + dflt = (tgt : Int)) (k : sG X nL tgt lo st I J) : sG X nL pc lo (.int x :: st) I J := by
  obtain ⟨p, l, e, R, s, m, args, below, meth, c, D, cy, ad, A, H0, Q, ce, sl⟩ := X
  obtain ⟨hx, hb, hml, hown, hts, hK, hN, hA, hRm, rfl⟩ := h
  exact fun H locs ls hP hD hS hl => lv_tableOut hx hb d h1 ht (k H locs ls hP hD hS hl)
theorem g_sub {lo2 : List (Nat × Value)} (ks : List Nat) (he : lv_pick lo ks = lo2) (k : sG X nL pc lo2 st I J) : sG X nL pc lo st I J := by
  obtain ⟨p, l, e, R, s, m, args, below, meth, c, D, cy, ad, A, H0, Q, ce, sl⟩ := X
  subst he
  exact fun H locs ls hP hD hS hl => k H locs ls hP hD hS (lv_sub hl ks (sLo_pick ks))
/-- the link of field k of class n at entry ix of the class own -/
def sFL (own : String) (ix n k : Nat) : Prop := k < (sCl n).2.2 ∧ Cond.fieldLink own ix ((sCl n).2.1 k).1 ((sCl n).2.1 k).2.1 ((sCl n).2.1 k).2.2.1 ∈ lw_good
theorem sF_at {cy : Nat → ClassId} {ad : Nat → Nat} {n q k : Nat} (hk : k < (sCl n).2.2) : ((List.range (sCl n).2.2).map (fun j => sV ad (sF I J q n j)))[k]? = some (sV ad (sF I J q n k)) := by
  rw [List.getElem?_map, List.getElem?_range hk]
  rfl
theorem sF_set {ad : Nat → Nat} {n q k : Nat} {I' : sI} {J' : sJ} {v : Value} (h1 : sF I' J' q n k = v) (h2 : ∀ j, j ≠ k → sF I' J' q n j = sF I J q n j) : (List.range (sCl n).2.2).map (fun j => sV ad (sF I' J' q n j)) = ((List.range (sCl n).2.2).map (fun j => sV ad (sF I J q n j))).set k (sV ad v) := by
  apply List.ext_getElem?
  intro j
  rw [List.getElem?_set]
  by_cases hj : k = j
  · subst hj
    by_cases hl : k < (sCl n).2.2
    · simp [hl, h1]
    · simp [hl]
  · rw [if_neg hj]
    by_cases hl : j < (sCl n).2.2
    · simp [hl, h2 j (fun h => hj h.symm)]
    · simp [hl]
theorem g_get {q n k ix : Nat} {v : Value} (h : sOK X cc own nL fr lc) (hq : sIs q n) (hf : sFL own ix n k) (hv : sF I J q n k = v) (d : decode cc pc = .ok (.getfield ix, 3)) (kk : sG X nL (pc + 3) lo (v :: st) I J) : sG X nL pc lo (.ref q :: st) I J := by
  obtain ⟨p, l, e, R, s, m, args, below, meth, c, D, cy, ad, A, H0, Q, ce, sl⟩ := X
  obtain ⟨hx, hb, hml, hown, hts, hK, hN, hA, hRm, rfl⟩ := h
  subst hv
  exact fun H locs ls hP hD hS hl => va_get (D := D) (ci := n) (C := (sCl n).1) (T := (sCl n).2.1) (N := (sCl n).2.2) hx hb hts (sCl_ws n hq.2.2.2) hown hK hP q (by rw [sW_at hq.1, sE_is hq]) (sCl_get n hq.2.2.2) k hf.1 (hts _ hf.2) (fun _ h9 => h9) (sF_at (cy := cy) hf.1) d (kk H locs ls hP hD hS hl)
theorem g_putI {q n k ix : Nat} {x : Int32} (h : sOK X cc own nL fr lc) (hq : sIs q n) (hf : sFL own ix n k) (hfin : ((sCl n).2.1 k).2.2.2 = false) (ht : sTy n k = .int) (d : decode cc pc = .ok (.putfield ix, 3)) (kk : sG X nL (pc + 3) lo st (sUI I q k x) J) : sG X nL pc lo (.int x :: .ref q :: st) I J := by
  obtain ⟨p, l, e, R, s, m, args, below, meth, c, D, cy, ad, A, H0, Q, ce, sl⟩ := X
  obtain ⟨hx, hb, hml, hown, hts, hK, hN, hA, hRm, rfl⟩ := h
  refine fun H locs ls hP hD hS hl => va_put (D := D) (ci := n) (C := (sCl n).1) (T := (sCl n).2.1) (N := (sCl n).2.2) (v := .int x) (ty := .int) hx hb hts (sCl_ws n hq.2.2.2) (sTy n) (sCl_ty n hq.2.2.2) (sCl_nm n hq.2.2.2) hown hK hP hD hS q (by rw [sW_at hq.1, sE_is hq]) (sCl_get n hq.2.2.2) k hf.1 (hts _ hf.2) (fun _ h9 => h9) hfin (by rw [sCl_ty n hq.2.2.2 k hf.1, ht]) rfl rfl (by rw [List.length_map, List.length_range]; exact hf.1) d (fun H1 locs1 hP1 hD1 hS1 => kk H1 locs1 ls ?_ (sD_any hD) hS1 hl)
  have e : (sW cy ad I J).set q (ad q, .inr (n, ((List.range (sCl n).2.2).map (fun j => sV ad (sF I J q n j))).set k (.int x))) = sW cy ad ((sUI I q k x)) (J) := by
    refine sW_set ?_ ?_
    · rw [sE_is hq]
      have := sF_set (ad := ad) (n := n) (q := q) (k := k) (I := I) (J := J) (I' := (sUI I q k x)) (J' := J) (v := .int x) (by unfold sF; rw [ht]; simp [sUI]) (fun j hj => by unfold sF; simp [sUI, hj])
      rw [this]
      rfl
    · intro q2 h2
      exact ⟨sUI_ne h2, rfl⟩
  rw [e] at hP1
  exact hP1
theorem g_putJ {q n k ix : Nat} {x : Int64} (h : sOK X cc own nL fr lc) (hq : sIs q n) (hf : sFL own ix n k) (hfin : ((sCl n).2.1 k).2.2.2 = false) (ht : sTy n k = .long) (d : decode cc pc = .ok (.putfield ix, 3)) (kk : sG X nL (pc + 3) lo st I (sUJ J q k x)) : sG X nL pc lo (.long x :: .ref q :: st) I J := by
  obtain ⟨p, l, e, R, s, m, args, below, meth, c, D, cy, ad, A, H0, Q, ce, sl⟩ := X
  obtain ⟨hx, hb, hml, hown, hts, hK, hN, hA, hRm, rfl⟩ := h
  refine fun H locs ls hP hD hS hl => va_put (D := D) (ci := n) (C := (sCl n).1) (T := (sCl n).2.1) (N := (sCl n).2.2) (v := .long x) (ty := .long) hx hb hts (sCl_ws n hq.2.2.2) (sTy n) (sCl_ty n hq.2.2.2) (sCl_nm n hq.2.2.2) hown hK hP hD hS q (by rw [sW_at hq.1, sE_is hq]) (sCl_get n hq.2.2.2) k hf.1 (hts _ hf.2) (fun _ h9 => h9) hfin (by rw [sCl_ty n hq.2.2.2 k hf.1, ht]) rfl rfl (by rw [List.length_map, List.length_range]; exact hf.1) d (fun H1 locs1 hP1 hD1 hS1 => kk H1 locs1 ls ?_ (sD_any hD) hS1 hl)
  have e : (sW cy ad I J).set q (ad q, .inr (n, ((List.range (sCl n).2.2).map (fun j => sV ad (sF I J q n j))).set k (.long x))) = sW cy ad (I) ((sUJ J q k x)) := by
    refine sW_set ?_ ?_
    · rw [sE_is hq]
      have := sF_set (ad := ad) (n := n) (q := q) (k := k) (I := I) (J := J) (I' := I) (J' := (sUJ J q k x)) (v := .long x) (by unfold sF; rw [ht]; simp [sUJ]) (fun j hj => by unfold sF; simp [sUJ, hj])
      rw [this]
      rfl
    · intro q2 h2
      exact ⟨rfl, sUJ_ne h2⟩
  rw [e] at hP1
  exact hP1
/-- a truth value -/
def sZ (x : Int32) : Prop := x = 0 ∨ x = 1
theorem sZ_n {x : Int32} (h : sZ x) : narrow .boolean (.int x) = .int x := by rcases h with rfl | rfl <;> rfl
theorem sZ_f {x : Int32} (h : sZ x) : fits .boolean (.int x) = true := by rcases h with rfl | rfl <;> rfl
theorem sZ_v {x : Int32} (h : sZ x) : vp_nar .boolean x = x := by rcases h with rfl | rfl <;> rfl
theorem g_putZ {q n k ix : Nat} {x : Int32} (h : sOK X cc own nL fr lc) (hq : sIs q n) (hf : sFL own ix n k) (hfin : ((sCl n).2.1 k).2.2.2 = false) (ht : sTy n k = .boolean) (hz : sZ x) (d : decode cc pc = .ok (.putfield ix, 3)) (kk : sG X nL (pc + 3) lo st (sUI I q k x) J) : sG X nL pc lo (.int x :: .ref q :: st) I J := by
  obtain ⟨p, l, e, R, s, m, args, below, meth, c, D, cy, ad, A, H0, Q, ce, sl⟩ := X
  obtain ⟨hx, hb, hml, hown, hts, hK, hN, hA, hRm, rfl⟩ := h
  refine fun H locs ls hP hD hS hl => va_put (D := D) (ci := n) (C := (sCl n).1) (T := (sCl n).2.1) (N := (sCl n).2.2) (v := .int x) (ty := .boolean) hx hb hts (sCl_ws n hq.2.2.2) (sTy n) (sCl_ty n hq.2.2.2) (sCl_nm n hq.2.2.2) hown hK hP hD hS q (by rw [sW_at hq.1, sE_is hq]) (sCl_get n hq.2.2.2) k hf.1 (hts _ hf.2) (fun _ h9 => h9) hfin (by rw [sCl_ty n hq.2.2.2 k hf.1, ht]) (sZ_n hz) (sZ_f hz) (by rw [List.length_map, List.length_range]; exact hf.1) d (fun H1 locs1 hP1 hD1 hS1 => kk H1 locs1 ls ?_ (sD_any hD) hS1 hl)
  have e : (sW cy ad I J).set q (ad q, .inr (n, ((List.range (sCl n).2.2).map (fun j => sV ad (sF I J q n j))).set k (.int x))) = sW cy ad ((sUI I q k x)) (J) := by
    refine sW_set ?_ ?_
    · rw [sE_is hq]
      have := sF_set (ad := ad) (n := n) (q := q) (k := k) (I := I) (J := J) (I' := (sUI I q k x)) (J' := J) (v := .int x) (by unfold sF; rw [ht]; simp [sUI]) (fun j hj => by unfold sF; simp [sUI, hj])
      rw [this]
      rfl
    · intro q2 h2
      exact ⟨sUI_ne h2, rfl⟩
  rw [e] at hP1
  exact hP1
theorem g_iald {q n : Nat} {i : Int32} (h : sOK X cc own nL fr lc) (hq : sAr q 1 n) (hin : vp_in i n) (d : decode cc pc = .ok (.iaload, 1)) (k : sG X nL (pc + 1) lo (.int (I q i.toNatClampNeg) :: st) I J) : sG X nL pc lo (.int i :: .ref q :: st) I J := by
  obtain ⟨p, l, e, R, s, m, args, below, meth, c, D, cy, ad, A, H0, Q, ce, sl⟩ := X
  obtain ⟨hx, hb, hml, hown, hts, hK, hN, hA, hRm, rfl⟩ := h
  exact fun H locs ls hP hD hS hl => va_iald hx hb hK hP q 1 (by rw [sW_at hq.1, sE_i hq]) rfl hin d (k H locs ls hP hD hS hl)
theorem g_zald {q n : Nat} {i : Int32} (h : sOK X cc own nL fr lc) (hq : sAr q 2 n) (hin : vp_in i n) (d : decode cc pc = .ok (.baload, 1)) (k : sG X nL (pc + 1) lo (.int (I q i.toNatClampNeg) :: st) I J) : sG X nL pc lo (.int i :: .ref q :: st) I J := by
  obtain ⟨p, l, e, R, s, m, args, below, meth, c, D, cy, ad, A, H0, Q, ce, sl⟩ := X
  obtain ⟨hx, hb, hml, hown, hts, hK, hN, hA, hRm, rfl⟩ := h
  exact fun H locs ls hP hD hS hl => va_zald hx hb hK hP q 2 (by rw [sW_at hq.1, sE_z hq]) rfl hin d (k H locs ls hP hD hS hl)
theorem g_lald {q n : Nat} {i : Int32} (h : sOK X cc own nL fr lc) (hq : sAr q 3 n) (hin : vp_in i n) (d : decode cc pc = .ok (.laload, 1)) (k : sG X nL (pc + 1) lo (.long (J q i.toNatClampNeg) :: st) I J) : sG X nL pc lo (.int i :: .ref q :: st) I J := by
  obtain ⟨p, l, e, R, s, m, args, below, meth, c, D, cy, ad, A, H0, Q, ce, sl⟩ := X
  obtain ⟨hx, hb, hml, hown, hts, hK, hN, hA, hRm, rfl⟩ := h
  exact fun H locs ls hP hD hS hl => va_lald hx hb hK hP q 3 (by rw [sW_at hq.1, sE_l hq]) rfl hin d (k H locs ls hP hD hS hl)
theorem g_aald {q n t : Nat} {i : Int32} (h : sOK X cc own nL fr lc) (hq : sAr q (t + 4) n) (ht : t < 4) (hin : vp_in i n) (d : decode cc pc = .ok (.aaload, 1)) (k : sG X nL (pc + 1) lo (.ref (sR q i.toNatClampNeg) :: st) I J) : sG X nL pc lo (.int i :: .ref q :: st) I J := by
  obtain ⟨p, l, e, R, s, m, args, below, meth, c, D, cy, ad, A, H0, Q, ce, sl⟩ := X
  obtain ⟨hx, hb, hml, hown, hts, hK, hN, hA, hRm, rfl⟩ := h
  obtain ⟨ty, h1, h2⟩ : ∃ ty : FieldType, (sTys cy)[t + 4]? = some (cy (t + 4), ty) ∧ ty.isReference = true := by
    rcases (show t = 0 ∨ t = 1 ∨ t = 2 ∨ t = 3 by omega) with rfl | rfl | rfl | rfl
    · exact ⟨_, rfl, rfl⟩
    · exact ⟨_, rfl, rfl⟩
    · exact ⟨_, rfl, rfl⟩
    · exact ⟨_, rfl, rfl⟩
  have hlt : i.toNatClampNeg < n := Nat.not_le.mp fun q => hin (Or.inr q)
  intro H locs ls hP hD hS hl
  have ha : (sW cy ad I J)[q]? = some (ad q, .inl (cy (t + 4), n, .inr (.inr (.inr (.inr (fun i => some (ad (sR q i)))))))) := by rw [sW_at hq.1, sE_r hq]
  exact W.aald (v := .ref (ad (sR q i.toNatClampNeg))) (ty := ty) hx hb (hP q _ ha) ((hK.2 (t + 4) _ h1).1 n (fun j => va_rf (some (ad (sR q j))))) h2 (fun q => by cases q) (by show ¬ (i < 0 ∨ (arrV _ _ _).slots.size ≤ _); rw [arrV_size]; exact hin) (by show (arrV _ _ _).slots[_]? = _; rw [arrV_read _ _ hlt]; rfl) rfl rfl d (k H locs ls hP hD hS hl)
theorem g_ilen {q n : Nat} (h : sOK X cc own nL fr lc) (hq : sAr q 1 n) (d : decode cc pc = .ok (.arraylength, 1)) (k : sG X nL (pc + 1) lo (.int (nI n) :: st) I J) : sG X nL pc lo (.ref q :: st) I J := by
  obtain ⟨p, l, e, R, s, m, args, below, meth, c, D, cy, ad, A, H0, Q, ce, sl⟩ := X
  obtain ⟨hx, hb, hml, hown, hts, hK, hN, hA, hRm, rfl⟩ := h
  exact fun H locs ls hP hD hS hl => va_alen (x := (n, .inl (I q))) hx hb hK hP q 1 (by rw [sW_at hq.1, sE_i hq]) rfl rfl d (k H locs ls hP hD hS hl)
theorem g_llen {q n : Nat} (h : sOK X cc own nL fr lc) (hq : sAr q 3 n) (d : decode cc pc = .ok (.arraylength, 1)) (k : sG X nL (pc + 1) lo (.int (nI n) :: st) I J) : sG X nL pc lo (.ref q :: st) I J := by
  obtain ⟨p, l, e, R, s, m, args, below, meth, c, D, cy, ad, A, H0, Q, ce, sl⟩ := X
  obtain ⟨hx, hb, hml, hown, hts, hK, hN, hA, hRm, rfl⟩ := h
  exact fun H locs ls hP hD hS hl => va_alen (x := (n, .inr (.inl (J q)))) hx hb hK hP q 3 (by rw [sW_at hq.1, sE_l hq]) rfl rfl d (k H locs ls hP hD hS hl)
theorem g_iast {q n : Nat} {i : Int32} {x : Int32} (h : sOK X cc own nL fr lc) (hq : sAr q 1 n) (hin : vp_in i n) (d : decode cc pc = .ok (.iastore, 1)) (kk : sG X nL (pc + 1) lo st (sUI I q i.toNatClampNeg x) J) : sG X nL pc lo (.int x :: .int i :: .ref q :: st) I J := by
  obtain ⟨p, l, e, R, s, m, args, below, meth, c, D, cy, ad, A, H0, Q, ce, sl⟩ := X
  obtain ⟨hx, hb, hml, hown, hts, hK, hN, hA, hRm, rfl⟩ := h
  refine fun H locs ls hP hD hS hl => va_iast hx hb hK hP hD hS q 1 (by rw [sW_at hq.1, sE_i hq]) rfl hin d (fun H1 locs1 hP1 hD1 hS1 => kk H1 locs1 ls ?_ (sD_any hD) hS1 hl)
  have e : (sW cy ad I J).set q (ad q, .inl (cy 1, n, .inl (upd (I q) i.toNatClampNeg x))) = sW cy ad (sUI I q i.toNatClampNeg x) J := by
    refine sW_set ?_ ?_
    · rw [sE_i hq, sUI_eq]
    · intro q2 h2
      exact ⟨sUI_ne h2, rfl⟩
  rw [e] at hP1
  exact hP1
theorem g_zast {q n : Nat} {i : Int32} {x : Int32} (h : sOK X cc own nL fr lc) (hq : sAr q 2 n) (hin : vp_in i n) (hz : sZ x) (d : decode cc pc = .ok (.bastore, 1)) (kk : sG X nL (pc + 1) lo st (sUI I q i.toNatClampNeg x) J) : sG X nL pc lo (.int x :: .int i :: .ref q :: st) I J := by
  obtain ⟨p, l, e, R, s, m, args, below, meth, c, D, cy, ad, A, H0, Q, ce, sl⟩ := X
  obtain ⟨hx, hb, hml, hown, hts, hK, hN, hA, hRm, rfl⟩ := h
  refine fun H locs ls hP hD hS hl => va_zast hx hb hK hP hD hS q 2 (by rw [sW_at hq.1, sE_z hq]) rfl hin d (fun H1 locs1 hP1 hD1 hS1 => kk H1 locs1 ls ?_ (sD_any hD) hS1 hl)
  rw [sZ_v hz] at hP1
  have e : (sW cy ad I J).set q (ad q, .inl (cy 2, n, .inl (upd (I q) i.toNatClampNeg x))) = sW cy ad (sUI I q i.toNatClampNeg x) J := by
    refine sW_set ?_ ?_
    · rw [sE_z hq, sUI_eq]
    · intro q2 h2
      exact ⟨sUI_ne h2, rfl⟩
  rw [e] at hP1
  exact hP1
theorem g_last {q n : Nat} {i : Int32} {x : Int64} (h : sOK X cc own nL fr lc) (hq : sAr q 3 n) (hin : vp_in i n) (d : decode cc pc = .ok (.lastore, 1)) (kk : sG X nL (pc + 1) lo st I (sUJ J q i.toNatClampNeg x)) : sG X nL pc lo (.long x :: .int i :: .ref q :: st) I J := by
  obtain ⟨p, l, e, R, s, m, args, below, meth, c, D, cy, ad, A, H0, Q, ce, sl⟩ := X
  obtain ⟨hx, hb, hml, hown, hts, hK, hN, hA, hRm, rfl⟩ := h
  refine fun H locs ls hP hD hS hl => va_last hx hb hK hP hD hS q 3 (by rw [sW_at hq.1, sE_l hq]) rfl hin d (fun H1 locs1 hP1 hD1 hS1 => kk H1 locs1 ls ?_ (sD_any hD) hS1 hl)
  have e : (sW cy ad I J).set q (ad q, .inl (cy 3, n, .inr (.inl (vp_updL (J q) i.toNatClampNeg x)))) = sW cy ad I (sUJ J q i.toNatClampNeg x) := by
    refine sW_set ?_ ?_
    · rw [sE_l hq, sUJ_eq]
    · intro q2 h2
      exact ⟨rfl, sUJ_ne h2⟩
  rw [e] at hP1
  exact hP1
def sPi (P : Int32 → sI → sJ → Prop) : Option Value → sI → sJ → Prop := fun v I J => ∃ r : Int32, v = some (.int r) ∧ P r I J
def sPl (P : Int64 → sI → sJ → Prop) : Option Value → sI → sJ → Prop := fun v I J => ∃ r : Int64, v = some (.long r) ∧ P r I J
def sPv (P : sI → sJ → Prop) : Option Value → sI → sJ → Prop := fun v I J => v = none ∧ P I J
theorem g_iret {P : Int32 → sI → sJ → Prop} {r : Int32} (h : sOK X cc own nL fr lc) (hr : sRt X (some .int) (sPi P)) (d : decode cc pc = .ok (.ireturn, 1)) (hp : P r I J) : sG X nL pc lo ([.int r]) I J := by
  obtain ⟨p, l, e, R, s, m, args, below, meth, c, D, cy, ad, A, H0, Q, ce, sl⟩ := X
  obtain ⟨hx, hb, hml, hown, hts, hK, hN, hA, hRm, rfl⟩ := h
  obtain ⟨hr, hlk, -, -, rfl⟩ := hr
  exact fun H locs ls hP hD hS hl => W.iret hx hb hr (fun t ht hW => ⟨⟨some (.int r), I, J, rfl, ⟨r, rfl, hp⟩, by rw [ht]; exact hP, va_K.moved hW.alike hK, hD⟩, hS.F ht⟩) hS.2.2 d hlk
theorem g_zret {P : Int32 → sI → sJ → Prop} {r : Int32} (h : sOK X cc own nL fr lc) (hr : sRt X (some .boolean) (sPi P)) (hz : sZ r) (d : decode cc pc = .ok (.ireturn, 1)) (hp : P r I J) : sG X nL pc lo ([.int r]) I J := by
  obtain ⟨p, l, e, R, s, m, args, below, meth, c, D, cy, ad, A, H0, Q, ce, sl⟩ := X
  obtain ⟨hx, hb, hml, hown, hts, hK, hN, hA, hRm, rfl⟩ := h
  obtain ⟨hr, hlk, -, -, rfl⟩ := hr
  exact fun H locs ls hP hD hS hl => W.zret hx hb hr (sZ_n hz) (fun t ht hW => ⟨⟨some (.int r), I, J, rfl, ⟨r, rfl, hp⟩, by rw [ht]; exact hP, va_K.moved hW.alike hK, hD⟩, hS.F ht⟩) hS.2.2 d hlk
theorem g_lret {P : Int64 → sI → sJ → Prop} {r : Int64} (h : sOK X cc own nL fr lc) (hr : sRt X (some .long) (sPl P)) (d : decode cc pc = .ok (.lreturn, 1)) (hp : P r I J) : sG X nL pc lo ([.long r]) I J := by
  obtain ⟨p, l, e, R, s, m, args, below, meth, c, D, cy, ad, A, H0, Q, ce, sl⟩ := X
  obtain ⟨hx, hb, hml, hown, hts, hK, hN, hA, hRm, rfl⟩ := h
  obtain ⟨hr, hlk, -, -, rfl⟩ := hr
  exact fun H locs ls hP hD hS hl => W.lret hx hb hr (fun t ht hW => ⟨⟨some (.long r), I, J, rfl, ⟨r, rfl, hp⟩, by rw [ht]; exact hP, va_K.moved hW.alike hK, hD⟩, hS.F ht⟩) hS.2.2 d hlk
theorem g_vret {P : sI → sJ → Prop} (h : sOK X cc own nL fr lc) (hr : sRt X (none) (sPv P)) (d : decode cc pc = .ok (.return_, 1)) (hp : P I J) : sG X nL pc lo ([]) I J := by
  obtain ⟨p, l, e, R, s, m, args, below, meth, c, D, cy, ad, A, H0, Q, ce, sl⟩ := X
  obtain ⟨hx, hb, hml, hown, hts, hK, hN, hA, hRm, rfl⟩ := h
  obtain ⟨hr, hlk, -, -, rfl⟩ := hr
  exact fun H locs ls hP hD hS hl => W.vret hx hb hr (fun t ht hW => ⟨⟨none, I, J, rfl, ⟨rfl, hp⟩, by rw [ht]; exact hP, va_K.moved hW.alike hK, hD⟩, hS.F ht⟩) hS.2.2 d hlk
end SROWS
