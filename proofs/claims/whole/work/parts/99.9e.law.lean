/-! the law's start: what the words give -/
theorem lw_tb {w : Cond} (i : Nat) (h : tables_1[i]? = some w) : w ∈ lw_tbl := List.mem_append_right _ (List.mem_of_getElem? h)
def lf_11 : List Value := [.null, .null, .null, .null, .null, .null, .null, .null, .null, .null, .null, .null, .null, .null, .null, .int 0, .int 0]
theorem df_X11 : ∀ j, j < (sCl 11).2.2 → defaultValue (sTy 11 j) = vp_V lf_11 j := by
  intro j hj
  have hj : j < 17 := hj
  rcases (show j = 0 ∨ j = 1 ∨ j = 2 ∨ j = 3 ∨ j = 4 ∨ j = 5 ∨ j = 6 ∨ j = 7 ∨ j = 8 ∨ j = 9 ∨ j = 10 ∨ j = 11 ∨ j = 12 ∨ j = 13 ∨ j = 14 ∨ j = 15 ∨ j = 16 by omega) with rfl | rfl | rfl | rfl | rfl | rfl | rfl | rfl | rfl | rfl | rfl | rfl | rfl | rfl | rfl | rfl | rfl <;> rfl
theorem nw_L_8 : Cond.classLink RL 8 (sCl 11).1 ∈ lw_good ∧ Cond.instantiable (sCl 11).1 (sCl 11).2.2 ∈ lw_good ∧ Cond.initialized (sCl 11).1 ∈ lw_good := ⟨(lw_i1 21 (by decide +kernel) (by decide +kernel)), (lw_i1 22 (by decide +kernel) (by decide +kernel)), (lw_i1 1 (by decide +kernel) (by decide +kernel))⟩
theorem mw_X11_init : sMw yX11_init cX11_init 2 none 0 := ⟨(lw_i1 25 (by decide +kernel) (by decide +kernel)), (lw_i1 1 (by decide +kernel) (by decide +kernel)), by decide +kernel, by decide +kernel, by decide +kernel⟩
theorem im_X11_init : yX11_init.name = "<init>" ∧ Cond.instanceMethod yX11_init ∈ lw_good := ⟨rfl, (lw_i1 24 (by decide +kernel) (by decide +kernel))⟩
theorem lk_L_19 : Cond.methodLink RL 19 yX11_init ∈ lw_good := (lw_i1 23 (by decide +kernel) (by decide +kernel))
def lf_12 : List Value := [.int 0, .int 0, .null, .null, .int 0, .int 0, .int 0, .int 0, .int 0, .null, .null, .int 0, .int 0, .null, .null, .int 0, .null, .null, .null, .null, .null, .int 0, .int 0, .int 0, .int 0, .null, .null, .null, .null, .null, .int 0, .null, .int 0, .int 0, .null, .null, .null, .int 0, .null, .null, .null, .null, .int 0, .int 0, .null, .null, .int 0, .null, .null, .int 0, .null, .null, .int 0, .null, .null, .int 0]
theorem df_X12 : ∀ j, j < (sCl 12).2.2 → defaultValue (sTy 12 j) = vp_V lf_12 j := by
  intro j hj
  have hj : j < 56 := hj
  rcases (show j = 0 ∨ j = 1 ∨ j = 2 ∨ j = 3 ∨ j = 4 ∨ j = 5 ∨ j = 6 ∨ j = 7 ∨ j = 8 ∨ j = 9 ∨ j = 10 ∨ j = 11 ∨ j = 12 ∨ j = 13 ∨ j = 14 ∨ j = 15 ∨ j = 16 ∨ j = 17 ∨ j = 18 ∨ j = 19 ∨ j = 20 ∨ j = 21 ∨ j = 22 ∨ j = 23 ∨ j = 24 ∨ j = 25 ∨ j = 26 ∨ j = 27 ∨ j = 28 ∨ j = 29 ∨ j = 30 ∨ j = 31 ∨ j = 32 ∨ j = 33 ∨ j = 34 ∨ j = 35 ∨ j = 36 ∨ j = 37 ∨ j = 38 ∨ j = 39 ∨ j = 40 ∨ j = 41 ∨ j = 42 ∨ j = 43 ∨ j = 44 ∨ j = 45 ∨ j = 46 ∨ j = 47 ∨ j = 48 ∨ j = 49 ∨ j = 50 ∨ j = 51 ∨ j = 52 ∨ j = 53 ∨ j = 54 ∨ j = 55 by omega) with rfl | rfl | rfl | rfl | rfl | rfl | rfl | rfl | rfl | rfl | rfl | rfl | rfl | rfl | rfl | rfl | rfl | rfl | rfl | rfl | rfl | rfl | rfl | rfl | rfl | rfl | rfl | rfl | rfl | rfl | rfl | rfl | rfl | rfl | rfl | rfl | rfl | rfl | rfl | rfl | rfl | rfl | rfl | rfl | rfl | rfl | rfl | rfl | rfl | rfl | rfl | rfl | rfl | rfl | rfl | rfl <;> rfl
theorem nw_L_20 : Cond.classLink RL 20 (sCl 12).1 ∈ lw_good ∧ Cond.instantiable (sCl 12).1 (sCl 12).2.2 ∈ lw_good ∧ Cond.initialized (sCl 12).1 ∈ lw_good := ⟨(lw_i6 236 (by decide +kernel) (by decide +kernel)), (lw_i5 81 (by decide +kernel) (by decide +kernel)), (lw_i1 13 (by decide +kernel) (by decide +kernel))⟩
theorem mw_X12_init : sMw yX12_init cX12_init 1 none 0 := ⟨(lw_i6 239 (by decide +kernel) (by decide +kernel)), (lw_i1 13 (by decide +kernel) (by decide +kernel)), by decide +kernel, by decide +kernel, by decide +kernel⟩
theorem im_X12_init : yX12_init.name = "<init>" ∧ Cond.instanceMethod yX12_init ∈ lw_good := ⟨rfl, (lw_i6 238 (by decide +kernel) (by decide +kernel))⟩
theorem lk_L_22 : Cond.methodLink RL 22 yX12_init ∈ lw_good := (lw_i6 237 (by decide +kernel) (by decide +kernel))
theorem lw_acL : Cond.arrayClass .long ∈ lw_good := (lw_i1 172 (by decide +kernel) (by decide +kernel))
theorem ls_inst : ∀ n, n < 13 → Cond.instantiable (sCl n).1 (sCl n).2.2 ∈ lw_tbl := by
  have h : ((List.range 13).all fun n => decide (Cond.instantiable (sCl n).1 (sCl n).2.2 ∈ tables_1)) = true := by decide +kernel
  intro n hn
  exact List.mem_append_right _ (of_decide_eq_true (List.all_eq_true.mp h n (List.mem_range.mpr hn)))
theorem ls_K {s : State} {args : Array Value} (hts : ∀ w ∈ lw_tbl, w.before args s = true) : ∃ (D : va_G) (cy : Nat → ClassId), va_K D vwCl (sTys cy) s := by
  have hk : ∀ n, ∃ q : ClassId × (Nat → Nat), n < 13 → u_Kn s (sCl n).1 (sCl n).2.1 (sCl n).2.2 q.1 q.2 := fun n => by
    by_cases hn : n < 13
    · obtain ⟨cC, iS, h⟩ := u_known (C := (sCl n).1) (T := (sCl n).2.1) (N := (sCl n).2.2) hts (fun w hw => (List.mem_filter.mp (sCl_ws n hn w hw)).1) (hts _ (ls_inst n hn))
      exact ⟨(cC, iS), fun _ => h⟩
    · exact ⟨(0, fun _ => 0), fun z => absurd z hn⟩
  obtain ⟨c1, k1, p1, a1, b1, d1⟩ := Cond.arrayClass_spec (hts (.arrayClass .int) (lw_tb 48 (by decide +kernel)))
  obtain ⟨c2, k2, p2, a2, b2, d2⟩ := Cond.arrayClass_spec (hts (.arrayClass .boolean) (lw_tb 156 (by decide +kernel)))
  obtain ⟨c3, k3, p3, a3, b3, d3⟩ := Cond.arrayClass_spec (hts (.arrayClass .long) (lw_tb 172 (by decide +kernel)))
  obtain ⟨p4, c4, k4, a4, -, b4, d4, e4⟩ := Cond.arrayOver_spec (hts (.arrayOver (.object "ClayDisc$Told")) (lw_tb 132 (by decide +kernel)))
  obtain ⟨p5, c5, k5, a5, -, b5, d5, e5⟩ := Cond.arrayOver_spec (hts (.arrayOver (.object "ClayDisc$Tongue")) (lw_tb 134 (by decide +kernel)))
  obtain ⟨p6, c6, k6, a6, -, b6, d6, e6⟩ := arrayOverA_spec (hts (.arrayOver (.array .int)) (lw_tb 141 (by decide +kernel)))
  obtain ⟨p7, c7, k7, a7, -, b7, d7, e7⟩ := arrayOverA_spec (hts (.arrayOver (.array .long)) (lw_tb 182 (by decide +kernel)))
  refine ⟨(fun n => (hk n).choose.1, fun n => (hk n).choose.2), fun t => match t with | 0 => c1 | 1 => c1 | 2 => c2 | 3 => c3 | 4 => c4 | 5 => c5 | 6 => c6 | _ => c7, fun n q hq => ?_, fun k q hq => ?_⟩
  · have hn : n < 13 := (List.getElem?_eq_some_iff.mp hq).1
    cases Option.some.inj ((sCl_get n hn).symm.trans hq)
    exact (hk n).choose_spec hn
  · match k, hq with
    | 0, hq => cases hq; exact ⟨fun n z => ⟨fun k h => (by cases h), k1, b1, p1, d1⟩, a1⟩
    | 1, hq => cases hq; exact ⟨fun n z => ⟨fun k h => (by cases h), k1, b1, p1, d1⟩, a1⟩
    | 2, hq => cases hq; exact ⟨fun n z => ⟨fun k h => (by cases h), k2, b2, p2, d2⟩, a2⟩
    | 3, hq => cases hq; exact ⟨fun n z => ⟨fun k h => (by cases h), k3, b3, p3, d3⟩, a3⟩
    | 4, hq => cases hq; exact ⟨fun n z => ⟨fun k h => (by cases h), k4, b4, p4, d4⟩, k4, p4, b4, d4, a4, e4⟩
    | 5, hq => cases hq; exact ⟨fun n z => ⟨fun k h => (by cases h), k5, b5, p5, d5⟩, k5, p5, b5, d5, a5, e5⟩
    | 6, hq => cases hq; exact ⟨fun n z => ⟨fun k h => (by cases h), k6, b6, p6, d6⟩, e6⟩
    | 7, hq => cases hq; exact ⟨fun n z => ⟨fun k h => (by cases h), k7, b7, p7, d7⟩, e7⟩
    | n + 8, hq => cases hq
theorem ls_gNW {s : State} {args : Array Value} (hts : ∀ w ∈ lw_tbl, w.before args s = true) : gNW s := by
  refine ⟨⟨va_Nw.of rfl (hts _ (lw_tb 31 (by decide +kernel))), va_Nw.of rfl (hts _ (lw_tb 51 (by decide +kernel))), va_Nw.of rfl (hts _ (lw_tb 136 (by decide +kernel))), va_Nw.of rfl (hts _ (lw_tb 159 (by decide +kernel))), va_Nw.of rfl (hts _ (lw_tb 174 (by decide +kernel))), va_Nw.of rfl (hts _ (lw_tb 177 (by decide +kernel))), va_Nw.of rfl (hts _ (lw_tb 273 (by decide +kernel))), va_Nw.of rfl (hts _ (lw_tb 289 (by decide +kernel))), va_Nw.of rfl (hts _ (lw_tb 320 (by decide +kernel))), va_Nw.of rfl (hts _ (lw_tb 57 (by decide +kernel))), va_Nw.of rfl (hts _ (lw_tb 87 (by decide +kernel)))⟩, va_AO.of (hts _ (lw_tb 132 (by decide +kernel))), va_AO.of (hts _ (lw_tb 134 (by decide +kernel))), fun ty hty => ?_⟩
  have hty : ty = .int ∨ ty = .long := by simpa using hty
  rcases hty with rfl | rfl
  · exact (hts (Cond.arrayOver (.array .int)) (lw_tb 141 (by decide +kernel)))
  · exact (hts (Cond.arrayOver (.array .long)) (lw_tb 182 (by decide +kernel)))
theorem ls_sNW {s : State} {args : Array Value} (hts : ∀ w ∈ lw_tbl, w.before args s = true) : sNW s := ⟨va_Nw.of rfl (hts _ (lw_tb 482 (by decide +kernel))), va_Nw.of rfl (hts _ (lw_tb 494 (by decide +kernel))), va_Nw.of rfl (hts _ (lw_tb 528 (by decide +kernel)))⟩
theorem ls_tNW {s : State} {args : Array Value} (hts : ∀ w ∈ lw_tbl, w.before args s = true) : tNW s := ⟨va_Nw.of rfl (hts _ (lw_tb 954 (by decide +kernel))), va_Nw.of rfl (hts _ (lw_tb 956 (by decide +kernel))), va_Nw.of rfl (hts _ (lw_tb 958 (by decide +kernel))), va_Nw.of rfl (hts _ (lw_tb 953 (by decide +kernel)))⟩
theorem ls_tZ {s : State} {args : Array Value} (hts : ∀ w ∈ lw_tbl, w.before args s = true) (hgv : (Jvm.Cond.and given_1 narrow_1).before args s = true) : tZ (fun q => s.heap.size ≤ q) s := by
  have hs := flat_of_before _ hgv
  exact ⟨vx_Zqof (hts _ (lw_tb 978 (by decide +kernel))) (hts _ (lw_tb 15 (by decide +kernel))) (hs _ (by decide +kernel)) (fun a h => Nat.not_le.mpr h), vx_Zqof (hts _ (lw_tb 980 (by decide +kernel))) (hts _ (lw_tb 15 (by decide +kernel))) (hs _ (by decide +kernel)) (fun a h => Nat.not_le.mpr h)⟩
