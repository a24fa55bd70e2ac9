def fl (b : Nat → Nat) (p : Nat) : Prop := (p = 0 ∧ b 0 = 104) ∨ (p = 1 ∧ 49 ≤ b 1 ∧ b 1 < 52) ∨ (p = 2 ∧ b 2 = 100) ∨ (p = 3 ∧ 48 ≤ b 3 ∧ b 3 ≤ 50) ∨ (p = 4 ∧ b 4 = 98)
theorem q_fitsLaxness {I : sI} {J : sJ} {post : Int32 → sI → sJ → Prop} {b : Nat → Nat} {p : Nat} (hp : p ≤ 80) (hb : b p < 256) (h1 : fl b p → post 1 I J) (h0 : ¬ fl b p → post 0 I J) : w_X7_fitsLaxness (nI p) (nI (b p)) I J post := by
  have n0 : (0 : Int32) = nI 0 := rfl
  have n1 : (1 : Int32) = nI 1 := rfl
  have n2 : (2 : Int32) = nI 2 := rfl
  have n3 : (3 : Int32) = nI 3 := rfl
  have n4 : (4 : Int32) = nI 4 := rfl
  unfold w_X7_fitsLaxness
  rw [show (104 : Int32) = nI 104 from rfl, show (49 : Int32) = nI 49 from rfl, show (52 : Int32) = nI 52 from rfl, show (100 : Int32) = nI 100 from rfl, show (48 : Int32) = nI 48 from rfl, show (50 : Int32) = nI 50 from rfl, show (98 : Int32) = nI 98 from rfl]
  rw [pf_eq0 (by omega), n1, n2, n3, n4, pf_eq (a := p) (by omega) (by omega), pf_eq (a := p) (by omega) (by omega), pf_eq (a := p) (by omega) (by omega), pf_eq (a := p) (by omega) (by omega), pf_eq (by omega) (by omega), pf_eq (by omega) (by omega), pf_eq (by omega) (by omega), pf_lt (by omega) (by omega), pf_lt (by omega) (by omega), pf_lt (by omega) (by omega), pf_le (by omega) (by omega)]
  refine ⟨fun e => ?_, fun e => ?_, fun e => ?_, fun e => ?_, fun e => ?_, fun e => h0 (fun z => ?_)⟩
  · subst e
    exact ⟨fun x => h0 (fun z => by unfold fl at z; omega), fun x => h1 (by unfold fl; omega)⟩
  · subst e
    exact ⟨fun x => h0 (fun z => by unfold fl at z; omega), fun x => ⟨fun y => h0 (fun z => by unfold fl at z; omega), fun y => h1 (by unfold fl; omega)⟩⟩
  · subst e
    exact ⟨fun x => h0 (fun z => by unfold fl at z; omega), fun x => h1 (by unfold fl; omega)⟩
  · subst e
    exact ⟨fun x => h0 (fun z => by unfold fl at z; omega), fun x => ⟨fun y => h0 (fun z => by unfold fl at z; omega), fun y => h1 (by unfold fl; omega)⟩⟩
  · subst e
    exact ⟨fun x => h0 (fun z => by unfold fl at z; omega), fun x => h1 (by unfold fl; omega)⟩
  · unfold fl at z; omega
theorem q_faultAsLaxness {I : sI} {J : sJ} {post : Int32 → sI → sJ → Prop} {n : Nat} {b : Nat → Nat} (hT : cT n b I) (hn : n ≤ 80) (hb : ∀ i, i < n → b i < 256) (h1 : ∀ p, (p < n ∧ (∀ q, q < p → fl b q) ∧ ¬ fl b p) ∨ (p = n ∧ n < 4 ∧ ∀ q, q < p → fl b q) → post (nI p) I J) (h3 : (∀ q, q < n → fl b q) → 4 ≤ n → post (-1) I J) : w_X7_faultAsLaxness I J post := by
  obtain ⟨t1, t2⟩ := hT
  have loop : ∀ m p, (∀ q, q < p → fl b q) → p ≤ n → n - p < m → w_X7_faultAsLaxness_2_n post m (nI p) I J := by
    intro m
    induction m with
    | zero => intro p _ _ h; omega
    | succ m ih =>
      intro p ho hp hm
      show w_X7_faultAsLaxness_2_s post _ _ I J
      unfold w_X7_faultAsLaxness_2_s
      rw [t1, pf_le (by omega) (by omega), show (4 : Int32) = nI 4 from rfl, pf_le (by omega) (by omega)]
      refine ⟨fun e => ⟨fun e2 => h3 (fun q hq => ho q (by omega)) e2, fun e2 => ?_⟩, fun e => ⟨vp_in_nI (by omega) (by omega), ?_⟩⟩
      · have e : p = n := by omega
        subst e
        exact h1 p (Or.inr ⟨rfl, by omega, ho⟩)
      · rw [pf_cl (by omega), t2 p (by omega)]
        refine q_fitsLaxness (by omega) (hb p (by omega)) (fun z => b3 (by decide) ?_) (fun z => b4 rfl (h1 p (Or.inl ⟨by omega, ho, z⟩)))
        rintro _ rfl
        rw [nI_1]
        refine ih (p + 1) (fun q hq => ?_) (by omega) (by omega)
        rcases Nat.lt_or_ge q p with x | x
        · exact ho q x
        · rw [show q = p by omega]; exact z
  exact ⟨n + 1, loop (n + 1) 0 (fun q hq => by omega) (by omega) (by omega)⟩
theorem fl5 {b : Nat → Nat} {p : Nat} (h : ∀ q, q < p → fl b q) : p ≤ 5 := by
  rcases Nat.lt_or_ge 5 p with x | x
  · have := h 5 x
    unfold fl at this
    omega
  · exact x
theorem in48 {x lo hi : Nat} (hx : x < 256) (h1 : lo ≤ 9) (h2 : hi ≤ 9) : (nI lo ≤ nI x - 48 ∧ nI x - 48 ≤ nI hi) ↔ (48 + lo ≤ x ∧ x ≤ 48 + hi) := by
  rw [show (48 : Int32) = nI 48 from rfl, pf_leInt, pf_leInt, pk_sub_toInt (by omega) (by omega), pf_toInt (by omega), pf_toInt (by omega)]
  omega
theorem q_letterThen {I : sI} {J : sJ} {post : Int32 → sI → sJ → Prop} {p L c lo hi : Nat} {b : Nat → Nat} (h5 : I 248 5 = nI p) (h6 : I 248 6 = nI L) (hL : L ≤ 6) (hp : p ≤ L) (hc : c < 256) (hlo : lo ≤ 9) (hhi : hi ≤ 9) (hb : ∀ i, i < L → b i < 256 ∧ I 250 i = nI (b i)) (e1 : ¬ (p < L ∧ b p = c) → post (-1) I J) (e2 : p < L → b p = c → ¬ (p + 1 < L ∧ 48 + lo ≤ b (p + 1) ∧ b (p + 1) ≤ 48 + hi) → post (-1) (sUI I 248 5 (nI (p + 1))) J) (e3 : p + 1 < L → b p = c → 48 + lo ≤ b (p + 1) → b (p + 1) ≤ 48 + hi → post (nI (b (p + 1) - 48)) (sUI (sUI I 248 5 (nI (p + 1))) 248 5 (nI (p + 2))) J) : w_X12_letterThen (nI c) (nI lo) (nI hi) I J post := by
  unfold w_X12_letterThen
  rw [h5, h6, pf_le (by omega) (by omega)]
  refine ⟨fun x => e1 (fun z => by omega), fun x => ⟨vp_in_nI (by omega) (by omega), ?_⟩⟩
  obtain ⟨bb1, bb2⟩ := hb p (by omega)
  rw [pf_cl (by omega), bb2, pf_eq (by omega) (by omega)]
  refine ⟨fun y => ?_, fun y => e1 (fun z => y z.2)⟩
  rw [nI_1]
  rintro _ rfl
  rw [show (sUI I 248 5 (nI (p + 1))) 248 6 = nI L from h6, show (sUI I 248 5 (nI (p + 1))) 248 5 = nI (p + 1) from rfl, pf_le (by omega) (by omega)]
  refine ⟨fun x2 => e2 (by omega) y (fun z => by omega), fun x2 => ⟨vp_in_nI (by omega) (by omega), ?_⟩⟩
  obtain ⟨cb1, cb2⟩ := hb (p + 1) (by omega)
  rw [pf_cl (by omega), show (sUI I 248 5 (nI (p + 1))) 250 (p + 1) = nI (b (p + 1)) from cb2]
  refine q_in (lo := nI lo) (hi := nI hi) rfl rfl (fun z => b3 (by decide) ?_) (fun z => b4 rfl (e2 (by omega) y (fun w => z ((in48 cb1 hlo hhi).mpr w.2))))
  rw [show (sUI I 248 5 (nI (p + 1))) 248 5 = nI (p + 1) from rfl, nI_1]
  rintro _ rfl
  rw [show (sUI (sUI I 248 5 (nI (p + 1))) 248 5 (nI (p + 1 + 1))) 248 5 = nI (p + 1 + 1) from rfl, nI_pred]
  refine ⟨vp_in_nI (by omega) (by omega), ?_⟩
  obtain ⟨z1, z2⟩ := (in48 cb1 hlo hhi).mp z
  rw [pf_cl (by omega), show (sUI (sUI I 248 5 (nI (p + 1))) 248 5 (nI (p + 1 + 1))) 250 (p + 1) = nI (b (p + 1)) from cb2, show (48 : Int32) = nI 48 from rfl, pk_sub (by omega)]
  exact e3 (by omega) y z1 z2
theorem q_X12_laxness {I : sI} {J : sJ} {post : Int32 → sI → sJ → Prop} {n : Nat} {b : Nat → Nat} (hT : mT n b I) (hn : n ≤ 80) (hb : ∀ i, i < n → b i < 256)
    (h1 : ∀ p, (p < n ∧ (∀ q, q < p → fl b q) ∧ ¬ fl b p) ∨ (p = n ∧ n < 4 ∧ ∀ q, q < p → fl b q) → ∀ I2 : sI, (∀ q, ¬ q = 248 → I2 q = I q) → (∀ k, ¬ (k = 0 ∨ k = 4 ∨ k = 5 ∨ k = 6) → I2 248 k = I 248 k) → I2 248 4 = 0 → post ((-1) - nI p) I2 J)
    (h3 : (∀ q, q < n → fl b q) → 4 ≤ n → ∀ I2 : sI, (∀ q, ¬ q = 248 → I2 q = I q) → (∀ k, ¬ (k = 0 ∨ k = 4 ∨ k = 5 ∨ k = 6 ∨ k = 21 ∨ k = 22 ∨ k = 23) → I2 248 k = I 248 k) → I2 248 4 = 0 → I2 248 21 = nI (b 1 - 48) → I2 248 22 = nI (b 3 - 48) → I2 248 23 = nI (n - 4) → post 0 I2 J) : w_X12_laxness I J post := by
  obtain ⟨t1, t2⟩ := hT
  have e01 : b (0 + 1) = b 1 := rfl
  have e23 : b (2 + 1) = b 3 := rfl
  unfold w_X12_laxness
  rintro _ rfl
  refine q_begins (n := n) (M := 6) t1 hn (by omega) ?_
  have fr0 : ∀ q, ¬ q = 248 → (sUI (sUI (sUI (sUI I 248 0 0) 248 4 0) 248 5 0) 248 6 (nI (min n 6))) q = I q := fun q hq => by rw [sUI_ne hq, sUI_ne hq, sUI_ne hq, sUI_ne hq]
  have fs0 : ∀ k, ¬ (k = 0 ∨ k = 4 ∨ k = 5 ∨ k = 6) → (sUI (sUI (sUI (sUI I 248 0 0) 248 4 0) 248 5 0) 248 6 (nI (min n 6))) 248 k = I 248 k := fun k hk => by rw [pf_uis, if_neg (by omega), pf_uis, if_neg (by omega), pf_uis, if_neg (by omega), pf_uis, if_neg (by omega)]
  have e4 : (sUI (sUI (sUI (sUI I 248 0 0) 248 4 0) 248 5 0) 248 6 (nI (min n 6))) 248 4 = 0 := rfl
  have e5 : (sUI (sUI (sUI (sUI I 248 0 0) 248 4 0) 248 5 0) 248 6 (nI (min n 6))) 248 5 = nI 0 := rfl
  have e6 : (sUI (sUI (sUI (sUI I 248 0 0) 248 4 0) 248 5 0) 248 6 (nI (min n 6))) 248 6 = nI (min n 6) := rfl
  generalize sUI (sUI (sUI (sUI I 248 0 0) 248 4 0) 248 5 0) 248 6 (nI (min n 6)) = I0 at fr0 fs0 e4 e5 e6 ⊢
  have tx : ∀ I1 : sI, (∀ q, ¬ q = 248 → I1 q = I q) → ∀ i, i < min n 6 → b i < 256 ∧ I1 250 i = nI (b i) := fun I1 fr i hi => by rw [fr 250 (by omega)]; exact ⟨hb i (by omega), t2 i (by omega)⟩
  -- a fault at p
  have bad : ∀ p (x2 : Int32) (I1 : sI), I1 248 5 = nI p → (∀ q, ¬ q = 248 → I1 q = I q) → (∀ k, ¬ (k = 0 ∨ k = 4 ∨ k = 5 ∨ k = 6) → I1 248 k = I 248 k) → I1 248 4 = 0 → ((p < n ∧ (∀ q, q < p → fl b q) ∧ ¬ fl b p) ∨ (p = n ∧ n < 4 ∧ ∀ q, q < p → fl b q)) → w_X12_laxness_37 post x2 (-1) I1 J := by
    intro p x2 I1 g5 gr gs g4 hcase
    unfold w_X12_laxness_37
    refine b2 (by decide) ?_
    rw [g5]
    exact h1 p hcase I1 gr gs g4
  have m1 : ¬ (0 : Int32) ≤ -1 := by decide
  refine q_letterThen (c := 104) (lo := 1) (hi := 3) (p := 0) (b := b) e5 e6 (by omega) (by omega) (by omega) (by omega) (by omega) (tx I0 fr0) (fun z => b2 m1 ?_) (fun z1 z2 z3 => b2 m1 ?_) (fun z1 z2 z3 z4 => b1 (pf_ge0 (by have := hb 1 (by omega); omega)) ?_)
  · refine bad 0 _ I0 e5 fr0 fs0 e4 ?_
    rcases Nat.eq_zero_or_pos n with x | x
    · exact Or.inr ⟨x.symm, by omega, fun q hq => by omega⟩
    · exact Or.inl ⟨x, fun q hq => by omega, fun y => by unfold fl at y; omega⟩
  · have f0 : ∀ q, q < 1 → fl b q := fun q hq => by rw [show q = 0 by omega]; exact Or.inl ⟨rfl, z2⟩
    refine bad 1 _ (sUI I0 248 5 (nI 1)) rfl (fun q hq => by rw [sUI_ne hq]; exact fr0 q hq) (fun k hk => by rw [pf_uis, if_neg (by omega)]; exact fs0 k hk) e4 ?_
    rcases Nat.lt_or_ge 1 n with x | x
    · exact Or.inl ⟨x, f0, fun y => by unfold fl at y; omega⟩
    · exact Or.inr ⟨by omega, by omega, f0⟩
  · have f0 : ∀ q, q < 2 → fl b q := fun q hq => by
      rcases (show q = 0 ∨ q = 1 by omega) with rfl | rfl
      · exact Or.inl ⟨rfl, z2⟩
      · exact Or.inr (Or.inl ⟨rfl, z3, by omega⟩)
    have k5 : (sUI (sUI I0 248 5 (nI (0 + 1))) 248 5 (nI (0 + 2))) 248 5 = nI 2 := rfl
    have k6 : (sUI (sUI I0 248 5 (nI (0 + 1))) 248 5 (nI (0 + 2))) 248 6 = nI (min n 6) := e6
    have k4 : (sUI (sUI I0 248 5 (nI (0 + 1))) 248 5 (nI (0 + 2))) 248 4 = 0 := e4
    have kr : ∀ q, ¬ q = 248 → (sUI (sUI I0 248 5 (nI (0 + 1))) 248 5 (nI (0 + 2))) q = I q := fun q hq => by rw [sUI_ne hq, sUI_ne hq]; exact fr0 q hq
    have ks : ∀ k, ¬ (k = 0 ∨ k = 4 ∨ k = 5 ∨ k = 6) → (sUI (sUI I0 248 5 (nI (0 + 1))) 248 5 (nI (0 + 2))) 248 k = I 248 k := fun k hk => by rw [pf_uis, if_neg (by omega), pf_uis, if_neg (by omega)]; exact fs0 k hk
    generalize sUI (sUI I0 248 5 (nI (0 + 1))) 248 5 (nI (0 + 2)) = I1 at k5 k6 k4 kr ks ⊢
    refine q_letterThen (c := 100) (lo := 0) (hi := 2) (p := 2) (b := b) k5 k6 (by omega) (by omega) (by omega) (by omega) (by omega) (tx I1 kr) (fun z => ?_) (fun y1 y2 y3 => ?_) (fun y1 y2 y3 y4 => ?_)
    · refine bad 2 _ I1 k5 kr ks k4 ?_
      rcases Nat.lt_or_ge 2 n with x | x
      · exact Or.inl ⟨x, f0, fun y => by unfold fl at y; omega⟩
      · exact Or.inr ⟨by omega, by omega, f0⟩
    · have f1 : ∀ q, q < 3 → fl b q := fun q hq => by
        rcases Nat.lt_or_ge q 2 with x | x
        · exact f0 q x
        · rw [show q = 2 by omega]; exact Or.inr (Or.inr (Or.inl ⟨rfl, y2⟩))
      refine bad 3 _ (sUI I1 248 5 (nI 3)) rfl (fun q hq => by rw [sUI_ne hq]; exact kr q hq) (fun k hk => by rw [pf_uis, if_neg (by omega)]; exact ks k hk) k4 ?_
      rcases Nat.lt_or_ge 3 n with x | x
      · exact Or.inl ⟨x, f1, fun y => by unfold fl at y; omega⟩
      · exact Or.inr ⟨by omega, by omega, f1⟩
    · have f1 : ∀ q, q < 4 → fl b q := fun q hq => by
        rcases Nat.lt_or_ge q 2 with x | x
        · exact f0 q x
        · rcases (show q = 2 ∨ q = 3 by omega) with rfl | rfl
          · exact Or.inr (Or.inr (Or.inl ⟨rfl, y2⟩))
          · exact Or.inr (Or.inr (Or.inr (Or.inl ⟨rfl, y3, by omega⟩)))
      have l5 : (sUI (sUI I1 248 5 (nI (2 + 1))) 248 5 (nI (2 + 2))) 248 5 = nI 4 := rfl
      have l6 : (sUI (sUI I1 248 5 (nI (2 + 1))) 248 5 (nI (2 + 2))) 248 6 = nI (min n 6) := k6
      have l4 : (sUI (sUI I1 248 5 (nI (2 + 1))) 248 5 (nI (2 + 2))) 248 4 = 0 := k4
      have lr : ∀ q, ¬ q = 248 → (sUI (sUI I1 248 5 (nI (2 + 1))) 248 5 (nI (2 + 2))) q = I q := fun q hq => by rw [sUI_ne hq, sUI_ne hq]; exact kr q hq
      have ls : ∀ k, ¬ (k = 0 ∨ k = 4 ∨ k = 5 ∨ k = 6) → (sUI (sUI I1 248 5 (nI (2 + 1))) 248 5 (nI (2 + 2))) 248 k = I 248 k := fun k hk => by rw [pf_uis, if_neg (by omega), pf_uis, if_neg (by omega)]; exact ks k hk
      generalize sUI (sUI I1 248 5 (nI (2 + 1))) 248 5 (nI (2 + 2)) = I2 at l5 l6 l4 lr ls ⊢
      have fin : ∀ (z : Nat), z ≤ 1 → (∀ q, q < 4 + z → fl b q) → 4 + z ≤ n → (4 + z < n → ¬ fl b (4 + z)) → w_X12_laxness_79 post (nI (b (0 + 1) - 48)) (nI (b (2 + 1) - 48)) (nI z) I2 J := by
        intro z hz hf hzn hno
        have main : ∀ r : Int32, r = nI z → ∀ I_92 : sI, I_92 = sUI I2 248 5 (I2 248 5 + r) → (((I_92 248 6) ≤ (I_92 248 5) → (∀ I_115 : sI, I_115 = sUI I_92 248 21 (nI (b (0 + 1) - 48)) → (∀ I_120 : sI, I_120 = sUI I_115 248 22 (nI (b (2 + 1) - 48)) → (sZ (nI z) ∧ (∀ I_126 : sI, I_126 = sUI I_120 248 23 (nI z) → post 0 I_126 J))))) ∧ (¬ (I_92 248 6) ≤ (I_92 248 5) → post ((-1) - (I_92 248 5)) I_92 J)) := by
          rintro _ rfl _ rfl
          rw [show (sUI I2 248 5 (I2 248 5 + nI z)) 248 6 = nI (min n 6) from l6, show (sUI I2 248 5 (I2 248 5 + nI z)) 248 5 = nI (4 + z) by rw [pf_uis, if_pos rfl, l5, nI_add], pf_le (by omega) (by omega)]
          refine ⟨fun x => ?_, fun x => ?_⟩
          · rintro _ rfl _ rfl
            refine ⟨by rcases (show z = 0 ∨ z = 1 by omega) with rfl | rfl; exact Or.inl rfl; exact Or.inr rfl, ?_⟩
            rintro _ rfl
            refine h3 (fun q hq => hf q (by omega)) (by omega) _ (fun q hq => ?_) (fun k hk => ?_) l4 rfl rfl ?_
            · rw [sUI_ne hq, sUI_ne hq, sUI_ne hq, sUI_ne hq]; exact lr q hq
            · rw [pf_uis, if_neg (by omega), pf_uis, if_neg (by omega), pf_uis, if_neg (by omega), pf_uis, if_neg (by omega)]; exact ls k (by omega)
            · rw [pf_uis, if_pos rfl]; congr 1; omega
          · refine h1 (4 + z) (Or.inl ⟨by omega, hf, hno (by omega)⟩) _ (fun q hq => ?_) (fun k hk => ?_) l4
            · rw [sUI_ne hq]; exact lr q hq
            · rw [pf_uis, if_neg (by omega)]; exact ls k hk
        unfold w_X12_laxness_79
        rcases (show z = 0 ∨ z = 1 by omega) with rfl | rfl
        · exact q_flag (fun _ => main 0 rfl) (fun y => absurd rfl y)
        · exact q_flag (fun y => absurd y (by decide)) (fun _ => main 1 rfl)
      unfold w_X12_laxness_37
      refine b1 (pf_ge0 (by omega)) ?_
      rw [l5, l6, pf_le (by omega) (by omega)]
      refine ⟨fun x => fin 0 (by omega) f1 (by omega) (fun y => by omega), fun x => ⟨vp_in_nI (by omega) (by omega), ?_⟩⟩
      obtain ⟨cb1, cb2⟩ := tx I2 lr 4 (by omega)
      rw [pf_cl (by omega), cb2, show (98 : Int32) = nI 98 from rfl, pf_eq (by omega) (by omega)]
      refine ⟨fun y => fin 0 (by omega) f1 (by omega) (fun _ z => by unfold fl at z; omega), fun y => fin 1 (by omega) (fun q hq => ?_) (by omega) (fun _ z => by unfold fl at z; omega)⟩
      rcases Nat.lt_or_ge q 4 with w | w
      · exact f1 q w
      · rw [show q = 4 by omega]; exact Or.inr (Or.inr (Or.inr (Or.inr ⟨rfl, y⟩)))
theorem S_laxness {I : sI} {J : sJ} (hR : RR0 I J) : St w_X11_laxness w_X12_laxness I J := by
  obtain ⟨hT, hD, hK, hW, hC, hQ, hX⟩ := hR
  obtain ⟨n, b, hn, hb, hct, hmt⟩ := id hT
  refine q_faultAsLaxness hct hn hb (fun p hcase => ?_) (fun hf h4 => b4 rfl ?_)
  · have hp5 : p ≤ 5 := by
      rcases hcase with ⟨a1, a2, a3⟩ | ⟨a1, a2, a3⟩
      · exact fl5 a2
      · exact fl5 a3
    refine b3 (pf_ne_m1 (by omega)) ?_
    unfold w_X11_laxness_74
    rintro _ rfl
    refine b3 (pf_ne_m1 (by omega)) ?_
    refine q_X12_laxness (I := sUI I 1 1 0) hmt hn hb (fun p' hcase' I2 fr fs f4 => ⟨?_, ?_⟩) (fun hf h4 => ?_)
    · have e : p = p' := by
        rcases hcase with ⟨a1, a2, a3⟩ | ⟨a1, a2, a3⟩ <;> rcases hcase' with ⟨c1, c2, c3⟩ | ⟨c1, c2, c3⟩
        · rcases Nat.lt_trichotomy p p' with x | x | x
          · exact absurd (c2 p x) a3
          · exact x
          · exact absurd (a2 p' x) c3
        · exact absurd (c3 p (by omega)) a3
        · exact absurd (a3 p' (by omega)) c3
        · omega
      rw [e]
    · have r1 : ∀ q, ¬ (q = 1 ∨ q = 248) → I2 q = I q := fun q hq => by rw [fr q (by omega), sUI_ne (by omega)]
      have s1 : ∀ k, ¬ (k = 0 ∨ k = 4 ∨ k = 5 ∨ k = 6) → I2 248 k = I 248 k := fun k hk => by rw [fs k hk, pf_ui, if_neg (by omega)]
      refine ⟨⟨0, b, by omega, fun i hi => by omega, ⟨?_, fun i hi => by omega⟩, f4, fun i hi => by omega⟩, (RD_congr hD (fun q h1 h2 => r1 q (by omega)) (r1 253 (by omega)) (r1 254 (by omega)) (r1 255 (by omega)) (r1 256 (by omega)) (r1 276 (by omega)) (s1 11 (by omega)) (s1 12 (by omega)) (s1 15 (by omega)) (s1 21 (by omega)) (s1 22 (by omega)) (s1 23 (by omega))), (RK_congr hK (fun q h1 h2 => r1 q (by omega)) (r1 279 (by omega)) (r1 280 (by omega))), (RW_congr hW (fun q h1 h2 => r1 q (by omega)) (r1 257 (by omega)) (r1 258 (by omega)) (r1 259 (by omega))), (RC_congr hC (fun q h1 h2 => r1 q (by omega)) (by rw [r1 227 (by omega)]) (s1 46 (by omega)) (r1 275 (by omega))), (RR_congr hQ (by rw [r1 134 (by omega)]) (s1 1 (by omega)) rfl rfl), (RX_congr hX (by rw [r1 0 (by omega)]) (s1 37 (by omega)) (by rw [r1 0 (by omega)]) (s1 33 (by omega)) (by rw [r1 141 (by omega)]))⟩
      rw [fr 1 (by omega)]; rfl
    · exfalso
      rcases hcase with ⟨a1, a2, a3⟩ | ⟨a1, a2, a3⟩
      · exact a3 (hf p a1)
      · omega
  · have h5 : n ≤ 5 := fl5 hf
    have g1 : 49 ≤ b 1 ∧ b 1 < 52 := by have := hf 1 (by omega); unfold fl at this; omega
    have g3 : 48 ≤ b 3 ∧ b 3 ≤ 50 := by have := hf 3 (by omega); unfold fl at this; omega
    refine ⟨vp_in_nI (n := 1) (by omega) (by omega), ?_⟩
    rw [show I 2 (Int32.toNatClampNeg 1) - 48 = nI (b 1 - 48) by rw [show Int32.toNatClampNeg 1 = 1 by decide, hct.2 1 (by omega), show (48 : Int32) = nI 48 from rfl, pk_sub (by omega)]]
    rintro _ rfl
    refine ⟨vp_in_nI (n := 3) (by omega) (by omega), ?_⟩
    rw [show (sUI I 3 3 (nI (b 1 - 48))) 2 (Int32.toNatClampNeg 3) - 48 = nI (b 3 - 48) by rw [show Int32.toNatClampNeg 3 = 3 by decide, show (sUI I 3 3 (nI (b 1 - 48))) 2 3 = nI (b 3) from hct.2 3 (by omega), show (48 : Int32) = nI 48 from rfl, pk_sub (by omega)]]
    rintro _ rfl
    have fin : w_X11_laxness_71 (fun r I1 J1 => w_X12_laxness I1 J1 (fun r2 I2 J2 => r = r2 ∧ RR0 I2 J2)) (-1) (nI (n - 4)) (sUI (sUI I 3 3 (nI (b 1 - 48))) 3 4 (nI (b 3 - 48))) J := by
      unfold w_X11_laxness_71 w_X11_laxness_74
      refine ⟨by rcases (show n - 4 = 0 ∨ n - 4 = 1 by omega) with e | e <;> rw [e]; exact Or.inl rfl; exact Or.inr rfl, ?_⟩
      rintro _ rfl _ rfl
      refine b4 rfl ?_
      refine q_X12_laxness (I := sUI (sUI (sUI (sUI I 3 3 (nI (b 1 - 48))) 3 4 (nI (b 3 - 48))) 3 5 (nI (n - 4))) 1 1 0) hmt hn hb (fun p' hcase' => ?_) (fun _ _ I2 fr fs f4 f21 f22 f23 => ⟨rfl, ?_⟩)
      · exfalso
        rcases hcase' with ⟨a1, a2, a3⟩ | ⟨a1, a2, a3⟩
        · exact a3 (hf p' a1)
        · omega
      · have r1 : ∀ q, ¬ (q = 1 ∨ q = 3 ∨ q = 248) → I2 q = I q := fun q hq => by rw [fr q (by omega), sUI_ne (by omega), sUI_ne (by omega), sUI_ne (by omega), sUI_ne (by omega)]
        have s1 : ∀ k, ¬ (k = 0 ∨ k = 4 ∨ k = 5 ∨ k = 6 ∨ k = 21 ∨ k = 22 ∨ k = 23) → I2 248 k = I 248 k := fun k hk => by rw [fs k hk]; rfl
        refine ⟨⟨0, b, by omega, fun i hi => by omega, ⟨?_, fun i hi => by omega⟩, f4, fun i hi => by omega⟩, ?_, (RK_congr hK (fun q h1 h2 => r1 q (by omega)) (r1 279 (by omega)) (r1 280 (by omega))), (RW_congr hW (fun q h1 h2 => r1 q (by omega)) (r1 257 (by omega)) (r1 258 (by omega)) (r1 259 (by omega))), (RC_congr hC (fun q h1 h2 => r1 q (by omega)) (by rw [r1 227 (by omega)]) (s1 46 (by omega)) (r1 275 (by omega))), (RR_congr hQ (by rw [r1 134 (by omega)]) (s1 1 (by omega)) rfl rfl), (RX_congr hX (by rw [r1 0 (by omega)]) (s1 37 (by omega)) (by rw [r1 0 (by omega)]) (s1 33 (by omega)) (by rw [r1 141 (by omega)]))⟩
        · rw [fr 1 (by omega)]; rfl
        · obtain ⟨⟨G0, P0, s0, κ0, n0, ob, oa, h, d, bk, fi⟩, ⟨w1, w2, w3, w4, w5, w6, w7⟩, ⟨c1, c2, c3, c4, c5, c6⟩, ⟨m1, m2, m3, m4, m5, m6⟩⟩ := hD
          unfold cD at c1
          unfold cO at c2
          unfold mD at m1
          unfold mO at m2
          refine ⟨(G0, P0, s0, κ0, n0, ob, oa, b 1 - 48, b 3 - 48, n - 4, fi), ⟨w1, w2, by omega, by omega, by omega, by omega, w7⟩, ⟨?_, ?_, ?_, ?_, ?_, ?_⟩, ⟨?_, ?_, f21, f22, f23, ?_⟩⟩
          · unfold cD; rw [r1 (3 + 1) (by omega), r1 (3 + 1 + 1) (by omega), r1 (3 + 1 + 2) (by omega), r1 (3 + 1 + 3) (by omega)]; exact c1
          · unfold cO; rw [r1 (3 + 5) (by omega), r1 (3 + 5 + 1) (by omega), r1 (3 + 5 + 2) (by omega)]; exact c2
          · rw [fr 3 (by omega)]; rfl
          · rw [fr 3 (by omega)]; rfl
          · rw [fr 3 (by omega)]; rfl
          · rw [r1 (3 + 8) (by omega)]; exact c6
          · unfold mD; rw [s1 11 (by omega), s1 12 (by omega), r1 253 (by omega), r1 254 (by omega)]; exact m1
          · unfold mO; rw [s1 15 (by omega), r1 255 (by omega), r1 256 (by omega)]; exact m2
          · rw [r1 276 (by omega)]; exact m6
    rw [show (sUI (sUI I 3 3 (nI (b 1 - 48))) 3 4 (nI (b 3 - 48))) 1 1 = nI n from hct.1, show (4 : Int32) = nI 4 from rfl, pf_le (by omega) (by omega)]
    refine ⟨fun e => ?_, fun e => ?_⟩
    · rw [show n - 4 = 0 by omega] at fin; exact fin
    · rw [show n - 4 = 1 by omega] at fin; exact fin
