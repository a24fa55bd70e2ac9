/-! pure tools over the shadows: small numbers as nI n, rows of the light heap -/
theorem pf_lit (n : Nat) : (OfNat.ofNat n : Int32) = nI n := by
  apply Int32.toBitVec_inj.mp
  rfl
theorem pf_in {n N : Nat} (hn : n < 2147483648) (hN : N < 2147483648) : vp_in (nI n) N ↔ n < N := by
  constructor
  · intro h
    have h2 := (vp_in_iff.mp h).2
    rw [nI_toInt (by omega)] at h2
    omega
  · intro h
    exact vp_in_nI h (by omega)
theorem pf_cl {n : Nat} (h : n < 2147483648) : (nI n).toNatClampNeg = n := nI_clamp (by omega)
theorem pf_le {a b : Nat} (ha : a < 2147483648) (hb : b < 2147483648) : nI a ≤ nI b ↔ a ≤ b := nI_leI (by omega) (by omega)
theorem pf_lt {a b : Nat} (ha : a < 2147483648) (hb : b < 2147483648) : nI a < nI b ↔ a < b := nI_ltI (by omega) (by omega)
theorem pf_eq {a b : Nat} (ha : a < 2147483648) (hb : b < 2147483648) : nI a = nI b ↔ a = b := nI_eq (by omega) (by omega)
theorem pf_neg1_toInt : (-1 : Int32).toInt = -1 := by decide
theorem pf_ne_m1 {a : Nat} (ha : a < 2147483648) : ¬ nI a = -1 := by
  intro h
  have := congrArg Int32.toInt h
  rw [nI_toInt (by omega), pf_neg1_toInt] at this
  omega
theorem pf_lt0 {a : Nat} (ha : a < 2147483648) : ¬ nI a < 0 := nI_pos (by omega)
theorem pf_ge0 {a : Nat} (ha : a < 2147483648) : 0 ≤ nI a := nI_pos' (by omega)
theorem pf_le0 {a : Nat} (ha : a < 2147483648) : nI a ≤ 0 ↔ a = 0 := by
  rw [show (0 : Int32) = nI 0 from rfl, pf_le ha (by omega)]
  omega
theorem pf_gt0 {a : Nat} (ha : a < 2147483648) : 0 < nI a ↔ 0 < a := by
  rw [show (0 : Int32) = nI 0 from rfl, pf_lt (by omega) ha]
theorem pf_eq0 {a : Nat} (ha : a < 2147483648) : nI a = 0 ↔ a = 0 := by
  rw [show (0 : Int32) = nI 0 from rfl, pf_eq ha (by omega)]
theorem pf_ui (I : sI) (p k : Nat) (x : Int32) (q j : Nat) : sUI I p k x q j = if q = p ∧ j = k then x else I q j := rfl
theorem pf_uj (J : sJ) (p k : Nat) (x : Int64) (q j : Nat) : sUJ J p k x q j = if q = p ∧ j = k then x else J q j := rfl
theorem pf_uis (I : sI) (p k : Nat) (x : Int32) (j : Nat) : sUI I p k x p j = if j = k then x else I p j := by simp [sUI]
theorem pf_ujs (J : sJ) (p k : Nat) (x : Int64) (j : Nat) : sUJ J p k x p j = if j = k then x else J p j := by simp [sUJ]
/-- an Int32 is a small number, or outside -/
theorem pf_split (x : Int32) {N : Nat} (hN : N < 2147483648) : (∃ n, n < N ∧ x = nI n) ∨ x < 0 ∨ nI N ≤ x := by
  rcases pk_ix x (n := N) (by omega) with h | h | ⟨j, h, e⟩
  · exact Or.inr (Or.inl h)
  · exact Or.inr (Or.inr h)
  · exact Or.inl ⟨j, h, e⟩
theorem pf_toInt {n : Nat} (h : n < 2147483648) : (nI n).toInt = (n : Int) := nI_toInt (by omega)
theorem pf_ltInt (a b : Int32) : a < b ↔ a.toInt < b.toInt := Int32.lt_iff_toInt_lt
theorem pf_leInt (a b : Int32) : a ≤ b ↔ a.toInt ≤ b.toInt := Int32.le_iff_toInt_le
theorem pf_lgc_lt (x y : Int64) : lg_cmp x y < 0 ↔ x < y := by
  unfold lg_cmp
  by_cases h : x > y
  · rw [if_pos h]
    constructor
    · intro q; exact absurd q (by decide)
    · intro q; exact absurd q (Int64.not_lt.mpr (Int64.le_of_lt h))
  · rw [if_neg h]
    by_cases h2 : x = y
    · rw [if_pos h2]
      constructor
      · intro q; exact absurd q (by decide)
      · intro q; rw [h2] at q; exact absurd q (Int64.lt_irrefl)
    · rw [if_neg h2]
      constructor
      · intro _; exact Int64.lt_of_le_of_ne (Int64.not_lt.mp h) h2
      · intro _; decide
theorem pf_lgc_gt (x y : Int64) : 0 < lg_cmp x y ↔ y < x := by
  unfold lg_cmp
  by_cases h : x > y
  · rw [if_pos h]
    exact ⟨fun _ => h, fun _ => by decide⟩
  · rw [if_neg h]
    constructor
    · intro q
      by_cases h2 : x = y
      · rw [if_pos h2] at q; exact absurd q (by decide)
      · rw [if_neg h2] at q; exact absurd q (by decide)
    · intro q; exact absurd q h
theorem pf_lgc_eq (x y : Int64) : lg_cmp x y = 0 ↔ x = y := by
  unfold lg_cmp
  by_cases h : x > y
  · rw [if_pos h]
    constructor
    · intro q; exact absurd q (by decide)
    · intro q; rw [q] at h; exact absurd h Int64.lt_irrefl
  · rw [if_neg h]
    by_cases h2 : x = y
    · rw [if_pos h2]; exact ⟨fun _ => h2, fun _ => rfl⟩
    · rw [if_neg h2]
      constructor
      · intro q; exact absurd q (by decide)
      · intro q; exact absurd q h2
theorem pf_wlt (a b : Int32) : a.toInt64 < b.toInt64 ↔ a < b := by
  rw [Int64.lt_iff_toInt_lt, Int32.lt_iff_toInt_lt, Int32.toInt_toInt64, Int32.toInt_toInt64]
theorem pf_wle (a b : Int32) : a.toInt64 ≤ b.toInt64 ↔ a ≤ b := by
  rw [Int64.le_iff_toInt_le, Int32.le_iff_toInt_le, Int32.toInt_toInt64, Int32.toInt_toInt64]
theorem pf_lit64 (n : Nat) (h : n < 2147483648) : (OfNat.ofNat n : Int64) = (nI n).toInt64 := by
  apply Int64.toInt_inj.mp
  rw [Int32.toInt_toInt64, nI_toInt (by omega)]
  show (Int64.ofNat n).toInt = n
  rw [Int64.toInt_ofNat_of_lt (by omega)]
/-- both ends of a branch -/
theorem pf_br {c : Prop} [Decidable c] {A B : Prop} (h : if c then A else B) : (c → A) ∧ (¬ c → B) := by
  constructor
  · intro hc; rw [if_pos hc] at h; exact h
  · intro hc; rw [if_neg hc] at h; exact h
