/-! sets as bits -/
noncomputable def bp (p : Prop) : Bool := @decide p (Classical.propDecidable p)
theorem bp_t {p : Prop} : bp p = true ↔ p := by unfold bp; exact @decide_eq_true_iff p (Classical.propDecidable p)
theorem bp_f {p : Prop} : bp p = false ↔ ¬ p := by unfold bp; exact @decide_eq_false_iff_not p (Classical.propDecidable p)
theorem bp_congr {p q : Prop} (h : p ↔ q) : bp p = bp q := by rw [propext h]
noncomputable def msk (p : Nat → Prop) : Nat → Nat
  | 0 => 0
  | n + 1 => msk p n + (if bp (p n) = true then 2 ^ n else 0)
noncomputable def cnt (p : Nat → Prop) : Nat → Nat
  | 0 => 0
  | n + 1 => cnt p n + (if bp (p n) = true then 1 else 0)
theorem msk_lt (p : Nat → Prop) : ∀ n, msk p n < 2 ^ n
  | 0 => by show 0 < 1; omega
  | n + 1 => by
    have := msk_lt p n
    show msk p n + (if bp (p n) = true then 2 ^ n else 0) < 2 ^ (n + 1)
    rw [Nat.pow_succ]
    split <;> omega
theorem msk_bit (p : Nat → Prop) : ∀ n i, (msk p n).testBit i = (decide (i < n) && bp (p i))
  | 0, i => by
    show (0 : Nat).testBit i = _
    rw [Nat.zero_testBit, decide_eq_false (by omega)]
    rfl
  | n + 1, i => by
    have hl := msk_lt p n
    have ih := msk_bit p n i
    show (msk p n + (if bp (p n) = true then 2 ^ n else 0)).testBit i = _
    by_cases hb : bp (p n) = true
    · have e2 := Nat.two_pow_add_eq_or_of_lt hl 1
      rw [Nat.mul_one] at e2
      rw [if_pos hb, Nat.add_comm, e2, Nat.testBit_or, ih, Nat.testBit_two_pow]
      by_cases e : n = i
      · subst e
        rw [decide_eq_true rfl, decide_eq_true (show n < n + 1 by omega), hb]
        rfl
      · rw [decide_eq_false e, Bool.false_or]
        congr 1
        exact decide_eq_decide.mpr (by omega)
    · rw [if_neg hb, Nat.add_zero, ih]
      by_cases e : n = i
      · subst e
        rw [decide_eq_false (by omega)]
        have : bp (p n) = false := by cases h : bp (p n) <;> simp_all
        rw [this, Bool.and_false, Bool.and_false]
      · congr 1
        exact decide_eq_decide.mpr (by omega)
theorem msk_in {p : Nat → Prop} {n i : Nat} : (msk p n).testBit i = true ↔ i < n ∧ p i := by
  rw [msk_bit, Bool.and_eq_true, decide_eq_true_iff, bp_t]
theorem msk_congr {p q : Nat → Prop} {n : Nat} (h : ∀ i, i < n → (p i ↔ q i)) : msk p n = msk q n := by
  apply Nat.eq_of_testBit_eq
  intro i
  rw [Bool.eq_iff_iff, msk_in, msk_in]
  constructor
  · intro ⟨a, b⟩; exact ⟨a, (h i a).mp b⟩
  · intro ⟨a, b⟩; exact ⟨a, (h i a).mpr b⟩
theorem msk_zero {p : Nat → Prop} {n : Nat} : msk p n = 0 ↔ ∀ i, i < n → ¬ p i := by
  constructor
  · intro h i hi hp
    have : (msk p n).testBit i = true := msk_in.mpr ⟨hi, hp⟩
    rw [h, Nat.zero_testBit] at this
    cases this
  · intro h
    apply Nat.eq_of_testBit_eq
    intro i
    rw [Nat.zero_testBit]
    cases hb : (msk p n).testBit i
    · rfl
    · have := msk_in.mp hb
      exact absurd this.2 (h i this.1)
theorem msk_s {p : Nat → Prop} {n : Nat} (h : p n) : msk p (n + 1) = msk p n + 2 ^ n := by
  show msk p n + _ = _
  rw [if_pos (bp_t.mpr h)]
theorem msk_n {p : Nat → Prop} {n : Nat} (h : ¬ p n) : msk p (n + 1) = msk p n := by
  show msk p n + _ = _
  rw [if_neg (fun z => h (bp_t.mp z))]
  rfl
theorem cnt_s {p : Nat → Prop} {n : Nat} (h : p n) : cnt p (n + 1) = cnt p n + 1 := by
  show cnt p n + _ = _
  rw [if_pos (bp_t.mpr h)]
theorem cnt_n {p : Nat → Prop} {n : Nat} (h : ¬ p n) : cnt p (n + 1) = cnt p n := by
  show cnt p n + _ = _
  rw [if_neg (fun z => h (bp_t.mp z))]
  rfl
theorem cnt_le (p : Nat → Prop) : ∀ n, cnt p n ≤ n
  | 0 => Nat.le_refl _
  | n + 1 => by
    have := cnt_le p n
    by_cases h : p n
    · rw [cnt_s h]; omega
    · rw [cnt_n h]; omega
theorem cnt_congr {p q : Nat → Prop} : ∀ {n : Nat}, (∀ i, i < n → (p i ↔ q i)) → cnt p n = cnt q n
  | 0, _ => rfl
  | n + 1, h => by
    have ih := cnt_congr (n := n) (fun i hi => h i (by omega))
    show cnt p n + _ = cnt q n + _
    rw [ih, bp_congr (h n (by omega))]
theorem bt_nI (a i : Nat) : bt (nI a) i = (decide (i < 32) && a.testBit i) := by
  unfold bt nI
  show (BitVec.ofNat 32 a).getLsbD i = _
  rw [BitVec.getLsbD_ofNat]
theorem pw31 {n : Nat} (h : n ≤ 30) : 2 ^ n ≤ 1073741824 := Nat.pow_le_pow_right (n := 2) (by omega) h
theorem sh1 : ∀ k, k < 31 → (1 : Int32) <<< (nI k &&& 31) = nI (2 ^ k) := by decide +kernel
theorem m_or {p : Nat → Prop} {n : Nat} (h : p n) : nI (msk p n) ||| nI (2 ^ n) = nI (msk p (n + 1)) := by
  rw [fa_or, msk_s h]
  congr 1
  have := Nat.two_pow_add_eq_or_of_lt (msk_lt p n) 1
  rw [Nat.mul_one] at this
  rw [Nat.or_comm, ← this, Nat.add_comm]
theorem m_or0 {p : Nat → Prop} {n : Nat} (h : ¬ p n) : nI (msk p n) ||| 0 = nI (msk p (n + 1)) := by
  rw [show (0 : Int32) = nI 0 from rfl, fa_or, msk_n h, Nat.or_zero]
theorem m_and {p q : Nat → Prop} {n : Nat} : nI (msk p n) &&& nI (msk q n) = nI (msk (fun i => p i ∧ q i) n) := by
  rw [fa_and]
  congr 1
  apply Nat.eq_of_testBit_eq
  intro i
  rw [Nat.testBit_and, Bool.eq_iff_iff, Bool.and_eq_true, msk_in, msk_in, msk_in]
  constructor
  · intro ⟨⟨a, b⟩, _, c⟩; exact ⟨a, b, c⟩
  · intro ⟨a, b, c⟩; exact ⟨⟨a, b⟩, a, c⟩
theorem m_ors {p q : Nat → Prop} {n : Nat} : nI (msk p n) ||| nI (msk q n) = nI (msk (fun i => p i ∨ q i) n) := by
  rw [fa_or]
  congr 1
  apply Nat.eq_of_testBit_eq
  intro i
  rw [Nat.testBit_or, Bool.eq_iff_iff, Bool.or_eq_true, msk_in, msk_in, msk_in]
  constructor
  · rintro (⟨a, b⟩ | ⟨a, b⟩)
    · exact ⟨a, Or.inl b⟩
    · exact ⟨a, Or.inr b⟩
  · rintro ⟨a, b | b⟩
    · exact Or.inl ⟨a, b⟩
    · exact Or.inr ⟨a, b⟩
theorem m_not {p : Nat → Prop} {n m : Nat} : nI (msk p n) &&& (nI m ^^^ (-1)) = nI (msk (fun i => p i ∧ m.testBit i = false) n) := by
  apply b_ext
  intro i hi
  rw [b_and, b_xor, bt_nI, bt_nI, bt_nI, b_m1 i hi, decide_eq_true hi, Bool.true_and, Bool.true_and, Bool.true_and, Bool.eq_iff_iff, Bool.and_eq_true, msk_in, msk_in, Bool.xor_true]
  constructor
  · intro ⟨⟨a, b⟩, c⟩; exact ⟨a, b, by simpa using c⟩
  · intro ⟨a, b, c⟩; exact ⟨⟨a, b⟩, by simpa using c⟩
theorem msk_big {p : Nat → Prop} {n i : Nat} : (msk p n).testBit i = false ↔ ¬ (i < n ∧ p i) := by
  rw [← msk_in, Bool.not_eq_true]
theorem m_andnot {p q : Nat → Prop} {n : Nat} : nI (msk p n) &&& (nI (msk q n) ^^^ (-1)) = nI (msk (fun i => p i ∧ ¬ q i) n) := by
  rw [m_not]
  congr 1
  apply msk_congr
  intro i hi
  rw [msk_big]
  constructor
  · intro ⟨a, b⟩; exact ⟨a, fun c => b ⟨hi, c⟩⟩
  · intro ⟨a, b⟩; exact ⟨a, fun c => b c.2⟩
theorem m_rm {p : Nat → Prop} {n c : Nat} : nI (msk p n) &&& (nI (2 ^ c) ^^^ (-1)) = nI (msk (fun i => p i ∧ i ≠ c) n) := by
  rw [m_not]
  congr 1
  apply msk_congr
  intro i hi
  rw [Nat.testBit_two_pow]
  constructor
  · intro ⟨a, b⟩; exact ⟨a, fun c => by rw [c, decide_eq_true rfl] at b; cases b⟩
  · intro ⟨a, b⟩; exact ⟨a, decide_eq_false (fun z => b z.symm)⟩
theorem m_all {C : Nat} (h : C ≤ 30) : nI (2 ^ C) - 1 = nI (msk (fun _ => True) C) := by
  have e : msk (fun _ => True) C = 2 ^ C - 1 := by
    clear h
    induction C with
    | zero => rfl
    | succ n ih =>
      rw [msk_s trivial, ih, Nat.pow_succ]
      have := Nat.two_pow_pos n
      omega
  rw [e, show (1 : Int32) = nI 1 from rfl, pk_sub (Nat.two_pow_pos C)]
theorem m_lt31 {p : Nat → Prop} {n : Nat} (h : n ≤ 30) : msk p n < 2147483648 := by
  have := msk_lt p n
  have := pw31 h
  omega
theorem m_eq0 {p : Nat → Prop} {n : Nat} (h : n ≤ 30) : nI (msk p n) = 0 ↔ ∀ i, i < n → ¬ p i := by
  rw [pf_eq0 (m_lt31 h), msk_zero]
/-- the bit i of a number -/
theorem m_shr {a i : Nat} (ha : a < 2147483648) (hi : i < 31) : (nI a >>> (nI i &&& 31)) &&& 1 = nI (if a.testBit i = true then 1 else 0) := by
  apply b_ext
  intro j hj
  rw [b_and, b_sshr i (by omega) _ hj]
  have e1 : bt 1 j = decide (j = 0) := by
    have : ∀ j, j < 32 → bt 1 j = decide (j = 0) := by decide +kernel
    exact this j hj
  rw [e1, bt_nI (if a.testBit i = true then 1 else 0) j, decide_eq_true hj, Bool.true_and]
  by_cases e : j = 0
  · subst e
    rw [if_pos (by omega), bt_nI, decide_eq_true (show i + 0 < 32 by omega), Bool.true_and, decide_eq_true rfl, Bool.and_true, Nat.add_zero]
    cases a.testBit i <;> rfl
  · rw [decide_eq_false e, Bool.and_false]
    split
    · symm
      rw [show (1 : Nat) = 2 ^ 0 from rfl, Nat.testBit_two_pow]
      exact decide_eq_false (fun z => e z.symm)
    · rw [Nat.zero_testBit]
theorem m_has {p : Nat → Prop} {n i : Nat} (hn : n ≤ 30) (hi : i < 31) : ((nI (msk p n) >>> (nI i &&& 31)) &&& 1) = 1 ↔ i < n ∧ p i := by
  rw [m_shr (m_lt31 hn) hi, ← msk_in]
  by_cases h : (msk p n).testBit i = true
  · rw [if_pos h]
    exact ⟨fun _ => h, fun _ => rfl⟩
  · rw [if_neg h]
    exact ⟨fun z => absurd z (by decide), fun z => absurd z h⟩
theorem m_has0 {p : Nat → Prop} {n i : Nat} (hn : n ≤ 30) (hi : i < 31) : ((nI (msk p n) >>> (nI i &&& 31)) &&& 1) = 0 ↔ ¬ (i < n ∧ p i) := by
  rw [m_shr (m_lt31 hn) hi, ← msk_in]
  by_cases h : (msk p n).testBit i = true
  · rw [if_pos h]
    exact ⟨fun z => absurd z (by decide), fun z => absurd h z⟩
  · rw [if_neg h]
    exact ⟨fun _ => h, fun _ => rfl⟩
theorem q_X12_has {I : sI} {J : sJ} {post : Int32 → sI → sJ → Prop} {p : Nat → Prop} {n i : Nat} (hn : n ≤ 30) (hi : i < 31) (h1 : i < n ∧ p i → post 1 I J) (h0 : ¬ (i < n ∧ p i) → post 0 I J) : w_X12_has (nI (msk p n)) (nI i) I J post := by
  unfold w_X12_has
  rw [m_has hn hi]
  exact ⟨h0, h1⟩
/-- how many bits -/
def bcF (a0 : Int32) : Int32 :=
  let v1 := a0 - (((a0.toUInt32 >>> (Int32.toUInt32 1 &&& Int32.toUInt32 31)).toInt32) &&& 1431655765)
  let v2 := (v1 &&& 858993459) + (((v1.toUInt32 >>> (Int32.toUInt32 2 &&& Int32.toUInt32 31)).toInt32) &&& 858993459)
  let v3 := (v2 + ((v2.toUInt32 >>> (Int32.toUInt32 4 &&& Int32.toUInt32 31)).toInt32)) &&& 252645135
  let v4 := v3 + ((v3.toUInt32 >>> (Int32.toUInt32 8 &&& Int32.toUInt32 31)).toInt32)
  let v5 := v4 + ((v4.toUInt32 >>> (Int32.toUInt32 16 &&& Int32.toUInt32 31)).toInt32)
  v5 &&& 63
theorem q_bitCount0 {I : sI} {J : sJ} {post : Int32 → sI → sJ → Prop} {a : Int32} (h : post (bcF a) I J) : w_J6_bitCount_0f7a4 a I J post := by
  unfold w_J6_bitCount_0f7a4
  rintro _ rfl _ rfl _ rfl _ rfl _ rfl
  exact h
def pcb (m : Nat) : Nat → Nat
  | 0 => 0
  | n + 1 => pcb m n + (if m.testBit n = true then 1 else 0)
theorem bcF_pcb2 : ∀ x, x < 64 → ∀ y, y < 64 → bcF (nI (64 * x + y)) = nI (pcb (64 * x + y) 12) := by decide +kernel
theorem bcF_pcb (m : Nat) (h : m < 4096) : bcF (nI m) = nI (pcb m 12) := by
  have := bcF_pcb2 (m / 64) (by omega) (m % 64) (by omega)
  rw [show 64 * (m / 64) + m % 64 = m by omega] at this
  exact this
theorem pcb_cnt (m : Nat) : ∀ n, pcb m n = cnt (fun i => m.testBit i = true) n
  | 0 => rfl
  | n + 1 => by
    show pcb m n + _ = cnt _ n + _
    rw [pcb_cnt m n]
    congr 1
    by_cases h : m.testBit n = true
    · rw [if_pos h, if_pos (bp_t.mpr h)]
    · rw [if_neg h, if_neg (fun z => h (bp_t.mp z))]
theorem cnt_cut (p : Nat → Prop) (n : Nat) : ∀ k, cnt (fun i => i < n ∧ p i) (n + k) = cnt p n
  | 0 => cnt_congr (fun i hi => ⟨fun h => h.2, fun h => ⟨by omega, h⟩⟩)
  | k + 1 => by
    rw [show n + (k + 1) = n + k + 1 by omega, cnt_n (fun h => by omega)]
    exact cnt_cut p n k
theorem q_bitCount {I : sI} {J : sJ} {post : Int32 → sI → sJ → Prop} {p : Nat → Prop} {n : Nat} (hn : n ≤ 12) (h : post (nI (cnt p n)) I J) : w_J6_bitCount_0f7a4 (nI (msk p n)) I J post := by
  refine q_bitCount0 ?_
  have hl : msk p n < 4096 := by
    have := msk_lt p n
    have : 2 ^ n ≤ 2 ^ 12 := Nat.pow_le_pow_right (by omega) hn
    omega
  rw [bcF_pcb _ hl, pcb_cnt, cnt_congr (q := fun i => i < n ∧ p i) (fun i _ => msk_in), show 12 = n + (12 - n) by omega, cnt_cut]
  exact h
