-- orders, ahead: all orders by sets
theorem xo_bit {b p i : Nat} : (b ^^^ 2 ^ p).testBit i = true ↔ ((b.testBit i = true ∧ i ≠ p) ∨ (b.testBit i = false ∧ i = p)) := by
  rw [Nat.testBit_xor, Nat.testBit_two_pow]
  by_cases e : i = p
  · subst e; cases b.testBit i <;> simp
  · have e' : ¬ p = i := fun q => e q.symm
    cases b.testBit i <;> simp [e, e']
theorem xo_lt {b p : Nat} (h : b.testBit p = true) : b ^^^ 2 ^ p < b := by
  have e : (b ^^^ 2 ^ p) &&& b = b ^^^ 2 ^ p := by
    apply Nat.eq_of_testBit_eq
    intro i
    rw [Nat.testBit_and, Bool.eq_iff_iff, Bool.and_eq_true, xo_bit]
    refine ⟨fun q => q.1, fun q => ⟨q, ?_⟩⟩
    rcases q with q | q
    · exact q.1
    · rw [q.2]; exact h
  have le : b ^^^ 2 ^ p ≤ b := by
    have := @Nat.and_le_right (b ^^^ 2 ^ p) b
    rw [e] at this
    exact this
  refine Nat.lt_of_le_of_ne le (fun q => ?_)
  have t : (b ^^^ 2 ^ p).testBit p = true := by rw [q]; exact h
  rcases xo_bit.mp t with x | x
  · exact x.2 rfl
  · rw [h] at x; exact absurd x.1 (by decide)
theorem xo_xo {b p : Nat} : (b ^^^ 2 ^ p) ^^^ 2 ^ p = b := by rw [Nat.xor_assoc, Nat.xor_self, Nat.xor_zero]
theorem xo_hi {b p n : Nat} (hb : b < 2 ^ n) (hp : p < n) : b ^^^ 2 ^ p < 2 ^ n := Nat.xor_lt_two_pow hb (Nat.pow_lt_pow_right (by omega) hp)
theorem xo_rm {b p n : Nat} (hb : b < 2 ^ n) (h : b.testBit p = true) : nI b &&& (nI (2 ^ p) ^^^ (-1)) = nI (b ^^^ 2 ^ p) := by
  have e := m_not (p := fun i => b.testBit i = true) (n := n) (m := 2 ^ p)
  rw [msk_self hb] at e
  rw [e]
  congr 1
  apply Nat.eq_of_testBit_eq
  intro i
  rw [Bool.eq_iff_iff, msk_in, xo_bit]
  constructor
  · rintro ⟨_, q1, q2⟩
    exact Or.inl ⟨q1, fun z => by rw [z, Nat.testBit_two_pow_self] at q2; exact absurd q2 (by decide)⟩
  · rintro (⟨q1, q2⟩ | ⟨q1, q2⟩)
    · refine ⟨?_, q1, Nat.testBit_two_pow_of_ne (fun z => q2 z.symm)⟩
      rcases Nat.lt_or_ge i n with y | y
      · exact y
      · rw [Nat.testBit_lt_two_pow (Nat.lt_of_lt_of_le hb (Nat.pow_le_pow_right (by omega) y))] at q1
        exact absurd q1 (by decide)
    · rw [q2, h] at q1; exact absurd q1 (by decide)
theorem xo_or {b p n : Nat} (hb : b < 2 ^ n) (hp : p < n) (h : b.testBit p = false) : nI b ||| nI (2 ^ p) = nI (b ^^^ 2 ^ p) := by
  have e := m_ors (p := fun i => b.testBit i = true) (q := fun i => i = p) (n := n)
  rw [msk_self hb, ← m_one hp] at e
  rw [e]
  congr 1
  apply Nat.eq_of_testBit_eq
  intro i
  rw [Bool.eq_iff_iff, msk_in, xo_bit]
  constructor
  · rintro ⟨_, q1 | q1⟩
    · exact Or.inl ⟨q1, fun z => by rw [z, h] at q1; exact absurd q1 (by decide)⟩
    · exact Or.inr ⟨by rw [q1]; exact h, q1⟩
  · rintro (⟨q1, q2⟩ | ⟨q1, q2⟩)
    · refine ⟨?_, Or.inl q1⟩
      rcases Nat.lt_or_ge i n with y | y
      · exact y
      · rw [Nat.testBit_lt_two_pow (Nat.lt_of_lt_of_le hb (Nat.pow_le_pow_right (by omega) y))] at q1
        exact absurd q1 (by decide)
    · exact ⟨by omega, Or.inr q2⟩
/-- the needs of a place lie in a set -/
def oOk (D : Nat → Nat → Prop) (p b : Nat) : Prop := ∀ q, D p q → b.testBit q = true
noncomputable def oW (D : Nat → Nat → Prop) (P : Nat) (b : Nat) : Nat :=
  if b = 0 then 1 else sumN (fun p => if h : b.testBit p = true then i1 (oOk D p (b ^^^ 2 ^ p)) * oW D P (b ^^^ 2 ^ p) else 0) P
termination_by b
decreasing_by exact xo_lt h
theorem oW_0 {D : Nat → Nat → Prop} {P : Nat} : oW D P 0 = 1 := by rw [oW, if_pos rfl]
theorem oW_eq {D : Nat → Nat → Prop} {P b : Nat} (h : b ≠ 0) : oW D P b = sumN (fun p => i1 (b.testBit p = true ∧ oOk D p (b ^^^ 2 ^ p)) * oW D P (b ^^^ 2 ^ p)) P := by
  rw [oW, if_neg h]
  refine sumN_congr (fun p _ => ?_)
  by_cases z : b.testBit p = true
  · rw [dif_pos z]
    by_cases y : oOk D p (b ^^^ 2 ^ p)
    · rw [i1_y y, i1_y ⟨z, y⟩]
    · rw [i1_n y, i1_n (fun q => y q.2)]
  · rw [dif_neg z, i1_n (fun q => z q.1), Nat.zero_mul]
def fct : Nat → Nat
  | 0 => 1
  | n + 1 => (n + 1) * fct n
theorem fct_pos : ∀ n, 0 < fct n
  | 0 => by decide
  | n + 1 => Nat.mul_pos (by omega) (fct_pos n)
theorem fct_mono {m : Nat} : ∀ {n}, m ≤ n → fct m ≤ fct n
  | 0, h => by rw [show m = 0 by omega]; exact Nat.le_refl _
  | n + 1, h => by
    by_cases e : m = n + 1
    · rw [e]; exact Nat.le_refl _
    · exact Nat.le_trans (fct_mono (n := n) (by omega)) (Nat.le_mul_of_pos_left _ (by omega))
theorem sumN_cnt {q : Nat → Prop} {K : Nat} : ∀ {n}, sumN (fun p => i1 (q p) * K) n = cnt q n * K
  | 0 => by rw [sumN, cnt, Nat.zero_mul]
  | n + 1 => by
    rw [sumN, sumN_cnt]
    by_cases h : q n
    · rw [i1_y h, cnt_s h, Nat.add_mul]
    · rw [i1_n h, cnt_n h, Nat.zero_mul, Nat.add_zero]
theorem sumN_mono {o u : Nat → Nat} : ∀ {n}, (∀ i, i < n → o i ≤ u i) → sumN o n ≤ sumN u n
  | 0, _ => Nat.le_refl _
  | n + 1, h => by rw [sumN, sumN]; exact Nat.add_le_add (sumN_mono (fun i hi => h i (by omega))) (h n (by omega))
theorem oW_le {D : Nat → Nat → Prop} {P : Nat} : ∀ N b, b < N → oW D P b ≤ fct (cnt (fun i => b.testBit i = true) P) := by
  intro N
  induction N with
  | zero => intro b h; omega
  | succ N ih =>
    intro b hb
    by_cases z : b = 0
    · rw [z, oW_0]; exact fct_pos _
    · rw [oW_eq z]
      refine Nat.le_trans (sumN_mono (u := fun p => i1 (b.testBit p = true) * fct (cnt (fun i => b.testBit i = true) P - 1)) (fun p hp => ?_)) ?_
      · by_cases y : b.testBit p = true
        · rw [i1_y y, Nat.one_mul]
          have c := cnt_one (p := fun i => b.testBit i = true) (q := fun i => (b ^^^ 2 ^ p).testBit i = true) (n := p) y (by show ¬ _; rw [xo_bit]; rintro (⟨_, q⟩ | ⟨q, _⟩); exact q rfl; rw [y] at q; exact absurd q (by decide)) (fun i hi => by show b.testBit i = true ↔ (b ^^^ 2 ^ p).testBit i = true; rw [xo_bit]; exact ⟨fun q => Or.inl ⟨q, hi⟩, fun q => q.elim (fun q => q.1) (fun q => absurd q.2 hi)⟩) hp
          rw [c, Nat.add_sub_cancel]
          have := ih (b ^^^ 2 ^ p) (by have := xo_lt y; omega)
          exact Nat.le_trans (Nat.le_trans (Nat.mul_le_mul_right _ (i1_le _)) (by rw [Nat.one_mul]; exact Nat.le_refl _)) this
        · rw [i1_n (fun q => y q.1), Nat.zero_mul]; exact Nat.zero_le _
      · rw [sumN_cnt]
        cases c : cnt (fun i => b.testBit i = true) P with
        | zero => rw [Nat.zero_mul]; exact Nat.zero_le _
        | succ c => rw [Nat.add_sub_cancel]; exact Nat.le_refl _
theorem oW_lt {D : Nat → Nat → Prop} {P b : Nat} (hP : P ≤ 14) : oW D P b < 8796093022208 := by
  have a := oW_le (D := D) (P := P) (b + 1) b (by omega)
  have c := fct_mono (m := cnt (fun i => b.testBit i = true) P) (n := 14) (by have := cnt_le (fun i => b.testBit i = true) P; omega)
  have : fct 14 = 87178291200 := by decide
  omega
/-- the table while sets grow: all of b's forerunners, and b's own places below p, have been counted -/
noncomputable def oU (D : Nat → Nat → Prop) (P b p c : Nat) : Nat := if c = 0 then 1 else sumN (fun q => i1 ((c.testBit q = true ∧ oOk D q (c ^^^ 2 ^ q)) ∧ (c ^^^ 2 ^ q < b ∨ (c ^^^ 2 ^ q = b ∧ q < p))) * oW D P (c ^^^ 2 ^ q)) P
theorem oU_self {D : Nat → Nat → Prop} {P b : Nat} : oU D P b 0 b = oW D P b := by
  unfold oU
  by_cases z : b = 0
  · rw [if_pos z, z, oW_0]
  · rw [if_neg z, oW_eq z]
    refine sumN_congr (fun p _ => ?_)
    by_cases y : b.testBit p = true ∧ oOk D p (b ^^^ 2 ^ p)
    · rw [i1_y y, i1_y ⟨y, Or.inl (xo_lt y.1)⟩]
    · rw [i1_n y, i1_n (fun q => y q.1)]
theorem oU_0 {D : Nat → Nat → Prop} {P c : Nat} : oU D P 0 0 c = if c = 0 then 1 else 0 := by
  unfold oU
  by_cases z : c = 0
  · rw [if_pos z, if_pos z]
  · rw [if_neg z, if_neg z, sumN_congr (u := fun _ => 0) (fun i _ => by rw [i1_n (fun q => q.2.elim (fun q => by omega) (fun q => by omega)), Nat.zero_mul]), sumN_0]
theorem oU_P {D : Nat → Nat → Prop} {P b c : Nat} : oU D P b P c = oU D P (b + 1) 0 c := by
  unfold oU
  by_cases z : c = 0
  · rw [if_pos z, if_pos z]
  · rw [if_neg z, if_neg z]
    refine sumN_congr (fun q hq => ?_)
    congr 2
    exact propext ⟨fun x => ⟨x.1, by have := x.2; omega⟩, fun x => ⟨x.1, by have := x.2; omega⟩⟩
theorem oU_skip {D : Nat → Nat → Prop} {P b c : Nat} (h : oW D P b = 0) : oU D P (b + 1) 0 c = oU D P b 0 c := by
  unfold oU
  by_cases z : c = 0
  · rw [if_pos z, if_pos z]
  · rw [if_neg z, if_neg z]
    refine sumN_congr (fun q hq => ?_)
    by_cases e : c ^^^ 2 ^ q = b
    · rw [e, h, Nat.mul_zero, Nat.mul_zero]
    · congr 2
      exact propext ⟨fun x => ⟨x.1, by have := x.2; omega⟩, fun x => ⟨x.1, by have := x.2; omega⟩⟩
theorem sumN_upd {f g : Nat → Nat} {j d : Nat} (hj : f j = g j + d) (h : ∀ i, i ≠ j → f i = g i) : ∀ {n}, j < n → sumN f n = sumN g n + d
  | n + 1, hn => by
    rw [sumN, sumN]
    by_cases e : j = n
    · subst e
      rw [sumN_congr (u := g) (fun i hi => h i (by omega)), hj]; omega
    · rw [sumN_upd hj h (n := n) (by omega), h n (fun q => e q.symm)]; omega
theorem oU_s {D : Nat → Nat → Prop} {P b p : Nat} (hp : p < P) (hb : b.testBit p = false) (ho : oOk D p b) (c : Nat) : oU D P b (p + 1) c = if c = b ^^^ 2 ^ p then oU D P b p c + oW D P b else oU D P b p c := by
  by_cases e : c = b ^^^ 2 ^ p
  · rw [if_pos e]
    subst e
    have tb : (b ^^^ 2 ^ p).testBit p = true := xo_bit.mpr (Or.inr ⟨hb, rfl⟩)
    have nz : b ^^^ 2 ^ p ≠ 0 := fun q => by rw [q, Nat.zero_testBit] at tb; exact absurd tb (by decide)
    unfold oU
    rw [if_neg nz, if_neg nz]
    refine sumN_upd (j := p) ?_ (fun i hi => ?_) hp
    · show i1 _ * _ = i1 _ * _ + _
      rw [xo_xo, i1_y ⟨⟨tb, ho⟩, Or.inr ⟨rfl, by omega⟩⟩, i1_n (fun q => by have := q.2; omega)]
      omega
    · show i1 _ * _ = i1 _ * _
      congr 2
      exact propext ⟨fun x => ⟨x.1, by have := x.2; omega⟩, fun x => ⟨x.1, by have := x.2; omega⟩⟩
  · rw [if_neg e]
    unfold oU
    by_cases z : c = 0
    · rw [if_pos z, if_pos z]
    · rw [if_neg z, if_neg z]
      refine sumN_congr (fun q hq => ?_)
      congr 2
      refine propext ⟨fun x => ⟨x.1, ?_⟩, fun x => ⟨x.1, by have := x.2; omega⟩⟩
      rcases x.2 with y | ⟨y1, y2⟩
      · exact Or.inl y
      · refine Or.inr ⟨y1, ?_⟩
        by_cases w : q = p
        · subst w
          exact absurd (by rw [← y1, xo_xo]) e
        · omega
theorem oU_n {D : Nat → Nat → Prop} {P b p : Nat} (h : ¬ (b.testBit p = false ∧ oOk D p b)) (c : Nat) : oU D P b (p + 1) c = oU D P b p c := by
  unfold oU
  by_cases z : c = 0
  · rw [if_pos z, if_pos z]
  · rw [if_neg z, if_neg z]
    refine sumN_congr (fun q hq => ?_)
    congr 2
    refine propext ⟨fun x => ⟨x.1, ?_⟩, fun x => ⟨x.1, by have := x.2; omega⟩⟩
    rcases x.2 with y | ⟨y1, y2⟩
    · exact Or.inl y
    · refine Or.inr ⟨y1, ?_⟩
      by_cases w : q = p
      · subst w
        refine absurd ⟨?_, ?_⟩ h
        · rw [← y1]
          cases hh : (c ^^^ 2 ^ q).testBit q with
          | false => rfl
          | true =>
            rcases xo_bit.mp hh with k | k
            · exact absurd rfl k.2
            · rw [x.1.1] at k; exact absurd k.1 (by decide)
        · rw [← y1]; exact x.1.2
      · omega
theorem lgc_0 {n : Nat} (h : n < 9223372036854775808) : lg_cmp (lN n) 0 = 0 ↔ n = 0 := by rw [pf_lgc_eq, lN_z h]
theorem c_z : Int32.toNatClampNeg 0 = 0 := rfl
theorem q_number {I : sI} {J : sJ} {post : Int64 → sI → sJ → Prop} {D : Nat → Nat → Prop} {P : Nat} (hP : P ≤ 14) (e2 : I 224 2 = nI P) (hD : ∀ p q, D p q → q < 14) (hn : ∀ p, p < P → I 226 p = nI (msk (D p) 14)) (h : ∀ J2 : sJ, (∀ q, ¬ q = 225 → J2 q = J q) → post (lN (oW D P (2 ^ P - 1))) I J2) : w_X3_number I J post := by
  have h14 : 2 ^ P ≤ 16384 := Nat.pow_le_pow_right (n := 2) (by omega) hP
  have h1 : 1 ≤ 2 ^ P := Nat.one_le_two_pow
  have grow : ∀ (K : sI → sJ → Prop) b, b < 2 ^ P - 1 → (∀ J3 : sJ, (∀ q, ¬ q = 225 → J3 q = J q) → (∀ c, c < 2 ^ P → J3 225 c = lN (oU D P (b + 1) 0 c)) → K I J3) → ∀ m p (J3 : sJ), p ≤ P → P - p < m → (∀ q, ¬ q = 225 → J3 q = J q) → (∀ c, c < 2 ^ P → J3 225 c = lN (oU D P b p c)) → w_X3_grow_2_n K m (nI b) (nI p) I J3 := by
    intro K b hb hk m
    induction m with
    | zero => intro p _ _ h; omega
    | succ m ih =>
      intro p J3 hp hm r3 j3
      show w_X3_grow_2_s K (w_X3_grow_2_n K m) (nI b) (nI p) I J3
      unfold w_X3_grow_2_s w_X3_grow_50
      rw [e2, pf_le (by omega) (by omega), nI_1]
      refine ⟨fun e => ?_, fun e => ?_⟩
      · rw [show p = P by omega] at j3
        refine hk J3 r3 (fun c hc => ?_)
        rw [j3 c hc, oU_P]
      · have no : ¬ (b.testBit p = false ∧ oOk D p b) → ∀ v : Int32, v = nI (p + 1) → w_X3_grow_2_n K m (nI b) v I J3 := by
          rintro y _ rfl
          refine ih (p + 1) J3 (by omega) (by omega) r3 (fun c hc => ?_)
          rw [j3 c hc, oU_n y]
        rw [m_shr (by omega) (by omega), pf_cl (by omega), hn p (by omega)]
        cases tb : b.testBit p with
        | true =>
          refine b3 (by decide) (no (fun q => by rw [tb] at q; exact absurd q.1 (by decide)))
        | false =>
          refine b4 (by decide) ⟨vp_in_nI (by omega) (by omega), ?_⟩
          rw [m_not, m_eq0 (by omega), sh1 p (by omega)]
          have ok : (∀ i, i < 14 → ¬ (D p i ∧ b.testBit i = false)) ↔ oOk D p b := by
            constructor
            · intro q i hi
              have := q i (hD p i hi)
              cases x : b.testBit i with
              | true => rfl
              | false => exact absurd ⟨hi, x⟩ this
            · rintro q i _ ⟨x, y⟩
              rw [q i x] at y; exact absurd y (by decide)
          rw [ok, xo_or (n := P) (by omega) (by omega) tb]
          have xh := xo_hi (b := b) (p := p) (n := P) (by omega) (by omega)
          refine ⟨fun q => no (fun z => q z.2), fun q => ⟨vp_in_nI (by omega) (by omega), vp_in_nI (by omega) (by omega), vp_in_nI (by omega) (by omega), ?_⟩⟩
          rw [pf_cl (by omega), pf_cl (by omega), j3 _ xh, j3 b (by omega), lN_add]
          rintro _ rfl _ rfl
          have ne : b ≠ b ^^^ 2 ^ p := fun z => by
            have t2 : (b ^^^ 2 ^ p).testBit p = true := xo_bit.mpr (Or.inr ⟨tb, rfl⟩)
            rw [← z, tb] at t2; exact absurd t2 (by decide)
          have ub : ∀ k, k ≤ p → oU D P b k b = oW D P b := by
            intro k
            induction k with
            | zero => intro _; exact oU_self
            | succ k ihk =>
              intro hk
              rw [← ihk (by omega)]
              by_cases y : b.testBit k = false ∧ oOk D k b
              · rw [oU_s (by omega) y.1 y.2, if_neg]
                intro z
                have t2 : (b ^^^ 2 ^ k).testBit k = true := xo_bit.mpr (Or.inr ⟨y.1, rfl⟩)
                rw [← z, y.1] at t2; exact absurd t2 (by decide)
              · rw [oU_n y]
          refine ih (p + 1) _ (by omega) (by omega) (fun q hq => ?_) (fun c hc => ?_)
          · funext k; rw [pf_uj, if_neg (by omega), r3 q hq]
          · rw [pf_ujs, oU_s (by omega) tb q]
            by_cases z : c = b ^^^ 2 ^ p
            · rw [if_pos z, if_pos z, ub p (by omega), z]
            · rw [if_neg z, if_neg z, j3 c hc]
  have main : ∀ m b (J3 : sJ), b ≤ 2 ^ P - 1 → 2 ^ P - 1 - b < m → (∀ q, ¬ q = 225 → J3 q = J q) → (∀ c, c < 2 ^ P → J3 225 c = lN (oU D P b 0 c)) → w_X3_number_36_n post m (nI (2 ^ P)) (nI b) I J3 := by
    intro m
    induction m with
    | zero => intro p _ _ h; omega
    | succ m ih =>
      intro b J3 hb hm r3 j3
      show w_X3_number_36_s post (w_X3_number_36_n post m) (nI (2 ^ P)) (nI b) I J3
      unfold w_X3_number_36_s w_X3_number_59
      rw [nI_1, nI_p h1, pf_le (by omega) (by omega), pf_cl (by omega), pf_cl (by omega), j3 b (by omega), oU_self, j3 (2 ^ P - 1) (by omega)]
      refine ⟨fun e => ⟨vp_in_nI (by omega) (by omega), ?_⟩, fun e => ⟨vp_in_nI (by omega) (by omega), ?_⟩⟩
      · rw [show b = 2 ^ P - 1 by omega, oU_self]
        exact h J3 r3
      · have lt := oW_lt (D := D) (P := P) (b := b) hP
        rw [lgc_0 (by omega)]
        refine ⟨fun z => ?_, fun z => ?_⟩
        · rintro _ rfl
          exact ih (b + 1) J3 (by omega) (by omega) r3 (fun c hc => by rw [j3 c hc, oU_skip z])
        · refine ⟨P + 1, grow _ b (by omega) (fun J4 r4 j4 => ?_) (P + 1) 0 J3 (by omega) (by omega) r3 j3⟩
          rintro _ rfl
          exact ih (b + 1) J4 (by omega) (by omega) r4 j4
  have clr : ∀ m b (J3 : sJ), b ≤ 2 ^ P → 2 ^ P - b < m → (∀ q, ¬ q = 225 → J3 q = J q) → (∀ c, c < b → J3 225 c = 0) → w_X3_number_9_n post m (nI (2 ^ P)) (nI b) I J3 := by
    intro m
    induction m with
    | zero => intro p _ _ h; omega
    | succ m ih =>
      intro b J3 hb hm r3 j3
      show w_X3_number_9_s post (w_X3_number_9_n post m) (nI (2 ^ P)) (nI b) I J3
      unfold w_X3_number_9_s
      rw [pf_le (by omega) (by omega), pf_cl (by omega), nI_1, c_z]
      refine ⟨fun e => ⟨vp_in_nI (n := 0) (by omega) (by omega), ?_⟩, fun e => ⟨vp_in_nI (by omega) (by omega), ?_⟩⟩
      · rintro _ rfl
        refine ⟨2 ^ P, main (2 ^ P) 0 _ (by omega) (by omega) (fun q hq => ?_) (fun c hc => ?_)⟩
        · funext k; rw [pf_uj, if_neg (by omega), r3 q hq]
        · rw [pf_ujs, oU_0]
          by_cases z : c = 0
          · rw [if_pos z, if_pos z]; rfl
          · rw [if_neg z, if_neg z, j3 c (by omega)]; rfl
      · rintro _ rfl _ rfl
        refine ih (b + 1) _ (by omega) (by omega) (fun q hq => ?_) (fun c hc => ?_)
        · funext k; rw [pf_uj, if_neg (by omega), r3 q hq]
        · rw [pf_ujs]
          by_cases z : c = b
          · rw [if_pos z]
          · rw [if_neg z, j3 c (by omega)]
  unfold w_X3_number
  rw [e2, sh1 P (by omega)]
  rintro _ rfl
  exact ⟨2 ^ P + 1, clr (2 ^ P + 1) 0 J (by omega) (by omega) (fun _ _ => rfl) (fun c hc => by omega)⟩
