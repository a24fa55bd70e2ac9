-- codes of readings: four bits for each kind
def sf (k : Nat) : Nat := 4 * (11 - k)
def nb (c k : Nat) : Nat := c / 2 ^ sf k % 16
theorem nb_bit {c k r : Nat} : (nb c k).testBit r = (decide (r < 4) && c.testBit (sf k + r)) := by
  unfold nb
  rw [show (16 : Nat) = 2 ^ 4 from rfl, Nat.testBit_mod_two_pow, Nat.testBit_div_two_pow, Nat.add_comm]
theorem nb_lt {c k : Nat} : nb c k < 16 := Nat.mod_lt _ (by decide)
theorem nb_0 {k : Nat} : nb 0 k = 0 := by unfold nb; rw [Nat.zero_div]
theorem nb_or {c d k : Nat} : nb (c ||| d) k = nb c k ||| nb d k := by
  apply Nat.eq_of_testBit_eq
  intro r
  rw [Nat.testBit_or, nb_bit, nb_bit, nb_bit, Nat.testBit_or]
  cases decide (r < 4) <;> simp
theorem nb_and {c d k : Nat} : nb (c &&& d) k = nb c k &&& nb d k := by
  apply Nat.eq_of_testBit_eq
  intro r
  rw [Nat.testBit_and, nb_bit, nb_bit, nb_bit, Nat.testBit_and]
  cases decide (r < 4) <;> simp
theorem nb_xor {c d k : Nat} : nb (c ^^^ d) k = nb c k ^^^ nb d k := by
  apply Nat.eq_of_testBit_eq
  intro r
  rw [Nat.testBit_xor, nb_bit, nb_bit, nb_bit, Nat.testBit_xor]
  cases decide (r < 4) <;> simp
theorem nb_ext {c d : Nat} (hc : c < 2 ^ 48) (hd : d < 2 ^ 48) (h : ∀ k, k < 12 → nb c k = nb d k) : c = d := by
  apply Nat.eq_of_testBit_eq
  intro i
  rcases Nat.lt_or_ge i 48 with z | z
  · have a := congrArg (fun x => x.testBit (i % 4)) (h (11 - i / 4) (by omega))
    have a : (nb c (11 - i / 4)).testBit (i % 4) = (nb d (11 - i / 4)).testBit (i % 4) := a
    rw [nb_bit, nb_bit, decide_eq_true (show i % 4 < 4 by omega), Bool.true_and, Bool.true_and, show sf (11 - i / 4) + i % 4 = i by unfold sf; omega] at a
    exact a
  · rw [Nat.testBit_lt_two_pow (Nat.lt_of_lt_of_le hc (Nat.pow_le_pow_right (by omega) z)), Nat.testBit_lt_two_pow (Nat.lt_of_lt_of_le hd (Nat.pow_le_pow_right (by omega) z))]
def pt (k v : Nat) : Nat := v * 2 ^ sf k
theorem nb_pt {j k v : Nat} (hk : k < 12) (hj : j < 12) (hv : v < 16) : nb (pt k v) j = if j = k then v else 0 := by
  apply Nat.eq_of_testBit_eq
  intro r
  unfold pt
  rw [nb_bit, ← Nat.shiftLeft_eq, Nat.testBit_shiftLeft]
  have big : ∀ m, 4 ≤ m → v.testBit m = false := fun m hm => Nat.testBit_lt_two_pow (Nat.lt_of_lt_of_le hv (Nat.pow_le_pow_right (n := 2) (i := 4) (by omega) hm))
  by_cases r4 : r < 4
  · rw [decide_eq_true r4, Bool.true_and]
    by_cases e : j = k
    · rw [if_pos e, e, decide_eq_true (show sf k + r ≥ sf k by omega), Bool.true_and, Nat.add_sub_cancel_left]
    · rw [if_neg e, Nat.zero_testBit]
      by_cases g : sf j + r ≥ sf k
      · rw [big _ (by unfold sf at *; omega), Bool.and_false]
      · rw [decide_eq_false g, Bool.false_and]
  · rw [decide_eq_false r4, Bool.false_and]
    split
    · rw [big r (by omega)]
    · rw [Nat.zero_testBit]
theorem pt_lt {k v : Nat} (hk : k < 12) (hv : v < 16) : pt k v < 2 ^ 48 := by
  unfold pt
  have a : 2 ^ sf k ≤ 2 ^ 44 := Nat.pow_le_pow_right (by omega) (by unfold sf; omega)
  have b : v * 2 ^ sf k ≤ 15 * 2 ^ 44 := Nat.mul_le_mul (by omega) a
  have : (15 : Nat) * 2 ^ 44 < 2 ^ 48 := by decide
  omega
theorem or_lt {c d : Nat} (hc : c < 2 ^ 48) (hd : d < 2 ^ 48) : c ||| d < 2 ^ 48 := Nat.or_lt_two_pow hc hd
theorem nb_set {c j k v : Nat} (hk : k < 12) (hj : j < 12) (hv : v < 16) (h : nb c k = 0) : nb (c ||| pt k v) j = if j = k then v else nb c j := by
  rw [nb_or, nb_pt hk hj hv]
  by_cases e : j = k
  · rw [if_pos e, if_pos e, e, h, Nat.zero_or]
  · rw [if_neg e, if_neg e, Nat.or_zero]
theorem nb_same {c k v : Nat} (hc : c < 2 ^ 48) (hk : k < 12) (hv : v < 16) (h : nb c k = v) : c ||| pt k v = c := by
  apply nb_ext (or_lt hc (pt_lt hk hv)) hc
  intro j hj
  rw [nb_or, nb_pt hk hj hv]
  by_cases e : j = k
  · rw [if_pos e, e, h, Nat.or_self]
  · rw [if_neg e, Nat.or_zero]
noncomputable def usd (c l : Nat) : Nat := cnt (fun k => nb c k = l + 1) 12
theorem usd_le {c l : Nat} : usd c l ≤ 12 := cnt_le _ _
theorem usd_0 {l : Nat} : usd 0 l = 0 := cnt_0 (fun k _ => by rw [nb_0]; omega)
theorem usd_set {c k l m : Nat} (hk : k < 12) (hl : l < 8) (h : nb c k = 0) : usd (c ||| pt k (l + 1)) m = if m = l then usd c m + 1 else usd c m := by
  unfold usd
  by_cases e : m = l
  · rw [if_pos e]
    subst e
    rw [cnt_congr (q := fun j => nb c j = m + 1 ∨ j = k) (fun j hj => by rw [nb_set hk hj (by omega) h]; by_cases x : j = k; rw [if_pos x]; exact ⟨fun _ => Or.inr x, fun _ => rfl⟩; rw [if_neg x]; exact ⟨Or.inl, fun y => y.elim id (fun y => absurd y x)⟩)]
    exact cnt_one (n := k) (Or.inr rfl) (by show ¬ nb c k = m + 1; omega) (fun i hi => ⟨fun y => y.elim id (fun y => absurd y hi), Or.inl⟩) hk
  · rw [if_neg e]
    refine cnt_congr (fun j hj => ?_)
    rw [nb_set hk hj (by omega) h]
    by_cases x : j = k
    · rw [if_pos x, x, h]; omega
    · rw [if_neg x]
/-- one sign and its letter -/
noncomputable def stp (h d k l : Nat) : Option Nat := if k = 12 then some d else if nb d k = 0 then (if h ≤ usd d l then none else some (d ||| pt k (l + 1))) else if nb d k = l + 1 then some d else none
noncomputable def ftF (h : Nat) (kd wd : Nat → Nat) (c : Nat) : Nat → Option Nat
  | 0 => some c
  | i + 1 => match ftF h kd wd c i with
    | none => none
    | some d => stp h d (kd i) (wd i)
theorem ft_s {h c i d : Nat} {kd wd : Nat → Nat} (e : ftF h kd wd c i = some d) : ftF h kd wd c (i + 1) = stp h d (kd i) (wd i) := by rw [ftF, e]
theorem ft_n {h c i : Nat} {kd wd : Nat → Nat} (e : ftF h kd wd c i = none) : ftF h kd wd c (i + 1) = none := by rw [ftF, e]
theorem ft_none {h c i : Nat} {kd wd : Nat → Nat} (e : ftF h kd wd c i = none) : ∀ j, ftF h kd wd c (i + j) = none
  | 0 => e
  | j + 1 => ft_n (ft_none e j)
def sgO (z : Nat) (kd wd : Nat → Nat) : Prop := ∀ i, i < z → kd i ≤ 12 ∧ wd i < 8
def ftD (h : Nat) (kd wd : Nat → Nat) (c d i : Nat) : Prop := d < 2 ^ 48 ∧ (∀ k, k < 12 → nb c k ≠ 0 → nb d k = nb c k) ∧ (∀ k, k < 12 → nb c k = 0 → (∀ j, j < i → kd j ≠ k) → nb d k = 0) ∧ (∀ j, j < i → kd j ≠ 12 → nb d (kd j) = wd j + 1) ∧ ((∀ l, l < 8 → usd c l ≤ h) → ∀ l, l < 8 → usd d l ≤ h)
theorem ft_D {h z c : Nat} {kd wd : Nat → Nat} (hz : sgO z kd wd) (hc : c < 2 ^ 48) : ∀ {i d}, i ≤ z → ftF h kd wd c i = some d → ftD h kd wd c d i := by
  intro i
  induction i with
  | zero =>
    intro d _ e
    rw [ftF] at e
    cases e
    exact ⟨hc, fun k _ _ => rfl, fun k _ x _ => x, fun j hj => by omega, fun x => x⟩
  | succ i ih =>
    intro d hi e
    obtain ⟨k1, l1⟩ := hz i (by omega)
    cases f : ftF h kd wd c i with
    | none => rw [ft_n f] at e; cases e
    | some d0 =>
      obtain ⟨a1, a2, a3, a4, a5⟩ := ih (by omega) f
      rw [ft_s f, stp] at e
      by_cases w : kd i = 12
      · rw [if_pos w] at e
        cases e
        refine ⟨a1, a2, fun k hk x y => a3 k hk x (fun j hj => y j (by omega)), fun j hj x => ?_, a5⟩
        by_cases ej : j = i
        · rw [ej] at x; exact absurd w x
        · exact a4 j (by omega) x
      · rw [if_neg w] at e
        by_cases n0 : nb d0 (kd i) = 0
        · rw [if_pos n0] at e
          by_cases us : h ≤ usd d0 (wd i)
          · rw [if_pos us] at e; cases e
          · rw [if_neg us] at e
            cases e
            have ns : ∀ k, k < 12 → nb (d0 ||| pt (kd i) (wd i + 1)) k = if k = kd i then wd i + 1 else nb d0 k := fun k hk => nb_set (by omega) hk (by omega) n0
            refine ⟨or_lt a1 (pt_lt (by omega) (by omega)), fun k hk x => ?_, fun k hk x y => ?_, fun j hj x => ?_, fun x l hl => ?_⟩
            · rw [ns k hk]
              by_cases ek : k = kd i
              · have := a2 k hk x; rw [ek] at this x; omega
              · rw [if_neg ek]; exact a2 k hk x
            · rw [ns k hk, if_neg (fun ek => y i (by omega) ek.symm)]
              exact a3 k hk x (fun j hj => y j (by omega))
            · have kj := (hz j (by omega)).1
              rw [ns _ (by omega)]
              by_cases ek : kd j = kd i
              · by_cases ej : j = i
                · rw [if_pos ek, ej]
                · have := a4 j (by omega) x
                  rw [ek] at this
                  omega
              · rw [if_neg ek]
                exact a4 j (by have : j ≠ i := fun q => ek (by rw [q]); omega) x
            · rw [usd_set (by omega) l1 n0]
              have := a5 x l hl
              by_cases el : l = wd i
              · rw [if_pos el]
                rw [el] at this ⊢
                omega
              · rw [if_neg el]; exact this
        · rw [if_neg n0] at e
          by_cases n1 : nb d0 (kd i) = wd i + 1
          · rw [if_pos n1] at e
            cases e
            refine ⟨a1, a2, fun k hk x y => a3 k hk x (fun j hj => y j (by omega)), fun j hj x => ?_, a5⟩
            by_cases ej : j = i
            · rw [ej]; exact n1
            · exact a4 j (by omega) x
          · rw [if_neg n1] at e; cases e
/-- a code that has what another has -/
def sub (c d : Nat) : Prop := ∀ k, k < 12 → nb c k ≠ 0 → nb d k = nb c k
theorem usd_sub {c d k l : Nat} (h : sub c d) (hk : k < 12) (h0 : nb c k = 0) (h1 : nb d k = l + 1) : usd c l < usd d l := by
  unfold usd
  refine cnt_lt (k := k) h1 (fun q => ?_) hk (fun i hi q => ?_)
  · rw [h0] at q; omega
  · rw [h i hi (by omega)]; exact q
theorem ft_E {h z c d : Nat} {kd wd : Nat → Nat} (hz : sgO z kd wd) (hc : c < 2 ^ 48) (h1 : sub c d) (h3 : ∀ l, l < 8 → usd d l ≤ h) : ∀ {i}, i ≤ z → (∀ j, j < i → kd j ≠ 12 → nb d (kd j) = wd j + 1) → ∃ d0, ftF h kd wd c i = some d0 ∧ sub d0 d := by
  intro i
  induction i with
  | zero => intro _ _; exact ⟨c, rfl, h1⟩
  | succ i ih =>
    intro hi h2
    obtain ⟨k1, l1⟩ := hz i (by omega)
    obtain ⟨d0, e, s0⟩ := ih (by omega) (fun j hj => h2 j (by omega))
    rw [ft_s e, stp]
    by_cases w : kd i = 12
    · rw [if_pos w]; exact ⟨d0, rfl, s0⟩
    · rw [if_neg w]
      have di := h2 i (by omega) w
      by_cases n0 : nb d0 (kd i) = 0
      · rw [if_pos n0]
        have lt := usd_sub s0 (show kd i < 12 by omega) n0 di
        have le := h3 (wd i) l1
        rw [if_neg (by omega)]
        refine ⟨_, rfl, fun k hk x => ?_⟩
        rw [nb_set (by omega) hk (by omega) n0] at x ⊢
        by_cases ek : k = kd i
        · rw [if_pos ek, ek]; exact di
        · rw [if_neg ek] at x ⊢; exact s0 k hk x
      · rw [if_neg n0]
        have := s0 (kd i) (by omega) n0
        rw [if_pos (by omega)]
        exact ⟨d0, rfl, s0⟩
/-- the kinds of a group -/
def ownK (z : Nat) (kd : Nat → Nat) (k : Nat) : Prop := ∃ j, j < z ∧ kd j = k
def ndO (kn : Nat → Prop) (h c : Nat) : Prop := c < 2 ^ 48 ∧ (∀ k, k < 12 → (nb c k ≠ 0 ↔ kn k)) ∧ ∀ l, l < 8 → usd c l ≤ h
noncomputable def frK (kn : Nat → Prop) (e l : Nat) : Nat := cnt (fun k => nb e k = l + 1 ∧ ¬ kn k) 12
def okC (kn : Nat → Prop) (z : Nat) (kd : Nat → Nat) (h c e : Nat) : Prop := (∀ k, k < 12 → ownK z kd k → kn k → nb e k = nb c k) ∧ ∀ l, l < 8 → usd c l + frK kn e l ≤ h
theorem cnt_add {p q r : Nat → Prop} : ∀ {n : Nat}, (∀ i, i < n → (r i ↔ (p i ∨ q i)) ∧ ¬ (p i ∧ q i)) → cnt r n = cnt p n + cnt q n
  | 0, _ => rfl
  | n + 1, h => by
    have ih := cnt_add (n := n) (fun i hi => h i (by omega))
    obtain ⟨a, b⟩ := h n (by omega)
    by_cases p1 : p n
    · have q1 : ¬ q n := fun x => b ⟨p1, x⟩
      rw [cnt_s (a.mpr (Or.inl p1)), cnt_s p1, cnt_n q1, ih]; omega
    · by_cases q1 : q n
      · rw [cnt_s (a.mpr (Or.inr q1)), cnt_n p1, cnt_s q1, ih]; omega
      · rw [cnt_n (fun x => (a.mp x).elim p1 q1), cnt_n p1, cnt_n q1, ih]
theorem sp_D {z e : Nat} {kd wd : Nat → Nat} (hz : sgO z kd wd) (he : ftF 13 kd wd 0 z = some e) : e < 2 ^ 48 ∧ (∀ k, k < 12 → (nb e k ≠ 0 ↔ ownK z kd k)) ∧ ∀ j, j < z → kd j ≠ 12 → nb e (kd j) = wd j + 1 := by
  obtain ⟨a1, a2, a3, a4, a5⟩ := ft_D hz (by decide) (Nat.le_refl z) he
  refine ⟨a1, fun k hk => ⟨fun x => ?_, fun ⟨j, hj, ej⟩ => ?_⟩, a4⟩
  · by_cases o : ownK z kd k
    · exact o
    · exact absurd (a3 k hk nb_0 (fun j hj q => o ⟨j, hj, q⟩)) x
  · have := a4 j hj (by omega)
    rw [ej] at this; omega
/-- the union of a code and a way that goes with it -/
theorem un_nb {kn : Nat → Prop} {z h c e : Nat} {kd : Nat → Nat} (hn : ndO kn h c) (he : ∀ k, k < 12 → (nb e k ≠ 0 ↔ ownK z kd k)) (ok : ∀ k, k < 12 → ownK z kd k → kn k → nb e k = nb c k) (k : Nat) (hk : k < 12) : (kn k → nb (c ||| e) k = nb c k) ∧ (¬ kn k → nb (c ||| e) k = nb e k) := by
  rw [nb_or]
  constructor
  · intro x
    by_cases o : ownK z kd k
    · rw [ok k hk o x, Nat.or_self]
    · have : nb e k = 0 := by
        by_cases y : nb e k = 0
        · exact y
        · exact absurd ((he k hk).mp y) o
      rw [this, Nat.or_zero]
  · intro x
    have : nb c k = 0 := by
      by_cases y : nb c k = 0
      · exact y
      · exact absurd ((hn.2.1 k hk).mp y) x
    rw [this, Nat.zero_or]
theorem un_usd {kn : Nat → Prop} {z h c e : Nat} {kd : Nat → Nat} (hn : ndO kn h c) (he : ∀ k, k < 12 → (nb e k ≠ 0 ↔ ownK z kd k)) (ok : ∀ k, k < 12 → ownK z kd k → kn k → nb e k = nb c k) (l : Nat) : usd (c ||| e) l = usd c l + frK kn e l := by
  unfold usd frK
  refine cnt_add (fun k hk => ?_)
  obtain ⟨u1, u2⟩ := un_nb hn he ok k hk
  have kc := hn.2.1 k hk
  by_cases x : kn k
  · rw [u1 x]
    exact ⟨⟨Or.inl, fun q => q.elim id (fun q => absurd x q.2)⟩, fun q => q.2.2 x⟩
  · have : nb c k = 0 := by
      by_cases y : nb c k = 0
      · exact y
      · exact absurd (kc.mp y) x
    rw [u2 x]
    exact ⟨⟨fun q => Or.inr ⟨q, x⟩, fun q => q.elim (fun q => by omega) (fun q => q.1)⟩, fun q => by have := q.1; omega⟩
theorem ft_key {kn : Nat → Prop} {h z c d : Nat} {kd wd : Nat → Nat} (hz : sgO z kd wd) (hn : ndO kn h c) : ftF h kd wd c z = some d ↔ ∃ e, ftF 13 kd wd 0 z = some e ∧ okC kn z kd h c e ∧ d = c ||| e := by
  constructor
  · intro f
    obtain ⟨a1, a2, a3, a4, a5⟩ := ft_D hz hn.1 (Nat.le_refl z) f
    obtain ⟨e, e1, e2⟩ := ft_E (h := 13) (c := 0) (d := d) hz (by decide) (fun k _ x => absurd nb_0 x) (fun l _ => by have := usd_le (c := d) (l := l); omega) (Nat.le_refl z) a4
    obtain ⟨s1, s2, s3⟩ := sp_D hz e1
    have ok : ∀ k, k < 12 → ownK z kd k → kn k → nb e k = nb c k := fun k hk o x => by
      rw [← a2 k hk ((hn.2.1 k hk).mpr x), e2 k hk ((s2 k hk).mpr o)]
    have ed : d = c ||| e := by
      apply nb_ext a1 (or_lt hn.1 s1)
      intro k hk
      obtain ⟨u1, u2⟩ := un_nb hn s2 ok k hk
      by_cases x : kn k
      · rw [u1 x, a2 k hk ((hn.2.1 k hk).mpr x)]
      · rw [u2 x]
        have c0 : nb c k = 0 := by
          by_cases y : nb c k = 0
          · exact y
          · exact absurd ((hn.2.1 k hk).mp y) x
        by_cases o : ownK z kd k
        · rw [e2 k hk ((s2 k hk).mpr o)]
        · rw [a3 k hk c0 (fun j hj q => o ⟨j, hj, q⟩)]
          by_cases y : nb e k = 0
          · exact y.symm
          · exact absurd ((s2 k hk).mp y) o
    refine ⟨e, e1, ⟨ok, fun l hl => ?_⟩, ed⟩
    rw [← un_usd hn s2 ok, ← ed]
    exact a5 hn.2.2 l hl
  · rintro ⟨e, e1, ⟨ok, cr⟩, rfl⟩
    obtain ⟨s1, s2, s3⟩ := sp_D hz e1
    have un := un_nb hn s2 ok
    have hj : ∀ j, j < z → kd j ≠ 12 → nb (c ||| e) (kd j) = wd j + 1 := by
      intro j hj x
      have kj := (hz j hj).1
      have kj2 : kd j < 12 := by omega
      by_cases y : kn (kd j)
      · rw [(un _ kj2).1 y, ← ok _ kj2 ⟨j, hj, rfl⟩ y]; exact s3 j hj x
      · rw [(un _ kj2).2 y]; exact s3 j hj x
    obtain ⟨d0, f, sd⟩ := ft_E (h := h) (c := c) (d := c ||| e) hz hn.1 (fun k hk x => (un k hk).1 ((hn.2.1 k hk).mp x)) (fun l hl => by rw [un_usd hn s2 ok]; exact cr l hl) (Nat.le_refl z) hj
    obtain ⟨a1, a2, a3, a4, a5⟩ := ft_D hz hn.1 (Nat.le_refl z) f
    rw [f]
    congr 1
    apply nb_ext a1 (or_lt hn.1 s1)
    intro k hk
    by_cases y : nb d0 k = 0
    · by_cases x : kn k
      · have := a2 k hk ((hn.2.1 k hk).mpr x)
        have := (hn.2.1 k hk).mpr x
        omega
      · rw [(un k hk).2 x, y]
        by_cases w : nb e k = 0
        · exact w.symm
        · obtain ⟨j, hj, ej⟩ := (s2 k hk).mp w
          have := a4 j hj (by omega)
          rw [ej] at this
          omega
    · exact (sd k hk y).symm
theorem un_ok {kn : Nat → Prop} {z h c e : Nat} {kd : Nat → Nat} (hn : ndO kn h c) (s1 : e < 2 ^ 48) (he : ∀ k, k < 12 → (nb e k ≠ 0 ↔ ownK z kd k)) (ok : okC kn z kd h c e) : ndO (fun k => kn k ∨ ownK z kd k) h (c ||| e) := by
  refine ⟨or_lt hn.1 s1, fun k hk => ?_, fun l hl => by rw [un_usd hn he ok.1]; exact ok.2 l hl⟩
  obtain ⟨u1, u2⟩ := un_nb hn he ok.1 k hk
  by_cases x : kn k
  · rw [u1 x]
    exact ⟨fun _ => Or.inl x, fun _ => (hn.2.1 k hk).mpr x⟩
  · rw [u2 x]
    exact ⟨fun y => Or.inr ((he k hk).mp y), fun y => y.elim (fun y => absurd y x) (fun y => (he k hk).mpr y)⟩
theorem un_inj {kn : Nat → Prop} {z h c e e2 : Nat} {kd : Nat → Nat} (hn : ndO kn h c) (s1 : e < 2 ^ 48) (he : ∀ k, k < 12 → (nb e k ≠ 0 ↔ ownK z kd k)) (ok : okC kn z kd h c e) (s1' : e2 < 2 ^ 48) (he' : ∀ k, k < 12 → (nb e2 k ≠ 0 ↔ ownK z kd k)) (ok' : okC kn z kd h c e2) (q : c ||| e = c ||| e2) : e = e2 := by
  apply nb_ext s1 s1'
  intro k hk
  by_cases x : kn k
  · by_cases o : ownK z kd k
    · rw [ok.1 k hk o x, ok'.1 k hk o x]
    · have a : nb e k = 0 := by
        by_cases y : nb e k = 0
        · exact y
        · exact absurd ((he k hk).mp y) o
      have b : nb e2 k = 0 := by
        by_cases y : nb e2 k = 0
        · exact y
        · exact absurd ((he' k hk).mp y) o
      rw [a, b]
  · rw [← (un_nb hn he ok.1 k hk).2 x, q, (un_nb hn he' ok'.1 k hk).2 x]
