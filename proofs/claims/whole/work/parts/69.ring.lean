-- rings among overs
def acy (n : Nat) (ob oa : Nat → Nat) (A : Nat → Prop) : Prop := ∃ r : Nat → Nat, ∀ k, k < n → A k → r (oa k) < r (ob k)
theorem acy_sub {n : Nat} {ob oa : Nat → Nat} {A B : Nat → Prop} (h : ∀ k, k < n → B k → A k) (a : acy n ob oa A) : acy n ob oa B := by
  obtain ⟨r, hr⟩ := a
  exact ⟨r, fun k hk hb => hr k hk (h k hk hb)⟩
/-- what is left of some overs when those that begin at nothing are peeled off -/
def plP (n : Nat) (ob oa : Nat → Nat) (A : Nat → Prop) (k : Nat) : Prop := A k ∧ ∃ j, j < n ∧ A j ∧ ob j = oa k
theorem acy_peel {n : Nat} {ob oa : Nat → Nat} {A : Nat → Prop} : acy n ob oa (plP n ob oa A) ↔ acy n ob oa A := by
  constructor
  · rintro ⟨r, hr⟩
    refine ⟨fun p => if bp (∃ j, j < n ∧ A j ∧ ob j = p) = true then r p + 1 else 0, fun k hk ha => ?_⟩
    show (if bp (∃ j, j < n ∧ A j ∧ ob j = oa k) = true then r (oa k) + 1 else 0) < (if bp (∃ j, j < n ∧ A j ∧ ob j = ob k) = true then r (ob k) + 1 else 0)
    rw [if_pos (c := bp (∃ j, j < n ∧ A j ∧ ob j = ob k) = true) (bp_t.mpr ⟨k, hk, ha, rfl⟩)]
    by_cases z : ∃ j, j < n ∧ A j ∧ ob j = oa k
    · rw [if_pos (bp_t.mpr z)]
      have := hr k hk ⟨ha, z⟩
      omega
    · rw [if_neg (fun q => z (bp_t.mp q))]
      omega
  · exact acy_sub (fun k _ h => h.1)
theorem lst {A : Nat → Prop} {f : Nat → Nat} {n : Nat} (h : ∃ k, k < n ∧ A k) : ∃ k, k < n ∧ A k ∧ ∀ j, j < n → A j → f k ≤ f j := by
  have : ∀ m, (∃ k, k < n ∧ A k ∧ f k < m) → ∃ k, k < n ∧ A k ∧ ∀ j, j < n → A j → f k ≤ f j := by
    intro m
    induction m with
    | zero => rintro ⟨k, _, _, q⟩; omega
    | succ m ih =>
      rintro ⟨k, hk, ha, q⟩
      by_cases z : ∃ k, k < n ∧ A k ∧ f k < m
      · exact ih z
      · refine ⟨k, hk, ha, fun j hj aj => ?_⟩
        rcases Nat.lt_or_ge (f j) m with y | y
        · exact absurd ⟨j, hj, aj, y⟩ z
        · omega
  obtain ⟨k, hk, ha⟩ := h
  exact this (f k + 1) ⟨k, hk, ha, by omega⟩
theorem acy_less {n : Nat} {ob oa : Nat → Nat} {A : Nat → Prop} (h : acy n ob oa A) (e : ∃ k, k < n ∧ A k) : cnt (plP n ob oa A) n < cnt A n := by
  obtain ⟨r, hr⟩ := h
  obtain ⟨k, hk, ha, hmin⟩ := lst (f := fun k => r (oa k)) e
  refine cnt_lt ha (k := k) (fun q => ?_) hk (fun i _ q => q.1)
  obtain ⟨j, hj, aj, ej⟩ := q.2
  have a := hmin j hj aj
  have b := hr j hj aj
  rw [ej] at b
  omega
theorem lN_or (a b : Nat) : lN a ||| lN b = lN (a ||| b) := by
  apply Int64.toBitVec_inj.mp
  rw [Int64.toBitVec_or, lN_bv, lN_bv, lN_bv]
  apply BitVec.eq_of_getLsbD_eq
  intro i hi
  rw [BitVec.getLsbD_or, BitVec.getLsbD_ofNat, BitVec.getLsbD_ofNat, BitVec.getLsbD_ofNat, Nat.testBit_or]
  simp [hi]
theorem m64 {p : Nat → Prop} {c : Nat} (hc : c < 60) : lN (msk p 60) ||| lN (2 ^ c) = lN (msk (fun i => p i ∨ i = c) 60) := by
  rw [lN_or]
  congr 1
  apply Nat.eq_of_testBit_eq
  intro i
  rw [Nat.testBit_or, Bool.eq_iff_iff, Bool.or_eq_true, msk_in, msk_in, Nat.testBit_two_pow]
  constructor
  · rintro (⟨a, b⟩ | a)
    · exact ⟨a, Or.inl b⟩
    · have : c = i := by simpa using a
      exact ⟨by omega, Or.inr this.symm⟩
  · rintro ⟨a, b | b⟩
    · exact Or.inl ⟨a, b⟩
    · exact Or.inr (by simp [b])
theorem m64b {p : Nat → Prop} {c : Nat} (hc : c < 60) : lg_cmp (((lN (msk p 60)).toUInt64 >>> ((nI c).toInt64.toUInt64 &&& Int64.toUInt64 63)).toInt64 &&& 1) 0 = 0 ↔ ¬ p c := by
  have b := msk_lt p 60
  have b2 : (2 : Nat) ^ 60 < 2 ^ 64 := by decide
  rw [wb_bit (by omega) (by omega), lgc_0 (by omega)]
  have e : (msk p 60).testBit c = true ↔ c < 60 ∧ p c := msk_in
  rw [Nat.testBit_eq_decide_div_mod_eq, decide_eq_true_iff] at e
  constructor
  · intro q z
    have := e.mpr ⟨hc, z⟩
    omega
  · intro q
    by_cases y : msk p 60 / 2 ^ c % 2 = 1
    · exact absurd (e.mp y).2 q
    · omega
theorem q_peel {I : sI} {J : sJ} {post : Int32 → sI → sJ → Prop} {P n : Nat} {ob oa : Nat → Nat} {A : Nat → Prop} (hP : P ≤ 60) (ho : tWO P n ob oa) (hco : cO n ob oa 8 I) (h : post (nI (msk (plP n ob oa A) n)) I J) : w_X4_peel 8 (nI (msk A n)) I J post := by
  obtain ⟨z0, z1⟩ := sRover 8 (by decide)
  have hn := ho.1
  have two : ∀ m k, k ≤ n → n - k < m → w_X4_peel_51_n 8 post m (lN (msk (fun p => ∃ j, j < n ∧ A j ∧ ob j = p) 60)) (nI (msk (fun i => A i ∧ (i < k → ∃ j, j < n ∧ A j ∧ ob j = oa i)) n)) (nI k) I J := by
    intro m
    induction m with
    | zero => intro k _ h; omega
    | succ m ih =>
      intro k hk hm
      show w_X4_peel_51_s 8 post (w_X4_peel_51_n 8 post m) _ _ _ I J
      unfold w_X4_peel_51_s w_X4_peel_88
      rw [z1, hco.1, pf_le (by omega) (by omega), nI_1, pf_cl (by omega)]
      refine ⟨fun e => ?_, fun e => ⟨vp_in_nI (by omega) (by omega), ?_⟩⟩
      · rw [msk_congr (p := fun i => A i ∧ (i < k → ∃ j, j < n ∧ A j ∧ ob j = oa i)) (n := n) (q := plP n ob oa A) (fun i hi => ⟨fun q => ⟨q.1, q.2 (by omega)⟩, fun q => ⟨q.1, fun _ => q.2⟩⟩)]
        exact h
      · obtain ⟨f1, f2⟩ := hco.2 k (by omega)
        obtain ⟨g1, g2, -⟩ := ho.2.1 k (by omega)
        have nx := ih (k + 1) (by omega) (by omega)
        rw [f2, m64b (by omega), sh1 k (by omega), m_rm]
        refine ⟨fun q => ?_, fun q => ?_⟩
        · rw [Int32.and_neg_one]
          rintro _ rfl _ rfl
          rw [msk_congr (p := fun i => A i ∧ (i < k + 1 → ∃ j, j < n ∧ A j ∧ ob j = oa i)) (n := n) (q := fun i => A i ∧ (i < k → ∃ j, j < n ∧ A j ∧ ob j = oa i)) (fun i hi => ?_)] at nx
          · exact nx
          · refine ⟨fun x => ⟨x.1, fun y => x.2 (by omega)⟩, fun x => ⟨x.1, fun y => ?_⟩⟩
            by_cases w : i = k
            · rw [w]
              by_cases v : ∃ j, j < n ∧ A j ∧ ob j = oa k
              · exact v
              · exact absurd v q
            · exact x.2 (by omega)
        · rintro _ rfl _ rfl
          rw [msk_congr (p := fun i => A i ∧ (i < k + 1 → ∃ j, j < n ∧ A j ∧ ob j = oa i)) (n := n) (q := fun i => (A i ∧ (i < k → ∃ j, j < n ∧ A j ∧ ob j = oa i)) ∧ i ≠ k) (fun i hi => ?_)] at nx
          · exact nx
          · refine ⟨fun x => ⟨⟨x.1, fun y => x.2 (by omega)⟩, fun w => q ?_⟩, fun x => ⟨x.1.1, fun y => x.1.2 (by have := x.2; omega)⟩⟩
            have := x.2 (by omega)
            rw [w] at this
            exact this
  have one : ∀ m k, k ≤ n → n - k < m → w_X4_peel_5_n 8 post m (nI (msk A n)) (lN (msk (fun p => ∃ j, j < k ∧ A j ∧ ob j = p) 60)) (nI k) I J := by
    intro m
    induction m with
    | zero => intro k _ h; omega
    | succ m ih =>
      intro k hk hm
      show w_X4_peel_5_s 8 post (w_X4_peel_5_n 8 post m) _ _ _ I J
      unfold w_X4_peel_5_s w_X4_peel_37
      rw [z0, hco.1, pf_le (by omega) (by omega), nI_1, pf_cl (by omega), m_has0 (by omega) (by omega)]
      refine ⟨fun e => ?_, fun e => ?_⟩
      · rw [show k = n by omega]
        refine ⟨n + 1, ?_⟩
        have := two (n + 1) 0 (by omega) (by omega)
        rw [msk_congr (p := fun i => A i ∧ (i < 0 → ∃ j, j < n ∧ A j ∧ ob j = oa i)) (n := n) (q := A) (fun i _ => ⟨fun q => q.1, fun q => ⟨q, fun y => by omega⟩⟩)] at this
        exact this
      · obtain ⟨f1, f2⟩ := hco.2 k (by omega)
        obtain ⟨g1, g2, -⟩ := ho.2.1 k (by omega)
        have nx := ih (k + 1) (by omega) (by omega)
        rw [f1, show (1 : Int64) = lN 1 from rfl, wb_shl 1 (by omega), Nat.one_mul, m64 (by omega)]
        refine ⟨fun q => ?_, fun q => ⟨vp_in_nI (by omega) (by omega), ?_⟩⟩
        · rw [Int64.or_zero]
          rintro _ rfl _ rfl
          rw [msk_congr (p := fun p => ∃ j, j < k + 1 ∧ A j ∧ ob j = p) (n := 60) (q := fun p => ∃ j, j < k ∧ A j ∧ ob j = p) (fun i hi => ?_)] at nx
          · exact nx
          · refine ⟨fun ⟨j, hj, a, b⟩ => ⟨j, ?_, a, b⟩, fun ⟨j, hj, a, b⟩ => ⟨j, by omega, a, b⟩⟩
            by_cases w : j = k
            · rw [w] at a; exact absurd ⟨by omega, a⟩ q
            · omega
        · have ak : A k := by
            by_cases v : A k
            · exact v
            · exact absurd (fun y => v y.2) q
          rintro _ rfl _ rfl
          rw [msk_congr (p := fun p => ∃ j, j < k + 1 ∧ A j ∧ ob j = p) (n := 60) (q := fun p => (∃ j, j < k ∧ A j ∧ ob j = p) ∨ p = ob k) (fun i hi => ?_)] at nx
          · exact nx
          · constructor
            · rintro ⟨j, hj, a, b⟩
              by_cases w : j = k
              · rw [w] at b; exact Or.inr b.symm
              · exact Or.inl ⟨j, by omega, a, b⟩
            · rintro (⟨j, hj, a, b⟩ | w)
              · exact ⟨j, by omega, a, b⟩
              · exact ⟨k, by omega, ak, w.symm⟩
  refine ⟨n + 1, ?_⟩
  have := one (n + 1) 0 (by omega) (by omega)
  rw [(msk_zero (p := fun p => ∃ j, j < 0 ∧ A j ∧ ob j = p) (n := 60)).mpr (fun i _ ⟨j, hj, _⟩ => by omega)] at this
  exact this
theorem q_ringFree {I : sI} {J : sJ} {post : Int32 → sI → sJ → Prop} {P n : Nat} {ob oa : Nat → Nat} {A : Nat → Prop} (hP : P ≤ 60) (ho : tWO P n ob oa) (hco : cO n ob oa 8 I) (h1 : acy n ob oa A → post 1 I J) (h0 : ¬ acy n ob oa A → post 0 I J) : w_X4_ringFree 8 (nI (msk A n)) I J post := by
  have hn := ho.1
  have loop : ∀ m t (B : Nat → Prop), t ≤ 12 → 12 - t < m → (acy n ob oa B ↔ acy n ob oa A) → (acy n ob oa B → cnt B n + t ≤ 12) → w_X4_ringFree_4_n 8 post m (nI (msk B n)) (nI t) I J := by
    intro m
    induction m with
    | zero => intro t _ _ h; omega
    | succ m ih =>
      intro t B ht hm hB hc
      show w_X4_ringFree_4_s 8 post (w_X4_ringFree_4_n 8 post m) _ _ I J
      unfold w_X4_ringFree_4_s w_X4_ringFree_26
      rw [show (12 : Int32) = nI 12 from rfl, pf_le (by omega) (by omega), nI_1, m_eq0 (by omega)]
      have emp : (∀ i, i < n → ¬ B i) → acy n ob oa A := fun q => hB.mp ⟨fun _ => 0, fun k hk hb => absurd hb (q k hk)⟩
      refine ⟨fun e => ⟨fun q => h0 (fun a => q (fun i hi bi => ?_)), fun q => h1 (emp q)⟩, fun e => ⟨fun q => b4 q (h1 (emp q)), fun q => ?_⟩⟩
      · have := hc (hB.mpr a)
        have c := cnt_lt (p := fun _ => False) (q := B) (k := i) bi (fun z => z) hi (fun _ _ z => z.elim)
        omega
      · refine q_peel hP ho hco ?_
        rintro _ rfl
        refine ih (t + 1) (plP n ob oa B) (by omega) (by omega) (acy_peel.trans hB) (fun a => ?_)
        have a2 := acy_peel.mp a
        have := hc a2
        have ex : ∃ k, k < n ∧ B k := by
          by_cases v : ∃ k, k < n ∧ B k
          · exact v
          · exact absurd (fun i hi bi => v ⟨i, hi, bi⟩) q
        have := acy_less a2 ex
        omega
  exact ⟨13, loop 13 0 A (by omega) (by omega) Iff.rfl (fun _ => by have := cnt_le A n; omega)⟩
theorem gst {A : Nat → Prop} {f : Nat → Nat} {n : Nat} (h : ∃ k, k < n ∧ A k) : ∃ k, k < n ∧ A k ∧ ∀ j, j < n → A j → f j ≤ f k := by
  have bd : ∀ n, ∃ M, ∀ j, j < n → f j ≤ M := by
    intro n
    induction n with
    | zero => exact ⟨0, fun j hj => by omega⟩
    | succ n ih =>
      obtain ⟨M, hM⟩ := ih
      refine ⟨M + f n, fun j hj => ?_⟩
      by_cases e : j = n
      · rw [e]; omega
      · have := hM j (by omega); omega
  obtain ⟨M, hM⟩ := bd n
  obtain ⟨k, hk, ak, hmin⟩ := lst (A := A) (f := fun k => M - f k) h
  refine ⟨k, hk, ak, fun j hj aj => ?_⟩
  have := hmin j hj aj
  have := hM j hj
  have := hM k hk
  omega
theorem oW_acy1 {n P : Nat} {ob oa : Nat → Nat} (ho : ∀ k, k < n → ob k ≠ oa k) : ∀ N b, b < N → oW (ndR n ob oa (fun _ _ => False)) P b ≠ 0 → ∃ (r : Nat → Nat) (M : Nat), (∀ q, b.testBit q = true → r q < M) ∧ ∀ k, k < n → b.testBit (ob k) = true → b.testBit (oa k) = true ∧ r (oa k) < r (ob k) := by
  intro N
  induction N with
  | zero => intro b h; omega
  | succ N ih =>
    intro b hb hw
    by_cases z : b = 0
    · refine ⟨fun _ => 0, 1, fun _ _ => Nat.one_pos, fun k _ hk => ?_⟩
      rw [z, Nat.zero_testBit] at hk
      exact absurd hk (by decide)
    · rw [oW_eq z] at hw
      obtain ⟨p, hp⟩ : ∃ p, i1 (b.testBit p = true ∧ oOk (ndR n ob oa (fun _ _ => False)) p (b ^^^ 2 ^ p)) * oW (ndR n ob oa (fun _ _ => False)) P (b ^^^ 2 ^ p) ≠ 0 := by
        by_cases v : ∃ p, i1 (b.testBit p = true ∧ oOk (ndR n ob oa (fun _ _ => False)) p (b ^^^ 2 ^ p)) * oW (ndR n ob oa (fun _ _ => False)) P (b ^^^ 2 ^ p) ≠ 0
        · exact v
        · refine absurd ?_ hw
          rw [sumN_congr (u := fun _ => 0) (fun i _ => ?_), sumN_0]
          by_cases y : i1 (b.testBit i = true ∧ oOk (ndR n ob oa (fun _ _ => False)) i (b ^^^ 2 ^ i)) * oW (ndR n ob oa (fun _ _ => False)) P (b ^^^ 2 ^ i) = 0
          · exact y
          · exact absurd ⟨i, y⟩ v
      by_cases y : b.testBit p = true ∧ oOk (ndR n ob oa (fun _ _ => False)) p (b ^^^ 2 ^ p)
      · rw [i1_y y, Nat.one_mul] at hp
        obtain ⟨tb, ok⟩ := y
        obtain ⟨r, M, h1, h2⟩ := ih (b ^^^ 2 ^ p) (by have := xo_lt tb; omega) hp
        have ne : ∀ {q}, (b ^^^ 2 ^ p).testBit q = true → q ≠ p ∧ b.testBit q = true := by
          intro q hq
          rcases xo_bit.mp hq with x | x
          · exact ⟨x.2, x.1⟩
          · rw [x.2, tb] at x; exact absurd x.1 (by decide)
        refine ⟨fun q => if q = p then M else r q, M + 1, fun q hq => ?_, fun k hk hbk => ?_⟩
        · show (if q = p then M else r q) < M + 1
          by_cases e : q = p
          · rw [if_pos e]; omega
          · rw [if_neg e]
            have := h1 q (xo_bit.mpr (Or.inl ⟨hq, e⟩))
            omega
        · show _ ∧ (if oa k = p then M else r (oa k)) < (if ob k = p then M else r (ob k))
          by_cases e : ob k = p
          · have q := ok (oa k) (Or.inl ⟨k, hk, e, rfl⟩)
            rw [if_pos e, if_neg (ne q).1]
            exact ⟨(ne q).2, h1 _ q⟩
          · obtain ⟨q1, q2⟩ := h2 k hk (xo_bit.mpr (Or.inl ⟨hbk, e⟩))
            rw [if_neg e, if_neg (ne q1).1]
            exact ⟨(ne q1).2, q2⟩
      · rw [i1_n y, Nat.zero_mul] at hp
        exact absurd rfl hp
theorem oW_acy2 {n P : Nat} {ob oa : Nat → Nat} {r : Nat → Nat} (hr : ∀ k, k < n → r (oa k) < r (ob k)) : ∀ N b, b < N → b < 2 ^ P → (∀ k, k < n → b.testBit (ob k) = true → b.testBit (oa k) = true) → oW (ndR n ob oa (fun _ _ => False)) P b ≠ 0 := by
  intro N
  induction N with
  | zero => intro b h; omega
  | succ N ih =>
    intro b hb hP hd
    by_cases z : b = 0
    · rw [z, oW_0]; decide
    · obtain ⟨j, hj⟩ : ∃ j, b.testBit j = true := by
        by_cases v : ∃ j, b.testBit j = true
        · exact v
        · refine absurd ?_ z
          apply Nat.eq_of_testBit_eq
          intro i
          rw [Nat.zero_testBit]
          cases x : b.testBit i with
          | false => rfl
          | true => exact absurd ⟨i, x⟩ v
      have lt : ∀ i, b.testBit i = true → i < P := by
        intro i hi
        rcases Nat.lt_or_ge i P with y | y
        · exact y
        · rw [Nat.testBit_lt_two_pow (Nat.lt_of_lt_of_le hP (Nat.pow_le_pow_right (by omega) y))] at hi
          exact absurd hi (by decide)
      obtain ⟨p, hp, tb, hmax⟩ := gst (A := fun i => b.testBit i = true) (f := r) ⟨j, lt j hj, hj⟩
      have tb : b.testBit p = true := tb
      have xl := xo_lt tb
      have one := ih (b ^^^ 2 ^ p) (by omega) (by omega) (fun k hk hq => ?_)
      · have ok : oOk (ndR n ob oa (fun _ _ => False)) p (b ^^^ 2 ^ p) := by
          rintro q (⟨k, hk, e1, e2⟩ | x)
          · have a := hr k hk
            rw [← e2]
            refine xo_bit.mpr (Or.inl ⟨hd k hk (by rw [e1]; exact tb), fun e => ?_⟩)
            rw [e, e1] at a
            omega
          · exact x.elim
        rw [oW_eq z]
        intro q
        have le : ∀ (o : Nat → Nat) n, p < n → o p ≤ sumN o n := by
          intro o n
          induction n with
          | zero => intro h; omega
          | succ n ih2 =>
            intro h
            rw [sumN]
            by_cases e : p = n
            · rw [e]; omega
            · have := ih2 (by omega); omega
        have := le (fun p => i1 (b.testBit p = true ∧ oOk (ndR n ob oa (fun _ _ => False)) p (b ^^^ 2 ^ p)) * oW (ndR n ob oa (fun _ _ => False)) P (b ^^^ 2 ^ p)) P hp
        rw [q] at this
        simp only [] at this
        rw [i1_y ⟨tb, ok⟩, Nat.one_mul] at this
        omega
      · rcases xo_bit.mp hq with x | x
        · refine xo_bit.mpr (Or.inl ⟨hd k hk x.1, fun e => ?_⟩)
          have a := hr k hk
          have c := hmax (ob k) (lt _ x.1) x.1
          rw [e] at a
          omega
        · rw [x.2, tb] at x; exact absurd x.1 (by decide)
theorem oW_acy {n P : Nat} {ob oa : Nat → Nat} (ho : tWO P n ob oa) : oW (ndR n ob oa (fun _ _ => False)) P (2 ^ P - 1) ≠ 0 ↔ acy n ob oa (fun _ => True) := by
  have pos : 0 < 2 ^ P := Nat.two_pow_pos P
  have tb : ∀ q, q < P → (2 ^ P - 1).testBit q = true := fun q hq => by rw [Nat.testBit_two_pow_sub_one]; exact decide_eq_true hq
  constructor
  · intro h
    obtain ⟨r, M, h1, h2⟩ := oW_acy1 (fun k hk => (ho.2.1 k hk).2.2) (2 ^ P) (2 ^ P - 1) (by omega) h
    exact ⟨r, fun k hk _ => (h2 k hk (tb _ (ho.2.1 k hk).1)).2⟩
  · rintro ⟨r, hr⟩
    exact oW_acy2 (fun k hk => hr k hk trivial) (2 ^ P) (2 ^ P - 1) (by omega) (by omega) (fun k hk _ => tb _ (ho.2.1 k hk).2.1)
def enP (n : Nat) (o : Nat → Nat) (p : Nat) : Prop := ∀ k, k < n → o k ≠ p
theorem enP_s {n p : Nat} {o : Nat → Nat} : enP (n + 1) o p ↔ enP n o p ∧ p ≠ o n := by
  constructor
  · intro h; exact ⟨fun k hk => h k (by omega), fun e => h n (by omega) e.symm⟩
  · rintro ⟨h1, h2⟩ k hk
    by_cases e : k = n
    · rw [e]; exact fun q => h2 q.symm
    · exact h1 k (by omega)
theorem S_ends {I : sI} {J : sJ} (a1 : Int32) (hR : RR0 I J) : St (w_X11_ends a1) (w_X12_ends a1) I J := by
  obtain ⟨hT, hD, hK, hW, hC, hQ, hX⟩ := hR
  obtain ⟨G, P, n, s, κ, ob, oa, hw, ho, hc, hm, hco, hmo⟩ := o_get hD
  have hP := hw.2.1
  have hn := ho.1
  have fin : ∀ J3 : sJ, (∀ q, ¬ q = 270 → J3 q = J q) → RR0 (sUI I 248 0 0) J3 := fun J3 jc => ⟨(RT_congr hT rfl rfl rfl rfl), (RD_congr hD (fun q h1 h2 => by repeat rw [sUI_ne (by omega)]) rfl rfl rfl rfl rfl rfl rfl rfl rfl rfl rfl), (RK_congr hK (fun q h1 h2 => by repeat rw [sUI_ne (by omega)]) rfl rfl), (RW_congr hW (fun q h1 h2 => by repeat rw [sUI_ne (by omega)]) rfl rfl rfl), (RC_congr hC (fun q h1 h2 => by repeat rw [sUI_ne (by omega)]) rfl rfl rfl), RR_congr hQ rfl rfl (jc 135 (by omega)) (jc 249 (by omega)), (RX_congr hX rfl rfl rfl rfl rfl)⟩
  have e12 : (sUI I 248 0 0) 248 12 = nI P := hm.2.1
  have hmo2 : mO n ob oa (sUI I 248 0 0) := hmo
  have refuse : ¬ ((1 ≤ P ∧ P ≤ 14) ∧ (0 ≤ a1 ∧ a1 ≤ 1)) → w_X12_ends a1 I J (fun r2 I2 J2 => -1 = r2 ∧ RR0 I2 J2) := by
    intro g
    unfold w_X12_ends
    rintro _ rfl
    refine q_ordered hP e12 (fun z => b2 (by decide) ?_) (fun z => b1 rfl ⟨rfl, fin J (fun _ _ => rfl)⟩)
    exact q_in (lo := 0) (hi := 1) (by decide) (by decide) (fun p1 => absurd ⟨z, p1⟩ g) (fun p1 => b4 rfl ⟨rfl, fin J (fun _ _ => rfl)⟩)
  show w_X11_ends a1 I J _
  unfold w_X11_ends
  refine q_cannot hP hc.2.1 (fun z => b3 (by decide) (refuse (fun q => z q.1))) (fun z => b4 rfl ?_)
  refine ⟨fun q => refuse (fun g => absurd q (Int32.not_lt.mpr g.2.1)), fun q0 => ⟨fun q1 => ?_, fun q => refuse (fun g => q g.2.2)⟩⟩
  have g1 : 0 ≤ a1 ∧ a1 ≤ 1 := ⟨Int32.not_lt.mp q0, q1⟩
  unfold w_X4_all
  rw [hco.1, sh1 n (by omega), m_all (by omega)]
  have model : ∀ r : Int32, ((¬ acy n ob oa (fun _ => True) ∧ r = -2) ∨ (acy n ob oa (fun _ => True) ∧ r = nI (msk (enP n (if a1 = 0 then ob else oa)) P))) → w_X12_ends a1 I J (fun r2 I2 J2 => r = r2 ∧ RR0 I2 J2) := by
    intro r hr
    unfold w_X12_ends
    rintro _ rfl
    refine q_ordered hP e12 (fun _ => b2 (by decide) ?_) (fun q => absurd z q)
    refine q_in (lo := 0) (hi := 1) (by decide) (by decide) (fun _ => b3 (by decide) ?_) (fun p1 => absurd g1 p1)
    refine q_ordersOf (E := fun _ _ => False) z.2 e12 ho hmo2 (Or.inl ⟨rfl, rfl, fun _ _ q => q⟩) (fun J3 jc => ?_)
    have lt := oW_lt (D := ndR n ob oa (fun _ _ => False)) (P := P) (b := 2 ^ P - 1) z.2
    rw [lgc_0 (by omega)]
    rcases hr with ⟨a, rfl⟩ | ⟨a, hr⟩
    · refine b4 ?_ ⟨rfl, fin J3 jc⟩
      by_cases w : oW (ndR n ob oa (fun _ _ => False)) P (2 ^ P - 1) = 0
      · exact w
      · exact absurd ((oW_acy ho).mp w) a
    · refine b3 ((oW_acy ho).mpr a) ?_
      rw [e12, sh1 P (by omega), m_all (by omega)]
      rintro _ rfl
      have loop : ∀ m k, k ≤ n → n - k < m → w_X12_ends_50_n (fun r2 I2 J2 => r = r2 ∧ RR0 I2 J2) m a1 (nI (msk (enP k (if a1 = 0 then ob else oa)) P)) (nI k) (sUI I 248 0 0) J3 := by
        intro m
        induction m with
        | zero => intro k _ h; omega
        | succ m ih =>
          intro k hk hm2
          show w_X12_ends_50_s (fun r2 I2 J2 => r = r2 ∧ RR0 I2 J2) (w_X12_ends_50_n (fun r2 I2 J2 => r = r2 ∧ RR0 I2 J2) m) a1 _ _ (sUI I 248 0 0) J3
          unfold w_X12_ends_50_s w_X12_ends_79
          rw [hmo2.1, pf_le (by omega) (by omega), nI_1, pf_cl (by omega)]
          refine ⟨fun e => ⟨?_, fin J3 jc⟩, fun e => ?_⟩
          · rw [hr, show k = n by omega]
          · obtain ⟨f1, f2⟩ := hmo2.2 k (by omega)
            obtain ⟨g1, g2, -⟩ := ho.2.1 k (by omega)
            have nx := ih (k + 1) (by omega) (by omega)
            rw [f1, f2, sh1 (ob k) (by omega), sh1 (oa k) (by omega), m_rm, m_rm]
            refine ⟨fun q => ⟨vp_in_nI (by omega) (by omega), ?_⟩, fun q => ⟨vp_in_nI (by omega) (by omega), ?_⟩⟩
            · rintro _ rfl _ rfl
              rw [msk_congr (fun i _ => enP_s)] at nx
              rw [if_neg q] at nx ⊢
              exact nx
            · rintro _ rfl _ rfl
              rw [msk_congr (fun i _ => enP_s)] at nx
              rw [if_pos q] at nx ⊢
              exact nx
      refine ⟨n + 1, ?_⟩
      have := loop (n + 1) 0 (by omega) (by omega)
      rw [msk_congr (p := enP 0 (if a1 = 0 then ob else oa)) (q := fun _ => True) (fun i _ => ⟨fun _ => trivial, fun _ k hk => by omega⟩)] at this
      exact this
  refine q_ringFree hP ho hco (fun a => b3 (by decide) ?_) (fun a => b4 rfl (model (-2) (Or.inl ⟨a, rfl⟩)))
  rw [hc.2.1, sh1 P (by omega), m_all (by omega)]
  rintro _ rfl
  have loop : ∀ m k, k ≤ n → n - k < m → w_X11_ends_61_n (fun r I1 J1 => w_X12_ends a1 I1 J1 (fun r2 I2 J2 => r = r2 ∧ RR0 I2 J2)) m a1 (nI (msk (enP k (if a1 = 0 then ob else oa)) P)) (nI k) I J := by
    intro m
    induction m with
    | zero => intro k _ h; omega
    | succ m ih =>
      intro k hk hm2
      show w_X11_ends_61_s (fun r I1 J1 => w_X12_ends a1 I1 J1 (fun r2 I2 J2 => r = r2 ∧ RR0 I2 J2)) (w_X11_ends_61_n (fun r I1 J1 => w_X12_ends a1 I1 J1 (fun r2 I2 J2 => r = r2 ∧ RR0 I2 J2)) m) a1 _ _ I J
      unfold w_X11_ends_61_s w_X11_ends_108
      rw [hco.1, pf_le (by omega) (by omega), nI_1, pf_cl (by omega)]
      refine ⟨fun e => ?_, fun e => ?_⟩
      · exact model _ (Or.inr ⟨a, by rw [show k = n by omega]⟩)
      · obtain ⟨f1, f2⟩ := hco.2 k (by omega)
        obtain ⟨g1, g2, -⟩ := ho.2.1 k (by omega)
        have nx := ih (k + 1) (by omega) (by omega)
        rw [show I 9 k = _ from f1, show I 10 k = _ from f2, sh1 (ob k) (by omega), sh1 (oa k) (by omega), m_rm, m_rm]
        refine ⟨fun q => ⟨vp_in_nI (by omega) (by omega), ?_⟩, fun q => ⟨vp_in_nI (by omega) (by omega), ?_⟩⟩
        · rintro _ rfl _ rfl
          rw [msk_congr (fun i _ => enP_s)] at nx
          rw [if_neg q] at nx ⊢
          exact nx
        · rintro _ rfl _ rfl
          rw [msk_congr (fun i _ => enP_s)] at nx
          rw [if_pos q] at nx ⊢
          exact nx
  refine ⟨n + 1, ?_⟩
  have := loop (n + 1) 0 (by omega) (by omega)
  rw [msk_congr (p := enP 0 (if a1 = 0 then ob else oa)) (q := fun _ => True) (fun i _ => ⟨fun _ => trivial, fun _ k hk => by omega⟩)] at this
  exact this
