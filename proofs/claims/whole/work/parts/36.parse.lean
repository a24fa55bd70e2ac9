/-! how a text is read as a disc: the state behind p signs that have no fault -/
def kdN (c : Nat) : Option Nat := if c = 63 then some 12 else if 97 ≤ c ∧ c < 109 then some (c - 97) else none
def ps (b : Nat → Nat) : Nat → Nat × Nat × Nat × (Nat → Nat) × (Nat → Nat)
  | 0 => (0, 0, 0, fun _ => 0, fun _ => 0)
  | p + 1 => if b p = 45 then ((ps b p).1 + 1, 0, (ps b p).2.2.1, fun k => if k = (ps b p).1 + 1 then (ps b p).2.2.1 else (ps b p).2.2.2.1 k, (ps b p).2.2.2.2)
    else ((ps b p).1, (ps b p).2.1 + 1, (ps b p).2.2.1 + 1, (ps b p).2.2.2.1, fun k => if k = (ps b p).2.2.1 then (kdN (b p)).getD 12 else (ps b p).2.2.2.2 k)
def pg (b : Nat → Nat) (p : Nat) : Nat := (ps b p).1
def pl (b : Nat → Nat) (p : Nat) : Nat := (ps b p).2.1
def pP (b : Nat → Nat) (p : Nat) : Nat := (ps b p).2.2.1
def pS (b : Nat → Nat) (p : Nat) : Nat → Nat := (ps b p).2.2.2.1
def pK (b : Nat → Nat) (p : Nat) : Nat → Nat := (ps b p).2.2.2.2
theorem ps_dash {b : Nat → Nat} {p : Nat} (h : b p = 45) : pg b (p + 1) = pg b p + 1 ∧ pl b (p + 1) = 0 ∧ pP b (p + 1) = pP b p ∧ (∀ k, pS b (p + 1) k = if k = pg b p + 1 then pP b p else pS b p k) ∧ ∀ k, pK b (p + 1) k = pK b p k := by
  have e := show ps b (p + 1) = _ by rw [ps, if_pos h]
  unfold pg pl pP pS pK
  rw [e]
  exact ⟨rfl, rfl, rfl, fun _ => rfl, fun _ => rfl⟩
theorem ps_kind {b : Nat → Nat} {p : Nat} (h : b p ≠ 45) : pg b (p + 1) = pg b p ∧ pl b (p + 1) = pl b p + 1 ∧ pP b (p + 1) = pP b p + 1 ∧ (∀ k, pS b (p + 1) k = pS b p k) ∧ ∀ k, pK b (p + 1) k = if k = pP b p then (kdN (b p)).getD 12 else pK b p k := by
  have e := show ps b (p + 1) = _ by rw [ps, if_neg h]
  unfold pg pl pP pS pK
  rw [e]
  exact ⟨rfl, rfl, rfl, fun _ => rfl, fun _ => rfl⟩
def okAt (b : Nat → Nat) (p : Nat) : Prop := (b p = 45 ∧ pl b p ≠ 0 ∧ pg b p < 11) ∨ (b p ≠ 45 ∧ pl b p < 6 ∧ ∃ k, kdN (b p) = some k)
def okTo (b : Nat → Nat) (p : Nat) : Prop := ∀ q, q < p → okAt b q
theorem okTo_s {b : Nat → Nat} {p : Nat} (h : okTo b p) (h2 : okAt b p) : okTo b (p + 1) := fun q hq => by
  rcases Nat.lt_or_ge q p with a | a
  · exact h q a
  · rw [show q = p by omega]; exact h2
theorem kdN_le {c k : Nat} (h : kdN c = some k) : k ≤ 12 := by
  unfold kdN at h
  split at h
  · cases h; omega
  · split at h
    · cases h; omega
    · cases h
theorem ps_inv {b : Nat → Nat} : ∀ {p : Nat}, okTo b p → pg b p ≤ 11 ∧ pl b p ≤ 6 ∧ pP b p ≤ p ∧ pS b p 0 = 0 ∧ pS b p (pg b p) + pl b p = pP b p ∧ (∀ g, g < pg b p → pS b p g < pS b p (g + 1) ∧ pS b p (g + 1) ≤ pS b p g + 6) ∧ ∀ i, pK b p i ≤ 12
  | 0, _ => ⟨by simp [pg, ps], by simp [pl, ps], by simp [pP, ps], by simp [pS, ps], by simp [pS, pl, pP, ps], fun g hg => by simp [pg, ps] at hg, fun i => by simp [pK, ps]⟩
  | p + 1, h => by
    obtain ⟨i1, i2, i3, i4, i5, i6, i7⟩ := ps_inv (p := p) (fun q hq => h q (by omega))
    rcases h p (by omega) with ⟨e, a1, a2⟩ | ⟨e, a1, k, a2⟩
    · obtain ⟨d1, d2, d3, d4, d5⟩ := ps_dash e
      refine ⟨by omega, by omega, by omega, ?_, ?_, fun g hg => ?_, fun i => by rw [d5]; exact i7 i⟩
      · rw [d4, if_neg (by omega)]; exact i4
      · rw [d1, d4, if_pos rfl]; omega
      · rw [d4, d4]
        rcases Nat.lt_or_ge g (pg b p) with x | x
        · rw [if_neg (by omega), if_neg (by omega)]; exact i6 g x
        · rw [show g = pg b p by omega, if_neg (by omega), if_pos rfl]
          omega
    · obtain ⟨d1, d2, d3, d4, d5⟩ := ps_kind e
      refine ⟨by omega, by omega, by omega, by rw [d4]; exact i4, by rw [d1, d4]; omega, fun g hg => by rw [d4, d4]; exact i6 g (by omega), fun i => ?_⟩
      rw [d5]
      split
      · rw [a2]; exact kdN_le a2
      · exact i7 i
theorem q_kindOf {I : sI} {J : sJ} {post : Int32 → sI → sJ → Prop} {c : Nat} (hc : c < 256) (h1 : ∀ k, kdN c = some k → post (nI k) I J) (h2 : kdN c = none → post (-1) I J) : w_X7_kindOf (nI c) I J post := by
  unfold w_X7_kindOf
  rw [show (63 : Int32) = nI 63 from rfl, show (97 : Int32) = nI 97 from rfl, show (109 : Int32) = nI 109 from rfl, pf_eq (by omega) (by omega), pf_lt (by omega) (by omega), pf_le (by omega) (by omega)]
  refine ⟨fun e => ⟨fun e2 => h2 ?_, fun e2 => ⟨fun e3 => h2 ?_, fun e3 => ?_⟩⟩, fun e => h1 12 ?_⟩
  · unfold kdN; rw [if_neg e, if_neg (by omega)]
  · unfold kdN; rw [if_neg e, if_neg (by omega)]
  · rw [pk_sub (by omega)]
    exact h1 _ (by unfold kdN; rw [if_neg e, if_pos (by omega)])
  · unfold kdN; rw [if_pos e]
theorem q_min {I : sI} {J : sJ} {post : Int32 → sI → sJ → Prop} {a b : Nat} (ha : a < 2147483648) (hb : b < 2147483648) (h : post (nI (min a b)) I J) : w_J9_min_7cf53 (nI a) (nI b) I J post := by
  unfold w_J9_min_7cf53
  rw [pf_lt hb ha]
  refine ⟨fun e => ?_, fun e => ?_⟩
  · rw [show min a b = b by omega] at h; exact h
  · rw [show min a b = a by omega] at h; exact h
theorem q_max {I : sI} {J : sJ} {post : Int32 → sI → sJ → Prop} {a b : Nat} (ha : a < 2147483648) (hb : b < 2147483648) (h : post (nI (max a b)) I J) : w_J9_max_7cf53 (nI a) (nI b) I J post := by
  unfold w_J9_max_7cf53
  rw [pf_lt ha hb]
  refine ⟨fun e => ?_, fun e => ?_⟩
  · rw [show max a b = b by omega] at h; exact h
  · rw [show max a b = a by omega] at h; exact h
theorem q_faultAsDisc {I : sI} {J : sJ} {post : Int32 → sI → sJ → Prop} {n : Nat} {b : Nat → Nat} (hT : cT n b I) (hn : n ≤ 80) (hb : ∀ i, i < n → b i < 256) (h1 : ∀ p, p < n → p < 60 → okTo b p → ¬ okAt b p → post (nI p) I J) (h2 : okTo b (min n 60) → 60 < n ∨ pl b n = 0 → post (nI (min n 60)) I J) (h3 : okTo b n → n ≤ 60 → pl b n ≠ 0 → post (-1) I J) : w_X7_faultAsDisc I J post := by
  obtain ⟨t1, t2⟩ := hT
  unfold w_X7_faultAsDisc
  rw [t1, show (60 : Int32) = nI 60 from rfl]
  refine q_min (by omega) (by omega) ?_
  have loop : ∀ m p, okTo b p → p ≤ min n 60 → min n 60 - p < m → w_X7_faultAsDisc_17_n post m (nI (pg b p + 1)) (nI (pl b p)) (nI (min n 60)) (nI p) I J := by
    intro m
    induction m with
    | zero => intro p _ _ h; omega
    | succ m ih =>
      intro p ho hp hm
      obtain ⟨i1, i2, i3, i4, i5, i6, i7⟩ := ps_inv ho
      show w_X7_faultAsDisc_17_s post _ _ _ _ _ I J
      unfold w_X7_faultAsDisc_17_s w_X7_faultAsDisc_100
      rw [pf_le (by omega) (by omega), t1, pf_lt (by omega) (by omega), pf_eq0 (by omega)]
      refine ⟨fun e => ?_, fun e => ⟨vp_in_nI (by omega) (by omega), ?_⟩⟩
      · have e : p = min n 60 := by omega
        refine ⟨fun e2 => h2 (e ▸ ho) (Or.inl (by omega)), fun e2 => ⟨fun e3 => ?_, fun e3 => ?_⟩⟩
        · rw [show p = n by omega] at ho e3
          exact h3 ho (by omega) e3
        · refine h2 (e ▸ ho) (Or.inr ?_)
          rw [show n = p by omega]; exact e3
      · rw [pf_cl (by omega), t2 p (by omega), show (45 : Int32) = nI 45 from rfl, pf_eq (by have := hb p (by omega); omega) (by omega), show (6 : Int32) = nI 6 from rfl, pf_eq (by omega) (by omega), show (12 : Int32) = nI 12 from rfl, pf_eq (by omega) (by omega)]
        refine ⟨fun e2 => ⟨fun e3 => h1 p (by omega) (by omega) ho (fun z => ?_), fun e3 => ⟨vp_in_nI (by omega) (by omega), ?_⟩⟩, fun e2 => ⟨fun e3 => h1 p (by omega) (by omega) ho (fun z => ?_), fun e3 => ⟨fun e4 => ?_, fun e4 => h1 p (by omega) (by omega) ho (fun z => ?_)⟩⟩⟩
        · rcases z with z | z
          · exact e2 z.1
          · omega
        · refine q_kindOf (hb p (by omega)) (fun k hk => b3 (pf_ne_m1 (by have := kdN_le hk; omega)) ?_) (fun hk => b4 rfl (h1 p (by omega) (by omega) ho (fun z => ?_)))
          · rintro _ rfl
            unfold w_X7_faultAsDisc_82
            rintro _ rfl
            obtain ⟨d1, d2, d3, d4, d5⟩ := ps_kind e2
            have := ih (p + 1) (okTo_s ho (Or.inr ⟨e2, by omega, k, hk⟩)) (by omega) (by omega)
            rw [d1, d2] at this
            rw [nI_1, nI_1]
            exact this
          · rcases z with z | ⟨-, -, k, z⟩
            · exact e2 z.1
            · rw [hk] at z; cases z
        · rcases z with z | z
          · exact z.2.1 e3
          · exact z.1 e2
        · rintro _ rfl
          unfold w_X7_faultAsDisc_82
          rintro _ rfl
          obtain ⟨d1, d2, d3, d4, d5⟩ := ps_dash e2
          have := ih (p + 1) (okTo_s ho (Or.inl ⟨e2, e3, by omega⟩)) (by omega) (by omega)
          rw [d1, d2] at this
          rw [nI_1, nI_1]
          exact this
        · rcases z with z | z
          · omega
          · exact z.1 e2
  exact ⟨_, loop (min n 60 + 1) 0 (fun q hq => by omega) (by omega) (by omega)⟩
