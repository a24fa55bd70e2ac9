/-- a disc filled up to p signs -/
def fSt (b : Nat → Nat) (p h : Nat) (I : sI) : Prop := I h 3 = nI (pg b p) ∧ I h 4 = nI (pP b p) ∧ (∀ g, g ≤ pg b p → I (h + 3) g = nI (pS b p g)) ∧ (∀ i, i < pP b p → I (h + 1) i = nI (pK b p i)) ∧ (∀ g i, g < pg b p → pS b p g ≤ i → i < pS b p (g + 1) → I (h + 2) i = nI g) ∧ ∀ i, pS b p (pg b p) ≤ i → i < pP b p → I (h + 2) i = nI (pg b p)
/-- the disc that a text of n signs is -/
def dG (b : Nat → Nat) (n : Nat) : Nat := pg b n + 1
def dS (b : Nat → Nat) (n : Nat) : Nat → Nat := fun k => if k = pg b n + 1 then pP b n else pS b n k
theorem dWD {b : Nat → Nat} {n : Nat} (ho : okTo b n) (h60 : n ≤ 60) (hl : pl b n ≠ 0) : tWD (dG b n) (pP b n) (dS b n) (pK b n) := by
  obtain ⟨i1, i2, i3, i4, i5, i6, i7⟩ := ps_inv ho
  refine ⟨by unfold dG; omega, by omega, ?_, ?_, fun g hg => ?_, fun p _ => i7 p⟩
  · unfold dS; rw [if_neg (by omega)]; exact i4
  · unfold dS dG; rw [if_pos rfl]
  · unfold dG at hg
    unfold dS
    rcases Nat.lt_or_ge g (pg b n) with x | x
    · rw [if_neg (by omega), if_neg (by omega)]; exact i6 g x
    · rw [show g = pg b n by omega, if_neg (by omega), if_pos rfl]
      omega
theorem q_fill {I : sI} {J : sJ} {post : sI → sJ → Prop} {n h : Nat} {b : Nat → Nat} (hh : h = 4 ∨ h = 138) (hT : cT n b I) (h60 : n ≤ 60) (hb : ∀ i, i < n → b i < 256) (ho : okTo b n) (h0 : I (h + 3) 0 = 0) (hp : ∀ I2 : sI, (∀ q, ¬ (q = h ∨ q = h + 1 ∨ q = h + 2 ∨ q = h + 3) → I2 q = I q) → cD (dG b n) (pP b n) (dS b n) (pK b n) h I2 → post I2 J) : w_X2_fill h I J post := by
  obtain ⟨t1, t2⟩ := hT
  obtain ⟨z0, z1, z2⟩ := sRdisc h (by rcases hh with rfl | rfl <;> decide)
  have loop : ∀ m p (I1 : sI), p ≤ n → n - p < m → (∀ q, ¬ (q = h ∨ q = h + 1 ∨ q = h + 2 ∨ q = h + 3) → I1 q = I q) → fSt b p h I1 → w_X2_fill_12_n h post m (nI p) I1 J := by
    intro m
    induction m with
    | zero => intro p I1 _ hm; omega
    | succ m ih =>
      intro p I1 hpn hm fr ⟨f1, f2, f3, f4, f5, f6⟩
      obtain ⟨i1, i2, i3, i4, i5, i6, i7⟩ := ps_inv (b := b) (p := p) (fun q hq => ho q (by omega))
      show w_X2_fill_12_s h post _ _ I1 J
      unfold w_X2_fill_12_s
      rw [fr 1 (by omega), fr 2 (by omega), t1, pf_le (by omega) (by omega), z0, z1, z2]
      refine ⟨fun e => ?_, fun e => ⟨vp_in_nI (by omega) (by omega), ?_⟩⟩
      · have e : p = n := by omega
        subst e
        rintro _ rfl
        rw [show (sUI I1 h 3 (I1 h 3 + 1)) h 3 = nI (pg b p + 1) by rw [pf_uis, if_pos rfl, f1, nI_1]]
        refine ⟨vp_in_nI (by omega) (by omega), ?_⟩
        rintro _ rfl
        rw [pf_cl (by omega), show (sUI I1 h 3 (I1 h 3 + 1)) h 4 = nI (pP b p) by rw [pf_uis, if_neg (by omega), f2]]
        refine hp _ (fun q hq => ?_) ⟨?_, ?_, fun g hg => ?_, fun i hi => ?_, fun g i hg h1 h2 => ?_⟩
        · rw [sUI_ne (by omega), sUI_ne (by omega)]; exact fr q hq
        · rw [pf_ui, if_neg (by omega), pf_uis, if_pos rfl, f1, nI_1]; rfl
        · rw [pf_ui, if_neg (by omega), pf_uis, if_neg (by omega), f2]
        · unfold dG at hg
          unfold dS
          rw [pf_uis]
          split
          · rfl
          · rw [pf_ui, if_neg (by omega)]; exact f3 g (by omega)
        · rw [pf_ui, if_neg (by omega), pf_ui, if_neg (by omega)]; exact f4 i hi
        · unfold dG at hg
          unfold dS at h1 h2
          rw [pf_ui, if_neg (by omega), pf_ui, if_neg (by omega)]
          rcases Nat.lt_or_ge g (pg b p) with x | x
          · rw [if_neg (by omega)] at h1 h2
            exact f5 g i x h1 h2
          · have x : g = pg b p := by omega
            subst x
            rw [if_neg (by omega)] at h1
            rw [if_pos rfl] at h2
            exact f6 i h1 h2
      · rw [pf_cl (by omega), t2 p (by omega)]
        refine q_kindOf (hb p (by omega)) (fun k hk => b3 (pf_ne_m1 (by have := kdN_le hk; omega)) ?_) (fun hk => b4 rfl ?_)
        · have nd : b p ≠ 45 := fun e => by rw [e] at hk; cases hk
          obtain ⟨d1, d2, d3, d4, d5⟩ := ps_kind nd
          have hl6 : pl b p < 6 := by
            rcases ho p (by omega) with w | w
            · exact absurd w.1 nd
            · exact w.2.1
          rw [f2]
          refine ⟨vp_in_nI (by omega) (by omega), ?_⟩
          rintro _ rfl
          rw [pf_cl (by omega), show (sUI I1 (h + 1) (pP b p) (nI k)) h 4 = nI (pP b p) by rw [pf_ui, if_neg (by omega), f2], show (sUI I1 (h + 1) (pP b p) (nI k)) h 3 = nI (pg b p) by rw [pf_ui, if_neg (by omega), f1]]
          refine ⟨vp_in_nI (by omega) (by omega), ?_⟩
          rintro _ rfl
          rw [pf_cl (by omega)]
          rintro _ rfl
          unfold w_X2_fill_94
          rintro _ rfl
          rw [nI_1]
          refine ih (p + 1) _ (by omega) (by omega) (fun q hq => ?_) ⟨?_, ?_, fun g hg => ?_, fun i hi => ?_, fun g i hg h1 h2 => ?_, fun i h1 h2 => ?_⟩
          · rw [sUI_ne (by omega), sUI_ne (by omega), sUI_ne (by omega)]; exact fr q hq
          · rw [pf_uis, if_neg (by omega), pf_ui, if_neg (by omega), pf_ui, if_neg (by omega), f1, d1]
          · rw [pf_uis, if_pos rfl, pf_ui, if_neg (by omega), pf_ui, if_neg (by omega), f2, nI_1, d3]
          · rw [pf_ui, if_neg (by omega), pf_ui, if_neg (by omega), pf_ui, if_neg (by omega), d4]; exact f3 g (by omega)
          · rw [pf_ui, if_neg (by omega), pf_ui, if_neg (by omega), pf_uis, d5, hk]
            split
            · rfl
            · exact f4 i (by omega)
          · rw [d4] at h1 h2
            rw [pf_ui, if_neg (by omega), pf_uis]
            rw [d1] at hg
            have hle : pS b p (g + 1) ≤ pP b p := by
              have mono : ∀ k, g + 1 + k ≤ pg b p → pS b p (g + 1) ≤ pS b p (g + 1 + k) := by
                intro k
                induction k with
                | zero => intro _; exact Nat.le_refl _
                | succ k ihk => intro hk2; have := ihk (by omega); have := (i6 (g + 1 + k) (by omega)).1; rw [show g + 1 + (k + 1) = g + 1 + k + 1 by omega]; omega
              have := mono (pg b p - (g + 1)) (by omega)
              rw [show g + 1 + (pg b p - (g + 1)) = pg b p by omega] at this
              omega
            rw [if_neg (by omega), pf_ui, if_neg (by omega)]
            exact f5 g i hg h1 h2
          · rw [d4, d1] at h1
            rw [d3] at h2
            rw [pf_ui, if_neg (by omega), pf_uis, d1]
            split
            · rfl
            · rw [pf_ui, if_neg (by omega)]
              exact f6 i h1 (by omega)
        · have nd : b p = 45 := by
            rcases ho p (by omega) with w | ⟨-, -, k, w⟩
            · exact w.1
            · rw [hk] at w; cases w
          obtain ⟨d1, d2, d3, d4, d5⟩ := ps_dash nd
          have hg11 : pg b p < 11 ∧ pl b p ≠ 0 := by
            rcases ho p (by omega) with w | w
            · exact ⟨w.2.2, w.2.1⟩
            · exact absurd nd w.1
          rintro _ rfl
          rw [show (sUI I1 h 3 (I1 h 3 + 1)) h 3 = nI (pg b p + 1) by rw [pf_uis, if_pos rfl, f1, nI_1]]
          refine ⟨vp_in_nI (by omega) (by omega), ?_⟩
          rintro _ rfl
          rw [pf_cl (by omega), show (sUI I1 h 3 (I1 h 3 + 1)) h 4 = nI (pP b p) by rw [pf_uis, if_neg (by omega), f2]]
          unfold w_X2_fill_94
          rintro _ rfl
          rw [nI_1]
          refine ih (p + 1) _ (by omega) (by omega) (fun q hq => ?_) ⟨?_, ?_, fun g hg => ?_, fun i hi => ?_, fun g i hg h1 h2 => ?_, fun i h1 h2 => ?_⟩
          · rw [sUI_ne (by omega), sUI_ne (by omega)]; exact fr q hq
          · rw [pf_ui, if_neg (by omega), pf_uis, if_pos rfl, f1, nI_1, d1]
          · rw [pf_ui, if_neg (by omega), pf_uis, if_neg (by omega), f2, d3]
          · rw [pf_uis, d4]
            split
            · rfl
            · rw [pf_ui, if_neg (by omega)]; exact f3 g (by omega)
          · rw [pf_ui, if_neg (by omega), pf_ui, if_neg (by omega), d5]; exact f4 i (by omega)
          · rw [d1] at hg
            rw [d4] at h1 h2
            rw [pf_ui, if_neg (by omega), pf_ui, if_neg (by omega)]
            rcases Nat.lt_or_ge g (pg b p) with x | x
            · rw [if_neg (by omega)] at h1 h2
              exact f5 g i x h1 h2
            · have x : g = pg b p := by omega
              subst x
              rw [if_neg (by omega)] at h1
              rw [if_pos rfl] at h2
              exact f6 i h1 h2
          · rw [d4, d1, if_pos rfl] at h1
            rw [d3] at h2
            omega
  unfold w_X2_fill
  rintro _ rfl _ rfl
  refine ⟨n + 1, loop (n + 1) 0 _ (by omega) (by omega) (fun q hq => ?_) ⟨?_, ?_, fun g hg => ?_, fun i hi => ?_, fun g i hg => ?_, fun i h1 h2 => ?_⟩⟩
  · rw [sUI_ne (by omega), sUI_ne (by omega)]
  · rw [pf_uis, if_neg (by omega), pf_uis, if_pos rfl]; rfl
  · rw [pf_uis, if_pos rfl]; rfl
  · have : g = 0 := by simp [pg, ps] at hg; exact hg
    subst this
    rw [pf_ui, if_neg (by omega), pf_ui, if_neg (by omega), h0]; rfl
  · simp [pP, ps] at hi
  · simp [pg, ps] at hg
  · simp [pP, ps] at h2
