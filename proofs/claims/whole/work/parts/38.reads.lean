theorem q_flag {I : sI} {J : sJ} {post : Int32 → sI → sJ → Prop} {a : Int32} (h0 : a = 0 → post 0 I J) (h1 : ¬ a = 0 → post 1 I J) : w_X12_flag a I J post := ⟨h0, h1⟩
theorem q_signAt {I : sI} {J : sJ} {post : Int32 → sI → sJ → Prop} {p L : Nat} {b : Nat → Nat} (h5 : I 248 5 = nI p) (h6 : I 248 6 = nI L) (hL : L ≤ 60) (hp : p ≤ L) (hb : ∀ i, i < L → b i < 256 ∧ I 250 i = nI (b i)) (h1 : ∀ k, p < L → kdN (b p) = some k → post (nI k) I J) (h2 : (p < L → kdN (b p) = none) → post (-1) I J) : w_X12_signAt I J post := by
  unfold w_X12_signAt
  rw [h5, h6, pf_lt (by omega) (by omega)]
  refine ⟨fun e => ⟨vp_in_nI (by omega) (by omega), ?_⟩, fun e => h2 (fun z => absurd z e)⟩
  obtain ⟨bb1, bb2⟩ := hb p e
  rw [pf_cl (by omega), bb2]
  rintro _ rfl
  rw [show (63 : Int32) = nI 63 from rfl, pf_eq (by omega) (by omega)]
  refine ⟨fun e2 => q_in (lo := nI 97) (hi := nI 108) rfl rfl (fun e3 => b2 (by decide) ?_) (fun e3 => b1 rfl ?_), fun e2 => h1 12 e (by unfold kdN; rw [if_pos e2])⟩
  · rw [pf_le (by omega) (by omega), pf_le (by omega) (by omega)] at e3
    rw [show (97 : Int32) = nI 97 from rfl, pk_sub e3.1]
    exact h1 _ e (by unfold kdN; rw [if_neg e2, if_pos (by omega)])
  · rw [pf_le (by omega) (by omega), pf_le (by omega) (by omega)] at e3
    exact h2 (fun _ => by unfold kdN; rw [if_neg e2, if_neg (by omega)])
/-- the model behind p signs of a text that have no fault; its groups so far are written down -/
def rSt (b : Nat → Nat) (L p : Nat) (I I1 : sI) : Prop := I1 248 5 = nI p ∧ I1 248 6 = nI L ∧ I1 248 7 = nI (pg b p) ∧ I1 248 8 = nI (pP b p) ∧ (∀ i, i < pP b p → I1 252 i = nI (pK b p i)) ∧ (∀ g, g < pg b p → I1 251 g = nI (pS b p (g + 1) - pS b p g)) ∧ (∀ q, ¬ (q = 248 ∨ q = 251 ∨ q = 252) → I1 q = I q) ∧ ∀ k, ¬ (k = 5 ∨ k = 7 ∨ k = 8) → I1 248 k = I 248 k
theorem q_reads {I : sI} {J : sJ} {post : Int32 → sI → sJ → Prop} {n : Nat} {b : Nat → Nat} (hn : n ≤ 80) (h5 : I 248 5 = 0) (h6 : I 248 6 = nI (min n 60)) (hb : ∀ i, i < n → b i < 256 ∧ I 250 i = nI (b i))
    (h1 : ∀ p, p < n → p < 60 → okTo b p → ¬ okAt b p → ∀ I2 : sI, (∀ q, ¬ (q = 248 ∨ q = 251 ∨ q = 252) → I2 q = I q) → (∀ k, ¬ (k = 5 ∨ k = 7 ∨ k = 8) → I2 248 k = I 248 k) → post ((-1) - nI p) I2 J)
    (h2 : okTo b (min n 60) → 60 < n ∨ pl b n = 0 → ∀ I2 : sI, (∀ q, ¬ (q = 248 ∨ q = 251 ∨ q = 252) → I2 q = I q) → (∀ k, ¬ (k = 5 ∨ k = 7 ∨ k = 8) → I2 248 k = I 248 k) → post ((-1) - nI (min n 60)) I2 J)
    (h3 : okTo b n → n ≤ 60 → pl b n ≠ 0 → ∀ I2 : sI, (∀ q, ¬ (q = 248 ∨ q = 251 ∨ q = 252) → I2 q = I q) → (∀ k, ¬ (k = 5 ∨ k = 7 ∨ k = 8) → I2 248 k = I 248 k) → I2 248 7 = nI (dG b n) → I2 248 8 = nI (pP b n) → (∀ g, g < dG b n → I2 251 g = nI (dS b n (g + 1) - dS b n g)) → (∀ i, i < pP b n → I2 252 i = nI (pK b n i)) → post 0 I2 J) : w_X12_reads (nI n) I J post := by
  have e61 : (-61 : Int32) = (-1) - nI 60 := by decide
  -- the end with no more groups, when the last one was empty or something wrong stands behind it
  have bad : ∀ (p : Nat) (I1 : sI), p ≤ min n 60 → okTo b p → I1 248 5 = nI p → (∀ q, ¬ (q = 248 ∨ q = 251 ∨ q = 252) → I1 q = I q) → (∀ k, ¬ (k = 5 ∨ k = 7 ∨ k = 8) → I1 248 k = I 248 k) → (p < min n 60 → ¬ okAt b p) → (p = min n 60 → pl b p = 0) → w_X12_reads_189 post (nI n) I1 J := by
    intro p I1 hp ho e5 fr fs hf hl
    unfold w_X12_reads_189 w_X12_reads_190 w_X12_reads_215
    rw [e5, show (60 : Int32) = nI 60 from rfl, pf_le (by omega) (by omega), pf_lt (by omega) (by omega)]
    have goal : (p = 60 → n ≤ 60) → post ((-1) - nI p) I1 J := by
      intro _
      rcases Nat.lt_or_ge p (min n 60) with x | x
      · exact h1 p (by omega) (by omega) ho (hf x) I1 fr fs
      · have x : p = min n 60 := by omega
        rw [x]
        refine h2 (x ▸ ho) ?_ I1 fr fs
        rcases Nat.lt_or_ge 60 n with y | y
        · exact Or.inl y
        · right
          have := hl x
          rw [show p = n by omega] at this
          exact this
    refine ⟨fun e => ⟨fun _ => goal (fun _ => e), fun z => absurd rfl z⟩, fun e => ⟨fun z => absurd rfl z, fun _ => ⟨fun e2 => ⟨fun _ => goal (fun z => absurd e2 (by omega)), fun z => absurd rfl z⟩, fun e2 => ?_⟩⟩⟩
    rw [e61]
    have x : p = min n 60 := by omega
    have := h2 (x ▸ ho) (Or.inl (by omega)) I1 fr fs
    rw [show min n 60 = 60 by omega] at this
    exact this
  -- the inner loop: one group
  have inner : ∀ (k14 : Int32 → Int32 → Int32 → sI → sJ → Prop) (p0 : Nat), (∀ (p : Nat) (I1 : sI), p0 ≤ p → okTo b p → p ≤ min n 60 → rSt b (min n 60) p I I1 → (pl b p = 6 ∨ p = min n 60 ∨ kdN (b p) = none) → w_X12_reads_74 post k14 (nI n) (nI (pl b p)) I1 J) → ∀ m p (I1 : sI), p0 ≤ p → okTo b p → p ≤ min n 60 → min n 60 - p < m → rSt b (min n 60) p I I1 → w_X12_reads_21_n post k14 m (nI n) (nI (pl b p)) I1 J := by
    intro k14 p0 hx m
    induction m with
    | zero => intro p I1 _ _ _ hm; omega
    | succ m ih =>
      intro p I1 hp0 ho hp hm hs
      obtain ⟨f5, f6, f7, f8, f9, f10, fr, fs⟩ := id hs
      obtain ⟨i1, i2, i3, i4, i5, i6, i7⟩ := ps_inv ho
      have htx : ∀ i, i < min n 60 → b i < 256 ∧ I1 250 i = nI (b i) := fun i hi => by rw [fr 250 (by omega)]; exact hb i (by omega)
      show w_X12_reads_21_s post k14 _ _ _ I1 J
      unfold w_X12_reads_21_s
      rw [show (6 : Int32) = nI 6 from rfl, pf_le (by omega) (by omega)]
      refine ⟨fun e => hx p I1 hp0 ho hp hs (Or.inl (by omega)), fun e => ?_⟩
      refine q_signAt f5 f6 (by omega) hp htx (fun k hpl hk => b2 (pf_lt0 (by have := kdN_le hk; omega)) ?_) (fun hk => b1 (by decide) (hx p I1 hp0 ho hp hs ?_))
      · refine q_signAt f5 f6 (by omega) hp htx (fun k2 _ hk2 => ?_) (fun hk2 => ?_)
        · rw [hk] at hk2
          cases hk2
          have nd : b p ≠ 45 := fun e => by rw [e] at hk; cases hk
          obtain ⟨d1, d2, d3, d4, d5⟩ := ps_kind nd
          rw [f8]
          refine ⟨vp_in_nI (by omega) (by omega), ?_⟩
          rw [pf_cl (by omega)]
          rintro _ rfl _ rfl _ rfl _ rfl
          have := ih (p + 1) (sUI (sUI (sUI I1 252 (pP b p) (nI k)) 248 8 (nI (pP b p + 1))) 248 5 (nI (p + 1))) (by omega) (okTo_s ho (Or.inr ⟨nd, by omega, k, hk⟩)) (by omega) (by omega) ⟨rfl, f6, by rw [d1]; exact f7, by rw [d3]; rfl, fun i hi => ?_, fun g hg => by rw [d4, d4]; exact f10 g (by omega), fun q hq => by rw [sUI_ne (by omega), sUI_ne (by omega), sUI_ne (by omega)]; exact fr q hq, fun k hk => by rw [pf_ui, if_neg (by omega), pf_ui, if_neg (by omega), pf_ui, if_neg (by omega)]; exact fs k hk⟩
          · rw [d2] at this
            rw [nI_1, show (sUI I1 252 (pP b p) (nI k)) 248 8 = nI (pP b p) from f8, nI_1, show (sUI (sUI I1 252 (pP b p) (nI k)) 248 8 (nI (pP b p + 1))) 248 5 = nI p from f5, nI_1]
            exact this
          · rw [pf_ui, if_neg (by omega), pf_ui, if_neg (by omega), pf_uis, d5, hk]
            split
            · rfl
            · exact f9 i (by omega)
        · have := hk2 hpl
          rw [hk] at this
          cases this
      · rcases Nat.lt_or_ge p (min n 60) with x | x
        · exact Or.inr (Or.inr (hk x))
        · exact Or.inr (Or.inl (by omega))
  -- the outer loop
  have outer : ∀ m p (I1 : sI), okTo b p → p ≤ min n 60 → min n 60 - p + 2 ≤ m → pl b p = 0 → rSt b (min n 60) p I I1 → w_X12_reads_14_n post m (nI n) 1 1 I1 J := by
    intro m
    induction m with
    | zero => intro p I1 _ _ hm; omega
    | succ m ih =>
      intro p I1 ho hp hm hl hs
      show w_X12_reads_14_s post _ _ _ _ I1 J
      unfold w_X12_reads_14_s
      refine b2 (by decide) ⟨min n 60 - p + 1, ?_⟩
      have := inner (w_X12_reads_14_n post m) p ?_ (min n 60 - p + 1) p I1 (Nat.le_refl _) ho hp (by omega) hs
      · rw [hl] at this; exact this
      clear hs hl I1
      intro p2 I1 hpp ho hp2 hs hend
      obtain ⟨f5, f6, f7, f8, f9, f10, fr, fs⟩ := id hs
      obtain ⟨i1, i2, i3, i4, i5, i6, i7⟩ := ps_inv ho
      obtain ⟨m2, rfl⟩ : ∃ m2, m = m2 + 1 := ⟨m - 1, by omega⟩
      unfold w_X12_reads_74 w_X12_reads_84
      rw [pf_le0 (by omega)]
      refine ⟨fun e => b1 rfl ?_, fun e => b2 (by decide) ?_⟩
      · -- the group is empty
        unfold w_X12_reads_110 w_X12_reads_152 w_X12_reads_153
        refine b1 rfl (q_flag (fun _ => ?_) (fun z => absurd rfl z))
        rintro _ rfl
        show w_X12_reads_14_s post _ _ _ _ _ J
        unfold w_X12_reads_14_s
        refine b1 rfl (b1 rfl (bad p2 _ hp2 ho ?_ (fun q hq => ?_) (fun k hk => ?_) (fun x z => ?_) (fun _ => e)))
        · rw [pf_uis, if_pos rfl, f5, Int32.add_zero]
        · rw [sUI_ne (by omega)]; exact fr q hq
        · rw [pf_uis, if_neg (by omega)]; exact fs k hk
        · rcases z with z | ⟨-, -, k, z⟩
          · exact z.2.1 e
          · rcases hend with y | y | y
            · omega
            · omega
            · rw [y] at z; cases z
      · rw [f7]
        refine ⟨vp_in_nI (by omega) (by omega), ?_⟩
        rw [pf_cl (by omega)]
        rintro _ rfl
        rw [show (sUI I1 251 (pg b p2) (nI (pl b p2))) 248 7 = nI (pg b p2) from f7, nI_1]
        rintro _ rfl
        -- behind a group
        have g5 : (sUI (sUI I1 251 (pg b p2) (nI (pl b p2))) 248 7 (nI (pg b p2 + 1))) 248 5 = nI p2 := f5
        have g6 : (sUI (sUI I1 251 (pg b p2) (nI (pl b p2))) 248 7 (nI (pg b p2 + 1))) 248 6 = nI (min n 60) := f6
        have g7 : (sUI (sUI I1 251 (pg b p2) (nI (pl b p2))) 248 7 (nI (pg b p2 + 1))) 248 7 = nI (pg b p2 + 1) := rfl
        have g8 : (sUI (sUI I1 251 (pg b p2) (nI (pl b p2))) 248 7 (nI (pg b p2 + 1))) 248 8 = nI (pP b p2) := f8
        have g9 : ∀ i, i < pP b p2 → (sUI (sUI I1 251 (pg b p2) (nI (pl b p2))) 248 7 (nI (pg b p2 + 1))) 252 i = nI (pK b p2 i) := f9
        have g10 : ∀ g, g < pg b p2 + 1 → (sUI (sUI I1 251 (pg b p2) (nI (pl b p2))) 248 7 (nI (pg b p2 + 1))) 251 g = nI ((if g = pg b p2 then pP b p2 else pS b p2 (g + 1)) - pS b p2 g) := by
          intro g hg
          rw [pf_ui, if_neg (by omega), pf_uis]
          split
          · rename_i e; subst e; congr 1; omega
          · exact f10 g (by omega)
        have gr : ∀ q, ¬ (q = 248 ∨ q = 251 ∨ q = 252) → (sUI (sUI I1 251 (pg b p2) (nI (pl b p2))) 248 7 (nI (pg b p2 + 1))) q = I q := fun q hq => by rw [sUI_ne (by omega), sUI_ne (by omega)]; exact fr q hq
        have gs : ∀ k, ¬ (k = 5 ∨ k = 7 ∨ k = 8) → (sUI (sUI I1 251 (pg b p2) (nI (pl b p2))) 248 7 (nI (pg b p2 + 1))) 248 k = I 248 k := fun k hk => by rw [pf_uis, if_neg (by omega), pf_ui, if_neg (by omega)]; exact fs k hk
        generalize sUI (sUI I1 251 (pg b p2) (nI (pl b p2))) 248 7 (nI (pg b p2 + 1)) = I2 at g5 g6 g7 g8 g9 g10 gr gs ⊢
        have stop : (p2 < min n 60 → ¬ okAt b p2) → w_X12_reads_152 post (w_X12_reads_14_n post (m2 + 1)) (nI n) 1 I2 J := by
          intro hno
          unfold w_X12_reads_152 w_X12_reads_153
          refine q_flag (fun _ => ?_) (fun z => absurd rfl z)
          rintro _ rfl
          have e0 : sUI I2 248 5 (I2 248 5 + 0) = I2 := by
            funext q k
            rw [pf_ui]
            split
            · rename_i h; rw [h.1, h.2, Int32.add_zero]
            · rfl
          rw [e0]
          show w_X12_reads_14_s post _ _ _ _ _ J
          unfold w_X12_reads_14_s
          refine b1 rfl (b2 (by decide) ?_)
          rw [g5, g6, pf_eq (by omega) (by omega)]
          refine ⟨fun x => bad p2 I2 hp2 ho g5 gr gs hno (fun y => absurd y x), fun x => ?_⟩
          unfold w_X12_reads_190 w_X12_reads_215
          rw [show (60 : Int32) = nI 60 from rfl, pf_le (by omega) (by omega)]
          refine ⟨fun x2 => b2 (by decide) ?_, fun x2 => b3 (by decide) ?_⟩
          · have x3 : p2 = n := by omega
            subst x3
            refine h3 ho x2 e I2 gr gs g7 g8 (fun g hg => ?_) g9
            rw [g10 g (by unfold dG at hg; exact hg)]
            unfold dS
            congr 1
            rw [if_neg (show ¬ g = pg b p2 + 1 by unfold dG at hg; omega)]
            by_cases y : g = pg b p2
            · rw [if_pos y, if_pos (by omega)]
            · rw [if_neg y, if_neg (by omega)]
          · rw [e61]
            have := h2 (x ▸ ho) (Or.inl (by omega)) I2 gr gs
            rw [show min n 60 = 60 by omega] at this
            exact this
        unfold w_X12_reads_110
        refine b2 (by decide) ?_
        rw [g7, show (12 : Int32) = nI 12 from rfl, pf_le (by omega) (by omega), g6, g5, pf_le (by omega) (by omega)]
        refine ⟨fun x => stop (fun y z => ?_), fun x => ⟨fun x2 => stop (fun y => absurd y (by omega)), fun x2 => ⟨vp_in_nI (by omega) (by omega), ?_⟩⟩⟩
        · rcases z with z | ⟨z1, z2, k, z⟩
          · omega
          · rcases hend with w | w | w
            · omega
            · omega
            · rw [w] at z; cases z
        · obtain ⟨bb1, bb2⟩ := hb p2 (by omega)
          rw [pf_cl (by omega), gr 250 (by omega), bb2, show (45 : Int32) = nI 45 from rfl, pf_eq (by omega) (by omega)]
          refine ⟨fun x3 => stop (fun y z => ?_), fun x3 => ?_⟩
          · rcases z with z | ⟨z1, z2, k, z⟩
            · exact x3 z.1
            · rcases hend with w | w | w
              · omega
              · omega
              · rw [w] at z; cases z
          · unfold w_X12_reads_153
            refine q_flag (fun z => absurd z (by decide)) (fun _ => ?_)
            rintro _ rfl
            obtain ⟨d1, d2, d3, d4, d5⟩ := ps_dash x3
            refine ih (p2 + 1) _ (okTo_s ho (Or.inl ⟨x3, e, by omega⟩)) (by omega) (by omega) d2 ⟨?_, g6, by rw [d1]; exact g7, by rw [d3]; exact g8, fun i hi => by rw [d5]; exact g9 i (by omega), fun g hg => ?_, fun q hq => by rw [sUI_ne (by omega)]; exact gr q hq, fun k hk => by rw [pf_uis, if_neg (by omega)]; exact gs k hk⟩
            · rw [pf_uis, if_pos rfl, g5, nI_1]
            · rw [pf_ui, if_neg (by omega), g10 g (by omega), d4, d4]
              congr 1
              rw [if_neg (show ¬ g = pg b p2 + 1 by omega)]
              by_cases y : g = pg b p2
              · rw [if_pos y, if_pos (by omega)]
              · rw [if_neg y, if_neg (by omega)]
  unfold w_X12_reads
  rintro _ rfl _ rfl
  refine ⟨min n 60 + 2, outer (min n 60 + 2) 0 _ (fun q hq => by omega) (by omega) (by omega) (by simp [pl, ps]) ⟨h5, h6, rfl, rfl, fun i hi => ?_, fun g hg => ?_, fun q hq => by rw [sUI_ne (by omega), sUI_ne (by omega)], fun k hk => by rw [pf_ui, if_neg (by omega), pf_ui, if_neg (by omega)]⟩⟩
  · simp [pP, ps] at hi
  · simp [pg, ps] at hg
