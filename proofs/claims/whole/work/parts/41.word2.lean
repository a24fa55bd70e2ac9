theorem q_X12_word {I : sI} {J : sJ} {post : Int32 → sI → sJ → Prop} {a : Int32} {n : Nat} {b : Nat → Nat} {nw : Nat → Nat} {wl : Nat → Nat → Nat} {wt : Nat → Nat → Nat → Nat} (hW : tWW nw wl wt) (hm : mW nw wl wt I) (hT : mT n b I) (hn : n ≤ 80) (hb : ∀ i, i < n → b i < 256)
    (h0 : (¬ Ix a 4 ∨ ∃ t, t < 4 ∧ a = nI t ∧ nw t = 20) → ∀ I2 : sI, (∀ q, ¬ q = 248 → I2 q = I q) → (∀ k, ¬ (k = 0 ∨ k = 4 ∨ k = 5 ∨ k = 6) → I2 248 k = I 248 k) → I2 248 4 = 0 → post (-100) I2 J)
    (h1 : ∀ t p, t < 4 → a = nI t → nw t < 20 → (p < n ∧ p < 6 ∧ (∀ q, q < p → lok b q) ∧ ¬ lok b p) ∨ (p = min n 6 ∧ (∀ q, q < p → lok b q) ∧ (n = 0 ∨ 6 < n)) → ∀ I2 : sI, (∀ q, ¬ (q = 248 ∨ q = 259) → I2 q = I q) → (∀ k, ¬ (k = 0 ∨ k = 4 ∨ k = 5 ∨ k = 6) → I2 248 k = I 248 k) → I2 248 4 = 0 → (∀ i, i < 6 * (20 * t + nw t) ∨ 6 * (20 * t + nw t) + 6 ≤ i → I2 259 i = I 259 i) → post ((-1) - nI p) I2 J)
    (h3 : ∀ t, t < 4 → a = nI t → nw t < 20 → (∀ q, q < n → lok b q) → 1 ≤ n → n ≤ 6 → isW (nw t) (wl t) (wt t) n b → ∀ I2 : sI, (∀ q, ¬ (q = 248 ∨ q = 259) → I2 q = I q) → (∀ k, ¬ (k = 0 ∨ k = 4 ∨ k = 5 ∨ k = 6) → I2 248 k = I 248 k) → I2 248 4 = 0 → (∀ i, i < 6 * (20 * t + nw t) ∨ 6 * (20 * t + nw t) + 6 ≤ i → I2 259 i = I 259 i) → post (-101) I2 J)
    (h4 : ∀ t, t < 4 → a = nI t → nw t < 20 → (∀ q, q < n → lok b q) → 1 ≤ n → n ≤ 6 → ¬ isW (nw t) (wl t) (wt t) n b → ∀ I2 : sI, (∀ q, ¬ (q = 248 ∨ q = 257 ∨ q = 258 ∨ q = 259) → I2 q = I q) → (∀ k, ¬ (k = 0 ∨ k = 4 ∨ k = 5 ∨ k = 6) → I2 248 k = I 248 k) → I2 248 4 = 0 → (∀ i, i < 6 * (20 * t + nw t) ∨ 6 * (20 * t + nw t) + 6 ≤ i → I2 259 i = I 259 i) → (∀ i, i < n → I2 259 (6 * (20 * t + nw t) + i) = nI (b i - 65)) → (∀ k, ¬ k = t → I2 257 k = I 257 k) → I2 257 t = nI (nw t + 1) → (∀ k, ¬ k = 20 * t + nw t → I2 258 k = I 258 k) → I2 258 (20 * t + nw t) = nI n → post (nI (nw t)) I2 J) : w_X12_word a I J post := by
  obtain ⟨t1, t2⟩ := hT
  unfold w_X12_word
  rintro _ rfl
  refine q_begins (n := n) (M := 6) t1 hn (by omega) ?_
  have fr0 : ∀ q, ¬ q = 248 → (sUI (sUI (sUI (sUI I 248 0 0) 248 4 0) 248 5 0) 248 6 (nI (min n 6))) q = I q := fun q hq => by rw [sUI_ne hq, sUI_ne hq, sUI_ne hq, sUI_ne hq]
  have fs0 : ∀ k, ¬ (k = 0 ∨ k = 4 ∨ k = 5 ∨ k = 6) → (sUI (sUI (sUI (sUI I 248 0 0) 248 4 0) 248 5 0) 248 6 (nI (min n 6))) 248 k = I 248 k := fun k hk => by rw [pf_uis, if_neg (by omega), pf_uis, if_neg (by omega), pf_uis, if_neg (by omega), pf_uis, if_neg (by omega)]
  have e4 : (sUI (sUI (sUI (sUI I 248 0 0) 248 4 0) 248 5 0) 248 6 (nI (min n 6))) 248 4 = 0 := rfl
  have e5 : (sUI (sUI (sUI (sUI I 248 0 0) 248 4 0) 248 5 0) 248 6 (nI (min n 6))) 248 5 = nI 0 := rfl
  have e6 : (sUI (sUI (sUI (sUI I 248 0 0) 248 4 0) 248 5 0) 248 6 (nI (min n 6))) 248 6 = nI (min n 6) := rfl
  generalize sUI (sUI (sUI (sUI I 248 0 0) 248 4 0) 248 5 0) 248 6 (nI (min n 6)) = I0 at fr0 fs0 e4 e5 e6 ⊢
  refine q_X12_isTongue (fun z => b2 (by decide) ?_) (fun z => b1 rfl (h0 (Or.inl z) I0 fr0 fs0 e4))
  obtain ⟨t, ht, rfl⟩ := z
  obtain ⟨w1, w2⟩ := hW t ht
  obtain ⟨m1, m2⟩ := hm t ht
  rw [pf_cl (by omega), fr0 257 (by omega), m1, show (20 : Int32) = nI 20 from rfl, pf_eq (by omega) (by omega)]
  refine ⟨vp_in_nI (by omega) (by omega), fun e => ⟨vp_in_nI (by omega) (by omega), ?_⟩, fun e => h0 (Or.inr ⟨t, ht, rfl, e⟩) I0 fr0 fs0 e4⟩
  rw [pk_mul, nI_add]
  rintro _ rfl
  -- the words there are
  have cmp : ∀ (I1 : sI), (∀ q, q = 257 ∨ q = 258 → I1 q = I q) → (∀ i, i < 6 * (20 * t + nw t) ∨ 6 * (20 * t + nw t) + 6 ≤ i → I1 259 i = I 259 i) → (∀ i, i < n → I1 259 (6 * (20 * t + nw t) + i) = nI (b i - 65)) → (∀ q, q < n → lok b q) → n ≤ 6 → (isW (nw t) (wl t) (wt t) n b → post (-101) I1 J) → (¬ isW (nw t) (wl t) (wt t) n b → ∀ I2 : sI, I2 = sUI (sUI I1 258 (20 * t + nw t) (nI n)) 257 t (nI (nw t + 1)) → post (nI (nw t)) I2 J) → w_X12_word_144 post (nI t) (nI n) (nI (20 * t + nw t)) 0 I1 J := by
    intro I1 r1 r2 r3 hlok hn6 k1 k2
    have loop2 : ∀ (k144 : Int32 → Int32 → Int32 → Int32 → sI → sJ → Prop) w, w < nw t → (¬ (wl t w = n ∧ ∀ i, i < n → wt t w i = b i - 65) → k144 (nI t) (nI n) (nI (20 * t + nw t)) (nI (w + 1)) I1 J) → ∀ m i (x6 : Int32), i ≤ n → n - i < m → (x6 = 0 ∨ x6 = 1) → (x6 = 1 → wl t w = n ∧ ∀ j, j < i → wt t w j = b j - 65) → (x6 = 0 → ¬ (wl t w = n ∧ ∀ i, i < n → wt t w i = b i - 65)) → w_X12_word_185_n post k144 m (nI t) (nI n) (nI (20 * t + nw t)) (nI w) (nI (20 * t + w)) x6 (nI i) I1 J := by
      intro k144 w hw hk m
      induction m with
      | zero => intro i x6 _ hm; omega
      | succ m ih =>
        intro i x6 hi hm hz g1 g0
        show w_X12_word_185_s post k144 _ _ _ _ _ _ _ _ I1 J
        have fin : (w_X12_word_237 post k144 (nI t) (nI n) (nI (20 * t + nw t)) (nI w) x6 I1 J ∧ (x6 = 0 ∨ n ≤ i)) ∨ (x6 = 1 ∧ i < n) := by
          rcases hz with rfl | rfl
          · left
            unfold w_X12_word_237
            refine ⟨b1 rfl ?_, Or.inl rfl⟩
            rintro _ rfl
            rw [nI_1]
            exact hk (g0 rfl)
          · rcases Nat.lt_or_ge i n with x | x
            · exact Or.inr ⟨rfl, x⟩
            · left
              unfold w_X12_word_237
              exact ⟨b2 (by decide) (k1 ⟨w, hw, (g1 rfl).1, fun j hj => (g1 rfl).2 j (by omega)⟩), Or.inr x⟩
        unfold w_X12_word_185_s
        rw [pf_le (by omega) (by omega)]
        rcases fin with ⟨fin, hh⟩ | ⟨rfl, x⟩
        · exact ⟨fun _ => fin, fun x => ⟨fun _ => fin, fun y => by rcases hh with hh | hh; exact absurd hh y; exact absurd hh x⟩⟩
        · refine b2 (by omega) (b2 (by decide) ?_)
          obtain ⟨gl, gj⟩ := g1 rfl
          obtain ⟨c1, c2⟩ := m2 w hw
          obtain ⟨v1, v2, v3⟩ := w2 w hw
          have hli := hlok i x
          rw [show (6 : Int32) = nI 6 from rfl, pk_mul, pk_mul, nI_add, nI_add]
          refine ⟨vp_in_nI (by omega) (by omega), vp_in_nI (by omega) (by omega), ?_⟩
          rw [pf_cl (by omega), pf_cl (by omega), r2 _ (by omega), c2 i (by omega), r3 i x, pf_eq (by have := v3 i (by omega); omega) (by have := hli.2; omega)]
          refine ⟨fun y => ?_, fun y => ?_⟩
          · unfold w_X12_word_229
            rintro _ rfl
            rw [nI_1]
            exact ih (i + 1) 0 (by omega) (by omega) (Or.inl rfl) (fun z => absurd z (by decide)) (fun _ z => y (z.2 i x))
          · unfold w_X12_word_229
            rintro _ rfl
            rw [nI_1]
            refine ih (i + 1) 1 (by omega) (by omega) (Or.inr rfl) (fun _ => ⟨gl, fun j hj => ?_⟩) (fun z => absurd z (by decide))
            rcases Nat.lt_or_ge j i with q | q
            · exact gj j q
            · rw [show j = i by omega]; exact y
    have loop1 : ∀ m w, w ≤ nw t → nw t - w < m → (∀ k, k < w → ¬ (wl t k = n ∧ ∀ i, i < n → wt t k i = b i - 65)) → w_X12_word_144_n post m (nI t) (nI n) (nI (20 * t + nw t)) (nI w) I1 J := by
      intro m
      induction m with
      | zero => intro w _ hm; omega
      | succ m ih =>
        intro w hw hm2 hk
        show w_X12_word_144_s post _ _ _ _ _ I1 J
        unfold w_X12_word_144_s
        rw [pf_cl (by omega), r1 257 (Or.inl rfl), m1, pf_le (by omega) (by omega)]
        refine ⟨vp_in_nI (by omega) (by omega), fun x => ⟨vp_in_nI (by omega) (by omega), ?_⟩, fun x => ?_⟩
        · rw [pf_cl (by omega)]
          rintro _ rfl
          refine ⟨vp_in_nI (by omega) (by omega), vp_in_nI (by omega) (by omega), ?_⟩
          rw [show (sUI I1 258 (20 * t + nw t) (nI n)) 257 t = nI (nw t) by rw [pf_ui, if_neg (by omega), r1 257 (Or.inl rfl)]; exact m1, nI_1]
          rintro _ rfl
          refine ⟨vp_in_nI (by omega) (by omega), ?_⟩
          rw [pf_uis, if_pos rfl, nI_pred]
          exact k2 (fun ⟨k, a, c⟩ => hk k (by omega) c) _ rfl
        · rw [show (20 : Int32) = nI 20 from rfl, pk_mul, nI_add]
          rintro _ rfl
          rw [pf_cl (by omega), r1 258 (Or.inr rfl)]
          obtain ⟨c1, c2⟩ := m2 w (by omega)
          obtain ⟨v1, v2, v3⟩ := w2 w (by omega)
          rw [c1, pf_eq (by omega) (by omega)]
          have next : ¬ (wl t w = n ∧ ∀ i, i < n → wt t w i = b i - 65) → w_X12_word_144_n post m (nI t) (nI n) (nI (20 * t + nw t)) (nI (w + 1)) I1 J := by
            intro z
            refine ih (w + 1) (by omega) (by omega) (fun k hk2 => ?_)
            rcases Nat.lt_or_ge k w with q | q
            · exact hk k q
            · rw [show k = w by omega]; exact z
          refine ⟨vp_in_nI (by omega) (by omega), fun y => ?_, fun y => ?_⟩
          · exact ⟨n + 1, loop2 _ w (by omega) next (n + 1) 0 0 (by omega) (by omega) (Or.inl rfl) (fun z => absurd z (by decide)) (fun _ z => y z.1)⟩
          · exact ⟨n + 1, loop2 _ w (by omega) next (n + 1) 0 1 (by omega) (by omega) (Or.inr rfl) (fun _ => ⟨y, fun j hj => by omega⟩) (fun z => absurd z (by decide))⟩
    exact ⟨nw t + 1, loop1 (nw t + 1) 0 (by omega) (by omega) (fun k hk => by omega)⟩
  -- the letters
  have loop : ∀ m p (I1 : sI), p ≤ min n 6 → min n 6 - p < m → (∀ q, q < p → lok b q) → I1 248 5 = nI p → I1 248 6 = nI (min n 6) → (∀ q, ¬ (q = 248 ∨ q = 259) → I1 q = I q) → (∀ k, ¬ (k = 0 ∨ k = 4 ∨ k = 5 ∨ k = 6) → I1 248 k = I 248 k) → I1 248 4 = 0 → (∀ i, i < 6 * (20 * t + nw t) ∨ 6 * (20 * t + nw t) + 6 ≤ i → I1 259 i = I 259 i) → (∀ i, i < p → I1 259 (6 * (20 * t + nw t) + i) = nI (b i - 65)) → w_X12_word_45_n post m (nI t) (nI n) (nI (20 * t + nw t)) I1 J := by
    intro m
    induction m with
    | zero => intro p I1 _ hm; omega
    | succ m ih =>
      intro p I1 hp hm2 hl g5 g6 gr gs g4 g7 g8
      show w_X12_word_45_s post _ _ _ _ I1 J
      unfold w_X12_word_45_s w_X12_word_134
      rw [g5, g6, pf_le (by omega) (by omega), pf_eq0 (by omega), show (6 : Int32) = nI 6 from rfl, pf_le (by omega) (by omega)]
      refine ⟨fun x => ⟨fun y => ?_, fun y => ⟨fun y2 => ?_, fun y2 => ?_⟩⟩, fun x => ⟨vp_in_nI (by omega) (by omega), ?_⟩⟩
      · exact h1 t p ht rfl (by omega) (Or.inr ⟨by omega, hl, Or.inl y⟩) I1 gr gs g4 g7
      · have e : p = n := by omega
        subst e
        refine cmp I1 (fun q hq => gr q (by omega)) g7 g8 hl y2 (fun z => h3 t ht rfl (by omega) hl (by omega) y2 z I1 gr gs g4 g7) (fun z I2 e2 => ?_)
        subst e2
        refine h4 t ht rfl (by omega) hl (by omega) y2 z _ (fun q hq => ?_) (fun k hk => ?_) ?_ (fun i hi => ?_) (fun i hi => ?_) (fun k hk => ?_) ?_ (fun k hk => ?_) ?_
        · rw [sUI_ne (by omega), sUI_ne (by omega)]; exact gr q (by omega)
        · rw [pf_ui, if_neg (by omega), pf_ui, if_neg (by omega)]; exact gs k hk
        · rw [pf_ui, if_neg (by omega), pf_ui, if_neg (by omega)]; exact g4
        · rw [pf_ui, if_neg (by omega), pf_ui, if_neg (by omega)]; exact g7 i hi
        · rw [pf_ui, if_neg (by omega), pf_ui, if_neg (by omega)]; exact g8 i hi
        · rw [pf_uis, if_neg hk, pf_ui, if_neg (by omega), gr 257 (by omega)]
        · rw [pf_uis, if_pos rfl]
        · rw [pf_ui, if_neg (by omega), pf_uis, if_neg hk, gr 258 (by omega)]
        · rw [pf_ui, if_neg (by omega), pf_uis, if_pos rfl]
      · exact h1 t p ht rfl (by omega) (Or.inr ⟨by omega, hl, Or.inr (by omega)⟩) I1 gr gs g4 g7
      · have hbp := hb p (by omega)
        rw [pf_cl (by omega), gr 250 (by omega), t2 p (by omega)]
        refine q_in (lo := nI 65) (hi := nI 72) rfl rfl (fun y => b3 (by decide) ?_) (fun y => b4 rfl ?_)
        · rw [pf_le (by omega) (by omega), pf_le (by omega) (by omega)] at y
          rw [g5, pk_mul, nI_add]
          refine ⟨vp_in_nI (by omega) (by omega), vp_in_nI (by omega) (by omega), ?_⟩
          rw [pf_cl (by omega), pf_cl (by omega), gr 250 (by omega), t2 p (by omega), show (65 : Int32) = nI 65 from rfl, pk_sub y.1]
          rintro _ rfl
          rw [show (sUI I1 259 (6 * (20 * t + nw t) + p) (nI (b p - 65))) 248 5 = nI p from g5, nI_1]
          rintro _ rfl
          refine ih (p + 1) _ (by omega) (by omega) (fun q hq => ?_) rfl g6 (fun q hq => ?_) (fun k hk => ?_) g4 (fun i hi => ?_) (fun i hi => ?_)
          · rcases Nat.lt_or_ge q p with z | z
            · exact hl q z
            · rw [show q = p by omega]; exact ⟨y.1, by omega⟩
          · rw [sUI_ne (by omega), sUI_ne (by omega)]; exact gr q hq
          · rw [pf_uis, if_neg (by omega), pf_ui, if_neg (by omega)]; exact gs k hk
          · rw [pf_ui, if_neg (by omega), pf_uis, if_neg (by omega)]; exact g7 i hi
          · rw [pf_ui, if_neg (by omega), pf_uis]
            split
            · rename_i z; rw [show i = p by omega]
            · exact g8 i (by omega)
        · rw [pf_le (by omega) (by omega), pf_le (by omega) (by omega)] at y
          rw [g5]
          exact h1 t p ht rfl (by omega) (Or.inl ⟨by omega, by omega, hl, fun z => y ⟨z.1, by have := z.2; omega⟩⟩) I1 gr gs g4 g7
  exact ⟨min n 6 + 1, loop (min n 6 + 1) 0 I0 (by omega) (by omega) (fun q hq => by omega) e5 e6 (fun q hq => fr0 q (by omega)) fs0 e4 (fun i _ => by rw [fr0 259 (by omega)]) (fun i hi => by omega)⟩
/-- the model's words where only what lies behind them was written -/
theorem mW_keep {I I2 : sI} {nw : Nat → Nat} {wl : Nat → Nat → Nat} {wt : Nat → Nat → Nat → Nat} {t : Nat} (ht : t < 4) (h20 : nw t < 20) (hW : tWW nw wl wt) (hm : mW nw wl wt I) (r7 : I2 257 = I 257) (r8 : I2 258 = I 258) (r9 : ∀ i, i < 6 * (20 * t + nw t) ∨ 6 * (20 * t + nw t) + 6 ≤ i → I2 259 i = I 259 i) : mW nw wl wt I2 := by
  intro t2 h2
  obtain ⟨a, c⟩ := hm t2 h2
  obtain ⟨v1, v2⟩ := hW t2 h2
  refine ⟨by rw [r7]; exact a, fun w hw => ?_⟩
  obtain ⟨c1, c2⟩ := c w hw
  obtain ⟨v3, v4, v5⟩ := v2 w hw
  refine ⟨by rw [r8]; exact c1, fun i hi => ?_⟩
  rw [r9 _ ?_]
  · exact c2 i hi
  · by_cases e : t2 = t
    · subst e; omega
    · omega
theorem S_word {I : sI} {J : sJ} (a : Int32) (hR : RR0 I J) : St (w_X11_word a) (w_X12_word a) I J := by
  obtain ⟨hT, hD, hK, hWW, hC, hQ, hX⟩ := hR
  obtain ⟨n, b, hn, hb, hct, hmt⟩ := id hT
  obtain ⟨nw, wl, wt, hW0, hcw, hmw⟩ := id hWW
  have uniq : ∀ t t', a = nI t → a = nI t' → t < 4 → t' < 4 → t = t' := fun t t' e e' h h' => by
    rw [e] at e'; exact (pf_eq (by omega) (by omega)).mp e'
  have mid : mT n b (sUI I 1 1 0) ∧ mW nw wl wt (sUI I 1 1 0) := ⟨hmt, hmw⟩
  have base : ∀ I2 : sI, (∀ q, ¬ (q = 248 ∨ q = 259) → I2 q = (sUI I 1 1 0) q) → (∀ k, ¬ (k = 0 ∨ k = 4 ∨ k = 5 ∨ k = 6) → I2 248 k = (sUI I 1 1 0) 248 k) → I2 248 4 = 0 → mW nw wl wt I2 → RR0 I2 J := by
    intro I2 fr fs f4 hmw2
    have r1 : ∀ q, ¬ (q = 1 ∨ q = 248 ∨ q = 259) → I2 q = I q := fun q hq => by rw [fr q (by omega), sUI_ne (by omega)]
    have s1 : ∀ k, ¬ (k = 0 ∨ k = 4 ∨ k = 5 ∨ k = 6) → I2 248 k = I 248 k := fun k hk => by rw [fs k hk, pf_ui, if_neg (by omega)]
    refine ⟨⟨0, b, by omega, fun i hi => by omega, ⟨?_, fun i hi => by omega⟩, f4, fun i hi => by omega⟩, (RD_congr hD (fun q h1 h2 => r1 q (by omega)) (r1 253 (by omega)) (r1 254 (by omega)) (r1 255 (by omega)) (r1 256 (by omega)) (r1 276 (by omega)) (s1 11 (by omega)) (s1 12 (by omega)) (s1 15 (by omega)) (s1 21 (by omega)) (s1 22 (by omega)) (s1 23 (by omega))), (RK_congr hK (fun q h1 h2 => r1 q (by omega)) (r1 279 (by omega)) (r1 280 (by omega))), ⟨nw, wl, wt, hW0, ?_, hmw2⟩, (RC_congr hC (fun q h1 h2 => r1 q (by omega)) (by rw [r1 227 (by omega)]) (s1 46 (by omega)) (r1 275 (by omega))), (RR_congr hQ (by rw [r1 134 (by omega)]) (s1 1 (by omega)) rfl rfl), (RX_congr hX (by rw [r1 0 (by omega)]) (s1 37 (by omega)) (by rw [r1 0 (by omega)]) (s1 33 (by omega)) (by rw [r1 141 (by omega)]))⟩
    · rw [fr 1 (by omega)]; rfl
    · intro t ht
      obtain ⟨v1, v2⟩ := hW0 t ht
      obtain ⟨c1, c2⟩ := hcw t ht
      refine ⟨by rw [r1 _ (by omega)]; exact c1, fun w hw => ?_⟩
      obtain ⟨c3, c4⟩ := c2 w hw
      exact ⟨by rw [r1 _ (by omega)]; exact c3, fun i hi => by rw [r1 _ (by omega)]; exact c4 i hi⟩
  refine q_X11_word hW0 hcw hct hn hb (fun z => ?_) (fun t p ht ea h20 hcase => ?_) (fun t ht ea h20 hl g1 g2 g3 => ?_) (fun t ht ea h20 hl g1 g2 g3 I1 fr f1 f2 f3 f4 f5 => ?_)
  · refine q_X12_word hW0 mid.2 mid.1 hn hb (fun _ I2 fr fs f4 => ⟨rfl, base I2 (fun q hq => fr q (by omega)) fs f4 ?_⟩) (fun t p ht ea h20 => ?_) (fun t ht ea h20 => ?_) (fun t ht ea h20 => ?_)
    · intro t ht; rw [fr 257 (by omega), fr 258 (by omega), fr 259 (by omega)]; exact mid.2 t ht
    all_goals
      exfalso
      rcases z with z | ⟨t', ht', ea', z⟩
      · exact z ⟨t, ht, ea⟩
      · rw [uniq t t' ea ea' ht ht'] at h20; omega
  · refine q_X12_word hW0 mid.2 mid.1 hn hb (fun z => ?_) (fun t' p' ht' ea' h20' hcase' I2 fr fs f4 f9 => ⟨?_, base I2 fr fs f4 (mW_keep ht' h20' hW0 mid.2 (fr 257 (by omega)) (fr 258 (by omega)) f9)⟩) (fun t' ht' ea' h20' hl g1 g2 => ?_) (fun t' ht' ea' h20' hl g1 g2 => ?_)
    · exfalso
      rcases z with z | ⟨t', ht', ea', z⟩
      · exact z ⟨t, ht, ea⟩
      · rw [uniq t t' ea ea' ht ht'] at h20; omega
    · have e : p = p' := by
        rcases hcase with ⟨a1, a2, a3, a4⟩ | ⟨a1, a2, a3⟩ <;> rcases hcase' with ⟨c1, c2, c3, c4⟩ | ⟨c1, c2, c3⟩
        · rcases Nat.lt_trichotomy p p' with x | x | x
          · exact absurd (c3 p x) a4
          · exact x
          · exact absurd (a3 p' x) c4
        · exact absurd (c2 p (by omega)) a4
        · exact absurd (a2 p' (by omega)) c4
        · omega
      rw [e]
    all_goals
      exfalso
      rcases hcase with ⟨a1, a2, a3, a4⟩ | ⟨a1, a2, a3⟩
      · exact a4 (hl p a1)
      · omega
  · refine q_X12_word hW0 mid.2 mid.1 hn hb (fun z => ?_) (fun t' p' ht' ea' h20' hcase' => ?_) (fun t' ht' ea' h20' hl g1 g2 g3 I2 fr fs f4 f9 => ⟨rfl, base I2 fr fs f4 (mW_keep ht' h20' hW0 mid.2 (fr 257 (by omega)) (fr 258 (by omega)) f9)⟩) (fun t' ht' ea' h20' hl' g1' g2' g3' => ?_)
    · exfalso
      rcases z with z | ⟨t', ht', ea', z⟩
      · exact z ⟨t, ht, ea⟩
      · rw [uniq t t' ea ea' ht ht'] at h20; omega
    · exfalso
      rcases hcase' with ⟨a1, a2, a3, a4⟩ | ⟨a1, a2, a3⟩
      · exact a4 (hl p' a1)
      · omega
    · rw [uniq t t' ea ea' ht ht'] at g3
      exact absurd g3 g3'
  · refine q_X12_word (I := I1) hW0 ?_ ⟨?_, ?_⟩ hn hb (fun z => ?_) (fun t' p' ht' ea' h20' hcase' => ?_) (fun t' ht' ea' h20' hl' g1' g2' g3' => ?_) (fun t' ht' ea' h20' hl' g1' g2' g3' I2 k1 k2 k3 k4 k5 k6 k7 k8 k9 => ?_)
    · intro t2 ht2; rw [fr 257 (by omega), fr 258 (by omega), fr 259 (by omega)]; exact hmw t2 ht2
    · rw [fr 248 (by omega)]; exact hmt.1
    · rw [fr 250 (by omega)]; exact hmt.2
    · exfalso
      rcases z with z | ⟨t', ht', ea', z⟩
      · exact z ⟨t, ht, ea⟩
      · rw [uniq t t' ea ea' ht ht'] at h20; omega
    · exfalso
      rcases hcase' with ⟨a1, a2, a3, a4⟩ | ⟨a1, a2, a3⟩
      · exact a4 (hl p' a1)
      · omega
    · rw [uniq t t' ea ea' ht ht'] at g3
      exact absurd g3' g3
    · have e := uniq t t' ea ea' ht ht'
      subst e
      have r1 : ∀ q, ¬ (q = 1 ∨ q = 42 + 23 * t ∨ q = 44 + 23 * t + nw t ∨ q = 64 + 23 * t ∨ q = 248 ∨ q = 257 ∨ q = 258 ∨ q = 259) → I2 q = I q := fun q hq => by rw [k1 q (by omega), fr q (by omega)]
      have s1 : ∀ k, ¬ (k = 0 ∨ k = 4 ∨ k = 5 ∨ k = 6) → I2 248 k = I 248 k := fun k hk => by rw [k2 k hk, fr 248 (by omega)]
      refine ⟨rfl, ⟨0, b, by omega, fun i hi => by omega, ⟨?_, fun i hi => by omega⟩, k3, fun i hi => by omega⟩, (RD_congr hD (fun q h1 h2 => r1 q (by omega)) (r1 253 (by omega)) (r1 254 (by omega)) (r1 255 (by omega)) (r1 256 (by omega)) (r1 276 (by omega)) (s1 11 (by omega)) (s1 12 (by omega)) (s1 15 (by omega)) (s1 21 (by omega)) (s1 22 (by omega)) (s1 23 (by omega))), (RK_congr hK (fun q h1 h2 => r1 q (by omega)) (r1 279 (by omega)) (r1 280 (by omega))), ⟨fun u => if u = t then nw t + 1 else nw u, fun u w => if u = t ∧ w = nw t then n else wl u w, fun u w i => if u = t ∧ w = nw t then b i - 65 else wt u w i, fun u hu => ?_, fun u hu => ?_, fun u hu => ?_⟩, (RC_congr hC (fun q h1 h2 => r1 q (by omega)) (by rw [r1 227 (by omega)]) (s1 46 (by omega)) (r1 275 (by omega))), (RR_congr hQ (by rw [r1 134 (by omega)]) (s1 1 (by omega)) rfl rfl), (RX_congr hX (by rw [r1 0 (by omega)]) (s1 37 (by omega)) (by rw [r1 0 (by omega)]) (s1 33 (by omega)) (by rw [r1 141 (by omega)]))⟩
      · rw [k1 1 (by omega)]; exact f1
      · obtain ⟨v1, v2⟩ := hW0 u hu
        by_cases e : u = t
        · subst e
          simp only [if_true, true_and]
          refine ⟨by omega, fun w hw => ?_⟩
          by_cases e2 : w = nw u
          · subst e2
            simp only [if_true]
            exact ⟨g1, g2, fun i hi => by have := (hl i hi).2; have := (hl i hi).1; omega⟩
          · simp only [if_neg e2]
            exact v2 w (by omega)
        · simp only [if_neg e, e, false_and, if_false]
          exact ⟨v1, v2⟩
      · obtain ⟨v1, v2⟩ := hW0 u hu
        obtain ⟨c1, c2⟩ := hcw u hu
        by_cases e : u = t
        · subst e
          simp only [if_true, true_and]
          refine ⟨by rw [k1 _ (by omega)]; exact f2, fun w hw => ?_⟩
          by_cases e2 : w = nw u
          · subst e2
            simp only [if_true]
            exact ⟨by rw [k1 _ (by omega)]; exact f4, fun i hi => by rw [k1 _ (by omega)]; exact f5 i hi⟩
          · simp only [if_neg e2]
            obtain ⟨c3, c4⟩ := c2 w (by omega)
            exact ⟨by rw [k1 _ (by omega), f3 w e2]; exact c3, fun i hi => by rw [r1 _ (by omega)]; exact c4 i hi⟩
        · simp only [if_neg e, e, false_and, if_false]
          refine ⟨by rw [r1 _ (by omega)]; exact c1, fun w hw => ?_⟩
          obtain ⟨c3, c4⟩ := c2 w hw
          exact ⟨by rw [r1 _ (by omega)]; exact c3, fun i hi => by rw [r1 _ (by omega)]; exact c4 i hi⟩
      · obtain ⟨v1, v2⟩ := hW0 u hu
        obtain ⟨c1, c2⟩ := hmw u hu
        by_cases e : u = t
        · subst e
          simp only [if_true, true_and]
          refine ⟨k7, fun w hw => ?_⟩
          by_cases e2 : w = nw u
          · subst e2
            simp only [if_true]
            exact ⟨k9, fun i hi => k5 i hi⟩
          · simp only [if_neg e2]
            obtain ⟨c3, c4⟩ := c2 w (by omega)
            obtain ⟨v3, v4, v5⟩ := v2 w (by omega)
            exact ⟨by rw [k8 _ (by omega), fr 258 (by omega)]; exact c3, fun i hi => by rw [k4 _ (by omega), fr 259 (by omega)]; exact c4 i hi⟩
        · simp only [if_neg e, e, false_and, if_false]
          refine ⟨by rw [k6 u e, fr 257 (by omega)]; exact c1, fun w hw => ?_⟩
          obtain ⟨c3, c4⟩ := c2 w hw
          obtain ⟨v3, v4, v5⟩ := v2 w hw
          exact ⟨by rw [k8 _ (by omega), fr 258 (by omega)]; exact c3, fun i hi => by rw [k4 _ (by omega), fr 259 (by omega)]; exact c4 i hi⟩
