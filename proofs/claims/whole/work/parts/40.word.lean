def lok (b : Nat → Nat) (i : Nat) : Prop := 65 ≤ b i ∧ b i < 73
def isW (nw : Nat) (wl : Nat → Nat) (wt : Nat → Nat → Nat) (n : Nat) (b : Nat → Nat) : Prop := ∃ w, w < nw ∧ wl w = n ∧ ∀ i, i < n → wt w i = b i - 65
theorem q_faultAsWord {I : sI} {J : sJ} {post : Int32 → sI → sJ → Prop} {n : Nat} {b : Nat → Nat} (hT : cT n b I) (hn : n ≤ 80) (hb : ∀ i, i < n → b i < 256) (h1 : ∀ p, p < n → p < 6 → (∀ q, q < p → lok b q) → ¬ lok b p → post (nI p) I J) (h2 : (∀ q, q < min n 6 → lok b q) → n = 0 ∨ 6 < n → post (nI (min n 6)) I J) (h3 : (∀ q, q < n → lok b q) → 1 ≤ n → n ≤ 6 → post (-1) I J) : w_X7_faultAsWord I J post := by
  obtain ⟨t1, t2⟩ := hT
  unfold w_X7_faultAsWord
  rw [t1, show (6 : Int32) = nI 6 from rfl]
  refine q_min (by omega) (by omega) ?_
  have loop : ∀ m p, (∀ q, q < p → lok b q) → p ≤ min n 6 → min n 6 - p < m → w_X7_faultAsWord_12_n post m (nI (min n 6)) (nI p) I J := by
    intro m
    induction m with
    | zero => intro p _ _ h; omega
    | succ m ih =>
      intro p ho hp hm
      show w_X7_faultAsWord_12_s post _ _ _ I J
      unfold w_X7_faultAsWord_12_s w_X7_faultAsWord_62
      rw [pf_le (by omega) (by omega), t1, pf_lt (by omega) (by omega), pf_eq0 (by omega)]
      refine ⟨fun e => ?_, fun e => ⟨vp_in_nI (by omega) (by omega), ?_⟩⟩
      · have e : p = min n 6 := by omega
        refine ⟨fun e2 => h2 (e ▸ ho) (Or.inr (by omega)), fun e2 => ⟨fun e3 => h3 (fun q hq => ho q (by omega)) (by omega) (by omega), fun e3 => h2 (e ▸ ho) (Or.inl e3)⟩⟩
      · have hbp := hb p (by omega)
        rw [pf_cl (by omega), t2 p (by omega), show (65 : Int32) = nI 65 from rfl, show (73 : Int32) = nI 73 from rfl, pf_lt (by omega) (by omega), pf_lt (by omega) (by omega)]
        refine ⟨fun e2 => h1 p (by omega) (by omega) ho (fun z => by have := z.1; omega), fun e2 => ⟨vp_in_nI (by omega) (by omega), fun e3 => ?_, fun e3 => h1 p (by omega) (by omega) ho (fun z => by have := z.2; omega)⟩⟩
        rintro _ rfl
        rw [nI_1]
        refine ih (p + 1) (fun q hq => ?_) (by omega) (by omega)
        rcases Nat.lt_or_ge q p with x | x
        · exact ho q x
        · rw [show q = p by omega]; exact ⟨by omega, e3⟩
  exact ⟨_, loop (min n 6 + 1) 0 (fun q hq => by omega) (by omega) (by omega)⟩
theorem q_isWord {I : sI} {J : sJ} {post : Int32 → sI → sJ → Prop} {t w n L : Nat} {b f : Nat → Nat} (ht : t < 4) (hw : w < 20) (hT : cT n b I) (hn : n ≤ 6) (hb : ∀ i, i < n → lok b i) (hL : I (64 + 23 * t) w = nI L) (hL6 : L ≤ 6) (hf : ∀ i, i < L → I (44 + 23 * t + w) i = nI (f i) ∧ f i < 8) (h1 : L = n → (∀ i, i < n → f i = b i - 65) → post 1 I J) (h0 : ¬ (L = n ∧ ∀ i, i < n → f i = b i - 65) → post 0 I J) : w_X9_isWord (42 + 23 * t) (nI w) I J post := by
  obtain ⟨t1, t2⟩ := hT
  obtain ⟨z0, z1, z2⟩ := sRlex t ht
  unfold w_X9_isWord
  rw [z1, pf_cl (by omega), hL, t1, pf_eq (by omega) (by omega)]
  refine ⟨vp_in_nI (by omega) (by omega), fun e => ?_, fun e => h0 (fun z => e z.1)⟩
  subst e
  have loop : ∀ m i, i ≤ L → L - i < m → (∀ k, k < i → f k = b k - 65) → w_X9_isWord_17_n (42 + 23 * t) post m (nI w) (nI i) I J := by
    intro m
    induction m with
    | zero => intro i _ h; omega
    | succ m ih =>
      intro i hi hm hk
      show w_X9_isWord_17_s (42 + 23 * t) post _ _ _ I J
      unfold w_X9_isWord_17_s
      rw [z0, z1, pf_cl (by omega), hL, pf_le (by omega) (by omega)]
      refine ⟨vp_in_nI (by omega) (by omega), fun e => h1 rfl (fun k hk2 => hk k (by omega)), fun e => ⟨vp_in_nI (by omega) (by omega), vp_in_nI (by omega) (by omega), vp_in_nI (by omega) (by omega), ?_⟩⟩
      obtain ⟨f1, f2⟩ := hf i (by omega)
      have hbi := hb i (by omega)
      rw [pf_cl (by omega), z2 w hw, f1, t2 i (by omega), show (65 : Int32) = nI 65 from rfl, pk_sub hbi.1, pf_eq (by omega) (by have := hbi.2; omega)]
      refine ⟨fun e2 => ?_, fun e2 => h0 (fun z => e2 (z.2 i (by omega)))⟩
      rintro _ rfl
      rw [nI_1]
      refine ih (i + 1) (by omega) (by omega) (fun k hk2 => ?_)
      rcases Nat.lt_or_ge k i with x | x
      · exact hk k x
      · rw [show k = i by omega]; exact e2
  exact ⟨L + 1, loop (L + 1) 0 (by omega) (by omega) (fun k hk => by omega)⟩
theorem q_X9_has {I : sI} {J : sJ} {post : Int32 → sI → sJ → Prop} {t n : Nat} {b : Nat → Nat} {nw : Nat → Nat} {wl : Nat → Nat → Nat} {wt : Nat → Nat → Nat → Nat} (ht : t < 4) (hW : tWW nw wl wt) (hc : cW nw wl wt I) (hT : cT n b I) (hn : n ≤ 6) (hb : ∀ i, i < n → lok b i) (h1 : isW (nw t) (wl t) (wt t) n b → post 1 I J) (h0 : ¬ isW (nw t) (wl t) (wt t) n b → post 0 I J) : w_X9_has (42 + 23 * t) I J post := by
  obtain ⟨c1, c2⟩ := hc t ht
  obtain ⟨w1, w2⟩ := hW t ht
  have loop : ∀ m w, w ≤ nw t → nw t - w < m → (∀ k, k < w → ¬ (wl t k = n ∧ ∀ i, i < n → wt t k i = b i - 65)) → w_X9_has_2_n (42 + 23 * t) post m (nI w) I J := by
    intro m
    induction m with
    | zero => intro i _ h; omega
    | succ m ih =>
      intro w hw hm hk
      show w_X9_has_2_s (42 + 23 * t) post _ _ I J
      unfold w_X9_has_2_s
      rw [c1, pf_le (by omega) (by omega)]
      refine ⟨fun e => h0 (fun ⟨k, a, c⟩ => hk k (by omega) c), fun e => ?_⟩
      obtain ⟨d1, d2⟩ := c2 w (by omega)
      obtain ⟨v1, v2, v3⟩ := w2 w (by omega)
      refine q_isWord (L := wl t w) (f := wt t w) ht (by omega) hT hn hb d1 v2 (fun i hi => ⟨d2 i hi, v3 i hi⟩) (fun a c => b2 (by decide) (h1 ⟨w, by omega, a, c⟩)) (fun z => b1 rfl ?_)
      rintro _ rfl
      rw [nI_1]
      refine ih (w + 1) (by omega) (by omega) (fun k hk2 => ?_)
      rcases Nat.lt_or_ge k w with x | x
      · exact hk k x
      · rw [show k = w by omega]; exact z
  exact ⟨nw t + 1, loop (nw t + 1) 0 (by omega) (by omega) (fun k hk => by omega)⟩
theorem q_X9_add {I : sI} {J : sJ} {post : Int32 → sI → sJ → Prop} {t n k : Nat} {b : Nat → Nat} (ht : t < 4) (hk : k < 20) (hs : I (42 + 23 * t) 2 = nI k) (hT : cT n b I) (hn : n ≤ 6) (hb : ∀ i, i < n → lok b i) (h : ∀ I2 : sI, (∀ q, ¬ (q = 42 + 23 * t ∨ q = 44 + 23 * t + k ∨ q = 64 + 23 * t) → I2 q = I q) → I2 (42 + 23 * t) 2 = nI (k + 1) → (∀ w, ¬ w = k → I2 (64 + 23 * t) w = I (64 + 23 * t) w) → I2 (64 + 23 * t) k = nI n → (∀ i, i < n → I2 (44 + 23 * t + k) i = nI (b i - 65)) → post (nI k) I2 J) : w_X9_add (42 + 23 * t) I J post := by
  obtain ⟨t1, t2⟩ := hT
  obtain ⟨z0, z1, z2⟩ := sRlex t ht
  have loop : ∀ m i (I1 : sI), i ≤ n → n - i < m → (∀ q, ¬ q = 44 + 23 * t + k → I1 q = I q) → (∀ j, j < i → I1 (44 + 23 * t + k) j = nI (b j - 65)) → w_X9_add_2_n (42 + 23 * t) post m (nI i) I1 J := by
    intro m
    induction m with
    | zero => intro i I1 _ h; omega
    | succ m ih =>
      intro i I1 hi hm fr f1
      show w_X9_add_2_s (42 + 23 * t) post _ _ I1 J
      unfold w_X9_add_2_s
      rw [z0, z1, fr 1 (by omega), fr 2 (by omega), fr (42 + 23 * t) (by omega), t1, hs, pf_le (by omega) (by omega), pf_cl (by omega), z2 k hk]
      refine ⟨fun e => ⟨vp_in_nI (by omega) (by omega), ?_⟩, fun e => ⟨vp_in_nI (by omega) (by omega), vp_in_nI (by omega) (by omega), vp_in_nI (by omega) (by omega), ?_⟩⟩
      · rintro _ rfl
        rw [show (sUI I1 (64 + 23 * t) k (nI n)) (42 + 23 * t) 2 = nI k by rw [pf_ui, if_neg (by omega), fr _ (by omega)]; exact hs, nI_1]
        rintro _ rfl
        rw [show (sUI (sUI I1 (64 + 23 * t) k (nI n)) (42 + 23 * t) 2 (nI (k + 1))) (42 + 23 * t) 2 - 1 = nI k by rw [pf_uis, if_pos rfl, nI_pred]]
        refine h _ (fun q hq => ?_) ?_ (fun w hw => ?_) ?_ (fun j hj => ?_)
        · rw [sUI_ne (by omega), sUI_ne (by omega)]; exact fr q (by omega)
        · rw [pf_uis, if_pos rfl]
        · rw [pf_ui, if_neg (by omega), pf_uis, if_neg hw, fr _ (by omega)]
        · rw [pf_ui, if_neg (by omega), pf_uis, if_pos rfl]
        · rw [pf_ui, if_neg (by omega), pf_ui, if_neg (by omega)]; exact f1 j (by omega)
      · rw [pf_cl (by omega), t2 i (by omega), show (65 : Int32) = nI 65 from rfl, pk_sub (hb i (by omega)).1]
        rintro _ rfl _ rfl
        rw [nI_1]
        refine ih (i + 1) _ (by omega) (by omega) (fun q hq => by rw [sUI_ne hq]; exact fr q hq) (fun j hj => ?_)
        rw [pf_uis]
        split
        · rename_i e; rw [e]
        · exact f1 j (by omega)
  exact ⟨n + 1, loop (n + 1) 0 I (by omega) (by omega) (fun _ _ => rfl) (fun j hj => by omega)⟩
/-- the outcomes of word(t) of a text -/
theorem q_X11_word {I : sI} {J : sJ} {post : Int32 → sI → sJ → Prop} {a : Int32} {n : Nat} {b : Nat → Nat} {nw : Nat → Nat} {wl : Nat → Nat → Nat} {wt : Nat → Nat → Nat → Nat} (hW : tWW nw wl wt) (hc : cW nw wl wt I) (hT : cT n b I) (hn : n ≤ 80) (hb : ∀ i, i < n → b i < 256)
    (h0 : (¬ Ix a 4 ∨ ∃ t, t < 4 ∧ a = nI t ∧ nw t = 20) → post (-100) (sUI I 1 1 0) J)
    (h1 : ∀ t p, t < 4 → a = nI t → nw t < 20 → (p < n ∧ p < 6 ∧ (∀ q, q < p → lok b q) ∧ ¬ lok b p) ∨ (p = min n 6 ∧ (∀ q, q < p → lok b q) ∧ (n = 0 ∨ 6 < n)) → post ((-1) - nI p) (sUI I 1 1 0) J)
    (h3 : ∀ t, t < 4 → a = nI t → nw t < 20 → (∀ q, q < n → lok b q) → 1 ≤ n → n ≤ 6 → isW (nw t) (wl t) (wt t) n b → post (-101) (sUI I 1 1 0) J)
    (h4 : ∀ t, t < 4 → a = nI t → nw t < 20 → (∀ q, q < n → lok b q) → 1 ≤ n → n ≤ 6 → ¬ isW (nw t) (wl t) (wt t) n b → ∀ I2 : sI, (∀ q, ¬ (q = 1 ∨ q = 42 + 23 * t ∨ q = 44 + 23 * t + nw t ∨ q = 64 + 23 * t) → I2 q = I q) → I2 1 1 = 0 → I2 (42 + 23 * t) 2 = nI (nw t + 1) → (∀ w, ¬ w = nw t → I2 (64 + 23 * t) w = I (64 + 23 * t) w) → I2 (64 + 23 * t) (nw t) = nI n → (∀ i, i < n → I2 (44 + 23 * t + nw t) i = nI (b i - 65)) → post (nI (nw t)) I2 J) : w_X11_word a I J post := by
  unfold w_X11_word
  refine q_X11_isTongue (fun z => b2 (by decide) ?_) (fun z => b1 rfl ?_)
  · obtain ⟨t, ht, rfl⟩ := z
    obtain ⟨w1, w2⟩ := hW t ht
    rw [pf_cl (by omega), sR41 t ht, (hc t ht).1, show (20 : Int32) = nI 20 from rfl, pf_le (by omega) (by omega)]
    refine ⟨vp_in_nI (by omega) (by omega), fun e => ?_, fun e => ⟨vp_in_nI (by omega) (by omega), ?_⟩⟩
    · rintro _ rfl
      exact h0 (Or.inr ⟨t, ht, rfl, by omega⟩)
    · unfold w_X11_learn
      refine q_faultAsWord hT hn hb (fun p p1 p2 p3 p4 => b2 (pf_ne_m1 (by omega)) ?_) (fun p1 p2 => b2 (pf_ne_m1 (by omega)) ?_) (fun p1 p2 p3 => b1 rfl ?_)
      · rintro _ rfl
        exact h1 t p ht rfl (by omega) (Or.inl ⟨p1, p2, p3, p4⟩)
      · rintro _ rfl
        exact h1 t _ ht rfl (by omega) (Or.inr ⟨rfl, p1, p2⟩)
      · refine q_X9_has ht hW hc hT p3 p1 (fun y => b2 (by decide) ?_) (fun y => b1 rfl ?_)
        · rintro _ rfl
          exact h3 t ht rfl (by omega) p1 p2 p3 y
        · refine q_X9_add ht (show nw t < 20 by omega) (hc t ht).1 hT p3 p1 (fun I2 fr f1 f2 f3 f4 => ?_)
          rintro _ rfl
          refine h4 t ht rfl (by omega) p1 p2 p3 y _ (fun q hq => ?_) rfl ?_ (fun w hw => ?_) ?_ (fun i hi => ?_)
          · rw [sUI_ne (by omega)]; exact fr q (by omega)
          · rw [pf_ui, if_neg (by omega)]; exact f1
          · rw [pf_ui, if_neg (by omega)]; exact f2 w hw
          · rw [pf_ui, if_neg (by omega)]; exact f3
          · rw [pf_ui, if_neg (by omega)]; exact f4 i hi
  · rintro _ rfl
    exact h0 (Or.inl z)
