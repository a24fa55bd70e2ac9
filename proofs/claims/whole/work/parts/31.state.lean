/-! what the two sides' cells mean, and the relation between them -/
/-- the text: n bytes b; class, model -/
def cT (n : Nat) (b : Nat → Nat) (I : sI) : Prop := I 1 1 = nI n ∧ ∀ i, i < n → I 2 i = nI (b i)
def mT (n : Nat) (b : Nat → Nat) (I : sI) : Prop := I 248 4 = nI n ∧ ∀ i, i < n → I 250 i = nI (b i)
def RT (I : sI) : Prop := ∃ (n : Nat) (b : Nat → Nat), n ≤ 80 ∧ (∀ i, i < n → b i < 256) ∧ cT n b I ∧ mT n b I
/-- what is told: groups, places, starts, kinds; overs: number, behind, ahead; homes, drops, back; finds -/
abbrev sT : Type := Nat × Nat × (Nat → Nat) × (Nat → Nat) × Nat × (Nat → Nat) × (Nat → Nat) × Nat × Nat × Nat × (Nat → Nat)
def tWD (G P : Nat) (s κ : Nat → Nat) : Prop := G ≤ 12 ∧ P ≤ 60 ∧ s 0 = 0 ∧ s G = P ∧ (∀ g, g < G → s g < s (g + 1) ∧ s (g + 1) ≤ s g + 6) ∧ ∀ p, p < P → κ p ≤ 12
def tWO (P n : Nat) (ob oa : Nat → Nat) : Prop := n ≤ 12 ∧ (∀ i, i < n → ob i < P ∧ oa i < P ∧ ob i ≠ oa i) ∧ ∀ i j, i < n → j < n → ob i = ob j → oa i = oa j → i = j
def tWF (T : sT) : Prop := match T with
  | (G, P, s, κ, n, ob, oa, h, d, b, fi) => tWD G P s κ ∧ tWO P n ob oa ∧ 1 ≤ h ∧ h ≤ 3 ∧ d ≤ 2 ∧ b ≤ 1 ∧ ∀ f, f < 12 → fi f ≤ 2
/-- a disc of the class at place t (its rows behind it) -/
def cD (G P : Nat) (s κ : Nat → Nat) (t : Nat) (I : sI) : Prop := I t 3 = nI G ∧ I t 4 = nI P ∧ (∀ g, g ≤ G → I (t + 3) g = nI (s g)) ∧ (∀ p, p < P → I (t + 1) p = nI (κ p)) ∧ ∀ g p, g < G → s g ≤ p → p < s (g + 1) → I (t + 2) p = nI g
def cO (n : Nat) (ob oa : Nat → Nat) (t : Nat) (I : sI) : Prop := I t 2 = nI n ∧ ∀ i, i < n → I (t + 1) i = nI (ob i) ∧ I (t + 2) i = nI (oa i)
def cTold (T : sT) (t : Nat) (I : sI) : Prop := match T with
  | (G, P, s, κ, n, ob, oa, h, d, b, fi) => cD G P s κ (t + 1) I ∧ cO n ob oa (t + 5) I ∧ I t 3 = nI h ∧ I t 4 = nI d ∧ I t 5 = nI b ∧ ∀ f, f < 12 → I (t + 8) f = nI (fi f)
def mD (G P : Nat) (s κ : Nat → Nat) (I : sI) : Prop := I 248 11 = nI G ∧ I 248 12 = nI P ∧ (∀ g, g < G → I 253 g = nI (s (g + 1) - s g)) ∧ ∀ p, p < P → I 254 p = nI (κ p)
def mO (n : Nat) (ob oa : Nat → Nat) (I : sI) : Prop := I 248 15 = nI n ∧ ∀ i, i < n → I 255 i = nI (ob i) ∧ I 256 i = nI (oa i)
def mTold (T : sT) (I : sI) : Prop := match T with
  | (G, P, s, κ, n, ob, oa, h, d, b, fi) => mD G P s κ I ∧ mO n ob oa I ∧ I 248 21 = nI h ∧ I 248 22 = nI d ∧ I 248 23 = nI b ∧ ∀ f, f < 12 → I 276 f = nI (fi f)
def RD (I : sI) : Prop := ∃ T : sT, tWF T ∧ cTold T 3 I ∧ mTold T I
/-- slot i of what the model keeps -/
def mKept (T : sT) (i : Nat) (I : sI) : Prop := match T with
  | (G, P, s, κ, n, ob, oa, h, d, b, fi) => I 280 (200 * i) = nI G ∧ I 280 (200 * i + 1) = nI P ∧ I 280 (200 * i + 2) = nI n ∧ I 280 (200 * i + 3) = nI h ∧ I 280 (200 * i + 4) = nI d ∧ I 280 (200 * i + 5) = nI b ∧ (∀ g, g < G → I 280 (200 * i + 6 + 4 * g) = nI (s (g + 1) - s g)) ∧ (∀ k, k < n → I 280 (200 * i + 7 + 4 * k) = nI (ob k) ∧ I 280 (200 * i + 8 + 4 * k) = nI (oa k)) ∧ (∀ f, f < 12 → I 280 (200 * i + 9 + 4 * f) = nI (fi f)) ∧ ∀ p, p < P → I 280 (200 * i + 54 + p) = nI (κ p)
def RK (I : sI) : Prop := ∀ i, i < 3 → (I 40 i = 0 ∧ I 279 i = 0) ∨ (I 40 i = 1 ∧ I 279 i = 1 ∧ ∃ T : sT, tWF T ∧ cTold T (13 + 9 * i) I ∧ mKept T i I)
/-- the tongues: how many words, how long, their letters -/
def tWW (nw : Nat → Nat) (wl : Nat → Nat → Nat) (wt : Nat → Nat → Nat → Nat) : Prop := ∀ t, t < 4 → nw t ≤ 20 ∧ ∀ w, w < nw t → 1 ≤ wl t w ∧ wl t w ≤ 6 ∧ ∀ i, i < wl t w → wt t w i < 8
def cW (nw : Nat → Nat) (wl : Nat → Nat → Nat) (wt : Nat → Nat → Nat → Nat) (I : sI) : Prop := ∀ t, t < 4 → I (42 + 23 * t) 2 = nI (nw t) ∧ ∀ w, w < nw t → I (64 + 23 * t) w = nI (wl t w) ∧ ∀ i, i < wl t w → I (44 + 23 * t + w) i = nI (wt t w i)
def mW (nw : Nat → Nat) (wl : Nat → Nat → Nat) (wt : Nat → Nat → Nat → Nat) (I : sI) : Prop := ∀ t, t < 4 → I 257 t = nI (nw t) ∧ ∀ w, w < nw t → I 258 (20 * t + w) = nI (wl t w) ∧ ∀ i, i < wl t w → I 259 (6 * (20 * t + w) + i) = nI (wt t w i)
def RW (I : sI) : Prop := ∃ nw wl wt, tWW nw wl wt ∧ cW nw wl wt I ∧ mW nw wl wt I
/-- the claims -/
def tWC (C : Nat) (v : Nat → Nat → Nat) : Prop := C ≤ 10 ∧ (∀ c f, c < 10 → f < 12 → v c f ≤ 2) ∧ ∀ c f, C ≤ c → c < 10 → f < 12 → v c f = 0
def cC (C : Nat) (v : Nat → Nat → Nat) (I : sI) : Prop := I 227 1 = nI C ∧ ∀ c f, c < 10 → f < 12 → I (229 + c) f = nI (v c f)
def mC (C : Nat) (v : Nat → Nat → Nat) (I : sI) : Prop := I 248 46 = nI C ∧ ∀ c f, c < 10 → f < 12 → I 275 (12 * c + f) = nI (v c f)
def RC (I : sI) : Prop := ∃ C v, tWC C v ∧ cC C v I ∧ mC C v I
/-- the row -/
def RR (I : sI) (J : sJ) : Prop := ∃ k, k ≤ 13 ∧ I 134 1 = nI k ∧ I 248 1 = nI k ∧ ∀ i, i < k → J 135 i = J 249 i
def RX (I : sI) : Prop := I 0 15 = I 248 37 ∧ I 0 16 = I 248 33 ∧ I 141 0 = 0
def RR0 (I : sI) (J : sJ) : Prop := RT I ∧ RD I ∧ RK I ∧ RW I ∧ RC I ∧ RR I J ∧ RX I
/-- what the relation reads: rows that are arrays, slots of objects -/
theorem RT_congr {I I2 : sI} (h : RT I) (h1 : I2 1 1 = I 1 1) (h2 : I2 2 = I 2) (h3 : I2 248 4 = I 248 4) (h4 : I2 250 = I 250) : RT I2 := by
  unfold RT cT mT at *
  rw [h1, h2, h3, h4]
  exact h
theorem cTold_congr {T : sT} {t : Nat} {I I2 : sI} (h : cTold T t I) (hr : ∀ q, t ≤ q → q ≤ t + 8 → I2 q = I q) : cTold T t I2 := by
  obtain ⟨G, P, s, κ, n, ob, oa, hh, d, b, fi⟩ := T
  unfold cTold cD cO at *
  rw [hr t (by omega) (by omega), hr (t + 1) (by omega) (by omega), hr (t + 1 + 1) (by omega) (by omega), hr (t + 1 + 2) (by omega) (by omega), hr (t + 1 + 3) (by omega) (by omega), hr (t + 5) (by omega) (by omega), hr (t + 5 + 1) (by omega) (by omega), hr (t + 5 + 2) (by omega) (by omega), hr (t + 8) (by omega) (by omega)]
  exact h
theorem mTold_congr {T : sT} {I I2 : sI} (h : mTold T I) (a1 : I2 253 = I 253) (a2 : I2 254 = I 254) (a3 : I2 255 = I 255) (a4 : I2 256 = I 256) (a5 : I2 276 = I 276) (s1 : I2 248 11 = I 248 11) (s2 : I2 248 12 = I 248 12) (s3 : I2 248 15 = I 248 15) (s4 : I2 248 21 = I 248 21) (s5 : I2 248 22 = I 248 22) (s6 : I2 248 23 = I 248 23) : mTold T I2 := by
  obtain ⟨G, P, s, κ, n, ob, oa, hh, d, b, fi⟩ := T
  unfold mTold mD mO at *
  rw [a1, a2, a3, a4, a5, s1, s2, s3, s4, s5, s6]
  exact h
theorem RD_congr {I I2 : sI} (h : RD I) (h1 : ∀ q, 3 ≤ q → q ≤ 11 → I2 q = I q) (a1 : I2 253 = I 253) (a2 : I2 254 = I 254) (a3 : I2 255 = I 255) (a4 : I2 256 = I 256) (a5 : I2 276 = I 276) (s1 : I2 248 11 = I 248 11) (s2 : I2 248 12 = I 248 12) (s3 : I2 248 15 = I 248 15) (s4 : I2 248 21 = I 248 21) (s5 : I2 248 22 = I 248 22) (s6 : I2 248 23 = I 248 23) : RD I2 := by
  obtain ⟨T, a, b, c⟩ := h
  exact ⟨T, a, cTold_congr b (fun q x y => h1 q x (by omega)), mTold_congr c a1 a2 a3 a4 a5 s1 s2 s3 s4 s5 s6⟩
theorem RK_congr {I I2 : sI} (h : RK I) (h1 : ∀ q, 13 ≤ q → q ≤ 40 → I2 q = I q) (h2 : I2 279 = I 279) (h3 : I2 280 = I 280) : RK I2 := by
  intro i hi
  rcases h i hi with a | ⟨a, b, T, c, d, e⟩
  · left
    rw [h1 40 (by omega) (by omega), h2]
    exact a
  · right
    rw [h1 40 (by omega) (by omega), h2]
    refine ⟨a, b, T, c, cTold_congr d (fun q x y => h1 q (by omega) (by omega)), ?_⟩
    obtain ⟨G, P, s, κ, n, ob, oa, hh, d, b, fi⟩ := T
    unfold mKept at *
    rw [h3]
    exact e
theorem RW_congr {I I2 : sI} (h : RW I) (h1 : ∀ q, 42 ≤ q → q ≤ 133 → I2 q = I q) (h2 : I2 257 = I 257) (h3 : I2 258 = I 258) (h4 : I2 259 = I 259) : RW I2 := by
  obtain ⟨nw, wl, wt, a, b, c⟩ := h
  refine ⟨nw, wl, wt, a, fun t ht => ?_, ?_⟩
  · obtain ⟨b1, b2⟩ := b t ht
    refine ⟨by rw [h1 _ (by omega) (by omega)]; exact b1, fun w hw => ?_⟩
    have := (a t ht).1
    obtain ⟨b3, b4⟩ := b2 w hw
    exact ⟨by rw [h1 _ (by omega) (by omega)]; exact b3, fun i hi => by rw [h1 _ (by omega) (by omega)]; exact b4 i hi⟩
  · unfold mW at *
    rw [h2, h3, h4]
    exact c
theorem RC_congr {I I2 : sI} (h : RC I) (h1 : ∀ q, 229 ≤ q → q ≤ 238 → I2 q = I q) (h0 : I2 227 1 = I 227 1) (h2 : I2 248 46 = I 248 46) (h3 : I2 275 = I 275) : RC I2 := by
  obtain ⟨C, v, a, b, c⟩ := h
  refine ⟨C, v, a, ⟨by rw [h0]; exact b.1, fun c f hc hf => by rw [h1 _ (by omega) (by omega)]; exact b.2 c f hc hf⟩, ?_⟩
  unfold mC at *
  rw [h2, h3]
  exact c
theorem RR_congr {I I2 : sI} {J J2 : sJ} (h : RR I J) (h1 : I2 134 1 = I 134 1) (h2 : I2 248 1 = I 248 1) (h3 : J2 135 = J 135) (h4 : J2 249 = J 249) : RR I2 J2 := by
  unfold RR at *
  rw [h1, h2, h3, h4]
  exact h
theorem RX_congr {I I2 : sI} (h : RX I) (h1 : I2 0 15 = I 0 15) (h2 : I2 248 37 = I 248 37) (h3 : I2 0 16 = I 0 16) (h4 : I2 248 33 = I 248 33) (h5 : I2 141 0 = I 141 0) : RX I2 := by
  unfold RX at *
  rw [h1, h2, h3, h4, h5]
  exact h
