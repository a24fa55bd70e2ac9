theorem q_begins {I : sI} {J : sJ} {post : Int32 → sI → sJ → Prop} {n M : Nat} (hn : I 248 4 = nI n) (h80 : n ≤ 80) (hM : M ≤ 80) (h : post (nI n) (sUI (sUI (sUI I 248 4 0) 248 5 0) 248 6 (nI (min n M))) J) : w_X12_begins (nI M) I J post := by
  unfold w_X12_begins
  rw [hn]
  rintro _ rfl _ rfl _ rfl
  refine q_min (by omega) (by omega) ?_
  rintro _ rfl
  exact h
theorem neg_sub {p : Nat} (h : p ≤ 1000) : ((-1 : Int32) - nI p).toInt = -1 - (p : Int) := by
  rw [Int32.toInt_sub, pf_neg1_toInt, pf_toInt (by omega)]
  exact Int.bmod_eq_of_le (by omega) (by omega)
theorem neg_lt0 {p : Nat} (h : p ≤ 1000) : ¬ 0 ≤ (-1 : Int32) - nI p := by
  rw [pf_leInt, neg_sub h]
  have : (0 : Int32).toInt = 0 := by decide
  omega
theorem RD_disc {I I2 : sI} {G P : Nat} {s κ : Nat → Nat} (hD : RD I) (hwd : tWD G P s κ) (hc : cD G P s κ 4 I2) (hm : mD G P s κ I2) (o1 : I2 8 2 = 0) (o2 : I2 248 15 = 0) (r3 : I2 3 = I 3) (r11 : I2 11 = I 11) (r276 : I2 276 = I 276) (s1 : I2 248 21 = I 248 21) (s2 : I2 248 22 = I 248 22) (s3 : I2 248 23 = I 248 23) : RD I2 := by
  obtain ⟨⟨G0, P0, s0, κ0, n, ob, oa, h, d, b, fi⟩, hw, hc0, hm0⟩ := hD
  obtain ⟨w1, w2, w3, w4, w5, w6, w7⟩ := hw
  obtain ⟨c1, c2, c3, c4, c5, c6⟩ := hc0
  obtain ⟨m1, m2, m3, m4, m5, m6⟩ := hm0
  refine ⟨(G, P, s, κ, 0, ob, oa, h, d, b, fi), ⟨hwd, ⟨by omega, fun i hi => by omega, fun i j hi => by omega⟩, w3, w4, w5, w6, w7⟩, ⟨hc, ⟨o1, fun i hi => by omega⟩, ?_, ?_, ?_, ?_⟩, ⟨hm, ⟨o2, fun i hi => by omega⟩, ?_, ?_, ?_, ?_⟩⟩
  · rw [r3]; exact c3
  · rw [r3]; exact c4
  · rw [r3]; exact c5
  · rw [r11]; exact c6
  · rw [s1]; exact m3
  · rw [s2]; exact m4
  · rw [s3]; exact m5
  · rw [r276]; exact m6
/-- the model's disc() behind its reading -/
theorem q_X12_disc40 {I : sI} {J : sJ} {post : Int32 → sI → sJ → Prop} {G P : Nat} {s κ : Nat → Nat} (hw : tWD G P s κ) (hg : I 248 11 = nI G) (hp : I 248 12 = nI P) (h1 : ∀ g, g < G → I 251 g = nI (s (g + 1) - s g)) (h2 : ∀ i, i < P → I 252 i = nI (κ i)) (h : ∀ I2 : sI, (∀ q, ¬ (q = 248 ∨ q = 253 ∨ q = 254) → I2 q = I q) → (∀ k, ¬ k = 15 → I2 248 k = I 248 k) → I2 248 15 = 0 → mD G P s κ I2 → post (nI G) I2 J) : w_X12_disc_40 post 0 I J := by
  obtain ⟨w1, w2, w3, w4, w5, w6⟩ := hw
  have loop2 : ∀ m p (I1 : sI), p ≤ P → P - p < m → (∀ q, ¬ (q = 253 ∨ q = 254) → I1 q = I q) → (∀ g, g < G → I1 253 g = nI (s (g + 1) - s g)) → (∀ i, i < p → I1 254 i = nI (κ i)) → w_X12_disc_68_n post m (nI p) I1 J := by
    intro m
    induction m with
    | zero => intro p I1 _ hm; omega
    | succ m ih =>
      intro p I1 hpP hm fr f1 f2
      show w_X12_disc_68_s post _ _ I1 J
      unfold w_X12_disc_68_s
      rw [fr 248 (by omega), fr 252 (by omega), hp, pf_le (by omega) (by omega)]
      refine ⟨fun e => ?_, fun e => ⟨vp_in_nI (by omega) (by omega), vp_in_nI (by omega) (by omega), ?_⟩⟩
      · rintro _ rfl
        rw [show (sUI I1 248 15 0) 248 11 = nI G by rw [pf_uis, if_neg (by omega), fr 248 (by omega)]; exact hg]
        refine h _ (fun q hq => by rw [sUI_ne (by omega)]; exact fr q (by omega)) (fun k hk => by rw [pf_uis, if_neg hk, fr 248 (by omega)]) rfl ⟨?_, ?_, fun g hgG => ?_, fun i hi => ?_⟩
        · rw [pf_uis, if_neg (by omega), fr 248 (by omega)]; exact hg
        · rw [pf_uis, if_neg (by omega), fr 248 (by omega)]; exact hp
        · rw [pf_ui, if_neg (by omega)]; exact f1 g hgG
        · rw [pf_ui, if_neg (by omega)]; exact f2 i (by omega)
      · rw [pf_cl (by omega), h2 p (by omega)]
        rintro _ rfl _ rfl
        rw [nI_1]
        refine ih (p + 1) _ (by omega) (by omega) (fun q hq => by rw [sUI_ne (by omega)]; exact fr q hq) (fun g hgG => by rw [pf_ui, if_neg (by omega)]; exact f1 g hgG) (fun i hi => ?_)
        rw [pf_uis]
        split
        · rename_i e; rw [e]
        · exact f2 i (by omega)
  have loop1 : ∀ m g (I1 : sI), g ≤ G → G - g < m → (∀ q, ¬ q = 253 → I1 q = I q) → (∀ k, k < g → I1 253 k = nI (s (k + 1) - s k)) → w_X12_disc_40_n post m (nI g) I1 J := by
    intro m
    induction m with
    | zero => intro p I1 _ hm; omega
    | succ m ih =>
      intro g I1 hgG hm fr f1
      show w_X12_disc_40_s post _ _ I1 J
      unfold w_X12_disc_40_s
      rw [fr 248 (by omega), fr 251 (by omega), hg, pf_le (by omega) (by omega)]
      refine ⟨fun e => ?_, fun e => ⟨vp_in_nI (by omega) (by omega), vp_in_nI (by omega) (by omega), ?_⟩⟩
      · exact ⟨P + 1, loop2 (P + 1) 0 I1 (by omega) (by omega) (fun q hq => fr q (by omega)) (fun k hk => f1 k (by omega)) (fun i hi => by omega)⟩
      · rw [pf_cl (by omega), h1 g (by omega)]
        rintro _ rfl _ rfl
        rw [nI_1]
        refine ih (g + 1) _ (by omega) (by omega) (fun q hq => by rw [sUI_ne hq]; exact fr q hq) (fun k hk => ?_)
        rw [pf_uis]
        split
        · rename_i e; rw [e]
        · exact f1 k (by omega)
  exact ⟨G + 1, loop1 (G + 1) 0 I (by omega) (by omega) (fun _ _ => rfl) (fun k hk => by omega)⟩
theorem q_X12_disc {I : sI} {J : sJ} {post : Int32 → sI → sJ → Prop} {n : Nat} {b : Nat → Nat} (hT : mT n b I) (hn : n ≤ 80) (hb : ∀ i, i < n → b i < 256)
    (h1 : ∀ p, p ≤ 60 → (p < n ∧ p < 60 ∧ okTo b p ∧ ¬ okAt b p) ∨ (p = min n 60 ∧ okTo b (min n 60) ∧ (60 < n ∨ pl b n = 0)) → ∀ I2 : sI, (∀ q, ¬ (q = 248 ∨ q = 251 ∨ q = 252) → I2 q = I q) → (∀ k, ¬ (k = 0 ∨ k = 4 ∨ k = 5 ∨ k = 6 ∨ k = 7 ∨ k = 8) → I2 248 k = I 248 k) → I2 248 4 = 0 → post ((-1) - nI p) I2 J)
    (h3 : okTo b n → n ≤ 60 → pl b n ≠ 0 → ∀ I2 : sI, (∀ q, ¬ (q = 248 ∨ q = 251 ∨ q = 252 ∨ q = 253 ∨ q = 254) → I2 q = I q) → (∀ k, ¬ (k = 0 ∨ k = 4 ∨ k = 5 ∨ k = 6 ∨ k = 7 ∨ k = 8 ∨ k = 11 ∨ k = 12 ∨ k = 15) → I2 248 k = I 248 k) → I2 248 4 = 0 → I2 248 15 = 0 → mD (dG b n) (pP b n) (dS b n) (pK b n) I2 → post (nI (dG b n)) I2 J) : w_X12_disc I J post := by
  obtain ⟨t1, t2⟩ := hT
  unfold w_X12_disc
  rintro _ rfl
  refine q_begins (n := n) (M := 60) t1 hn (by omega) ?_
  have fr0 : ∀ q, ¬ q = 248 → (sUI (sUI (sUI (sUI I 248 0 0) 248 4 0) 248 5 0) 248 6 (nI (min n 60))) q = I q := fun q hq => by rw [sUI_ne hq, sUI_ne hq, sUI_ne hq, sUI_ne hq]
  have fs0 : ∀ k, ¬ (k = 0 ∨ k = 4 ∨ k = 5 ∨ k = 6) → (sUI (sUI (sUI (sUI I 248 0 0) 248 4 0) 248 5 0) 248 6 (nI (min n 60))) 248 k = I 248 k := fun k hk => by rw [pf_uis, if_neg (by omega), pf_uis, if_neg (by omega), pf_uis, if_neg (by omega), pf_uis, if_neg (by omega)]
  refine q_reads (n := n) (b := b) hn rfl rfl (fun i hi => ⟨hb i hi, t2 i hi⟩) ?_ ?_ ?_
  · intro p p1 p2 p3 p4 I2 fr fs
    refine b2 (neg_lt0 (by omega)) ?_
    exact h1 p (by omega) (Or.inl ⟨p1, p2, p3, p4⟩) I2 (fun q hq => by rw [fr q hq, fr0 q (by omega)]) (fun k hk => by rw [fs k (by omega), fs0 k (by omega)]) (by rw [fs 4 (by omega)]; rfl)
  · intro p1 p2 I2 fr fs
    refine b2 (neg_lt0 (by omega)) ?_
    exact h1 (min n 60) (by omega) (Or.inr ⟨rfl, p1, p2⟩) I2 (fun q hq => by rw [fr q hq, fr0 q (by omega)]) (fun k hk => by rw [fs k (by omega), fs0 k (by omega)]) (by rw [fs 4 (by omega)]; rfl)
  · intro p1 p2 p3 I2 fr fs g7 g8 g9 g10
    refine b1 (by decide) ?_
    rw [g7]
    rintro _ rfl
    rw [show (sUI I2 248 11 (nI (dG b n))) 248 8 = nI (pP b n) from g8]
    rintro _ rfl
    refine q_X12_disc40 (dWD p1 p2 p3) rfl rfl g9 g10 (fun I3 kr ks k15 kd => ?_)
    refine h3 p1 p2 p3 I3 (fun q hq => ?_) (fun k hk => ?_) ?_ k15 kd
    · rw [kr q (by omega), sUI_ne (by omega), sUI_ne (by omega), fr q (by omega), fr0 q (by omega)]
    · rw [ks k (by omega), pf_uis, if_neg (by omega), pf_uis, if_neg (by omega), fs k (by omega), fs0 k (by omega)]
    · rw [ks 4 (by omega), pf_uis, if_neg (by omega), pf_uis, if_neg (by omega), fs 4 (by omega)]; rfl
theorem S_disc {I : sI} {J : sJ} (hR : RR0 I J) : St w_X11_disc w_X12_disc I J := by
  obtain ⟨hT, hD, hK, hW, hC, hQ, hX⟩ := hR
  obtain ⟨n, b, hn, hb, hc, hm⟩ := id hT
  have bad : ∀ p, p ≤ 60 → (p < n ∧ p < 60 ∧ okTo b p ∧ ¬ okAt b p) ∨ (p = min n 60 ∧ okTo b (min n 60) ∧ (60 < n ∨ pl b n = 0)) → w_X11_disc_38 (fun r I1 J1 => w_X12_disc I1 J1 (fun r2 I2 J2 => r = r2 ∧ RR0 I2 J2)) (nI p) I J := by
    intro p hp hcase
    unfold w_X11_disc_38
    rintro _ rfl
    refine b3 (pf_ne_m1 (by omega)) ?_
    refine q_X12_disc (n := n) (b := b) hm hn hb (fun p' hp' hcase' I2 fr fs f4 => ?_) (fun o1 o2 o3 => ?_)
    · have e : p = p' := by
        rcases hcase with ⟨a1, a2, a3, a4⟩ | ⟨a1, a2, a3⟩ <;> rcases hcase' with ⟨c1, c2, c3, c4⟩ | ⟨c1, c2, c3⟩
        · rcases Nat.lt_trichotomy p p' with x | x | x
          · exact absurd (c3 p x) a4
          · exact x
          · exact absurd (a3 p' x) c4
        · exact absurd (c2 p (by omega)) a4
        · exact absurd (a2 p' (by omega)) c4
        · omega
      subst e
      have r1 : ∀ q, ¬ (q = 1 ∨ q = 248 ∨ q = 251 ∨ q = 252) → I2 q = I q := fun q hq => by rw [fr q (by omega), sUI_ne (by omega)]
      have s1 : ∀ k, ¬ (k = 0 ∨ k = 4 ∨ k = 5 ∨ k = 6 ∨ k = 7 ∨ k = 8) → I2 248 k = I 248 k := fun k hk => by rw [fs k hk, pf_ui, if_neg (by omega)]
      refine ⟨rfl, ⟨0, b, by omega, fun i hi => by omega, ⟨?_, fun i hi => by omega⟩, f4, fun i hi => by omega⟩, (RD_congr hD (fun q h1 h2 => r1 q (by omega)) (r1 253 (by omega)) (r1 254 (by omega)) (r1 255 (by omega)) (r1 256 (by omega)) (r1 276 (by omega)) (s1 11 (by omega)) (s1 12 (by omega)) (s1 15 (by omega)) (s1 21 (by omega)) (s1 22 (by omega)) (s1 23 (by omega))), (RK_congr hK (fun q h1 h2 => r1 q (by omega)) (r1 279 (by omega)) (r1 280 (by omega))), (RW_congr hW (fun q h1 h2 => r1 q (by omega)) (r1 257 (by omega)) (r1 258 (by omega)) (r1 259 (by omega))), (RC_congr hC (fun q h1 h2 => r1 q (by omega)) (by rw [r1 227 (by omega)]) (s1 46 (by omega)) (r1 275 (by omega))), (RR_congr hQ (by rw [r1 134 (by omega)]) (s1 1 (by omega)) rfl rfl), (RX_congr hX (by rw [r1 0 (by omega)]) (s1 37 (by omega)) (by rw [r1 0 (by omega)]) (s1 33 (by omega)) (by rw [r1 141 (by omega)]))⟩
      rw [fr 1 (by omega)]; rfl
    · rcases hcase with ⟨a1, a2, a3, a4⟩ | ⟨a1, a2, a3⟩
      · exact absurd (o1 p a1) a4
      · omega
  refine q_faultAsDisc hc hn hb (fun p p1 p2 p3 p4 => b3 (pf_ne_m1 (by omega)) (bad p (by omega) (Or.inl ⟨p1, p2, p3, p4⟩))) (fun p1 p2 => b3 (pf_ne_m1 (by omega)) (bad _ (by omega) (Or.inr ⟨rfl, p1, p2⟩))) (fun p1 p2 p3 => b4 rfl ?_)
  obtain ⟨⟨G0, P0, s0, κ0, n0, ob, oa, h, d, bk, fi⟩, hw0, hc0, hm0⟩ := id hD
  refine q_fill (Or.inl rfl) hc p2 hb p1 ?_ (fun I1 fr hcd => ?_)
  · have := hc0.1.2.2.1 0 (by omega)
    rw [hw0.1.2.2.1] at this
    exact this
  · rintro _ rfl
    unfold w_X11_disc_38
    rintro _ rfl
    refine b4 rfl ?_
    have e43 : (sUI (sUI I1 8 2 0) 1 1 0) 4 3 = nI (dG b n) := hcd.1
    rw [e43]
    refine q_X12_disc (n := n) (b := b) ⟨?_, fun i hi => ?_⟩ hn hb (fun p' hp' hcase' => ?_) (fun _ _ _ I2 gr gs g4 g15 gd => ?_)
    · show I1 248 4 = _; rw [fr 248 (by omega)]; exact hm.1
    · show I1 250 i = _; rw [fr 250 (by omega)]; exact hm.2 i hi
    · rcases hcase' with ⟨c1, c2, c3, c4⟩ | ⟨c1, c2, c3⟩
      · exact absurd (p1 p' c1) c4
      · omega
    · have r0 : ∀ q, ¬ (q = 1 ∨ q = 8 ∨ q = 248 ∨ q = 251 ∨ q = 252 ∨ q = 253 ∨ q = 254) → I2 q = I1 q := fun q hq => by rw [gr q (by omega), sUI_ne (by omega), sUI_ne (by omega)]
      have r1 : ∀ q, ¬ (q = 1 ∨ q = 4 ∨ q = 5 ∨ q = 6 ∨ q = 7 ∨ q = 8 ∨ q = 248 ∨ q = 251 ∨ q = 252 ∨ q = 253 ∨ q = 254) → I2 q = I q := fun q hq => by rw [r0 q (by omega), fr q (by omega)]
      have s1 : ∀ k, ¬ (k = 0 ∨ k = 4 ∨ k = 5 ∨ k = 6 ∨ k = 7 ∨ k = 8 ∨ k = 11 ∨ k = 12 ∨ k = 15) → I2 248 k = I 248 k := fun k hk => by rw [gs k hk, pf_ui, if_neg (by omega), pf_ui, if_neg (by omega), fr 248 (by omega)]
      refine ⟨rfl, ⟨0, b, by omega, fun i hi => by omega, ⟨?_, fun i hi => by omega⟩, g4, fun i hi => by omega⟩, ?_, (RK_congr hK (fun q h1 h2 => r1 q (by omega)) (r1 279 (by omega)) (r1 280 (by omega))), (RW_congr hW (fun q h1 h2 => r1 q (by omega)) (r1 257 (by omega)) (r1 258 (by omega)) (r1 259 (by omega))), (RC_congr hC (fun q h1 h2 => r1 q (by omega)) (by rw [r1 227 (by omega)]) (s1 46 (by omega)) (r1 275 (by omega))), (RR_congr hQ (by rw [r1 134 (by omega)]) (s1 1 (by omega)) rfl rfl), (RX_congr hX (by rw [r1 0 (by omega)]) (s1 37 (by omega)) (by rw [r1 0 (by omega)]) (s1 33 (by omega)) (by rw [r1 141 (by omega)]))⟩
      · rw [gr 1 (by omega)]; rfl
      · refine RD_disc hD (dWD p1 p2 p3) ?_ gd ?_ g15 (r1 3 (by omega)) (r1 11 (by omega)) (r1 276 (by omega)) (s1 21 (by omega)) (s1 22 (by omega)) (s1 23 (by omega))
        · unfold cD at hcd ⊢
          rw [r0 4 (by omega), r0 (4 + 3) (by omega), r0 (4 + 1) (by omega), r0 (4 + 2) (by omega)]
          exact hcd
        · rw [gr 8 (by omega)]; rfl
