theorem q_X11_find {I : sI} {J : sJ} {post : Int32 → sI → sJ → Prop} {a1 a2 : Int32} (h1 : ∀ f x, f < 12 → x < 3 → a1 = nI f → a2 = nI x → post (I 11 f) (sUI I 11 f (nI x)) J) (h2 : ¬ (Ix a1 12 ∧ Ix a2 3) → post (-1) I J) : w_X11_find a1 a2 I J post := by
  unfold w_X11_find
  refine q_X11_isFind (fun g2 => b2 (by decide) ?_) (fun z => b1 rfl (h2 fun y => z y.1))
  refine ⟨fun z => h2 fun y => ix_ge0 (by omega) y.2 z, fun g3 => ⟨fun g4 => ?_, fun z => h2 fun y => z (ix3.mpr y.2).2⟩⟩
  obtain ⟨f, hf, rfl⟩ := g2
  obtain ⟨x, hx, rfl⟩ := ix3.mp ⟨g3, g4⟩
  refine ⟨vp_in_nI (by omega) (by omega), ?_⟩
  rintro _ rfl
  refine ⟨vp_in_nI (by omega) (by omega), ?_⟩
  rintro _ rfl
  rw [pf_cl (by omega)]
  exact h1 f x hf hx rfl rfl
theorem q_X12_find {I : sI} {J : sJ} {post : Int32 → sI → sJ → Prop} {a1 a2 : Int32} (h1 : ∀ f x, f < 12 → x < 3 → a1 = nI f → a2 = nI x → post (I 276 f) (sUI (sUI I 248 0 0) 276 f (nI x)) J) (h2 : ¬ (Ix a1 12 ∧ Ix a2 3) → post (-1) (sUI I 248 0 0) J) : w_X12_find a1 a2 I J post := by
  unfold w_X12_find
  rintro _ rfl
  refine q_inx 12 (by omega) (hi := 11) rfl rfl (fun g2 => b2 (by decide) ?_) (fun z => b1 rfl (h2 fun y => z y.1))
  refine q_inx 3 (by omega) (hi := 2) rfl rfl (fun g3 => b3 (by decide) ?_) (fun z => b4 rfl (h2 fun y => z y.2))
  obtain ⟨f, hf, rfl⟩ := g2
  obtain ⟨x, hx, rfl⟩ := g3
  refine ⟨vp_in_nI (by omega) (by omega), ?_⟩
  rintro _ rfl
  refine ⟨vp_in_nI (by omega) (by omega), ?_⟩
  rintro _ rfl
  rw [pf_cl (by omega)]
  exact h1 f x hf hx rfl rfl
theorem RD_fi {I I2 : sI} {f x : Nat} (hD : RD I) (hf : f < 12) (hx : x < 3) (e1 : ∀ g, I2 11 g = if g = f then nI x else I 11 g) (e2 : ∀ g, I2 276 g = if g = f then nI x else I 276 g) (r : ∀ q, ¬ (q = 11 ∨ q = 248 ∨ q = 276) → I2 q = I q) (s : ∀ k, ¬ k = 0 → I2 248 k = I 248 k) : RD I2 := by
  obtain ⟨⟨G, P, st, κ, n, ob, oa, h, d, b, fi⟩, hw, hc, hm⟩ := hD
  refine ⟨(G, P, st, κ, n, ob, oa, h, d, b, fun g => if g = f then x else fi g), ?_, ?_, ?_⟩
  · obtain ⟨w1, w2, w3, w4, w5, w6, w7⟩ := hw
    refine ⟨w1, w2, w3, w4, w5, w6, fun g hg => ?_⟩
    show (if g = f then x else fi g) ≤ 2
    split
    · omega
    · exact w7 g hg
  · obtain ⟨w1, w2, w3, w4, w5, w6⟩ := hc
    unfold cD at w1
    unfold cO at w2
    unfold cTold cD cO
    refine ⟨?_, ?_, ?_, ?_, ?_, fun g hg => ?_⟩
    · rw [r (3 + 1) (by omega), r (3 + 1 + 1) (by omega), r (3 + 1 + 2) (by omega), r (3 + 1 + 3) (by omega)]; exact w1
    · rw [r (3 + 5) (by omega), r (3 + 5 + 1) (by omega), r (3 + 5 + 2) (by omega)]; exact w2
    · rw [r 3 (by omega)]; exact w3
    · rw [r 3 (by omega)]; exact w4
    · rw [r 3 (by omega)]; exact w5
    · show I2 11 g = nI (if g = f then x else fi g)
      rw [e1, show I 11 g = nI (fi g) from w6 g hg]
      split <;> rfl
  · obtain ⟨w1, w2, w3, w4, w5, w6⟩ := hm
    unfold mD at w1
    unfold mO at w2
    unfold mTold mD mO
    refine ⟨?_, ?_, ?_, ?_, ?_, fun g hg => ?_⟩
    · rw [s 11 (by omega), s 12 (by omega), r 253 (by omega), r 254 (by omega)]; exact w1
    · rw [s 15 (by omega), r 255 (by omega), r 256 (by omega)]; exact w2
    · rw [s 21 (by omega)]; exact w3
    · rw [s 22 (by omega)]; exact w4
    · rw [s 23 (by omega)]; exact w5
    · show I2 276 g = nI (if g = f then x else fi g)
      rw [e2, show I 276 g = nI (fi g) from w6 g hg]
      split <;> rfl
theorem RD_fi_at {I : sI} (hD : RD I) {f : Nat} (hf : f < 12) : I 11 f = I 276 f := by
  obtain ⟨⟨G, P, st, κ, n, ob, oa, h, d, b, fi⟩, hw, hc, hm⟩ := hD
  rw [show I 11 f = nI (fi f) from hc.2.2.2.2.2 f hf, show I 276 f = nI (fi f) from hm.2.2.2.2.2 f hf]
theorem S_find {I : sI} {J : sJ} (a1 a2 : Int32) (hR : RR0 I J) : St (w_X11_find a1 a2) (w_X12_find a1 a2) I J := by
  obtain ⟨hT, hD, hK, hW, hC, hQ, hX⟩ := hR
  refine q_X11_find (fun f x g2 g3 e2 e3 => ?_) (fun z => ?_)
  · have hh : Ix a1 12 ∧ Ix a2 3 := ⟨⟨f, g2, e2⟩, ⟨x, g3, e3⟩⟩
    subst e2 e3
    refine q_X12_find (fun f' x' k2 k3 e2 e3 => ?_) (fun z => absurd hh z)
    have z2 : f = f' := (pf_eq (by omega) (by omega)).mp e2
    have z3 : x = x' := (pf_eq (by omega) (by omega)).mp e3
    subst z2 z3
    have r1 : ∀ q, ¬ (q = 11 ∨ q = 248 ∨ q = 276) → (sUI (sUI (sUI I 11 f (nI x)) 248 0 0) 276 f (nI x)) q = I q := fun q a => by rw [sUI_ne (by omega), sUI_ne (by omega), sUI_ne (by omega)]
    have s1 : ∀ k, ¬ k = 0 → (sUI (sUI (sUI I 11 f (nI x)) 248 0 0) 276 f (nI x)) 248 k = I 248 k := fun k hk => by rw [pf_ui, if_neg (by omega), pf_ui, if_neg (by omega), pf_ui, if_neg (by omega)]
    refine ⟨RD_fi_at hD g2, (RT_congr hT (by rw [r1 1 (by omega)]) (r1 2 (by omega)) (s1 4 (by omega)) (r1 250 (by omega))), ?_, (RK_congr hK (fun q h1 h2 => r1 q (by omega)) (r1 279 (by omega)) (r1 280 (by omega))), (RW_congr hW (fun q h1 h2 => r1 q (by omega)) (r1 257 (by omega)) (r1 258 (by omega)) (r1 259 (by omega))), (RC_congr hC (fun q h1 h2 => r1 q (by omega)) (by rw [r1 227 (by omega)]) (s1 46 (by omega)) (r1 275 (by omega))), (RR_congr hQ (by rw [r1 134 (by omega)]) (s1 1 (by omega)) rfl rfl), (RX_congr hX (by rw [r1 0 (by omega)]) (s1 37 (by omega)) (by rw [r1 0 (by omega)]) (s1 33 (by omega)) (by rw [r1 141 (by omega)]))⟩
    refine RD_fi hD g2 g3 (fun g => ?_) (fun g => ?_) r1 s1
    · rw [pf_ui, if_neg (by omega), pf_ui, if_neg (by omega), pf_uis]
    · rw [pf_uis]
      split
      · rfl
      · rw [pf_ui, if_neg (by omega), pf_ui, if_neg (by omega)]
  · refine q_X12_find (fun f' x' k2 k3 e2 e3 => absurd ⟨⟨f', k2, e2⟩, ⟨x', k3, e3⟩⟩ z) (fun _ => ?_)
    exact ⟨rfl, (RT_congr hT rfl rfl rfl rfl), (RD_congr hD (fun q h1 h2 => by repeat rw [sUI_ne (by omega)]) rfl rfl rfl rfl rfl rfl rfl rfl rfl rfl rfl), (RK_congr hK (fun q h1 h2 => by repeat rw [sUI_ne (by omega)]) rfl rfl), (RW_congr hW (fun q h1 h2 => by repeat rw [sUI_ne (by omega)]) rfl rfl rfl), (RC_congr hC (fun q h1 h2 => by repeat rw [sUI_ne (by omega)]) rfl rfl rfl), (RR_congr hQ rfl rfl rfl rfl), (RX_congr hX rfl rfl rfl rfl rfl)⟩
theorem S_end {I : sI} {J : sJ} (a : Int32) (hR : RR0 I J) : St (w_X11_end a) (w_X12_end a) I J := by
  obtain ⟨hT, hD, hK, hW, hC, hQ, hX⟩ := hR
  obtain ⟨n, b, hn, hb, ⟨c1, c2⟩, m1, m2⟩ := id hT
  have mod : ∀ I1 : sI, I1 248 4 = nI n → ∀ post : Int32 → sI → sJ → Prop, (∀ m, m ≤ n → a = nI m → post 1 (sUI (sUI I1 248 0 0) 248 4 (nI m)) J) → (¬ Ix a (n + 1) → post 0 (sUI I1 248 0 0) J) → w_X12_end a I1 J post := by
    intro I1 e post h1 h2
    unfold w_X12_end
    rintro _ rfl
    refine q_inx (n + 1) (by omega) (hi := nI n) (by rw [show sUI I1 248 0 0 248 4 = nI n from e]) (by rw [show (1 : Int32) = nI 1 from rfl, pk_sub (by omega)]; congr 1) (fun z => b3 (by decide) ?_) (fun z => b4 rfl (h2 z))
    rintro _ rfl
    obtain ⟨m, hm, rfl⟩ := z
    exact h1 m (by omega) rfl
  unfold St w_X11_end
  have no : ¬ Ix a (n + 1) → w_X12_end a I J (fun r2 I2 J2 => (0 : Int32) = r2 ∧ RR0 I2 J2) := fun z => mod I m1 _ (fun m h e => absurd ⟨m, by omega, e⟩ z) (fun _ => ⟨rfl, (RT_congr hT rfl rfl rfl rfl), (RD_congr hD (fun q h1 h2 => by repeat rw [sUI_ne (by omega)]) rfl rfl rfl rfl rfl rfl rfl rfl rfl rfl rfl), (RK_congr hK (fun q h1 h2 => by repeat rw [sUI_ne (by omega)]) rfl rfl), (RW_congr hW (fun q h1 h2 => by repeat rw [sUI_ne (by omega)]) rfl rfl rfl), (RC_congr hC (fun q h1 h2 => by repeat rw [sUI_ne (by omega)]) rfl rfl rfl), (RR_congr hQ rfl rfl rfl rfl), (RX_congr hX rfl rfl rfl rfl rfl)⟩)
  refine ⟨fun q => no (fun z => ix_ge0 (by omega) z q), fun q => ?_⟩
  rw [c1]
  refine ⟨fun q2 => ?_, fun q2 => no (fun ⟨m, hm, e⟩ => q2 (by rw [e, pf_le (by omega) (by omega)]; omega))⟩
  rintro _ rfl
  refine mod (sUI I 1 1 a) m1 _ (fun m hm e => ?_) (fun z => absurd (ix_lt (N := n + 1) (by omega) q (fun q3 => ?_)) z)
  · subst e
    refine ⟨rfl, ⟨m, b, by omega, fun i hi => hb i (by omega), ⟨rfl, fun i hi => c2 i (by omega)⟩, rfl, fun i hi => m2 i (by omega)⟩, (RD_congr hD (fun q h1 h2 => by repeat rw [sUI_ne (by omega)]) rfl rfl rfl rfl rfl rfl rfl rfl rfl rfl rfl), (RK_congr hK (fun q h1 h2 => by repeat rw [sUI_ne (by omega)]) rfl rfl), (RW_congr hW (fun q h1 h2 => by repeat rw [sUI_ne (by omega)]) rfl rfl rfl), (RC_congr hC (fun q h1 h2 => by repeat rw [sUI_ne (by omega)]) rfl rfl rfl), (RR_congr hQ rfl rfl rfl rfl), (RX_congr hX rfl rfl rfl rfl rfl)⟩
  · have := Int32.le_trans q3 q2
    rw [pf_le (by omega) (by omega)] at this
    omega
theorem S_forget {I : sI} {J : sJ} (a : Int32) (hR : RR0 I J) : St (w_X11_forget a) (w_X12_forget a) I J := by
  obtain ⟨hT, hD, hK, hW, hC, hQ, hX⟩ := hR
  obtain ⟨nw, wl, wt, hw, hc, hm⟩ := id hW
  unfold St w_X11_forget
  refine q_X11_isTongue (fun z => b3 (by decide) ?_) (fun z => b4 rfl ?_)
  · obtain ⟨t, ht, rfl⟩ := z
    refine ⟨vp_in_nI (by omega) (by omega), ?_⟩
    rintro _ rfl
    refine ⟨vp_in_nI (by omega) (by omega), ?_⟩
    rintro _ rfl
    rw [pf_cl (by omega), sR41 t ht]
    unfold w_X12_forget
    rintro _ rfl
    refine q_X12_isTongue (fun z => b3 (by decide) ?_) (fun z => absurd ⟨t, ht, rfl⟩ z)
    refine ⟨vp_in_nI (by omega) (by omega), ?_⟩
    rintro _ rfl
    refine ⟨vp_in_nI (by omega) (by omega), ?_⟩
    rintro _ rfl
    rw [pf_cl (by omega)]
    have r1 : ∀ q, ¬ (q = 42 + 23 * t ∨ q = 248 ∨ q = 257) → (sUI (sUI (sUI I (42 + 23 * t) 2 0) 248 0 0) 257 t 0) q = I q := fun q a => by rw [sUI_ne (by omega), sUI_ne (by omega), sUI_ne (by omega)]
    have s1 : ∀ k, ¬ k = 0 → (sUI (sUI (sUI I (42 + 23 * t) 2 0) 248 0 0) 257 t 0) 248 k = I 248 k := fun k hk => by rw [pf_ui, if_neg (by omega), pf_ui, if_neg (by omega), pf_ui, if_neg (by omega)]
    refine ⟨?_, (RT_congr hT (by rw [r1 1 (by omega)]) (r1 2 (by omega)) (s1 4 (by omega)) (r1 250 (by omega))), (RD_congr hD (fun q h1 h2 => r1 q (by omega)) (r1 253 (by omega)) (r1 254 (by omega)) (r1 255 (by omega)) (r1 256 (by omega)) (r1 276 (by omega)) (s1 11 (by omega)) (s1 12 (by omega)) (s1 15 (by omega)) (s1 21 (by omega)) (s1 22 (by omega)) (s1 23 (by omega))), (RK_congr hK (fun q h1 h2 => r1 q (by omega)) (r1 279 (by omega)) (r1 280 (by omega))), ⟨fun t2 => if t2 = t then 0 else nw t2, wl, wt, fun t2 h2 => ?_, fun t2 h2 => ?_, fun t2 h2 => ?_⟩, (RC_congr hC (fun q h1 h2 => r1 q (by omega)) (by rw [r1 227 (by omega)]) (s1 46 (by omega)) (r1 275 (by omega))), (RR_congr hQ (by rw [r1 134 (by omega)]) (s1 1 (by omega)) rfl rfl), (RX_congr hX (by rw [r1 0 (by omega)]) (s1 37 (by omega)) (by rw [r1 0 (by omega)]) (s1 33 (by omega)) (by rw [r1 141 (by omega)]))⟩
    · rw [pf_ui, if_neg (by omega), pf_ui, if_neg (by omega), (hc t ht).1, (hm t ht).1]
    · by_cases e : t2 = t
      · subst e
        simp
      · simp only [if_neg e]
        exact hw t2 h2
    · have h20 := (hw t2 h2).1
      by_cases e : t2 = t
      · subst e
        simp only [if_true]
        exact ⟨by rw [pf_ui, if_neg (by omega), pf_ui, if_neg (by omega), pf_uis, if_pos rfl]; rfl, fun w hw => absurd hw (by omega)⟩
      · simp only [if_neg e]
        obtain ⟨h3, h4⟩ := hc t2 h2
        refine ⟨by rw [r1 _ (by omega)]; exact h3, fun w hw => ?_⟩
        obtain ⟨h5, h6⟩ := h4 w hw
        exact ⟨by rw [r1 _ (by omega)]; exact h5, fun i hi => by rw [r1 _ (by omega)]; exact h6 i hi⟩
    · by_cases e : t2 = t
      · subst e
        simp only [if_true]
        exact ⟨by rw [pf_uis, if_pos rfl]; rfl, fun w hw => absurd hw (by omega)⟩
      · simp only [if_neg e]
        obtain ⟨h3, h4⟩ := hm t2 h2
        refine ⟨by rw [pf_uis, if_neg e, pf_ui, if_neg (by omega), pf_ui, if_neg (by omega)]; exact h3, fun w hw => ?_⟩
        rw [r1 258 (by omega), r1 259 (by omega)]
        exact h4 w hw
  · unfold w_X12_forget
    rintro _ rfl
    refine q_X12_isTongue (fun z2 => absurd z2 z) (fun z => b4 rfl ?_)
    exact ⟨rfl, (RT_congr hT rfl rfl rfl rfl), (RD_congr hD (fun q h1 h2 => by repeat rw [sUI_ne (by omega)]) rfl rfl rfl rfl rfl rfl rfl rfl rfl rfl rfl), (RK_congr hK (fun q h1 h2 => by repeat rw [sUI_ne (by omega)]) rfl rfl), (RW_congr hW (fun q h1 h2 => by repeat rw [sUI_ne (by omega)]) rfl rfl rfl), (RC_congr hC (fun q h1 h2 => by repeat rw [sUI_ne (by omega)]) rfl rfl rfl), (RR_congr hQ rfl rfl rfl rfl), (RX_congr hX rfl rfl rfl rfl rfl)⟩
