theorem q_passesB {I : sI} {J : sJ} {post : sI → sJ → Prop} {i bk : Nat} (hi : i < 3) (hb : I 280 (200 * i + 5) = nI bk) (hbk : bk ≤ 1) (h : ∀ I2 : sI, bW i 134 I I2 → post I2 J) : w_X12_passes (nI i) 1 I J post := by
  have f280 : ∀ {m : Nat} (I1 : sI), bW i m I I1 → I1 280 = I 280 := fun I1 F => F.2.1 280 (by omega)
  have loop2 : ∀ m p (I1 : sI), p ≤ 80 → 80 - p < m → bW i (54 + p) I I1 → w_X12_passes_189_n post m (nI i) 1 (nI p) I1 J := by
    intro m
    induction m with
    | zero => intro p I1 _ hm; omega
    | succ m ih =>
      intro p I1 hp hm F
      show w_X12_passes_189_s post _ _ _ _ I1 J
      unfold w_X12_passes_189_s
      rw [show (80 : Int32) = nI 80 from rfl, pf_le (by omega) (by omega)]
      refine ⟨fun e => ?_, fun e => ⟨vp_in_nI (by omega) (by omega), ?_⟩⟩
      · rw [show p = 80 by omega] at F
        exact h I1 F
      · rw [pf_cl (by omega)]
        refine q_passB hi (show 54 + p < 200 by omega) F.1 ⟨vp_in_nI (by omega) (by omega), ?_⟩
        rintro _ rfl _ rfl
        rw [nI_1]
        exact ih (p + 1) _ (by omega) (by omega) (bW_s (m := 54 + p) F (by omega) (pC_p p (by omega)) (congrFun (f280 _ F) _).symm)
  have loop1 : ∀ m g (I1 : sI), g ≤ 12 → 12 - g < m → bW i (6 + 4 * g) I I1 → w_X12_passes_103_n post m (nI i) 1 (nI g) I1 J := by
    intro m
    induction m with
    | zero => intro p I1 _ hm; omega
    | succ m ih =>
      intro g I1 hg hm F
      show w_X12_passes_103_s post _ _ _ _ I1 J
      unfold w_X12_passes_103_s
      rw [show (12 : Int32) = nI 12 from rfl, pf_le (by omega) (by omega)]
      refine ⟨fun e => ?_, fun e => ⟨vp_in_nI (by omega) (by omega), ?_⟩⟩
      · rw [show g = 12 by omega] at F
        exact ⟨81, loop2 81 0 I1 (by omega) (by omega) F⟩
      · obtain ⟨p1, p2, p3, p4⟩ := pC_g g (by omega)
        rw [pf_cl (by omega)]
        refine q_passB hi (show 6 + 4 * g < 200 by omega) F.1 ⟨vp_in_nI (by omega) (by omega), ?_⟩
        rintro _ rfl
        have F := bW_s F (show 6 + 4 * g < 134 by omega) p1 (congrFun (f280 _ F) _).symm
        rw [show 6 + 4 * g + 1 = 7 + 4 * g by omega] at F ⊢
        generalize sUI (sUI I1 248 55 (nI (7 + 4 * g))) 253 g (I1 280 (200 * i + (6 + 4 * g))) = I1 at F ⊢
        refine ⟨vp_in_nI (by omega) (by omega), q_passB hi (show 7 + 4 * g < 200 by omega) F.1 ⟨vp_in_nI (by omega) (by omega), ?_⟩⟩
        rintro _ rfl
        have F := bW_s F (show 7 + 4 * g < 134 by omega) p2 (congrFun (f280 _ F) _).symm
        rw [show 7 + 4 * g + 1 = 8 + 4 * g by omega] at F ⊢
        generalize sUI (sUI I1 248 55 (nI (8 + 4 * g))) 255 g (I1 280 (200 * i + (7 + 4 * g))) = I1 at F ⊢
        refine ⟨vp_in_nI (by omega) (by omega), q_passB hi (show 8 + 4 * g < 200 by omega) F.1 ⟨vp_in_nI (by omega) (by omega), ?_⟩⟩
        rintro _ rfl
        have F := bW_s F (show 8 + 4 * g < 134 by omega) p3 (congrFun (f280 _ F) _).symm
        rw [show 8 + 4 * g + 1 = 9 + 4 * g by omega] at F ⊢
        generalize sUI (sUI I1 248 55 (nI (9 + 4 * g))) 256 g (I1 280 (200 * i + (8 + 4 * g))) = I1 at F ⊢
        refine ⟨vp_in_nI (by omega) (by omega), q_passB hi (show 9 + 4 * g < 200 by omega) F.1 ⟨vp_in_nI (by omega) (by omega), ?_⟩⟩
        rintro _ rfl
        have F := bW_s F (show 9 + 4 * g < 134 by omega) p4 (congrFun (f280 _ F) _).symm
        rw [show 9 + 4 * g + 1 = 6 + 4 * (g + 1) by omega] at F ⊢
        rintro _ rfl
        rw [nI_1]
        exact ih (g + 1) _ (by omega) (by omega) F
  unfold w_X12_passes
  rintro _ rfl
  have F : bW i 0 I (sUI I 248 55 0) := ⟨rfl, fun q hq => sUI_ne (by omega), fun k hk => by rw [pf_uis, if_neg (by omega)], fun j hj => by omega⟩
  generalize sUI I 248 55 0 = I1 at F ⊢
  refine q_passB hi (show 0 < 200 by omega) F.1 ?_
  rintro _ rfl
  have F := bW_s F (by omega) (show pC (0) = (248, 11) by decide) (congrFun (f280 _ F) _).symm
  generalize sUI (sUI I1 248 55 (nI (0 + 1))) 248 11 (I1 280 (200 * i + (0))) = I1 at F ⊢
  refine q_passB hi (show 0 + 1 < 200 by omega) F.1 ?_
  rintro _ rfl
  have F := bW_s F (by omega) (show pC (0 + 1) = (248, 12) by decide) (congrFun (f280 _ F) _).symm
  generalize sUI (sUI I1 248 55 (nI (0 + 1 + 1))) 248 12 (I1 280 (200 * i + (0 + 1))) = I1 at F ⊢
  refine q_passB hi (show 0 + 1 + 1 < 200 by omega) F.1 ?_
  rintro _ rfl
  have F := bW_s F (by omega) (show pC (0 + 1 + 1) = (248, 15) by decide) (congrFun (f280 _ F) _).symm
  generalize sUI (sUI I1 248 55 (nI (0 + 1 + 1 + 1))) 248 15 (I1 280 (200 * i + (0 + 1 + 1))) = I1 at F ⊢
  refine q_passB hi (show 0 + 1 + 1 + 1 < 200 by omega) F.1 ?_
  rintro _ rfl
  have F := bW_s F (by omega) (show pC (0 + 1 + 1 + 1) = (248, 21) by decide) (congrFun (f280 _ F) _).symm
  generalize sUI (sUI I1 248 55 (nI (0 + 1 + 1 + 1 + 1))) 248 21 (I1 280 (200 * i + (0 + 1 + 1 + 1))) = I1 at F ⊢
  refine q_passB hi (show 0 + 1 + 1 + 1 + 1 < 200 by omega) F.1 ?_
  rintro _ rfl
  have F := bW_s F (by omega) (show pC (0 + 1 + 1 + 1 + 1) = (248, 22) by decide) (congrFun (f280 _ F) _).symm
  generalize sUI (sUI I1 248 55 (nI (0 + 1 + 1 + 1 + 1 + 1))) 248 22 (I1 280 (200 * i + (0 + 1 + 1 + 1 + 1))) = I1 at F ⊢
  have main : ∀ r : Int32, w_X12_passing (nI i) r 1 I1 J (fun (r_86 : Int32) (I_86 : sI) (J_86 : sJ) => ((¬ r_86 = 1 → w_X12_passes_98 post (nI i) 1 0 I_86 J_86) ∧ (r_86 = 1 → w_X12_passes_98 post (nI i) 1 1 I_86 J_86))) := by
    intro r
    refine q_passB hi (show 0 + 1 + 1 + 1 + 1 + 1 < 200 by omega) F.1 ?_
    have F := bW_s F (by omega) (show pC (0 + 1 + 1 + 1 + 1 + 1) = (248, 23) by decide) hb
    rw [f280 I1 (by assumption), show I 280 (200 * i + (0 + 1 + 1 + 1 + 1 + 1)) = nI bk from hb]
    have go : w_X12_passes_98 post (nI i) 1 (nI bk) (sUI I1 248 55 (nI (0 + 1 + 1 + 1 + 1 + 1 + 1))) J := by
      unfold w_X12_passes_98
      refine ⟨by rcases (show bk = 0 ∨ bk = 1 by omega) with rfl | rfl; exact Or.inl rfl; exact Or.inr rfl, ?_⟩
      rintro _ rfl
      exact ⟨13, loop1 13 0 _ (by omega) (by omega) F⟩
    rcases (show bk = 0 ∨ bk = 1 by omega) with rfl | rfl
    · exact b3 (by decide) go
    · exact b4 rfl go
  exact q_flag (fun _ => main 0) (fun _ => main 1)
theorem ix3' {a : Int32} (h : ¬ a < 0) (h2 : a < 3) : Ix a 3 := ix_lt (by omega) h (Int32.not_le.mpr h2)
theorem mKept_of {T : sT} {i : Nat} {I I2 : sI} (hw : tWF T) (hi : i < 3) (hm : mTold T I) (F : fW i 134 I I2) : mKept T i I2 := by
  obtain ⟨G, P, s, κ, n, ob, oa, h, d, b, fi⟩ := T
  obtain ⟨w1, w2, w3, w4, w5, w6, w7⟩ := hw
  obtain ⟨m1, m2, m3, m4, m5, m6⟩ := hm
  obtain ⟨f1, f2, f3, f4, f5⟩ := F
  refine ⟨?_, ?_, ?_, ?_, ?_, ?_, fun g hg => ?_, fun k hk => ⟨?_, ?_⟩, fun f hf => ?_, fun p hp => ?_⟩
  · exact (f5 0 (by omega)).trans m1.1
  · exact (f5 1 (by omega)).trans m1.2.1
  · exact (f5 2 (by omega)).trans m2.1
  · exact (f5 3 (by omega)).trans m3
  · exact (f5 4 (by omega)).trans m4
  · exact (f5 5 (by omega)).trans m5
  · have := f5 (6 + 4 * g) (by have := w1.1; omega)
    rw [(pC_g g (by have := w1.1; omega)).1] at this
    rw [show 200 * i + 6 + 4 * g = 200 * i + (6 + 4 * g) by omega, this]
    exact m1.2.2.1 g hg
  · have := f5 (7 + 4 * k) (by have := w2.1; omega)
    rw [(pC_g k (by have := w2.1; omega)).2.1] at this
    rw [show 200 * i + 7 + 4 * k = 200 * i + (7 + 4 * k) by omega, this]
    exact (m2.2 k hk).1
  · have := f5 (8 + 4 * k) (by have := w2.1; omega)
    rw [(pC_g k (by have := w2.1; omega)).2.2.1] at this
    rw [show 200 * i + 8 + 4 * k = 200 * i + (8 + 4 * k) by omega, this]
    exact (m2.2 k hk).2
  · have := f5 (9 + 4 * f) (by omega)
    rw [(pC_g f hf).2.2.2] at this
    rw [show 200 * i + 9 + 4 * f = 200 * i + (9 + 4 * f) by omega, this]
    exact m6 f hf
  · have hp60 := w1.2.1
    have := f5 (54 + p) (by omega)
    rw [pC_p p (by omega)] at this
    rw [show 200 * i + 54 + p = 200 * i + (54 + p) by omega, this]
    exact m1.2.2.2 p hp
theorem mTold_of {T : sT} {i : Nat} {I I2 : sI} (hw : tWF T) (hm : mKept T i I) (F : bW i 134 I I2) : mTold T I2 := by
  obtain ⟨G, P, s, κ, n, ob, oa, h, d, b, fi⟩ := T
  obtain ⟨w1, w2, w3, w4, w5, w6, w7⟩ := hw
  obtain ⟨m1, m2, m3, m4, m5, m6, m7, m8, m9, m10⟩ := hm
  obtain ⟨f1, f2, f3, f5⟩ := F
  refine ⟨⟨(f5 0 (by omega)).trans m1, (f5 1 (by omega)).trans m2, fun g hg => ?_, fun p hp => ?_⟩, ⟨(f5 2 (by omega)).trans m3, fun k hk => ⟨?_, ?_⟩⟩, (f5 3 (by omega)).trans m4, (f5 4 (by omega)).trans m5, (f5 5 (by omega)).trans m6, fun f hf => ?_⟩
  · have := f5 (6 + 4 * g) (by have := w1.1; omega)
    rw [(pC_g g (by have := w1.1; omega)).1] at this
    dsimp only at this
    rw [this, show 200 * i + (6 + 4 * g) = 200 * i + 6 + 4 * g by omega]
    exact m7 g hg
  · have hp60 := w1.2.1
    have := f5 (54 + p) (by omega)
    rw [pC_p p (by omega)] at this
    dsimp only at this
    rw [this, show 200 * i + (54 + p) = 200 * i + 54 + p by omega]
    exact m10 p hp
  · have := f5 (7 + 4 * k) (by have := w2.1; omega)
    rw [(pC_g k (by have := w2.1; omega)).2.1] at this
    dsimp only at this
    rw [this, show 200 * i + (7 + 4 * k) = 200 * i + 7 + 4 * k by omega]
    exact (m8 k hk).1
  · have := f5 (8 + 4 * k) (by have := w2.1; omega)
    rw [(pC_g k (by have := w2.1; omega)).2.2.1] at this
    dsimp only at this
    rw [this, show 200 * i + (8 + 4 * k) = 200 * i + 8 + 4 * k by omega]
    exact (m8 k hk).2
  · have := f5 (9 + 4 * f) (by omega)
    rw [(pC_g f hf).2.2.2] at this
    dsimp only at this
    rw [this, show 200 * i + (9 + 4 * f) = 200 * i + 9 + 4 * f by omega]
    exact m9 f hf
theorem kept_in : ∀ i, i < 3 → 13 + 9 * i ∈ [3, 13, 22, 31] := by decide
theorem S_keep {I : sI} {J : sJ} (a : Int32) (hR : RR0 I J) : St (w_X11_keep a) (w_X12_keep a) I J := by
  obtain ⟨hT, hD, hK, hW, hC, hQ, hX⟩ := hR
  obtain ⟨T, hw, hc, hm⟩ := id hD
  have no : ¬ Ix a 3 → w_X12_keep a I J (fun r2 I2 J2 => (0 : Int32) = r2 ∧ RR0 I2 J2) := by
    intro z
    unfold w_X12_keep
    rintro _ rfl
    exact q_inx 3 (by omega) (hi := 2) rfl rfl (fun y => absurd y z) (fun _ => b4 rfl ⟨rfl, (RT_congr hT rfl rfl rfl rfl), (RD_congr hD (fun q h1 h2 => by repeat rw [sUI_ne (by omega)]) rfl rfl rfl rfl rfl rfl rfl rfl rfl rfl rfl), (RK_congr hK (fun q h1 h2 => by repeat rw [sUI_ne (by omega)]) rfl rfl), (RW_congr hW (fun q h1 h2 => by repeat rw [sUI_ne (by omega)]) rfl rfl rfl), (RC_congr hC (fun q h1 h2 => by repeat rw [sUI_ne (by omega)]) rfl rfl rfl), (RR_congr hQ rfl rfl rfl rfl), (RX_congr hX rfl rfl rfl rfl rfl)⟩)
  unfold St w_X11_keep
  refine ⟨fun e => no (fun z => ix_ge0 (by omega) z e), fun e => ⟨fun e2 => ?_, fun e2 => no (fun z => ?_)⟩⟩
  · obtain ⟨i, hi, rfl⟩ := ix3' e e2
    rw [pf_cl (by omega), sR12 i hi]
    refine ⟨vp_in_nI (by omega) (by omega), q_X8_take (kept_in i hi) (by decide) (by omega) hw hc (fun I1 fr g => ⟨vp_in_nI (by omega) (by omega), ?_⟩)⟩
    rintro _ rfl
    unfold w_X12_keep
    rintro _ rfl
    refine q_inx 3 (by omega) (hi := 2) rfl rfl (fun _ => b3 (by decide) ⟨vp_in_nI (by omega) (by omega), ?_⟩) (fun z => absurd ⟨i, hi, rfl⟩ z)
    rw [pf_cl (by omega)]
    rintro _ rfl
    have r2 : ∀ q, ¬ ((13 + 9 * i ≤ q ∧ q ≤ 13 + 9 * i + 8) ∨ q = 40 ∨ q = 248 ∨ q = 279) → (sUI (sUI (sUI I1 40 i 1) 248 0 0) 279 i 1) q = I q := fun q hq => by rw [sUI_ne (by omega), sUI_ne (by omega), sUI_ne (by omega), fr q (by omega)]
    have s2 : ∀ k, ¬ k = 0 → (sUI (sUI (sUI I1 40 i 1) 248 0 0) 279 i 1) 248 k = I 248 k := fun k hk => by rw [pf_ui, if_neg (by omega), pf_uis, if_neg hk, pf_ui, if_neg (by omega), fr 248 (by omega)]
    have hm2 : mTold T (sUI (sUI (sUI I1 40 i 1) 248 0 0) 279 i 1) := mTold_congr hm (r2 253 (by omega)) (r2 254 (by omega)) (r2 255 (by omega)) (r2 256 (by omega)) (r2 276 (by omega)) (s2 11 (by omega)) (s2 12 (by omega)) (s2 15 (by omega)) (s2 21 (by omega)) (s2 22 (by omega)) (s2 23 (by omega))
    have t40 : ∀ j, (sUI (sUI (sUI I1 40 i 1) 248 0 0) 279 i 1) 40 j = if j = i then 1 else I 40 j := fun j => by rw [pf_ui, if_neg (by omega), pf_ui, if_neg (by omega), pf_uis, fr 40 (by omega)]
    have t279 : ∀ j, (sUI (sUI (sUI I1 40 i 1) 248 0 0) 279 i 1) 279 j = if j = i then 1 else I 279 j := fun j => by rw [pf_uis, sUI_ne (q := 279) (by omega), sUI_ne (q := 279) (by omega), fr 279 (by omega)]
    have tc : ∀ q, 13 + 9 * i ≤ q → q ≤ 13 + 9 * i + 8 → (sUI (sUI (sUI I1 40 i 1) 248 0 0) 279 i 1) q = I1 q := fun q h1 h2 => by rw [sUI_ne (by omega), sUI_ne (by omega), sUI_ne (by omega)]
    generalize sUI (sUI (sUI I1 40 i 1) 248 0 0) 279 i 1 = I2 at r2 s2 hm2 t40 t279 tc ⊢
    have hbk : ∃ bk, bk ≤ 1 ∧ I2 248 23 = nI bk := by
      obtain ⟨G, P, s, κ, n, ob, oa, h, d, b, fi⟩ := T
      exact ⟨b, hw.2.2.2.2.2.1, hm2.2.2.2.2.1⟩
    obtain ⟨bk, hb1, hb2⟩ := hbk
    refine q_passesF hi hb2 hb1 (fun I3 F => ⟨rfl, ?_⟩)
    have r1 : ∀ q, ¬ ((13 + 9 * i ≤ q ∧ q ≤ 13 + 9 * i + 8) ∨ q = 40 ∨ q = 248 ∨ q = 279 ∨ q = 280) → I3 q = I q := fun q hq => by rw [F.2.1 q (by omega), r2 q (by omega)]
    have s1 : ∀ k, ¬ (k = 0 ∨ k = 55) → I3 248 k = I 248 k := fun k hk => by rw [F.2.2.1 k (by omega), s2 k (by omega)]
    refine ⟨(RT_congr hT (by rw [r1 1 (by omega)]) (r1 2 (by omega)) (s1 4 (by omega)) (r1 250 (by omega))), (RD_congr hD (fun q h1 h2 => r1 q (by omega)) (r1 253 (by omega)) (r1 254 (by omega)) (r1 255 (by omega)) (r1 256 (by omega)) (r1 276 (by omega)) (s1 11 (by omega)) (s1 12 (by omega)) (s1 15 (by omega)) (s1 21 (by omega)) (s1 22 (by omega)) (s1 23 (by omega))), ?_, (RW_congr hW (fun q h1 h2 => r1 q (by omega)) (r1 257 (by omega)) (r1 258 (by omega)) (r1 259 (by omega))), (RC_congr hC (fun q h1 h2 => r1 q (by omega)) (by rw [r1 227 (by omega)]) (s1 46 (by omega)) (r1 275 (by omega))), (RR_congr hQ (by rw [r1 134 (by omega)]) (s1 1 (by omega)) rfl rfl), (RX_congr hX (by rw [r1 0 (by omega)]) (s1 37 (by omega)) (by rw [r1 0 (by omega)]) (s1 33 (by omega)) (by rw [r1 141 (by omega)]))⟩
    intro j hj
    rw [F.2.1 40 (by omega), F.2.1 279 (by omega), t40, t279]
    by_cases e3 : j = i
    · subst e3
      rw [if_pos rfl, if_pos rfl]
      exact Or.inr ⟨rfl, rfl, T, hw, cTold_congr g (fun q h1 h2 => by rw [F.2.1 q (by omega), tc q h1 h2]), mKept_of hw hj hm2 F⟩
    · rw [if_neg e3, if_neg e3]
      rcases hK j hj with x | ⟨x, y, T2, z1, z2, z3⟩
      · exact Or.inl x
      · refine Or.inr ⟨x, y, T2, z1, cTold_congr z2 (fun q h1 h2 => r1 q (by omega)), ?_⟩
        have rr : ∀ k, 200 * j ≤ k → k < 200 * j + 200 → I3 280 k = I 280 k := fun k h1 h2 => by rw [F.2.2.2.1 k (by omega), r2 280 (by omega)]
        obtain ⟨G, P, s, κ, n, ob, oa, h, d, b, fi⟩ := T2
        obtain ⟨w1, w2, -⟩ := z1
        have g12 := w1.1
        have p60 := w1.2.1
        have n12 := w2.1
        obtain ⟨k1, k2, k3, k4, k5, k6, k7, k8, k9, k10⟩ := z3
        exact ⟨by rw [rr _ (by omega) (by omega)]; exact k1, by rw [rr _ (by omega) (by omega)]; exact k2, by rw [rr _ (by omega) (by omega)]; exact k3, by rw [rr _ (by omega) (by omega)]; exact k4, by rw [rr _ (by omega) (by omega)]; exact k5, by rw [rr _ (by omega) (by omega)]; exact k6, fun g hg => by rw [rr _ (by omega) (by omega)]; exact k7 g hg, fun k hk => ⟨by rw [rr _ (by omega) (by omega)]; exact (k8 k hk).1, by rw [rr _ (by omega) (by omega)]; exact (k8 k hk).2⟩, fun f hf => by rw [rr _ (by omega) (by omega)]; exact k9 f hf, fun p hp => by rw [rr _ (by omega) (by omega)]; exact k10 p hp⟩
  · obtain ⟨c, hc2, rfl⟩ := z
    exact e2 (by rw [show (3 : Int32) = nI 3 from rfl, pf_lt (by omega) (by omega)]; exact hc2)
theorem S_again {I : sI} {J : sJ} (a : Int32) (hR : RR0 I J) : St (w_X11_again a) (w_X12_again a) I J := by
  obtain ⟨hT, hD, hK, hW, hC, hQ, hX⟩ := hR
  have fin : RR0 (sUI I 248 0 0) J := ⟨(RT_congr hT rfl rfl rfl rfl), (RD_congr hD (fun q h1 h2 => by repeat rw [sUI_ne (by omega)]) rfl rfl rfl rfl rfl rfl rfl rfl rfl rfl rfl), (RK_congr hK (fun q h1 h2 => by repeat rw [sUI_ne (by omega)]) rfl rfl), (RW_congr hW (fun q h1 h2 => by repeat rw [sUI_ne (by omega)]) rfl rfl rfl), (RC_congr hC (fun q h1 h2 => by repeat rw [sUI_ne (by omega)]) rfl rfl rfl), (RR_congr hQ rfl rfl rfl rfl), (RX_congr hX rfl rfl rfl rfl rfl)⟩
  have no : (∀ i, i < 3 → a = nI i → I 279 i = 0) → w_X12_again a I J (fun r2 I2 J2 => (0 : Int32) = r2 ∧ RR0 I2 J2) := by
    intro z
    unfold w_X12_again
    rintro _ rfl
    refine q_inx 3 (by omega) (hi := 2) rfl rfl (fun y => b2 (by decide) ?_) (fun _ => b1 rfl ⟨rfl, fin⟩)
    obtain ⟨i, hi, rfl⟩ := y
    rw [pf_cl (by omega)]
    exact ⟨vp_in_nI (by omega) (by omega), b4 (z i hi rfl) ⟨rfl, fin⟩⟩
  unfold St w_X11_again
  refine ⟨fun e => no (fun i hi h => absurd e (by rw [h]; exact pf_lt0 (by omega))), fun e => ⟨fun e2 => no (fun i hi h => ?_), fun e2 => ?_⟩⟩
  · rw [h, show (3 : Int32) = nI 3 from rfl, pf_le (by omega) (by omega)] at e2
    omega
  · obtain ⟨i, hi, rfl⟩ := ix_lt (N := 3) (by omega) e e2
    have un : ∀ j, j < 3 → nI i = nI j → i = j := fun j hj e => (pf_eq (by omega) (by omega)).mp e
    rw [pf_cl (by omega), sR12 i hi]
    refine ⟨vp_in_nI (by omega) (by omega), ?_⟩
    rcases hK i hi with ⟨x, y⟩ | ⟨x, y, T, hw, hc, hm⟩
    · exact b4 x (no (fun j hj h => by rw [← un j hj h]; exact y))
    · refine b3 (by rw [x]; decide) ⟨vp_in_nI (by omega) (by omega), q_X8_take (by decide) (kept_in i hi) (by omega) hw hc (fun I1 fr g => ?_)⟩
      unfold w_X12_again
      rintro _ rfl
      refine q_inx 3 (by omega) (hi := 2) rfl rfl (fun _ => b2 (by decide) ?_) (fun z => absurd ⟨i, hi, rfl⟩ z)
      rw [pf_cl (by omega)]
      refine ⟨vp_in_nI (by omega) (by omega), b3 ?_ ?_⟩
      · rw [pf_ui, if_neg (by omega), fr 279 (by omega), y]; decide
      · have r280 : (sUI I1 248 0 0) 280 = I 280 := by rw [sUI_ne (by omega), fr 280 (by omega)]
        have hm2 : mKept T i (sUI I1 248 0 0) := by
          obtain ⟨G, P, s, κ, n, ob, oa, h, d, b, fi⟩ := T
          unfold mKept at hm ⊢
          rw [r280]
          exact hm
        have hbk : ∃ bk, bk ≤ 1 ∧ (sUI I1 248 0 0) 280 (200 * i + 5) = nI bk := by
          obtain ⟨G, P, s, κ, n, ob, oa, h, d, b, fi⟩ := T
          exact ⟨b, hw.2.2.2.2.2.1, hm2.2.2.2.2.2.1⟩
        obtain ⟨bk, hb1, hb2⟩ := hbk
        refine q_passesB hi hb2 hb1 (fun I3 F => ⟨rfl, ?_⟩)
        have r1 : ∀ q, ¬ ((3 ≤ q ∧ q ≤ 11) ∨ q = 248 ∨ q = 253 ∨ q = 254 ∨ q = 255 ∨ q = 256 ∨ q = 276) → I3 q = I q := fun q hq => by rw [F.2.1 q (by omega), sUI_ne (by omega), fr q (by omega)]
        have s1 : ∀ k, ¬ (k = 0 ∨ k = 11 ∨ k = 12 ∨ k = 15 ∨ k = 21 ∨ k = 22 ∨ k = 23 ∨ k = 55) → I3 248 k = I 248 k := fun k hk => by rw [F.2.2.1 k (by omega), pf_uis, if_neg (by omega), fr 248 (by omega)]
        refine ⟨(RT_congr hT (by rw [r1 1 (by omega)]) (r1 2 (by omega)) (s1 4 (by omega)) (r1 250 (by omega))), ⟨T, hw, cTold_congr g (fun q h1 h2 => by rw [F.2.1 q (by omega), sUI_ne (by omega)]), mTold_of hw hm2 F⟩, (RK_congr hK (fun q h1 h2 => r1 q (by omega)) (r1 279 (by omega)) (r1 280 (by omega))), (RW_congr hW (fun q h1 h2 => r1 q (by omega)) (r1 257 (by omega)) (r1 258 (by omega)) (r1 259 (by omega))), (RC_congr hC (fun q h1 h2 => r1 q (by omega)) (by rw [r1 227 (by omega)]) (s1 46 (by omega)) (r1 275 (by omega))), (RR_congr hQ (by rw [r1 134 (by omega)]) (s1 1 (by omega)) rfl rfl), (RX_congr hX (by rw [r1 0 (by omega)]) (s1 37 (by omega)) (by rw [r1 0 (by omega)]) (s1 33 (by omega)) (by rw [r1 141 (by omega)]))⟩
