theorem S_count {I : sI} {J : sJ} (a : Int32) (hR : RR0 I J) : St (w_X11_count a) (w_X12_count a) I J := by
  obtain ⟨hT, hD, hK, hW, hC, hQ, hX⟩ := hR
  have fin : RR0 (sUI I 248 0 0) J := ⟨(RT_congr hT rfl rfl rfl rfl), (RD_congr hD (fun q h1 h2 => by repeat rw [sUI_ne (by omega)]) rfl rfl rfl rfl rfl rfl rfl rfl rfl rfl rfl), (RK_congr hK (fun q h1 h2 => by repeat rw [sUI_ne (by omega)]) rfl rfl), (RW_congr hW (fun q h1 h2 => by repeat rw [sUI_ne (by omega)]) rfl rfl rfl), (RC_congr hC (fun q h1 h2 => by repeat rw [sUI_ne (by omega)]) rfl rfl rfl), (RR_congr hQ rfl rfl rfl rfl), (RX_congr hX rfl rfl rfl rfl rfl)⟩
  obtain ⟨⟨G, P, s, κ, n, ob, oa, h, d, bk, fi⟩, hw, hc0, hm0⟩ := id hD
  have hG : I 4 3 = I 248 11 := hc0.1.1.trans hm0.1.1.symm
  have hP : I 4 4 = I 248 12 := hc0.1.2.1.trans hm0.1.2.1.symm
  have hh : I 3 3 = I 248 21 := hc0.2.2.1.trans hm0.2.2.1.symm
  have hd : I 3 4 = I 248 22 := hc0.2.2.2.1.trans hm0.2.2.2.1.symm
  have hb : I 3 5 = I 248 23 := hc0.2.2.2.2.1.trans hm0.2.2.2.2.1.symm
  have ho : I 8 2 = I 248 15 := hc0.2.1.1.trans hm0.2.1.1.symm
  have hc : I 227 1 = I 248 46 := by obtain ⟨C, v, -, x, y⟩ := id hC; exact x.1.trans y.1.symm
  have hq : I 134 1 = I 248 1 := by obtain ⟨k, -, x, y, -⟩ := id hQ; exact x.trans y.symm
  have ht : I 1 1 = I 248 4 := by obtain ⟨n, b, -, -, x, y⟩ := id hT; exact x.1.trans y.1.symm
  have hwd : ∀ t, t < 4 → I (42 + 23 * t) 2 = I 257 t := fun t ht => by obtain ⟨nw, wl, wt, -, x, y⟩ := id hW; exact (x t ht).1.trans (y t ht).1.symm
  unfold St w_X11_count
  refine ⟨?_, ?_, ?_, ?_, ?_, ?_, ?_, ?_, ?_, ?_, ?_, ?_, ?_, ?_, ?_⟩
  · intro e
    subst e
    unfold w_X12_count
    rintro _ rfl
    refine q_in (lo := 2) (hi := 5) rfl rfl (fun z => absurd z (by decide)) (fun _ => b1 rfl ?_)
    exact ⟨fun _ => ⟨hG, fin⟩, fun z => absurd z (by decide), fun z => absurd z (by decide), fun z => absurd z (by decide), fun z => absurd z (by decide), fun z => absurd z (by decide), fun z => absurd z (by decide), fun z => absurd z (by decide), fun z => absurd z (by decide), fun z => absurd z (by decide), fun z => absurd z (by decide), fun z => absurd z (by decide), fun z => absurd z (by decide), fun z => absurd z (by decide), fun z => absurd rfl z.1⟩
  · intro e
    subst e
    unfold w_X12_count
    rintro _ rfl
    refine q_in (lo := 2) (hi := 5) rfl rfl (fun z => absurd z (by decide)) (fun _ => b1 rfl ?_)
    exact ⟨fun z => absurd z (by decide), fun _ => ⟨hP, fin⟩, fun z => absurd z (by decide), fun z => absurd z (by decide), fun z => absurd z (by decide), fun z => absurd z (by decide), fun z => absurd z (by decide), fun z => absurd z (by decide), fun z => absurd z (by decide), fun z => absurd z (by decide), fun z => absurd z (by decide), fun z => absurd z (by decide), fun z => absurd z (by decide), fun z => absurd z (by decide), fun z => absurd rfl z.2.1⟩
  · intro e
    subst e
    rw [show (Int32.toNatClampNeg (2 - 2)) = 0 by decide, sR41 0 (by omega)]
    refine ⟨vp_in_nI (n := 0) (by omega) (by omega), ?_⟩
    unfold w_X12_count
    rintro _ rfl
    refine q_in (lo := 2) (hi := 5) rfl rfl (fun _ => b2 (by decide) ?_) (fun z => absurd (by decide) z)
    refine ⟨vp_in_nI (n := 0) (by omega) (by omega), ?_, fin⟩
    rw [show (Int32.toNatClampNeg (2 - 2)) = 0 by decide]
    exact hwd 0 (by omega)
  · intro e
    subst e
    rw [show (Int32.toNatClampNeg (3 - 2)) = 1 by decide, sR41 1 (by omega)]
    refine ⟨vp_in_nI (n := 1) (by omega) (by omega), ?_⟩
    unfold w_X12_count
    rintro _ rfl
    refine q_in (lo := 2) (hi := 5) rfl rfl (fun _ => b2 (by decide) ?_) (fun z => absurd (by decide) z)
    refine ⟨vp_in_nI (n := 1) (by omega) (by omega), ?_, fin⟩
    rw [show (Int32.toNatClampNeg (3 - 2)) = 1 by decide]
    exact hwd 1 (by omega)
  · intro e
    subst e
    rw [show (Int32.toNatClampNeg (4 - 2)) = 2 by decide, sR41 2 (by omega)]
    refine ⟨vp_in_nI (n := 2) (by omega) (by omega), ?_⟩
    unfold w_X12_count
    rintro _ rfl
    refine q_in (lo := 2) (hi := 5) rfl rfl (fun _ => b2 (by decide) ?_) (fun z => absurd (by decide) z)
    refine ⟨vp_in_nI (n := 2) (by omega) (by omega), ?_, fin⟩
    rw [show (Int32.toNatClampNeg (4 - 2)) = 2 by decide]
    exact hwd 2 (by omega)
  · intro e
    subst e
    rw [show (Int32.toNatClampNeg (5 - 2)) = 3 by decide, sR41 3 (by omega)]
    refine ⟨vp_in_nI (n := 3) (by omega) (by omega), ?_⟩
    unfold w_X12_count
    rintro _ rfl
    refine q_in (lo := 2) (hi := 5) rfl rfl (fun _ => b2 (by decide) ?_) (fun z => absurd (by decide) z)
    refine ⟨vp_in_nI (n := 3) (by omega) (by omega), ?_, fin⟩
    rw [show (Int32.toNatClampNeg (5 - 2)) = 3 by decide]
    exact hwd 3 (by omega)
  · intro e
    subst e
    unfold w_X12_count
    rintro _ rfl
    refine q_in (lo := 2) (hi := 5) rfl rfl (fun z => absurd z (by decide)) (fun _ => b1 rfl ?_)
    exact ⟨fun z => absurd z (by decide), fun z => absurd z (by decide), fun z => absurd z (by decide), fun z => absurd z (by decide), fun z => absurd z (by decide), fun z => absurd z (by decide), fun _ => ⟨hh, fin⟩, fun z => absurd z (by decide), fun z => absurd z (by decide), fun z => absurd z (by decide), fun z => absurd z (by decide), fun z => absurd z (by decide), fun z => absurd z (by decide), fun z => absurd z (by decide), fun z => absurd rfl z.2.2.2.2.2.2.1⟩
  · intro e
    subst e
    unfold w_X12_count
    rintro _ rfl
    refine q_in (lo := 2) (hi := 5) rfl rfl (fun z => absurd z (by decide)) (fun _ => b1 rfl ?_)
    exact ⟨fun z => absurd z (by decide), fun z => absurd z (by decide), fun z => absurd z (by decide), fun z => absurd z (by decide), fun z => absurd z (by decide), fun z => absurd z (by decide), fun z => absurd z (by decide), fun _ => ⟨hd, fin⟩, fun z => absurd z (by decide), fun z => absurd z (by decide), fun z => absurd z (by decide), fun z => absurd z (by decide), fun z => absurd z (by decide), fun z => absurd z (by decide), fun z => absurd rfl z.2.2.2.2.2.2.2.1⟩
  · intro e
    subst e
    have main : ∀ r : Int32, (I 248 23 = 0 → r = 0) → (¬ I 248 23 = 0 → r = 1) → w_X12_count 8 I J (fun r2 I2 J2 => r = r2 ∧ RR0 I2 J2) := by
      intro r h0 h1
      unfold w_X12_count
      rintro _ rfl
      refine q_in (lo := 2) (hi := 5) rfl rfl (fun z => absurd z (by decide)) (fun _ => b1 rfl ?_)
      exact ⟨fun z => absurd z (by decide), fun z => absurd z (by decide), fun z => absurd z (by decide), fun z => absurd z (by decide), fun z => absurd z (by decide), fun z => absurd z (by decide), fun z => absurd z (by decide), fun z => absurd z (by decide), fun _ => q_flag (fun z => ⟨h0 z, fin⟩) (fun z => ⟨h1 z, fin⟩), fun z => absurd z (by decide), fun z => absurd z (by decide), fun z => absurd z (by decide), fun z => absurd z (by decide), fun z => absurd z (by decide), fun z => absurd rfl z.2.2.2.2.2.2.2.2.1⟩
    rw [hb]
    exact ⟨fun e => main 0 (fun _ => rfl) (fun z => absurd e z), fun e => main 1 (fun z => absurd z e) (fun _ => rfl)⟩
  · intro e
    subst e
    unfold w_X12_count
    rintro _ rfl
    refine q_in (lo := 2) (hi := 5) rfl rfl (fun z => absurd z (by decide)) (fun _ => b1 rfl ?_)
    exact ⟨fun z => absurd z (by decide), fun z => absurd z (by decide), fun z => absurd z (by decide), fun z => absurd z (by decide), fun z => absurd z (by decide), fun z => absurd z (by decide), fun z => absurd z (by decide), fun z => absurd z (by decide), fun z => absurd z (by decide), fun _ => ⟨ho, fin⟩, fun z => absurd z (by decide), fun z => absurd z (by decide), fun z => absurd z (by decide), fun z => absurd z (by decide), fun z => absurd rfl z.2.2.2.2.2.2.2.2.2.1⟩
  · intro e
    subst e
    unfold w_X12_count
    rintro _ rfl
    refine q_in (lo := 2) (hi := 5) rfl rfl (fun z => absurd z (by decide)) (fun _ => b1 rfl ?_)
    exact ⟨fun z => absurd z (by decide), fun z => absurd z (by decide), fun z => absurd z (by decide), fun z => absurd z (by decide), fun z => absurd z (by decide), fun z => absurd z (by decide), fun z => absurd z (by decide), fun z => absurd z (by decide), fun z => absurd z (by decide), fun z => absurd z (by decide), fun _ => ⟨hc, fin⟩, fun z => absurd z (by decide), fun z => absurd z (by decide), fun z => absurd z (by decide), fun z => absurd rfl z.2.2.2.2.2.2.2.2.2.2.1⟩
  · intro e
    subst e
    unfold w_X12_count
    rintro _ rfl
    refine q_in (lo := 2) (hi := 5) rfl rfl (fun z => absurd z (by decide)) (fun _ => b1 rfl ?_)
    exact ⟨fun z => absurd z (by decide), fun z => absurd z (by decide), fun z => absurd z (by decide), fun z => absurd z (by decide), fun z => absurd z (by decide), fun z => absurd z (by decide), fun z => absurd z (by decide), fun z => absurd z (by decide), fun z => absurd z (by decide), fun z => absurd z (by decide), fun z => absurd z (by decide), fun _ => ⟨hq, fin⟩, fun z => absurd z (by decide), fun z => absurd z (by decide), fun z => absurd rfl z.2.2.2.2.2.2.2.2.2.2.2.1⟩
  · intro e
    subst e
    unfold w_X12_count
    rintro _ rfl
    refine q_in (lo := 2) (hi := 5) rfl rfl (fun z => absurd z (by decide)) (fun _ => b1 rfl ?_)
    exact ⟨fun z => absurd z (by decide), fun z => absurd z (by decide), fun z => absurd z (by decide), fun z => absurd z (by decide), fun z => absurd z (by decide), fun z => absurd z (by decide), fun z => absurd z (by decide), fun z => absurd z (by decide), fun z => absurd z (by decide), fun z => absurd z (by decide), fun z => absurd z (by decide), fun z => absurd z (by decide), fun _ => ⟨ht, fin⟩, fun z => absurd z (by decide), fun z => absurd rfl z.2.2.2.2.2.2.2.2.2.2.2.2.1⟩
  · intro e
    subst e
    unfold w_X12_count
    rintro _ rfl
    refine q_in (lo := 2) (hi := 5) rfl rfl (fun z => absurd z (by decide)) (fun _ => b1 rfl ?_)
    exact ⟨fun z => absurd z (by decide), fun z => absurd z (by decide), fun z => absurd z (by decide), fun z => absurd z (by decide), fun z => absurd z (by decide), fun z => absurd z (by decide), fun z => absurd z (by decide), fun z => absurd z (by decide), fun z => absurd z (by decide), fun z => absurd z (by decide), fun z => absurd z (by decide), fun z => absurd z (by decide), fun z => absurd z (by decide), fun _ => ⟨hX.2.1, fin⟩, fun z => absurd rfl z.2.2.2.2.2.2.2.2.2.2.2.2.2⟩
  · intro z
    unfold w_X12_count
    rintro _ rfl
    refine q_in (lo := 2) (hi := 5) rfl rfl (fun y => ?_) (fun _ => b1 rfl ?_)
    · exfalso
      rw [pf_leInt, pf_leInt] at y
      have e2 : (2 : Int32).toInt = 2 := by decide
      have e5 : (5 : Int32).toInt = 5 := by decide
      rcases (show a.toInt = 2 ∨ a.toInt = 3 ∨ a.toInt = 4 ∨ a.toInt = 5 by omega) with x | x | x | x
      · exact z.2.2.1 (Int32.toInt_inj.mp x)
      · exact z.2.2.2.1 (Int32.toInt_inj.mp x)
      · exact z.2.2.2.2.1 (Int32.toInt_inj.mp x)
      · exact z.2.2.2.2.2.1 (Int32.toInt_inj.mp x)
    · exact ⟨fun y => absurd y z.1, fun y => absurd y z.2.1, fun y => absurd y z.2.2.1, fun y => absurd y z.2.2.2.1, fun y => absurd y z.2.2.2.2.1, fun y => absurd y z.2.2.2.2.2.1, fun y => absurd y z.2.2.2.2.2.2.1, fun y => absurd y z.2.2.2.2.2.2.2.1, fun y => absurd y z.2.2.2.2.2.2.2.2.1, fun y => absurd y z.2.2.2.2.2.2.2.2.2.1, fun y => absurd y z.2.2.2.2.2.2.2.2.2.2.1, fun y => absurd y z.2.2.2.2.2.2.2.2.2.2.2.1, fun y => absurd y z.2.2.2.2.2.2.2.2.2.2.2.2.1, fun y => absurd y z.2.2.2.2.2.2.2.2.2.2.2.2.2, fun _ => ⟨rfl, fin⟩⟩
