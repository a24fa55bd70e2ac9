/-! at and row: class against model; out[0] lies at place 281 -/
theorem le_p {a : Int32} {n : Nat} (hn : n < 2147483648) (h0 : ¬ a < 0) : (nI n ≤ a → ¬ (0 ≤ a ∧ a ≤ nI n - 1)) ∧ (¬ nI n ≤ a → 0 ≤ a ∧ a ≤ nI n - 1 ∧ ∃ k, k < n ∧ a = nI k) := by
  have z0 : (0 : Int32).toInt = 0 := by decide
  have p0 : (0 : Int32) ≤ a := by
    rw [pf_leInt, z0]; rw [pf_ltInt, z0] at h0; omega
  have pa : 0 ≤ a.toInt := by rw [pf_leInt, z0] at p0; exact p0
  have ea : a = nI a.toInt.toNat := by
    have := a.toInt_lt
    apply Int32.toInt_inj.mp
    rw [pf_toInt (by omega)]; omega
  constructor
  · rintro h ⟨-, h2⟩
    by_cases n0 : n = 0
    · subst n0
      rw [show nI 0 - 1 = (-1 : Int32) by decide, pf_leInt, pf_neg1_toInt] at h2
      omega
    · rw [nI_p (by omega), ea] at h2
      rw [ea] at h
      have := a.toInt_lt
      rw [pf_le (by omega) (by omega)] at h h2
      omega
  · intro h
    have lt := a.toInt_lt
    rw [ea, pf_le (by omega) (by omega)] at h
    have n1 : 1 ≤ n := by omega
    refine ⟨p0, ?_, a.toInt.toNat, by omega, ea⟩
    rw [nI_p n1, ea, pf_le (by omega) (by omega)]
    omega
theorem T_at {I : sI} {J : sJ} (a1 : Int32) (hR : RR0 I J) : w_X11_at a1 I J (fun r I1 J1 => w_X12_at a1 I1 (sUJ J1 281 0 r.toInt64) (fun b I2 J2 => I2 248 0 = 0 ∧ ((0 : Int32) = 0 → J2 281 0 = b.toInt64) ∧ RR0 I2 J2)) (fun I1 J1 => w_X12_at a1 I1 J1 (fun b I2 J2 => I2 248 0 = 1 ∧ ((1 : Int32) = 0 → J2 281 0 = b.toInt64) ∧ RR0 I2 J2)) := by
  obtain ⟨hT, hD, hK, hW, hC, hQ, hX⟩ := hR
  obtain ⟨⟨G, P, s, κ, n, ob, oa, h, d, bk, fi⟩, hw, hc, hm⟩ := id hD
  have hP := hw.1.2.1
  have e4 : I 4 4 = nI P := hc.1.2.1
  have e12 : I 248 12 = nI P := hm.1.2.1
  have fin : ∀ (v : Int32) (J2 : sJ), (∀ p, ¬ p = 281 → J2 p = J p) → RR0 (sUI (sUI I 248 0 0) 248 0 v) J2 := fun v J2 hj => ⟨(RT_congr hT rfl rfl rfl rfl), (RD_congr hD (fun q h1 h2 => by repeat rw [sUI_ne (by omega)]) rfl rfl rfl rfl rfl rfl rfl rfl rfl rfl rfl), (RK_congr hK (fun q h1 h2 => by repeat rw [sUI_ne (by omega)]) rfl rfl), (RW_congr hW (fun q h1 h2 => by repeat rw [sUI_ne (by omega)]) rfl rfl rfl), (RC_congr hC (fun q h1 h2 => by repeat rw [sUI_ne (by omega)]) rfl rfl rfl), RR_congr hQ rfl rfl (hj 135 (by omega)) (hj 249 (by omega)), (RX_congr hX rfl rfl rfl rfl rfl)⟩
  have fin0 : ∀ (J2 : sJ), (∀ p, ¬ p = 281 → J2 p = J p) → RR0 (sUI I 248 0 0) J2 := fun J2 hj => ⟨(RT_congr hT rfl rfl rfl rfl), (RD_congr hD (fun q h1 h2 => by repeat rw [sUI_ne (by omega)]) rfl rfl rfl rfl rfl rfl rfl rfl rfl rfl rfl), (RK_congr hK (fun q h1 h2 => by repeat rw [sUI_ne (by omega)]) rfl rfl), (RW_congr hW (fun q h1 h2 => by repeat rw [sUI_ne (by omega)]) rfl rfl rfl), (RC_congr hC (fun q h1 h2 => by repeat rw [sUI_ne (by omega)]) rfl rfl rfl), RR_congr hQ rfl rfl (hj 135 (by omega)) (hj 249 (by omega)), (RX_congr hX rfl rfl rfl rfl rfl)⟩
  have no : ¬ (0 ≤ a1 ∧ a1 ≤ nI P - 1) → w_X12_at a1 I J (fun b I2 J2 => I2 248 0 = 1 ∧ ((1 : Int32) = 0 → J2 281 0 = b.toInt64) ∧ RR0 I2 J2) := fun z => by
    unfold w_X12_at
    rintro _ rfl
    rw [show (sUI I 248 0 0) 248 12 = nI P from e12]
    refine q_in (lo := 0) (hi := nI P - 1) (by decide) rfl (fun q => absurd q z) (fun _ => b1 rfl ?_)
    unfold w_X12_refuse
    rintro _ rfl
    exact ⟨rfl, fun z => absurd z (by decide), fin 1 J (fun _ _ => rfl)⟩
  unfold w_X11_at w_X11_isPlace
  refine ⟨fun z => b4 rfl (no (fun q => ?_)), fun z => ?_⟩
  · have z0 : (0 : Int32).toInt = 0 := by decide
    have := q.1
    rw [pf_leInt, z0] at this
    rw [pf_ltInt, z0] at z
    omega
  · rw [e4]
    obtain ⟨l1, l2⟩ := le_p (n := P) (by omega) z
    refine ⟨fun y => b4 rfl (no (l1 y)), fun y => b3 (by decide) ?_⟩
    obtain ⟨g1, g2, k, hk, rfl⟩ := l2 y
    rw [pf_cl (by omega)]
    refine ⟨vp_in_nI (by omega) (by omega), ?_⟩
    rw [show I 5 k = nI (κ k) from hc.1.2.2.2.1 k hk]
    unfold w_X12_at
    rintro _ rfl
    rw [show (sUI I 248 0 0) 248 12 = nI P from e12]
    refine q_in (lo := 0) (hi := nI P - 1) (by decide) rfl (fun _ => b2 (by decide) ?_) (fun q => absurd ⟨g1, g2⟩ q)
    rw [pf_cl (by omega)]
    refine ⟨vp_in_nI (by omega) (by omega), rfl, fun _ => by rw [pf_ujs, if_pos rfl, show (sUI I 248 0 0) 254 k = nI (κ k) from hm.1.2.2.2 k hk], fin0 _ (fun p hp => by funext x; rw [pf_uj, if_neg (by omega)])⟩
theorem T_row {I : sI} {J : sJ} (a1 : Int32) (hR : RR0 I J) : w_X11_row a1 I J (fun r I1 J1 => w_X12_row a1 I1 (sUJ J1 281 0 r) (fun b I2 J2 => I2 248 0 = 0 ∧ ((0 : Int32) = 0 → J2 281 0 = b) ∧ RR0 I2 J2)) (fun I1 J1 => w_X12_row a1 I1 J1 (fun b I2 J2 => I2 248 0 = 1 ∧ ((1 : Int32) = 0 → J2 281 0 = b) ∧ RR0 I2 J2)) := by
  obtain ⟨hT, hD, hK, hW, hC, hQ, hX⟩ := hR
  obtain ⟨n, hn, e1, e2, e3⟩ := id hQ
  have fin : ∀ (v : Int32) (J2 : sJ), (∀ p, ¬ p = 281 → J2 p = J p) → RR0 (sUI (sUI I 248 0 0) 248 0 v) J2 := fun v J2 hj => ⟨(RT_congr hT rfl rfl rfl rfl), (RD_congr hD (fun q h1 h2 => by repeat rw [sUI_ne (by omega)]) rfl rfl rfl rfl rfl rfl rfl rfl rfl rfl rfl), (RK_congr hK (fun q h1 h2 => by repeat rw [sUI_ne (by omega)]) rfl rfl), (RW_congr hW (fun q h1 h2 => by repeat rw [sUI_ne (by omega)]) rfl rfl rfl), (RC_congr hC (fun q h1 h2 => by repeat rw [sUI_ne (by omega)]) rfl rfl rfl), RR_congr hQ rfl rfl (hj 135 (by omega)) (hj 249 (by omega)), (RX_congr hX rfl rfl rfl rfl rfl)⟩
  have fin0 : ∀ (J2 : sJ), (∀ p, ¬ p = 281 → J2 p = J p) → RR0 (sUI I 248 0 0) J2 := fun J2 hj => ⟨(RT_congr hT rfl rfl rfl rfl), (RD_congr hD (fun q h1 h2 => by repeat rw [sUI_ne (by omega)]) rfl rfl rfl rfl rfl rfl rfl rfl rfl rfl rfl), (RK_congr hK (fun q h1 h2 => by repeat rw [sUI_ne (by omega)]) rfl rfl), (RW_congr hW (fun q h1 h2 => by repeat rw [sUI_ne (by omega)]) rfl rfl rfl), (RC_congr hC (fun q h1 h2 => by repeat rw [sUI_ne (by omega)]) rfl rfl rfl), RR_congr hQ rfl rfl (hj 135 (by omega)) (hj 249 (by omega)), (RX_congr hX rfl rfl rfl rfl rfl)⟩
  have no : ¬ (0 ≤ a1 ∧ a1 ≤ nI n - 1) → w_X12_row a1 I J (fun b I2 J2 => I2 248 0 = 1 ∧ ((1 : Int32) = 0 → J2 281 0 = b) ∧ RR0 I2 J2) := fun z => by
    unfold w_X12_row
    rintro _ rfl
    rw [show (sUI I 248 0 0) 248 1 = nI n from e2]
    refine q_in (lo := 0) (hi := nI n - 1) (by decide) rfl (fun q => absurd q z) (fun _ => b4 rfl ?_)
    rintro _ rfl
    exact ⟨rfl, fun z => absurd z (by decide), fin 1 J (fun _ _ => rfl)⟩
  unfold w_X11_row
  rw [e1]
  refine ⟨fun z => no (fun q => ?_), fun z => ?_⟩
  · have z0 : (0 : Int32).toInt = 0 := by decide
    have := q.1
    rw [pf_leInt, z0] at this
    rw [pf_ltInt, z0] at z
    omega
  · obtain ⟨l1, l2⟩ := le_p (n := n) (by omega) z
    refine ⟨fun y => ?_, fun y => no (l1 (Int32.not_lt.mp y))⟩
    obtain ⟨g1, g2, k, hk, rfl⟩ := l2 (fun q => absurd y (Int32.not_lt.mpr q))
    rw [pf_cl (by omega)]
    refine ⟨vp_in_nI (by omega) (by omega), ?_⟩
    unfold w_X12_row
    rintro _ rfl
    rw [show (sUI I 248 0 0) 248 1 = nI n from e2]
    refine q_in (lo := 0) (hi := nI n - 1) (by decide) rfl (fun _ => b3 (by decide) ?_) (fun q => absurd ⟨g1, g2⟩ q)
    rw [pf_cl (by omega)]
    refine ⟨vp_in_nI (by omega) (by omega), rfl, fun _ => ?_, fin0 _ (fun p hp => by funext x; rw [pf_uj, if_neg (by omega)])⟩
    rw [pf_ujs, if_pos rfl, pf_uj, if_neg (by omega), e3 k hk]
