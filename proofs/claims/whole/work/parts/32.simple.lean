theorem b1 {c A B : Prop} (h : c) (a : A) : (c → A) ∧ (¬ c → B) := ⟨fun _ => a, fun q => absurd h q⟩
theorem b2 {c A B : Prop} (h : ¬ c) (b : B) : (c → A) ∧ (¬ c → B) := ⟨fun q => absurd q h, fun _ => b⟩
theorem b3 {c A B : Prop} (h : ¬ c) (a : A) : (¬ c → A) ∧ (c → B) := ⟨fun _ => a, fun q => absurd q h⟩
theorem b4 {c A B : Prop} (h : c) (b : B) : (¬ c → A) ∧ (c → B) := ⟨fun q => absurd h q, fun _ => b⟩
/-- an index below N -/
def Ix (a : Int32) (N : Nat) : Prop := ∃ c, c < N ∧ a = nI c
theorem ix_lt {a : Int32} {N : Nat} (hN : N < 2147483648) (h1 : ¬ a < 0) (h2 : ¬ nI N ≤ a) : Ix a N := by
  rcases pf_split a (N := N) hN with ⟨n, h, e⟩ | h | h
  · exact ⟨n, h, e⟩
  · exact absurd h h1
  · exact absurd h h2
theorem ix_ge0 {a : Int32} {N : Nat} (hN : N ≤ 2147483648) (h : Ix a N) : ¬ a < 0 := by
  obtain ⟨c, h, rfl⟩ := h
  exact pf_lt0 (by omega)
theorem ix_nle {a : Int32} {N : Nat} (hN : N < 2147483648) (h : Ix a N) : ¬ nI N ≤ a := by
  obtain ⟨c, h, rfl⟩ := h
  rw [pf_le (by omega) (by omega)]
  omega
theorem ix_in {a : Int32} {N : Nat} (hN : N < 2147483648) : (0 ≤ a ∧ a ≤ nI N - 1) ↔ Ix a N := by
  have e : (nI N - 1).toInt = (N : Int) - 1 := by
    rcases Nat.eq_zero_or_pos N with h | h
    · subst h; decide
    · rw [show (1 : Int32) = nI 1 from rfl, pk_sub h, pf_toInt (by omega)]
      omega
  constructor
  · intro ⟨h1, h2⟩
    rw [pf_leInt] at h1 h2
    rw [e] at h2
    refine ix_lt hN ?_ ?_
    · rw [pf_ltInt]; have : (0 : Int32).toInt = 0 := by decide
      omega
    · rw [pf_leInt, pf_toInt (by omega)]; omega
  · rintro ⟨c, hc, rfl⟩
    refine ⟨pf_ge0 (by omega), ?_⟩
    rw [pf_leInt, e, pf_toInt (by omega)]
    omega
theorem q_in {I : sI} {J : sJ} {post : Int32 → sI → sJ → Prop} {a lo hi : Int32} {l h : Int64} (hl : l = lo.toInt64) (hh : h = hi.toInt64) (h1 : lo ≤ a ∧ a ≤ hi → post 1 I J) (h2 : ¬ (lo ≤ a ∧ a ≤ hi) → post 0 I J) : w_X12_in a.toInt64 l h I J post := by
  subst hl
  subst hh
  unfold w_X12_in
  rw [pf_lgc_lt, pf_lgc_gt, pf_wlt, pf_wlt]
  refine ⟨fun q => h2 (fun z => ?_), fun q => ⟨fun q2 => h2 (fun z => ?_), fun q2 => h1 ⟨?_, ?_⟩⟩⟩
  · exact absurd z.1 (Int32.not_le.mpr q)
  · exact absurd z.2 (Int32.not_le.mpr q2)
  · exact Int32.not_lt.mp q
  · exact Int32.not_lt.mp q2
/-- in(a, 0, N - 1) -/
theorem q_inx {I : sI} {J : sJ} {post : Int32 → sI → sJ → Prop} {a hi : Int32} {h : Int64} (N : Nat) (hN : N < 2147483648) (hh : h = hi.toInt64) (he : hi = nI N - 1) (h1 : Ix a N → post 1 I J) (h2 : ¬ Ix a N → post 0 I J) : w_X12_in a.toInt64 0 h I J post := by
  subst he
  refine q_in (lo := 0) rfl hh (fun z => h1 ((ix_in hN).mp z)) (fun z => h2 (fun y => z ((ix_in hN).mpr y)))
def St (f g : sI → sJ → (Int32 → sI → sJ → Prop) → Prop) (I : sI) (J : sJ) : Prop := f I J (fun r I1 J1 => g I1 J1 (fun r2 I2 J2 => r = r2 ∧ RR0 I2 J2))
theorem q_X1_has {I : sI} {J : sJ} {post : Int32 → sI → sJ → Prop} {a : Int32} {C : Nat} (hC : I 227 1 = nI C) (hC2 : C ≤ 10) (h1 : Ix a C → post 1 I J) (h2 : ¬ Ix a C → post 0 I J) : w_X1_has a I J post := by
  unfold w_X1_has
  rw [hC]
  refine ⟨fun q => h2 (fun z => ix_ge0 (by omega) z q), fun q => ⟨fun q2 => h2 (fun z => ix_nle (by omega) z q2), fun q2 => h1 (ix_lt (by omega) q q2)⟩⟩
theorem q_X11_isFind {I : sI} {J : sJ} {post : Int32 → sI → sJ → Prop} {a : Int32} (h1 : Ix a 12 → post 1 I J) (h2 : ¬ Ix a 12 → post 0 I J) : w_X11_isFind a I J post := by
  unfold w_X11_isFind
  refine ⟨fun q => h2 (fun z => ix_ge0 (by omega) z q), fun q => ⟨fun q2 => h2 (fun z => ix_nle (by omega) z q2), fun q2 => h1 (ix_lt (by omega) q q2)⟩⟩
theorem q_X11_isTongue {I : sI} {J : sJ} {post : Int32 → sI → sJ → Prop} {a : Int32} (h1 : Ix a 4 → post 1 I J) (h2 : ¬ Ix a 4 → post 0 I J) : w_X11_isTongue a I J post := by
  unfold w_X11_isTongue
  refine ⟨fun q => h2 (fun z => ix_ge0 (by omega) z q), fun q => ⟨fun q2 => h2 (fun z => ix_nle (by omega) z q2), fun q2 => h1 (ix_lt (by omega) q q2)⟩⟩
theorem q_X11_isPlace {I : sI} {J : sJ} {post : Int32 → sI → sJ → Prop} {a : Int32} {P : Nat} (hC : I 4 4 = nI P) (hC2 : P ≤ 60) (h1 : Ix a P → post 1 I J) (h2 : ¬ Ix a P → post 0 I J) : w_X11_isPlace a I J post := by
  unfold w_X11_isPlace
  rw [hC]
  refine ⟨fun q => h2 (fun z => ix_ge0 (by omega) z q), fun q => ⟨fun q2 => h2 (fun z => ix_nle (by omega) z q2), fun q2 => h1 (ix_lt (by omega) q q2)⟩⟩
theorem q_X12_isTongue {I : sI} {J : sJ} {post : Int32 → sI → sJ → Prop} {a : Int32} (h1 : Ix a 4 → post 1 I J) (h2 : ¬ Ix a 4 → post 0 I J) : w_X12_isTongue a I J post := by
  unfold w_X12_isTongue
  exact q_inx 4 (by omega) (hi := 3) rfl rfl (fun z => ⟨Or.inr rfl, h1 z⟩) (fun z => ⟨Or.inl rfl, h2 z⟩)
theorem q_X12_isClaim {I : sI} {J : sJ} {post : Int32 → sI → sJ → Prop} {a : Int32} {C : Nat} (hC : I 248 46 = nI C) (hC2 : C ≤ 10) (h1 : Ix a C → post 1 I J) (h2 : ¬ Ix a C → post 0 I J) : w_X12_isClaim a I J post := by
  unfold w_X12_isClaim
  rw [hC]
  exact q_inx C (by omega) (hi := nI C - 1) rfl rfl (fun z => ⟨Or.inr rfl, h1 z⟩) (fun z => ⟨Or.inl rfl, h2 z⟩)
theorem S_seed {I : sI} {J : sJ} (v : Int32) (hR : RR0 I J) : St (w_X11_seed v) (w_X12_seed v) I J := by
  obtain ⟨hT, hD, hK, hW, hC, hQ, hX⟩ := hR
  unfold St w_X11_seed w_X12_seed
  rintro _ rfl _ rfl _ rfl _ rfl _ rfl
  exact ⟨hX.1, (RT_congr hT rfl rfl rfl rfl), (RD_congr hD (fun q h1 h2 => by repeat rw [sUI_ne (by omega)]) rfl rfl rfl rfl rfl rfl rfl rfl rfl rfl rfl), (RK_congr hK (fun q h1 h2 => by repeat rw [sUI_ne (by omega)]) rfl rfl), (RW_congr hW (fun q h1 h2 => by repeat rw [sUI_ne (by omega)]) rfl rfl rfl), (RC_congr hC (fun q h1 h2 => by repeat rw [sUI_ne (by omega)]) rfl rfl rfl), (RR_congr hQ rfl rfl rfl rfl), ⟨rfl, hX.2⟩⟩
theorem S_claim {I : sI} {J : sJ} (hR : RR0 I J) : St w_X11_claim w_X12_claim I J := by
  obtain ⟨hT, hD, hK, hW, hC, hQ, hX⟩ := hR
  obtain ⟨C, v, ⟨hC1, hC2, hC3⟩, ⟨hc1, hc2⟩, hm1, hm2⟩ := id hC
  unfold St w_X11_claim w_X1_add w_X12_claim
  constructor
  · intro q
    rintro _ rfl _ rfl
    have e : sUI (sUI I 227 1 (I 227 1 + 1)) 248 0 0 248 46 = nI C := hm1
    rw [hc1, show (10 : Int32) = nI 10 from rfl, pf_lt (by omega) (by omega)] at q
    refine b3 ?_ ?_
    · rw [e, show (10 : Int32) = nI 10 from rfl, pf_eq (by omega) (by omega)]
      omega
    · rintro _ rfl
      have e2 : (sUI I 227 1 (I 227 1 + 1)) 227 1 = nI (C + 1) := by
        show I 227 1 + 1 = _
        rw [hc1, nI_1]
      refine ⟨?_, (RT_congr hT rfl rfl rfl rfl), (RD_congr hD (fun q h1 h2 => by repeat rw [sUI_ne (by omega)]) rfl rfl rfl rfl rfl rfl rfl rfl rfl rfl rfl), (RK_congr hK (fun q h1 h2 => by repeat rw [sUI_ne (by omega)]) rfl rfl), (RW_congr hW (fun q h1 h2 => by repeat rw [sUI_ne (by omega)]) rfl rfl rfl), ⟨C + 1, v, ⟨by omega, hC2, fun c f a b d => hC3 c f (by omega) b d⟩, ⟨e2, fun c f hc hf => ?_⟩, ?_, hm2⟩, (RR_congr hQ rfl rfl rfl rfl), (RX_congr hX rfl rfl rfl rfl rfl)⟩
      · rw [e2]
        show _ = I 248 46 + 1 - 1
        rw [hm1, nI_1]
      · rw [show (sUI (sUI (sUI I 227 1 (I 227 1 + 1)) 248 0 0) 248 46 (sUI (sUI I 227 1 (I 227 1 + 1)) 248 0 0 248 46 + 1)) (229 + c) = I (229 + c) by repeat rw [sUI_ne (by omega)]]
        exact hc2 c f hc hf
      · show I 248 46 + 1 = _
        rw [hm1, nI_1]
  · intro q
    rintro _ rfl
    have e : sUI I 248 0 0 248 46 = nI C := hm1
    rw [hc1, show (10 : Int32) = nI 10 from rfl, pf_lt (by omega) (by omega)] at q
    refine b4 ?_ ?_
    · rw [e, show (10 : Int32) = nI 10 from rfl, pf_eq (by omega) (by omega)]
      omega
    · exact ⟨rfl, (RT_congr hT rfl rfl rfl rfl), (RD_congr hD (fun q h1 h2 => by repeat rw [sUI_ne (by omega)]) rfl rfl rfl rfl rfl rfl rfl rfl rfl rfl rfl), (RK_congr hK (fun q h1 h2 => by repeat rw [sUI_ne (by omega)]) rfl rfl), (RW_congr hW (fun q h1 h2 => by repeat rw [sUI_ne (by omega)]) rfl rfl rfl), (RC_congr hC (fun q h1 h2 => by repeat rw [sUI_ne (by omega)]) rfl rfl rfl), (RR_congr hQ rfl rfl rfl rfl), (RX_congr hX rfl rfl rfl rfl rfl)⟩
