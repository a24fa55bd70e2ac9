theorem mset {G P h d bk : Nat} {s κ : Nat → Nat} {nw : Nat → Nat} {wl : Nat → Nat → Nat} {wt : Nat → Nat → Nat → Nat} {I I1 : sI} (hm : mD G P s κ I) (e2 : I 248 21 = nI h ∧ I 248 22 = nI d ∧ I 248 23 = nI bk) (hmw : mW nw wl wt I) (r : ∀ p, 224 ≤ p → I1 p = I p) : mD G P s κ (sUI I1 248 0 0) ∧ ((sUI I1 248 0 0) 248 21 = nI h ∧ (sUI I1 248 0 0) 248 22 = nI d ∧ (sUI I1 248 0 0) 248 23 = nI bk) ∧ mW nw wl wt (sUI I1 248 0 0) := by
  refine ⟨mD_congr hm (by rw [pf_uis, if_neg (by omega), r 248 (by omega)]) (by rw [pf_uis, if_neg (by omega), r 248 (by omega)]) (by rw [sUI_ne (by omega), r 253 (by omega)]) (by rw [sUI_ne (by omega), r 254 (by omega)]), ?_, ?_⟩
  · rw [pf_uis, if_neg (by omega), pf_uis, if_neg (by omega), pf_uis, if_neg (by omega), r 248 (by omega)]
    exact e2
  · unfold mW at *
    rw [sUI_ne (by omega), sUI_ne (by omega), sUI_ne (by omega), r 257 (by omega), r 258 (by omega), r 259 (by omega)]
    exact hmw
theorem RX_mk {I : sI} (a : I 0 15 = I 248 37) (b : I 0 16 = I 248 33) (c : I 141 0 = 0) : RX I := ⟨a, b, c⟩
theorem RR_12 {I : sI} {J : sJ} (h1 : I 134 1 = nI 12) (h2 : I 248 1 = nI 12) (h : ∀ k, k < 12 → J 135 k = J 249 k) : RR I J := ⟨12, by omega, h1, h2, h⟩
theorem RR_0' {I : sI} {J : sJ} (h1 : I 134 1 = nI 0) (h2 : I 248 1 = nI 0) : RR I J := ⟨0, by omega, h1, h2, fun i hi => by omega⟩
theorem S_readings {I : sI} {J : sJ} (a1 : Int32) (hR : RR0 I J) : St (w_X11_readings a1) (w_X12_readings a1) I J := by
  obtain ⟨hT, hD, hK, hW, hC, hQ, hX⟩ := hR
  obtain ⟨G, P, s, κ, h, d, bk, nw, wl, wt, hw, hx, hww, hc, hm, e3, e2, hcw, hmw⟩ := rd_get hD hW
  have hG := hw.1
  show w_X11_readings a1 I J _
  unfold w_X11_readings
  refine q_cannotR hG hc.1 (fun z g1 => b1 rfl ?_) (fun z => b2 (by decide) ?_)
  rotate_left
  · unfold w_X12_readings
    rintro _ rfl
    refine q_isAsked hG hm.1 (fun a b => absurd ⟨a, b⟩ z) (fun _ => b4 rfl ?_)
    exact ⟨rfl, (RT_congr hT rfl rfl rfl rfl), (RD_congr hD (fun q h1 h2 => by repeat rw [sUI_ne (by omega)]) rfl rfl rfl rfl rfl rfl rfl rfl rfl rfl rfl), (RK_congr hK (fun q h1 h2 => by repeat rw [sUI_ne (by omega)]) rfl rfl), (RW_congr hW (fun q h1 h2 => by repeat rw [sUI_ne (by omega)]) rfl rfl rfl), (RC_congr hC (fun q h1 h2 => by repeat rw [sUI_ne (by omega)]) rfl rfl rfl), (RR_congr hQ rfl rfl rfl rfl), (RX_congr hX rfl rfl rfl rfl rfl)⟩
  obtain ⟨t, ht, rfl⟩ := z
  have hq := dQ_O hw hx hww ht
  obtain ⟨ch, ech⟩ : ∃ ch, ch = chF (dQ h d bk (nw t) (wl t) (wt t) s κ) := ⟨_, rfl⟩
  have x48 : ∀ x, x ∈ lev ch G → x < 2 ^ 48 := fun x hx2 => (lev_ok hq (Nat.le_refl _) (by rw [← ech]; exact hx2)).1
  have model : ∀ (I1 : sI) (J1 : sJ) (r : Int32), (∀ p, ¬ (p = 0 ∨ p = 134 ∨ (142 ≤ p ∧ p ≤ 223)) → I1 p = I p) → I1 0 15 = I 0 15 → (∀ p, ¬ (p = 135 ∨ (142 ≤ p ∧ p ≤ 223)) → J1 p = J p) → ((20000 < tot ch G ∧ r = -3 ∧ I1 0 16 = nI 20001 ∧ I1 134 1 = I 134 1 ∧ J1 135 = J 135) ∨ (tot ch G ≤ 20000 ∧ r = nI (lev ch G).length ∧ I1 0 16 = nI (tot ch G) ∧ (((lev ch G).length = 0 ∧ I1 134 1 = nI 0) ∨ (1 ≤ (lev ch G).length ∧ I1 134 1 = nI 12 ∧ ∃ v, v ∈ lev ch G ∧ (∀ x, x ∈ lev ch G → v ≤ x) ∧ ∀ k, k < 12 → J1 135 k = (nI (nb v k) - 1).toInt64)))) → w_X12_readings (nI t) I1 J1 (fun r2 I2 J2 => r = r2 ∧ RR0 I2 J2) := by
    intro I1 J1 r ra r15 ja hr
    unfold w_X12_readings
    rintro _ rfl
    obtain ⟨m1, m2, m3⟩ := mset hm e2 hmw (I1 := I1) (fun p hp => ra p (by omega))
    refine q_isAsked hG m1.1 (fun _ _ => b3 (by decide) ?_) (fun q => absurd ⟨⟨t, ht, rfl⟩, g1⟩ q)
    refine q_all hw m1 g1 hx m2 hww m3 ht (fun I2 J2 F r2 s2 j2 t2 e30 e32 f2 o2 _ => ?_) (fun I2 J2 r2 s2 j2 t2 e30 => ?_)
    · rw [← ech] at t2 e30 e32 f2 o2
      rcases hr with ⟨c, _⟩ | ⟨_, hr, h16, hb⟩
      · omega
      rw [e30]
      rintro _ rfl
      refine b3 (by decide) ?_
      rintro _ rfl
      have lc := lv_cst (ch := ch) (m := G) (g := 0) (c := 0)
      have len : (lev ch G).length ≤ 20000 := by
        obtain ⟨g, eg⟩ : ∃ g, G = g + 1 := ⟨G - 1, by omega⟩
        subst eg
        have : tot ch (g + 1) = tot ch g + (lev ch (g + 1)).length := rfl
        omega
      rw [pf_uis, if_neg (by omega), pf_uis, if_neg (by omega), e32, pf_le0 (by omega)]
      have r1' : ∀ q, ¬ (q = 0 ∨ q = 134 ∨ (142 ≤ q ∧ q ≤ 223) ∨ q = 248 ∨ q = 260 ∨ q = 261 ∨ q = 263 ∨ q = 264) → (sUI (sUI I2 248 33 (nI (tot ch G))) 248 1 0) q = I q := fun q hq => by rw [sUI_ne (by omega), sUI_ne (by omega), r2 q (by omega), sUI_ne (by omega), ra q (by omega)]
      have s1' : ∀ k, ¬ (k = 0 ∨ k = 1 ∨ k = 24 ∨ k = 30 ∨ k = 32 ∨ k = 33) → (sUI (sUI I2 248 33 (nI (tot ch G))) 248 1 0) 248 k = I 248 k := fun k hk => by rw [pf_uis, if_neg (by omega), pf_uis, if_neg (by omega), s2 k (by omega), pf_uis, if_neg (by omega), ra 248 (by omega)]
      have x0 : ∀ k, (sUI (sUI I2 248 33 (nI (tot ch G))) 248 1 0) 0 k = I1 0 k := fun k => by rw [sUI_ne (by omega), sUI_ne (by omega), r2 0 (by omega), sUI_ne (by omega)]
      have x33 : (sUI (sUI I2 248 33 (nI (tot ch G))) 248 1 0) 248 33 = nI (tot ch G) := by rw [pf_uis, if_neg (by omega), pf_uis, if_pos rfl]
      have x134 : (sUI (sUI I2 248 33 (nI (tot ch G))) 248 1 0) 134 1 = I1 134 1 := by rw [sUI_ne (by omega), sUI_ne (by omega), r2 134 (by omega), sUI_ne (by omega)]
      have x32 : (sUI (sUI I2 248 33 (nI (tot ch G))) 248 1 0) 248 32 = nI (lev ch G).length := by rw [pf_uis, if_neg (by omega), pf_uis, if_neg (by omega), e32]
      obtain ⟨I3, e3'⟩ : ∃ I3, I3 = sUI (sUI I2 248 33 (nI (tot ch G))) 248 1 0 := ⟨_, rfl⟩
      have x1 : I3 248 1 = nI 0 := by rw [e3', pf_uis, if_pos rfl]; rfl
      rw [← e3'] at r1' s1' x0 x33 x134 x32 ⊢
      refine ⟨fun z => ?_, fun z => ⟨vp_in_nI (n := 0) (by omega) (by omega), ?_⟩⟩
      · rcases hb with ⟨l0, h134⟩ | ⟨l1, _⟩
        · have r1 := r1'
          have s1 := s1'
          unfold w_X12_readings_58
          rw [x32]
          refine ⟨hr, (RT_congr hT (by rw [r1 1 (by omega)]) (r1 2 (by omega)) (s1 4 (by omega)) (r1 250 (by omega))), (RD_congr hD (fun q h1 h2 => r1 q (by omega)) (r1 253 (by omega)) (r1 254 (by omega)) (r1 255 (by omega)) (r1 256 (by omega)) (r1 276 (by omega)) (s1 11 (by omega)) (s1 12 (by omega)) (s1 15 (by omega)) (s1 21 (by omega)) (s1 22 (by omega)) (s1 23 (by omega))), (RK_congr hK (fun q h1 h2 => r1 q (by omega)) (r1 279 (by omega)) (r1 280 (by omega))), (RW_congr hW (fun q h1 h2 => r1 q (by omega)) (r1 257 (by omega)) (r1 258 (by omega)) (r1 259 (by omega))), (RC_congr hC (fun q h1 h2 => r1 q (by omega)) (by rw [r1 227 (by omega)]) (s1 46 (by omega)) (r1 275 (by omega))), RR_0' (by rw [x134]; exact h134) x1, RX_mk ?_ ?_ ?_⟩
          · rw [x0, r15, s1 37 (by omega)]; exact hX.1
          · rw [x0, h16, x33]
          · rw [r1 141 (by omega)]; exact hX.2.2
        · omega
      · rcases hb with ⟨l0, _⟩ | ⟨l1, h134, v, v1, v2, v3⟩
        · omega
        · rw [c_z, (f2 0 (by omega)).1, sr_least o2 v1 v2]
          refine q_entersR (x48 v v1) x1 (fun I4 J4 r4 s4 e4 j4 c4 => ?_)
          unfold w_X12_readings_58
          have r1 : ∀ q, ¬ (q = 0 ∨ q = 134 ∨ (142 ≤ q ∧ q ≤ 223) ∨ q = 248 ∨ q = 260 ∨ q = 261 ∨ q = 263 ∨ q = 264) → I4 q = I q := fun q hq => by rw [r4 q (by omega), r1' q hq]
          have s1 : ∀ k, ¬ (k = 0 ∨ k = 1 ∨ k = 24 ∨ k = 30 ∨ k = 32 ∨ k = 33) → I4 248 k = I 248 k := fun k hk => by rw [s4 k (by omega), s1' k hk]
          rw [s4 32 (by omega), x32]
          refine ⟨hr, (RT_congr hT (by rw [r1 1 (by omega)]) (r1 2 (by omega)) (s1 4 (by omega)) (r1 250 (by omega))), (RD_congr hD (fun q h1 h2 => r1 q (by omega)) (r1 253 (by omega)) (r1 254 (by omega)) (r1 255 (by omega)) (r1 256 (by omega)) (r1 276 (by omega)) (s1 11 (by omega)) (s1 12 (by omega)) (s1 15 (by omega)) (s1 21 (by omega)) (s1 22 (by omega)) (s1 23 (by omega))), (RK_congr hK (fun q h1 h2 => r1 q (by omega)) (r1 279 (by omega)) (r1 280 (by omega))), (RW_congr hW (fun q h1 h2 => r1 q (by omega)) (r1 257 (by omega)) (r1 258 (by omega)) (r1 259 (by omega))), (RC_congr hC (fun q h1 h2 => r1 q (by omega)) (by rw [r1 227 (by omega)]) (s1 46 (by omega)) (r1 275 (by omega))), RR_12 (by rw [r4 134 (by omega), x134]; exact h134) e4 (fun k hk => ?_), RX_mk ?_ ?_ ?_⟩
          · rw [j4 135 (by omega), j2 135 (by omega), v3 k hk, c4 k hk]
          · rw [r4 0 (by omega), x0, r15, s1 37 (by omega)]; exact hX.1
          · rw [r4 0 (by omega), x0, h16, s4 33 (by omega), x33]
          · rw [r1 141 (by omega)]; exact hX.2.2
    · rw [← ech] at t2
      rcases hr with ⟨_, hr, h16, h134, hj⟩ | ⟨c, _⟩
      · rw [e30]
        rintro _ rfl
        refine b4 rfl ⟨hr, ?_⟩
        have r1 : ∀ q, ¬ (q = 0 ∨ q = 134 ∨ (142 ≤ q ∧ q ≤ 223) ∨ q = 248 ∨ q = 260 ∨ q = 261 ∨ q = 263 ∨ q = 264) → (sUI I2 248 33 (nI 20001)) q = I q := fun q hq => by rw [sUI_ne (by omega), r2 q (by omega), sUI_ne (by omega), ra q (by omega)]
        have s1 : ∀ k, ¬ (k = 0 ∨ k = 24 ∨ k = 30 ∨ k = 32 ∨ k = 33) → (sUI I2 248 33 (nI 20001)) 248 k = I 248 k := fun k hk => by rw [pf_uis, if_neg (by omega), s2 k (by omega), pf_uis, if_neg (by omega), ra 248 (by omega)]
        refine ⟨(RT_congr hT (by rw [r1 1 (by omega)]) (r1 2 (by omega)) (s1 4 (by omega)) (r1 250 (by omega))), (RD_congr hD (fun q h1 h2 => r1 q (by omega)) (r1 253 (by omega)) (r1 254 (by omega)) (r1 255 (by omega)) (r1 256 (by omega)) (r1 276 (by omega)) (s1 11 (by omega)) (s1 12 (by omega)) (s1 15 (by omega)) (s1 21 (by omega)) (s1 22 (by omega)) (s1 23 (by omega))), (RK_congr hK (fun q h1 h2 => r1 q (by omega)) (r1 279 (by omega)) (r1 280 (by omega))), (RW_congr hW (fun q h1 h2 => r1 q (by omega)) (r1 257 (by omega)) (r1 258 (by omega)) (r1 259 (by omega))), (RC_congr hC (fun q h1 h2 => r1 q (by omega)) (by rw [r1 227 (by omega)]) (s1 46 (by omega)) (r1 275 (by omega))), RR_congr hQ (by rw [sUI_ne (by omega), r2 134 (by omega), sUI_ne (by omega)]; exact h134) (s1 1 (by omega)) (by rw [j2 135 (by omega)]; exact hj) (by rw [j2 249 (by omega), ja 249 (by omega)]), RX_mk ?_ ?_ ?_⟩
        · rw [sUI_ne (by omega), r2 0 (by omega), sUI_ne (by omega), r15, s1 37 (by omega)]; exact hX.1
        · rw [sUI_ne (by omega), r2 0 (by omega), sUI_ne (by omega), h16, pf_uis, if_pos rfl]
        · rw [r1 141 (by omega)]; exact hX.2.2
      · omega
  refine q_read (mode := 0) (det := 0) (MS := ms_0) (by decide) hw hc g1 hx e3 hww hcw ht (by omega) (by omega) (tk_0 (Or.inl rfl)) (fun _ _ _ => trivial) (fun I1 J1 r1 j1 t1 e1 rd1 => ?_) (fun I1 J1 r1 j1 t1 e1 => ?_)
  · rw [← ech] at t1 e1 rd1
    rw [e1]
    rintro _ rfl
    refine q_many0 (n := tot ch G) (by omega) (by rw [sUI_ne (by omega)]; exact e1) (fun _ => b1 rfl ?_) (fun z => by omega)
    rintro _ rfl
    obtain ⟨u1, u2, u3, u4, u5, u6, u7⟩ := rd1
    have len : (lev ch G).length ≤ 20000 := by
      obtain ⟨g, eg⟩ : ∃ g, G = g + 1 := ⟨G - 1, by omega⟩
      subst eg
      have : tot ch (g + 1) = tot ch g + (lev ch (g + 1)).length := rfl
      omega
    obtain ⟨I3, e3'⟩ : ∃ I3, I3 = sUI (sUI I1 0 16 (nI (tot ch G))) 134 1 0 := ⟨_, rfl⟩
    have y2 : I3 220 2 = nI (lev ch G).length := by rw [e3', sUI_ne (by omega), sUI_ne (by omega)]; exact u1
    have y1 : I3 134 1 = nI 0 := by rw [e3', pf_uis, if_pos rfl]; rfl
    have y16 : I3 0 16 = nI (tot ch G) := by rw [e3', sUI_ne (by omega), pf_uis, if_pos rfl]
    have y15 : I3 0 15 = I 0 15 := by rw [e3', sUI_ne (by omega), pf_uis, if_neg (by omega), r1 0 (by omega)]
    have yr : ∀ p, ¬ (p = 0 ∨ p = 134 ∨ (142 ≤ p ∧ p ≤ 223)) → I3 p = I p := fun p hp => by rw [e3', sUI_ne (by omega), sUI_ne (by omega), r1 p (by omega)]
    rw [← e3', y2, pf_le0 (by omega)]
    refine ⟨fun z => ?_, fun z => ?_⟩
    · unfold w_X11_readings_77
      rw [y2]
      exact model I3 J1 _ yr y15 (fun p hp => j1 p (by omega)) (Or.inr ⟨t1, rfl, y16, Or.inl ⟨z, y1⟩⟩)
    · obtain ⟨v, v0, v1, v2⟩ := u6 (fun e => z (by rw [e]; rfl))
      rw [v0]
      refine q_tellL (x48 v v1) y1 (fun I4 J4 r4 e4 j4 c4 => ?_)
      unfold w_X11_readings_77
      rw [r4 220 (by omega), y2]
      exact model I4 J4 _ (fun p hp => by rw [r4 p (by omega), yr p hp]) (by rw [r4 0 (by omega)]; exact y15) (fun p hp => by rw [j4 p (by omega), j1 p (by omega)]) (Or.inr ⟨t1, rfl, by rw [r4 0 (by omega)]; exact y16, Or.inr ⟨by omega, e4, v, v1, v2, c4⟩⟩)
  · rw [← ech] at t1
    rw [e1]
    rintro _ rfl
    refine q_many0 (n := 20001) (by omega) (by rw [sUI_ne (by omega)]; exact e1) (fun z => by omega) (fun _ => b2 (by decide) ?_)
    exact model _ J1 _ (fun p hp => by rw [sUI_ne (by omega), r1 p (by omega)]) (by rw [pf_uis, if_neg (by omega), r1 0 (by omega)]) (fun p hp => j1 p (by omega)) (Or.inl ⟨t1, rfl, by rw [pf_uis, if_pos rfl], by rw [sUI_ne (by omega), r1 134 (by omega)], j1 135 (by omega)⟩)
