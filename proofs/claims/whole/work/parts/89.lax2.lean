theorem lx_lt : ∀ S, S < 6 → ∀ D, D < 3 → (nI S - nI D < 1 ↔ S ≤ D) := by decide +kernel
theorem lx_le : ∀ S, S < 6 → ∀ D, D < 3 → ((1 ≤ nI S - nI D ∧ nI S - nI D ≤ 3) ↔ (D < S ∧ S ≤ D + 3)) := by decide +kernel
theorem S_lax {I : sI} {J : sJ} (a1 : Int32) (hR : RR0 I J) : St (w_X11_lax a1) (w_X12_lax a1) I J := by
  have hR0 := hR
  obtain ⟨hT, hD, hK, hW, hC, hQ, hX⟩ := hR
  obtain ⟨G, P, s, κ, h, d, bk, nw, wl, wt, hw, hx, hww, hc, hm, e3, e2, hcw, hmw⟩ := rd_get hD hW
  have hG := hw.1
  show w_X11_lax a1 I J _
  unfold w_X11_lax
  refine q_cannotR hG hc.1 (fun z g1 => b1 rfl ?_) (fun z => b2 (by decide) ?_)
  rotate_left
  · unfold w_X12_lax
    rintro _ rfl
    refine q_isAsked hG hm.1 (fun a b => absurd ⟨a, b⟩ z) (fun _ => b4 rfl ?_)
    exact ⟨rfl, (RT_congr hT rfl rfl rfl rfl), (RD_congr hD (fun q h1 h2 => by repeat rw [sUI_ne (by omega)]) rfl rfl rfl rfl rfl rfl rfl rfl rfl rfl rfl), (RK_congr hK (fun q h1 h2 => by repeat rw [sUI_ne (by omega)]) rfl rfl), (RW_congr hW (fun q h1 h2 => by repeat rw [sUI_ne (by omega)]) rfl rfl rfl), (RC_congr hC (fun q h1 h2 => by repeat rw [sUI_ne (by omega)]) rfl rfl rfl), (RR_congr hQ rfl rfl rfl rfl), (RX_congr hX rfl rfl rfl rfl rfl)⟩
  obtain ⟨t, ht, rfl⟩ := z
  obtain ⟨L, eL⟩ : ∃ L : Nat → Nat → Nat, L = fun h d => (lev (chF (dQ h d bk (nw t) (wl t) (wt t) s κ)) G).length := ⟨_, rfl⟩
  obtain ⟨T, eT⟩ : ∃ T : Nat → Nat → Nat, T = fun h d => tot (chF (dQ h d bk (nw t) (wl t) (wt t) s κ)) G := ⟨_, rfl⟩
  have Lt : ∀ h d, (lev (chF (dQ h d bk (nw t) (wl t) (wt t) s κ)) G).length = L h d := fun h d => by rw [eL]
  have Tt : ∀ h d, tot (chF (dQ h d bk (nw t) (wl t) (wt t) s κ)) G = T h d := fun h d => by rw [eT]
  have L20 : ∀ h d, T h d ≤ 20000 → L h d ≤ 20000 := fun h d z => by rw [← Lt]; exact lev_len g1 (by rw [Tt]; exact z)
  obtain ⟨pr, epr⟩ : ∃ pr : Nat → Prop, pr = fun n => ∀ S D, 1 ≤ S → S ≤ 5 → D ≤ 2 → D < S → S ≤ D + 3 → 3 * S + D < n → T (S - D) D ≤ 20000 ∧ L (S - D) D = 0 := ⟨_, rfl⟩
  have prd : ∀ n, pr n ↔ ∀ S D, 1 ≤ S → S ≤ 5 → D ≤ 2 → D < S → S ≤ D + 3 → 3 * S + D < n → T (S - D) D ≤ 20000 ∧ L (S - D) D = 0 := fun n => by rw [epr]
  have model : ∀ (I1 : sI) (J1 : sJ) (r : Int32), (∀ p, ¬ (p = 134 ∨ (136 ≤ p ∧ p ≤ 137) ∨ (142 ≤ p ∧ p ≤ 223)) → I1 p = I p) → (∀ p, ¬ (p = 135 ∨ (142 ≤ p ∧ p ≤ 223)) → J1 p = J p) → ((pr 18 ∧ r = -2 ∧ I1 134 1 = I 134 1 ∧ J1 135 = J 135) ∨ (∃ S D, 1 ≤ S ∧ S ≤ 5 ∧ D ≤ 2 ∧ D < S ∧ S ≤ D + 3 ∧ pr (3 * S + D) ∧ ((20000 < T (S - D) D ∧ r = -3 ∧ I1 134 1 = I 134 1 ∧ J1 135 = J 135) ∨ (T (S - D) D ≤ 20000 ∧ 1 ≤ L (S - D) D ∧ r = nI (L (S - D) D) ∧ I1 134 1 = nI 2 ∧ J1 135 0 = (nI (S - D)).toInt64 ∧ J1 135 1 = (nI D).toInt64)))) → w_X12_lax (nI t) I1 J1 (fun r2 I2 J2 => r = r2 ∧ RR0 I2 J2) := by
    intro I1 J1 r ra ja hr
    unfold w_X12_lax
    rintro _ rfl
    obtain ⟨m1, m2, m3⟩ := mset hm e2 hmw (I1 := I1) (fun p hp => ra p (by omega))
    obtain ⟨I0, e0⟩ : ∃ I0, I0 = sUI I1 248 0 0 := ⟨_, rfl⟩
    rw [← e0] at m1 m2 m3 ⊢
    have r0 : ∀ p, ¬ p = 248 → I0 p = I1 p := fun p hp => by rw [e0, sUI_ne hp]
    have s0 : ∀ k, ¬ k = 0 → I0 248 k = I1 248 k := fun k hk => by rw [e0, pf_uis, if_neg hk]
    refine q_isAsked hG m1.1 (fun _ _ => b3 (by decide) ?_) (fun q => absurd ⟨⟨t, ht, rfl⟩, g1⟩ q)
    rw [m2.1, m2.2.1]
    rintro _ rfl _ rfl
    obtain ⟨post, ep⟩ : ∃ post : Int32 → sI → sJ → Prop, post = fun r2 I2 J2 => r = r2 ∧ RR0 I2 J2 := ⟨_, rfl⟩
    rw [← ep]
    -- the end, homes and drops as they were
    have tail : ∀ (I3 : sI) (J3 : sJ) (x4 : Int32) (x5 x6 : Nat), (∀ p, ¬ (p = 248 ∨ p = 260 ∨ p = 261 ∨ p = 263 ∨ p = 264) → I3 p = I0 p) → (∀ k, ¬ (k = 21 ∨ k = 22 ∨ k = 24 ∨ k = 30 ∨ k = 32) → I3 248 k = I0 248 k) → (∀ p, ¬ (p = 262 ∨ p = 265) → J3 p = J1 p) → ((x4 = 0 ∧ r = -2 ∧ I1 134 1 = I 134 1 ∧ J1 135 = J 135) ∨ (x4 = -3 ∧ r = -3 ∧ I1 134 1 = I 134 1 ∧ J1 135 = J 135) ∨ (∃ l, 1 ≤ l ∧ l ≤ 20000 ∧ x4 = nI l ∧ r = nI l ∧ I1 134 1 = nI 2 ∧ J1 135 0 = (nI x5).toInt64 ∧ J1 135 1 = (nI x6).toInt64)) → w_X12_lax_139 post (nI h) (nI d) x4 (nI x5) (nI x6) I3 J3 := by
      intro I3 J3 x4 x5 x6 r3 s3 j3 hc4
      unfold w_X12_lax_139
      rintro _ rfl _ rfl
      obtain ⟨I4, e4⟩ : ∃ I4, I4 = sUI (sUI I3 248 21 (nI h)) 248 22 (nI d) := ⟨_, rfl⟩
      have r4 : ∀ p, ¬ (p = 248 ∨ p = 260 ∨ p = 261 ∨ p = 263 ∨ p = 264) → I4 p = I1 p := fun p hp => by rw [e4, sUI_ne (by omega), sUI_ne (by omega), r3 p hp, r0 p (by omega)]
      have s4 : ∀ k, ¬ (k = 0 ∨ k = 24 ∨ k = 30 ∨ k = 32) → I4 248 k = I1 248 k := fun k hk => by
        rw [e4, pf_uis, pf_uis]
        by_cases k22 : k = 22
        · rw [if_pos k22, k22, ← s0 22 (by omega), m2.2.1]
        · rw [if_neg k22]
          by_cases k21 : k = 21
          · rw [if_pos k21, k21, ← s0 21 (by omega), m2.1]
          · rw [if_neg k21, s3 k (by omega), s0 k (by omega)]
      rw [← e4]
      rcases hc4 with ⟨rfl, hr2, h134, hj⟩ | ⟨rfl, hr2, h134, hj⟩ | ⟨l, l1, l2, rfl, hr2, h134, hj0, hj1⟩
      · refine b2 (by decide) (b4 rfl ?_)
        rw [ep]
        exact ⟨hr2, fin_all hR0 ra h134 hj (ja 249 (by omega)) (fun p hp => r4 p (by omega)) (fun k hk => s4 k (by omega)) j3⟩
      · refine b2 (by decide) (b3 (by decide) ?_)
        rw [ep]
        exact ⟨hr2, fin_all hR0 ra h134 hj (ja 249 (by omega)) (fun p hp => r4 p (by omega)) (fun k hk => s4 k (by omega)) j3⟩
      · refine b1 ((pf_gt0 (by omega)).mpr (by omega)) ?_
        rintro _ rfl
        refine q_enters (k := 0) (by rw [pf_uis, if_pos rfl]; rfl) (by omega) ?_
        refine q_enters (k := 1) (by rw [pf_uis, if_pos rfl]) (by omega) ?_
        rw [ep]
        refine ⟨hr2, fin_row hR0 ra (fun p hp => by rw [sUI_ne (by omega), sUI_ne (by omega), sUI_ne (by omega), r4 p (by omega)]) (fun k hk => by rw [pf_uis, if_neg (by omega), pf_uis, if_neg (by omega), pf_uis, if_neg (by omega), s4 k (by omega)]) (RR_2 (x := (nI x5).toInt64) (y := (nI x6).toInt64) ?_ ?_ ?_ ?_ ?_ ?_)⟩
        · rw [sUI_ne (by omega), sUI_ne (by omega), sUI_ne (by omega), r4 134 (by omega)]; exact h134
        · rw [pf_uis, if_pos rfl]
        · rw [pf_uj, if_neg (by omega), pf_uj, if_neg (by omega), j3 135 (by omega)]; exact hj0
        · rw [pf_ujs, if_neg (by omega), pf_ujs, if_pos rfl]
        · rw [pf_uj, if_neg (by omega), pf_uj, if_neg (by omega), j3 135 (by omega)]; exact hj1
        · rw [pf_ujs, if_pos rfl]
    have outer : ∀ fu S (I3 : sI) (J3 : sJ) (x5 x6 : Nat), 1 ≤ S → S ≤ 6 → 6 - S < fu → (∀ p, ¬ (p = 248 ∨ p = 260 ∨ p = 261 ∨ p = 263 ∨ p = 264) → I3 p = I0 p) → (∀ k, ¬ (k = 21 ∨ k = 22 ∨ k = 24 ∨ k = 30 ∨ k = 32) → I3 248 k = I0 248 k) → (∀ p, ¬ (p = 262 ∨ p = 265) → J3 p = J1 p) → pr (3 * S) → w_X12_lax_37_n post fu (nI t) (nI h) (nI d) 0 (nI x5) (nI x6) (nI S) I3 J3 := by
      intro fu
      induction fu with
      | zero => intro S _ _ _ _ _ _ h; omega
      | succ fu ih =>
        intro S I3 J3 x5 x6 hS1 hS hfu r3 s3 j3 hp
        show w_X12_lax_37_s post (w_X12_lax_37_n post fu) _ _ _ _ _ _ _ I3 J3
        unfold w_X12_lax_37_s
        rw [show (5 : Int32) = nI 5 from rfl, pf_lt (by omega) (by omega)]
        refine ⟨fun e => ?_, fun e => b4 rfl ?_⟩
        · refine tail I3 J3 0 x5 x6 r3 s3 j3 (Or.inl ⟨rfl, ?_⟩)
          rcases hr with ⟨_, hr⟩ | ⟨S2, D2, a1, a2, a3, a4, a5, a6, a7⟩
          · exact hr
          · have := (prd _).mp hp S2 D2 a1 a2 a3 a4 a5 (by omega)
            rcases a7 with a7 | a7
            · omega
            · omega
        · have inner : ∀ fu2 D (I4 : sI) (J4 : sJ) (x5 x6 : Nat), D ≤ 3 → 3 - D < fu2 → (∀ p, ¬ (p = 248 ∨ p = 260 ∨ p = 261 ∨ p = 263 ∨ p = 264) → I4 p = I0 p) → (∀ k, ¬ (k = 21 ∨ k = 22 ∨ k = 24 ∨ k = 30 ∨ k = 32) → I4 248 k = I0 248 k) → (∀ p, ¬ (p = 262 ∨ p = 265) → J4 p = J1 p) → pr (3 * S + D) → w_X12_lax_51_n post (w_X12_lax_37_n post fu) fu2 (nI t) (nI h) (nI d) 0 (nI x5) (nI x6) (nI S) (nI D) I4 J4 := by
            intro fu2
            induction fu2 with
            | zero => intro D _ _ _ _ _ h; omega
            | succ fu2 ih2 =>
              intro D I4 J4 x5 x6 hD hfu2 r4 s4 j4 hp4
              show w_X12_lax_51_s post (w_X12_lax_37_n post fu) (w_X12_lax_51_n post (w_X12_lax_37_n post fu) fu2) _ _ _ _ _ _ _ _ I4 J4
              unfold w_X12_lax_51_s w_X12_lax_133 w_X12_lax_127
              rw [show (2 : Int32) = nI 2 from rfl, pf_lt (by omega) (by omega), nI_1, nI_1]
              refine ⟨fun e5 => ?_, fun e5 => b4 rfl ?_⟩
              · rintro _ rfl
                exact ih (S + 1) I4 J4 x5 x6 (by omega) (by omega) (by omega) r4 s4 j4 (by rw [show 3 * (S + 1) = 3 * S + D by omega]; exact hp4)
              · have lx := lx_le S (by omega) D (by omega)
                refine q_in (lo := 1) (hi := 3) (by decide) (by decide) (fun p => b3 (by decide) ?_) (fun p => b4 rfl ?_)
                · obtain ⟨v1, v2⟩ := lx.mp p
                  rw [pk_sub (by omega)]
                  rintro _ rfl _ rfl
                  obtain ⟨I5, e5'⟩ : ∃ I5, I5 = sUI (sUI I4 248 21 (nI (S - D))) 248 22 (nI D) := ⟨_, rfl⟩
                  have r5 : ∀ p, ¬ (p = 248 ∨ p = 260 ∨ p = 261 ∨ p = 263 ∨ p = 264) → I5 p = I0 p := fun p hp => by rw [e5', sUI_ne (by omega), sUI_ne (by omega), r4 p hp]
                  have s5 : ∀ k, ¬ (k = 21 ∨ k = 22 ∨ k = 24 ∨ k = 30 ∨ k = 32) → I5 248 k = I0 248 k := fun k hk => by rw [e5', pf_uis, if_neg (by omega), pf_uis, if_neg (by omega), s4 k hk]
                  have h21 : I5 248 21 = nI (S - D) := by rw [e5', pf_uis, if_neg (by omega), pf_uis, if_pos rfl]
                  have h22 : I5 248 22 = nI D := by rw [e5', pf_uis, if_pos rfl]
                  rw [← e5']
                  have mm := mD_congr m1 (s5 11 (by omega)) (s5 12 (by omega)) (r5 253 (by omega)) (r5 254 (by omega))
                  have hx2 : lxO (S - D) D bk := ⟨by omega, by omega, by omega, hx.2.2.2⟩
                  refine q_all hw mm g1 hx2 ⟨h21, h22, by rw [s5 23 (by omega)]; exact m2.2.2⟩ hww (mW_congr m3 (r5 257 (by omega)) (r5 258 (by omega)) (r5 259 (by omega))) ht (fun I6 J6 F r6 s6 j6 t6 e30 e32 f6 o6 _ => b2 (by decide) ?_) (fun I6 J6 r6 s6 j6 t6 e30 => b1 rfl ?_)
                  · rw [Tt] at t6
                    rw [Lt] at e32
                    have Lb := L20 _ _ t6
                    unfold w_X12_lax_113 w_X12_lax_127
                    rw [e32, s6 21 (by omega), s6 22 (by omega), h21, h22, nI_1]
                    rintro _ rfl _ rfl _ rfl
                    have rr : ∀ p, ¬ (p = 248 ∨ p = 260 ∨ p = 261 ∨ p = 263 ∨ p = 264) → I6 p = I0 p := fun p hp => by rw [r6 p hp, r5 p hp]
                    have ss : ∀ k, ¬ (k = 21 ∨ k = 22 ∨ k = 24 ∨ k = 30 ∨ k = 32) → I6 248 k = I0 248 k := fun k hk => by rw [s6 k (by omega), s5 k hk]
                    have jj : ∀ p, ¬ (p = 262 ∨ p = 265) → J6 p = J1 p := fun p hp => by rw [j6 p hp, j4 p hp]
                    by_cases l0 : L (S - D) D = 0
                    · rw [l0]
                      refine ih2 (D + 1) I6 J6 (S - D) D (by omega) (by omega) rr ss jj ((prd _).mpr (fun S2 D2 a1 a2 a3 a4 a5 a6 => ?_))
                      by_cases eq : 3 * S2 + D2 = 3 * S + D
                      · have e1 : S2 = S := by omega
                        have e2 : D2 = D := by omega
                        rw [e1, e2]; exact ⟨t6, l0⟩
                      · exact (prd _).mp hp4 S2 D2 a1 a2 a3 a4 a5 (by omega)
                    · cases fu2 with
                      | zero => omega
                      | succ fu3 =>
                        show w_X12_lax_51_s post (w_X12_lax_37_n post fu) (w_X12_lax_51_n post (w_X12_lax_37_n post fu) fu3) _ _ _ _ _ _ _ _ I6 J6
                        unfold w_X12_lax_51_s w_X12_lax_133
                        have nz : ¬ nI (L (S - D) D) = 0 := by rw [pf_eq0 (by omega)]; exact l0
                        have nx : ∀ v7 : Int32, v7 = nI S + 1 → w_X12_lax_37_n post fu (nI t) (nI h) (nI d) (nI (L (S - D) D)) (nI (S - D)) (nI D) v7 I6 J6 := by
                          rintro _ rfl
                          cases fu with
                          | zero => omega
                          | succ fu4 =>
                            show w_X12_lax_37_s post (w_X12_lax_37_n post fu4) _ _ _ _ _ _ _ I6 J6
                            unfold w_X12_lax_37_s
                            have tl := tail I6 J6 (nI (L (S - D) D)) (S - D) D rr ss jj ?_
                            · exact ⟨fun _ => tl, fun _ => b3 nz tl⟩
                            · rcases hr with ⟨hp18, _⟩ | ⟨S2, D2, a1, a2, a3, a4, a5, a6, a7⟩
                              · have := (prd _).mp hp18 S D (by omega) (by omega) (by omega) v1 v2 (by omega)
                                omega
                              · have : 3 * S2 + D2 = 3 * S + D := by
                                  rcases Nat.lt_trichotomy (3 * S2 + D2) (3 * S + D) with y | y | y
                                  · have := (prd _).mp hp4 S2 D2 a1 a2 a3 a4 a5 y
                                    rcases a7 with a7 | a7 <;> omega
                                  · exact y
                                  · have := (prd _).mp a6 S D (by omega) (by omega) (by omega) v1 v2 y
                                    omega
                                have e1 : S2 = S := by omega
                                have e2 : D2 = D := by omega
                                subst e1 e2
                                rcases a7 with a7 | ⟨b1', b2', b3', b4', b5', b6'⟩
                                · omega
                                · exact Or.inr (Or.inr ⟨_, b2', Lb, rfl, b3', b4', b5', b6'⟩)
                        exact ⟨fun _ => nx, fun _ => b3 nz nx⟩
                  · rw [Tt] at t6
                    unfold w_X12_lax_113 w_X12_lax_127
                    rw [s6 21 (by omega), s6 22 (by omega), h21, h22, nI_1]
                    rintro _ rfl _ rfl _ rfl
                    have rr : ∀ p, ¬ (p = 248 ∨ p = 260 ∨ p = 261 ∨ p = 263 ∨ p = 264) → I6 p = I0 p := fun p hp => by rw [r6 p hp, r5 p hp]
                    have ss : ∀ k, ¬ (k = 21 ∨ k = 22 ∨ k = 24 ∨ k = 30 ∨ k = 32) → I6 248 k = I0 248 k := fun k hk => by rw [s6 k (by omega), s5 k hk]
                    have jj : ∀ p, ¬ (p = 262 ∨ p = 265) → J6 p = J1 p := fun p hp => by rw [j6 p hp, j4 p hp]
                    cases fu2 with
                    | zero => omega
                    | succ fu3 =>
                      show w_X12_lax_51_s post (w_X12_lax_37_n post fu) (w_X12_lax_51_n post (w_X12_lax_37_n post fu) fu3) _ _ _ _ _ _ _ _ I6 J6
                      unfold w_X12_lax_51_s w_X12_lax_133
                      have nz : ¬ (-3 : Int32) = 0 := by decide
                      have nx : ∀ v7 : Int32, v7 = nI S + 1 → w_X12_lax_37_n post fu (nI t) (nI h) (nI d) (-3) (nI (S - D)) (nI D) v7 I6 J6 := by
                        rintro _ rfl
                        cases fu with
                        | zero => omega
                        | succ fu4 =>
                          show w_X12_lax_37_s post (w_X12_lax_37_n post fu4) _ _ _ _ _ _ _ I6 J6
                          unfold w_X12_lax_37_s
                          have tl := tail I6 J6 (-3) (S - D) D rr ss jj ?_
                          · exact ⟨fun _ => tl, fun _ => b3 nz tl⟩
                          · rcases hr with ⟨hp18, _⟩ | ⟨S2, D2, a1, a2, a3, a4, a5, a6, a7⟩
                            · have := (prd _).mp hp18 S D (by omega) (by omega) (by omega) v1 v2 (by omega)
                              omega
                            · have : 3 * S2 + D2 = 3 * S + D := by
                                rcases Nat.lt_trichotomy (3 * S2 + D2) (3 * S + D) with y | y | y
                                · have := (prd _).mp hp4 S2 D2 a1 a2 a3 a4 a5 y
                                  rcases a7 with a7 | a7 <;> omega
                                · exact y
                                · have := (prd _).mp a6 S D (by omega) (by omega) (by omega) v1 v2 y
                                  omega
                              have e1 : S2 = S := by omega
                              have e2 : D2 = D := by omega
                              subst e1 e2
                              rcases a7 with ⟨b1', b2', b3', b4'⟩ | a7
                              · exact Or.inr (Or.inl ⟨rfl, b2', b3', b4'⟩)
                              · omega
                      exact ⟨fun _ => nx, fun _ => b3 nz nx⟩
                · rintro _ rfl
                  refine ih2 (D + 1) I4 J4 x5 x6 (by omega) (by omega) r4 s4 j4 ((prd _).mpr (fun S2 D2 a1 a2 a3 a4 a5 a6 => ?_))
                  by_cases eq : 3 * S2 + D2 = 3 * S + D
                  · have e1 : S2 = S := by omega
                    have e2 : D2 = D := by omega
                    subst e1 e2
                    exact absurd (lx.mpr ⟨a4, a5⟩) p
                  · exact (prd _).mp hp4 S2 D2 a1 a2 a3 a4 a5 (by omega)
          exact ⟨4, inner 4 0 I3 J3 x5 x6 (by omega) (by omega) r3 s3 j3 hp⟩
    exact ⟨6, outer 6 1 I0 J1 0 0 (by omega) (by omega) (by omega) (fun _ _ => rfl) (fun _ _ => rfl) (fun _ _ => rfl) ((prd _).mpr (fun S2 D2 a1 a2 a3 a4 a5 a6 => by omega))⟩
  obtain ⟨post, ep⟩ : ∃ post : Int32 → sI → sJ → Prop, post = fun r I1 J1 => w_X12_lax (nI t) I1 J1 (fun r2 I2 J2 => r = r2 ∧ RR0 I2 J2) := ⟨_, rfl⟩
  rw [← ep]
  have outer : ∀ fu S (I3 : sI) (J3 : sJ), 1 ≤ S → S ≤ 6 → 6 - S < fu → (∀ p, ¬ (142 ≤ p ∧ p ≤ 223) → I3 p = I p) → (∀ p, ¬ (142 ≤ p ∧ p ≤ 223) → J3 p = J p) → pr (3 * S) → w_X11_lax_12_n post fu (nI t) (nI S) I3 J3 := by
    intro fu
    induction fu with
    | zero => intro S _ _ _ _ h; omega
    | succ fu ih =>
      intro S I3 J3 hS1 hS hfu r3 j3 hp
      show w_X11_lax_12_s post (w_X11_lax_12_n post fu) _ _ I3 J3
      unfold w_X11_lax_12_s
      rw [show (5 : Int32) = nI 5 from rfl, pf_lt (by omega) (by omega)]
      refine ⟨fun e => ?_, fun e => ?_⟩
      · rw [ep]
        exact model I3 J3 (-2) (fun p hp => r3 p (by omega)) (fun p hp => j3 p (by omega)) (Or.inl ⟨by rw [show 18 = 3 * S by omega]; exact hp, rfl, by rw [r3 134 (by omega)], j3 135 (by omega)⟩)
      · have inner : ∀ fu2 D (I4 : sI) (J4 : sJ), D ≤ 3 → 3 - D < fu2 → (∀ p, ¬ (142 ≤ p ∧ p ≤ 223) → I4 p = I p) → (∀ p, ¬ (142 ≤ p ∧ p ≤ 223) → J4 p = J p) → pr (3 * S + D) → w_X11_lax_19_n post (w_X11_lax_12_n post fu) fu2 (nI t) (nI S) (nI D) I4 J4 := by
          intro fu2
          induction fu2 with
          | zero => intro D _ _ _ h; omega
          | succ fu2 ih2 =>
            intro D I4 J4 hD hfu2 r4 j4 hp4
            show w_X11_lax_19_s post (w_X11_lax_12_n post fu) (w_X11_lax_19_n post (w_X11_lax_12_n post fu) fu2) _ _ _ I4 J4
            unfold w_X11_lax_19_s w_X11_lax_140
            rw [show (2 : Int32) = nI 2 from rfl, pf_lt (by omega) (by omega), nI_1, nI_1]
            refine ⟨fun e5 => ?_, fun e5 => ?_⟩
            · rintro _ rfl
              exact ih (S + 1) I4 J4 (by omega) (by omega) (by omega) r4 j4 (by rw [show 3 * (S + 1) = 3 * S + D by omega]; exact hp4)
            · rintro _ rfl
              have skip : ¬ (D < S ∧ S ≤ D + 3) → ∀ v : Int32, v = nI (D + 1) → w_X11_lax_19_n post (w_X11_lax_12_n post fu) fu2 (nI t) (nI S) v I4 J4 := by
                rintro no _ rfl
                refine ih2 (D + 1) I4 J4 (by omega) (by omega) r4 j4 ((prd _).mpr (fun S2 D2 a1 a2 a3 a4 a5 a6 => ?_))
                by_cases eq : 3 * S2 + D2 = 3 * S + D
                · have e1 : S2 = S := by omega
                  have e2 : D2 = D := by omega
                  subst e1 e2
                  exact absurd ⟨a4, a5⟩ no
                · exact (prd _).mp hp4 S2 D2 a1 a2 a3 a4 a5 (by omega)
              rw [lx_lt S (by omega) D (by omega)]
              refine ⟨fun y => skip (by omega), fun y => ?_⟩
              rw [pk_sub (by omega), show (3 : Int32) = nI 3 from rfl, pf_le (by omega) (by omega)]
              refine ⟨fun y2 => ?_, fun y2 => skip (by omega)⟩
              have hx2 : lxO (S - D) D bk := ⟨by omega, by omega, by omega, hx.2.2.2⟩
              have hq := dQ_O (t := t) hw hx2 hww ht
              obtain ⟨f0, f1, f2, f3⟩ := sRtg t ht
              rw [r4 3 (by omega), e3.2.2]
              refine q_wopen (q := dQ (S - D) D bk (nw t) (wl t) (wt t) s κ) rfl rfl ⟨hx2.1, hx2.2.1⟩ hx2.2.2.2 (fun I5 J5 r5 j5 cf5 wy5 => ?_)
              rw [pf_cl (by omega), f0]
              refine ⟨vp_in_nI (by omega) (by omega), ?_⟩
              have rr5 : ∀ p, ¬ (142 ≤ p ∧ p ≤ 223) → I5 p = I p := fun p hp => by rw [r5 p hp, r4 p hp]
              refine q_add hq (show 0 + G ≤ G by omega) (by decide) hw (cD_congr hc (rr5 4 (by omega)) (rr5 5 (by omega)) (rr5 6 (by omega)) (rr5 7 (by omega))) (fun g _ => dQ_gp g) ht (dQ_tg (cW_congr hww hcw (fun p p1 p2 => rr5 p (by omega))) ht) cf5 hx2.2.2.2 wy5 (fun I6 J6 r6 j6 cf6 wy6 => ?_)
              rw [Nat.zero_add] at wy6
              rw [wy6.1]
              refine q_run (mode := 0) (det := 0) (MS := ms_0) hq (Nat.le_refl _) g1 (by omega) (by omega) (tk_0 (Or.inl rfl)) (fun _ _ _ => trivial) cf6 wy6 (fun I7 J7 r7 j7 t7 e7 rd7 => ?_) (fun I7 J7 r7 j7 t7 e7 => ?_)
              · rw [Tt] at t7 e7
                have u1 := rd7.1
                rw [Lt] at u1
                have Lb := L20 _ _ t7
                have rr : ∀ p, ¬ (142 ≤ p ∧ p ≤ 223) → I7 p = I p := fun p hp => by rw [r7 p (by omega), r6 p hp, rr5 p hp]
                have jj : ∀ p, ¬ (142 ≤ p ∧ p ≤ 223) → J7 p = J p := fun p hp => by rw [j7 p (by omega), j6 p hp, j5 p hp, j4 p hp]
                refine q_many0 (n := T (S - D) D) (by omega) e7 (fun _ => b1 rfl ?_) (fun z => by omega)
                rw [u1, pf_le0 (by omega)]
                refine ⟨fun l0 => ?_, fun l0 => ?_⟩
                · rintro _ rfl
                  refine ih2 (D + 1) I7 J7 (by omega) (by omega) rr jj ((prd _).mpr (fun S2 D2 a1 a2 a3 a4 a5 a6 => ?_))
                  by_cases eq : 3 * S2 + D2 = 3 * S + D
                  · have e1 : S2 = S := by omega
                    have e2 : D2 = D := by omega
                    rw [e1, e2]; exact ⟨t7, l0⟩
                  · exact (prd _).mp hp4 S2 D2 a1 a2 a3 a4 a5 (by omega)
                · refine q_X6_tell2 ?_
                  rw [sUI_ne (by omega), sUI_ne (by omega), sUI_ne (by omega), u1, ep]
                  exact model _ _ _ (fun p hp => by rw [sUI_ne (by omega), sUI_ne (by omega), sUI_ne (by omega), rr p (by omega)]) (fun p hp => by funext x; rw [pf_uj, if_neg (by omega), pf_uj, if_neg (by omega), jj p (by omega)]) (Or.inr ⟨S, D, hS1, by omega, by omega, by omega, by omega, hp4, Or.inr ⟨t7, by omega, rfl, by rw [pf_uis, if_pos rfl], by rw [pf_ujs, if_neg (by omega), pf_ujs, if_pos rfl], by rw [pf_ujs, if_pos rfl]⟩⟩)
              · rw [Tt] at t7
                have rr : ∀ p, ¬ (142 ≤ p ∧ p ≤ 223) → I7 p = I p := fun p hp => by rw [r7 p (by omega), r6 p hp, rr5 p hp]
                have jj : ∀ p, ¬ (142 ≤ p ∧ p ≤ 223) → J7 p = J p := fun p hp => by rw [j7 p (by omega), j6 p hp, j5 p hp, j4 p hp]
                refine q_many0 (n := 20001) (by omega) e7 (fun z => by omega) (fun _ => b2 (by decide) ?_)
                rw [ep]
                exact model I7 J7 (-3) (fun p hp => rr p (by omega)) (fun p hp => jj p (by omega)) (Or.inr ⟨S, D, hS1, by omega, by omega, by omega, by omega, hp4, Or.inl ⟨t7, rfl, by rw [rr 134 (by omega)], jj 135 (by omega)⟩⟩)
        exact ⟨4, inner 4 0 I3 J3 (by omega) (by omega) r3 j3 hp⟩
  exact ⟨6, outer 6 1 I J (by omega) (by omega) (by omega) (fun _ _ => rfl) (fun _ _ => rfl) ((prd _).mpr (fun S2 D2 a1 a2 a3 a4 a5 a6 => by omega))⟩
