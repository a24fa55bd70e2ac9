theorem q_X6_take {I : sI} {J : sJ} {post : sI → sJ → Prop} {n : Nat} (e : I 136 1 = nI n) (hn : n ≤ 13) (h : ∀ (I2 : sI) (J2 : sJ), (∀ p, ¬ p = 134 → I2 p = I p) → I2 134 1 = nI n → (∀ p, ¬ p = 135 → J2 p = J p) → (∀ i, i < n → J2 135 i = J 137 i) → post I2 J2) : w_X6_take 134 136 I J post := by
  have z0 : sR 136 0 = 137 := by decide +kernel
  have loop : ∀ f i (I3 : sI) (J3 : sJ), i ≤ n → n - i < f → (∀ p, ¬ p = 134 → I3 p = I p) → I3 134 1 = nI i → (∀ p, ¬ p = 135 → J3 p = J p) → (∀ j, j < i → J3 135 j = J 137 j) → w_X6_take_7_n 134 136 post f (nI i) I3 J3 := by
    intro f
    induction f with
    | zero => intro i _ _ _ h; omega
    | succ f ih =>
      intro i I3 J3 hi hf r3 e3 j3 c3
      show w_X6_take_7_s 134 136 post (w_X6_take_7_n 134 136 post f) _ I3 J3
      unfold w_X6_take_7_s
      rw [z0, r3 136 (by omega), e, pf_le (by omega) (by omega), pf_cl (by omega), j3 137 (by omega)]
      refine ⟨fun z => ?_, fun z => ⟨vp_in_nI (by omega) (by omega), ?_⟩⟩
      · rw [show i = n by omega] at e3 c3
        exact h I3 J3 r3 e3 j3 c3
      · refine q_X6_put (by decide) e3 (by omega) ?_
        rw [nI_1]
        rintro _ rfl
        refine ih (i + 1) _ _ (by omega) (by omega) (fun p hp => by rw [sUI_ne hp, r3 p hp]) (by rw [pf_uis, if_pos rfl]) (fun p hp => by funext x; rw [pf_uj, if_neg (by omega), j3 p hp]) (fun j hj => ?_)
        rw [pf_ujs]
        by_cases z2 : j = i
        · rw [if_pos z2, z2]
        · rw [if_neg z2, c3 j (by omega)]
  unfold w_X6_take
  rintro _ rfl
  exact ⟨n + 1, loop (n + 1) 0 _ J (by omega) (by omega) (fun p hp => sUI_ne hp) (by rw [pf_uis, if_pos rfl]; rfl) (fun _ _ => rfl) (fun j hj => by omega)⟩
def tbS (nw L : Nat → Nat) : Nat → Nat × Nat
  | 0 => (0, 0)
  | t + 1 => if nw t = 0 then tbS nw L t else if (tbS nw L t).2 < L t then (t + 1, L t) else tbS nw L t
theorem tbS_0 {nw L : Nat → Nat} {t : Nat} (h : nw t = 0) : tbS nw L (t + 1) = tbS nw L t := by rw [tbS, if_pos h]
theorem tbS_y {nw L : Nat → Nat} {t : Nat} (h : ¬ nw t = 0) (g : (tbS nw L t).2 < L t) : tbS nw L (t + 1) = (t + 1, L t) := by rw [tbS, if_neg h, if_pos g]
theorem tbS_n {nw L : Nat → Nat} {t : Nat} (h : ¬ nw t = 0) (g : ¬ (tbS nw L t).2 < L t) : tbS nw L (t + 1) = tbS nw L t := by rw [tbS, if_neg h, if_neg g]
theorem tbS_b {nw L : Nat → Nat} : ∀ t, (tbS nw L t).1 ≤ t ∧ (((tbS nw L t).1 = 0 ∧ (tbS nw L t).2 = 0) ∨ (1 ≤ (tbS nw L t).1 ∧ ¬ nw ((tbS nw L t).1 - 1) = 0 ∧ (tbS nw L t).2 = L ((tbS nw L t).1 - 1)))
  | 0 => ⟨Nat.le_refl _, Or.inl ⟨rfl, rfl⟩⟩
  | t + 1 => by
    have ih := tbS_b (nw := nw) (L := L) t
    by_cases z : nw t = 0
    · rw [tbS_0 z]; exact ⟨by omega, ih.2⟩
    · by_cases g : (tbS nw L t).2 < L t
      · rw [tbS_y z g]; exact ⟨Nat.le_refl _, Or.inr ⟨by show 1 ≤ t + 1; omega, z, rfl⟩⟩
      · rw [tbS_n z g]; exact ⟨by omega, ih.2⟩
theorem cW_congr {nw : Nat → Nat} {wl : Nat → Nat → Nat} {wt : Nat → Nat → Nat → Nat} {I I2 : sI} (hW : tWW nw wl wt) (h : cW nw wl wt I) (r : ∀ p, 42 ≤ p → p ≤ 133 → I2 p = I p) : cW nw wl wt I2 := by
  intro t ht
  have n20 := (hW t ht).1
  obtain ⟨x1, x2⟩ := h t ht
  rw [r (42 + 23 * t) (by omega) (by omega), r (64 + 23 * t) (by omega) (by omega)]
  refine ⟨x1, fun w hw => ⟨(x2 w hw).1, fun i hi => ?_⟩⟩
  rw [r (44 + 23 * t + w) (by omega) (by omega)]
  exact (x2 w hw).2 i hi
theorem cD_congr {G P t : Nat} {s κ : Nat → Nat} {I I2 : sI} (h : cD G P s κ t I) (a : I2 t = I t) (b : I2 (t + 1) = I (t + 1)) (c : I2 (t + 2) = I (t + 2)) (d : I2 (t + 3) = I (t + 3)) : cD G P s κ t I2 := by
  unfold cD at *
  rw [a, b, c, d]
  exact h
theorem mW_congr {nw : Nat → Nat} {wl : Nat → Nat → Nat} {wt : Nat → Nat → Nat → Nat} {I I2 : sI} (h : mW nw wl wt I) (a : I2 257 = I 257) (b : I2 258 = I 258) (c : I2 259 = I 259) : mW nw wl wt I2 := by
  unfold mW at *
  rw [a, b, c]
  exact h
theorem S_tongues {I : sI} {J : sJ} (hR : RR0 I J) : St w_X11_tongues w_X12_tongues I J := by
  have hR0 := hR
  obtain ⟨hT, hD, hK, hW, hC, hQ, hX⟩ := hR
  obtain ⟨G, P, s, κ, h, d, bk, nw, wl, wt, hw, hx, hww, hc, hm, e3, e2, hcw, hmw⟩ := rd_get hD hW
  have hG := hw.1
  show w_X11_tongues I J _
  unfold w_X11_tongues
  rw [hc.1, pf_eq0 (by omega)]
  refine ⟨fun g0 => ?_, fun g0 => ?_⟩
  rotate_left
  · unfold w_X12_tongues
    rintro _ rfl
    rw [show (sUI I 248 0 0) 248 11 = nI G from hm.1, pf_eq0 (by omega)]
    exact b4 g0 ⟨rfl, (RT_congr hT rfl rfl rfl rfl), (RD_congr hD (fun q h1 h2 => by repeat rw [sUI_ne (by omega)]) rfl rfl rfl rfl rfl rfl rfl rfl rfl rfl rfl), (RK_congr hK (fun q h1 h2 => by repeat rw [sUI_ne (by omega)]) rfl rfl), (RW_congr hW (fun q h1 h2 => by repeat rw [sUI_ne (by omega)]) rfl rfl rfl), (RC_congr hC (fun q h1 h2 => by repeat rw [sUI_ne (by omega)]) rfl rfl rfl), (RR_congr hQ rfl rfl rfl rfl), (RX_congr hX rfl rfl rfl rfl rfl)⟩
  have g1 : 1 ≤ G := by omega
  obtain ⟨L, eL⟩ : ∃ L : Nat → Nat, L = fun t => (lev (chF (dQ h d bk (nw t) (wl t) (wt t) s κ)) G).length := ⟨_, rfl⟩
  obtain ⟨T, eT⟩ : ∃ T : Nat → Nat, T = fun t => tot (chF (dQ h d bk (nw t) (wl t) (wt t) s κ)) G := ⟨_, rfl⟩
  have Lt : ∀ t, (lev (chF (dQ h d bk (nw t) (wl t) (wt t) s κ)) G).length = L t := fun t => by rw [eL]
  have Tt : ∀ t, tot (chF (dQ h d bk (nw t) (wl t) (wt t) s κ)) G = T t := fun t => by rw [eT]
  obtain ⟨cv, ecv⟩ : ∃ cv : Nat → Int32, cv = fun t => if nw t = 0 then -1 else nI (L t) := ⟨_, rfl⟩
  have cv0 : ∀ t, nw t = 0 → cv t = -1 := fun t z => by rw [ecv]; exact if_pos z
  have cv1 : ∀ t, ¬ nw t = 0 → cv t = nI (L t) := fun t z => by rw [ecv]; exact if_neg z
  obtain ⟨bst, eb⟩ : ∃ bst : Nat → Int32, bst = fun t => if (tbS nw L t).1 = 0 then -2 else nI ((tbS nw L t).1 - 1) := ⟨_, rfl⟩
  have bst0 : ∀ t, (tbS nw L t).1 = 0 → bst t = -2 := fun t z => by rw [eb]; exact if_pos z
  have bst1 : ∀ t, ¬ (tbS nw L t).1 = 0 → bst t = nI ((tbS nw L t).1 - 1) := fun t z => by rw [eb]; exact if_neg z
  have L20 : ∀ t, T t ≤ 20000 → L t ≤ 20000 := fun t z => by rw [← Lt]; exact lev_len g1 (by rw [Tt]; exact z)
  have model : ∀ (I1 : sI) (J1 : sJ) (r : Int32), (∀ p, ¬ (p = 134 ∨ (136 ≤ p ∧ p ≤ 137) ∨ (142 ≤ p ∧ p ≤ 223)) → I1 p = I p) → (∀ p, ¬ (p = 135 ∨ p = 137 ∨ (142 ≤ p ∧ p ≤ 223)) → J1 p = J p) → ((∃ tb, tb < 4 ∧ ¬ nw tb = 0 ∧ 20000 < T tb ∧ (∀ t, t < tb → ¬ nw t = 0 → T t ≤ 20000) ∧ r = -3 ∧ I1 134 1 = I 134 1 ∧ J1 135 = J 135) ∨ ((∀ t, t < 4 → ¬ nw t = 0 → T t ≤ 20000) ∧ r = bst 4 ∧ I1 134 1 = nI 4 ∧ ∀ i, i < 4 → J1 135 i = (cv i).toInt64)) → w_X12_tongues I1 J1 (fun r2 I2 J2 => r = r2 ∧ RR0 I2 J2) := by
    intro I1 J1 r ra ja hr
    unfold w_X12_tongues
    rintro _ rfl
    obtain ⟨m1, m2, m3⟩ := mset hm e2 hmw (I1 := I1) (fun p hp => ra p (by omega))
    obtain ⟨I0, e0⟩ : ∃ I0, I0 = sUI I1 248 0 0 := ⟨_, rfl⟩
    rw [← e0] at m1 m2 m3 ⊢
    rw [m1.1, pf_eq0 (by omega)]
    refine b3 (by omega) ?_
    have r0 : ∀ p, ¬ p = 248 → I0 p = I1 p := fun p hp => by rw [e0, sUI_ne hp]
    have s0 : ∀ k, ¬ k = 0 → I0 248 k = I1 248 k := fun k hk => by rw [e0, pf_uis, if_neg hk]
    obtain ⟨post, ep⟩ : ∃ post : Int32 → sI → sJ → Prop, post = fun r2 I2 J2 => r = r2 ∧ RR0 I2 J2 := ⟨_, rfl⟩
    rw [← ep]
    have loop : ∀ fu t (I3 : sI) (J3 : sJ), t ≤ 4 → 4 - t < fu → (∀ p, ¬ (p = 248 ∨ p = 260 ∨ p = 261 ∨ p = 263 ∨ p = 264 ∨ p = 266) → I3 p = I0 p) → (∀ k, ¬ (k = 24 ∨ k = 30 ∨ k = 32) → I3 248 k = I0 248 k) → (∀ p, ¬ (p = 262 ∨ p = 265) → J3 p = J1 p) → (∀ i, i < t → I3 266 i = cv i) → (∀ i, i < t → ¬ nw i = 0 → T i ≤ 20000) → w_X12_tongues_19_n post fu (bst t) (nI t) I3 J3 := by
      intro fu
      induction fu with
      | zero => intro t _ _ _ h; omega
      | succ fu ih =>
        intro t I3 J3 ht hfu r3 s3 j3 c3 g3
        obtain ⟨tb1, tb2⟩ := tbS_b (nw := nw) (L := L) t
        show w_X12_tongues_19_s post (w_X12_tongues_19_n post fu) _ _ I3 J3
        unfold w_X12_tongues_19_s w_X12_tongues_82 w_X12_tongues_90 w_X12_tongues_91
        rw [show (4 : Int32) = nI 4 from rfl, pf_le (by omega) (by omega), pf_cl (by omega)]
        refine ⟨fun e => ?_, fun e => ⟨vp_in_nI (by omega) (by omega), ?_⟩⟩
        · have t4 : t = 4 := by omega
          subst t4
          rintro _ rfl
          rcases hr with ⟨tb, q1, q2, q3, _⟩ | ⟨_, hr, h134, hj⟩
          · have := g3 tb q1 q2; omega
          have out : ∀ fu2 i (I4 : sI) (J4 : sJ), i ≤ 4 → 4 - i < fu2 → (∀ p, ¬ p = 248 → I4 p = I3 p) → (∀ k, ¬ k = 1 → I4 248 k = I3 248 k) → I4 248 1 = nI i → (∀ p, ¬ p = 249 → J4 p = J3 p) → (∀ j, j < i → J4 249 j = (cv j).toInt64) → w_X12_tongues_104_n post fu2 (bst 4) (nI i) I4 J4 := by
            intro fu2
            induction fu2 with
            | zero => intro t _ _ _ h; omega
            | succ fu2 ih2 =>
              intro i I4 J4 hi hfu2 r4 s4 e4 j4 c4
              show w_X12_tongues_104_s post (w_X12_tongues_104_n post fu2) _ _ I4 J4
              unfold w_X12_tongues_104_s
              rw [show (4 : Int32) = nI 4 from rfl, pf_le (by omega) (by omega), pf_cl (by omega)]
              refine ⟨fun e5 => ?_, fun e5 => ⟨vp_in_nI (by omega) (by omega), ?_⟩⟩
              · rw [show i = 4 by omega] at e4 c4
                rw [ep]
                refine ⟨hr, fin_row hR0 ra (fun p hp => by rw [r4 p (by omega), r3 p (by omega), r0 p (by omega)]) (fun k hk => by rw [s4 k (by omega), s3 k (by omega), s0 k (by omega)]) ⟨4, by omega, by rw [r4 134 (by omega), r3 134 (by omega), r0 134 (by omega)]; exact h134, e4, fun j hj4 => ?_⟩⟩
                rw [j4 135 (by omega), j3 135 (by omega), hj j hj4, c4 j hj4]
              · rw [r4 266 (by omega), c3 i (by omega)]
                refine q_enters e4 (by omega) ?_
                rw [nI_1]
                rintro _ rfl
                refine ih2 (i + 1) _ _ (by omega) (by omega) (fun p hp => by rw [sUI_ne hp, r4 p hp]) (fun k hk => by rw [pf_uis, if_neg hk, s4 k hk]) (by rw [pf_uis, if_pos rfl]) (fun p hp => by funext x; rw [pf_uj, if_neg (by omega), j4 p hp]) (fun j hj => ?_)
                rw [pf_ujs]
                by_cases z2 : j = i
                · rw [if_pos z2, z2]
                · rw [if_neg z2, c4 j (by omega)]
          exact ⟨5, out 5 0 _ J3 (by omega) (by omega) (fun p hp => sUI_ne hp) (fun k hk => by rw [pf_uis, if_neg hk]) (by rw [pf_uis, if_pos rfl]; rfl) (fun _ _ => rfl) (fun j hj => by omega)⟩
        · rintro _ rfl
          have t4 : t < 4 := by omega
          have n20 := (hww t t4).1
          have r3' : ∀ p, ¬ (p = 248 ∨ p = 260 ∨ p = 261 ∨ p = 263 ∨ p = 264 ∨ p = 266) → (sUI I3 266 t (-1)) p = I0 p := fun p hp => by rw [sUI_ne (by omega), r3 p hp]
          have s3' : ∀ k, ¬ (k = 24 ∨ k = 30 ∨ k = 32) → (sUI I3 266 t (-1)) 248 k = I0 248 k := fun k hk => by rw [sUI_ne (by omega), s3 k hk]
          rw [r3' 257 (by omega), (m3 t t4).1, pf_eq0 (by omega)]
          refine ⟨vp_in_nI (by omega) (by omega), fun nz => ?_, fun nz => ?_⟩
          · have mm := mD_congr m1 (s3' 11 (by omega)) (s3' 12 (by omega)) (r3' 253 (by omega)) (r3' 254 (by omega))
            refine q_all hw mm g1 hx (by rw [s3' 21 (by omega), s3' 22 (by omega), s3' 23 (by omega)]; exact m2) hww (mW_congr m3 (r3' 257 (by omega)) (r3' 258 (by omega)) (r3' 259 (by omega))) t4 (fun I4 J4 F r4 s4 j4 t4' e30 e32 f4 o4 _ => b3 (by decide) ⟨vp_in_nI (by omega) (by omega), ?_⟩) (fun I4 J4 r4 s4 j4 t4' e30 => b4 rfl ?_)
            · rw [Tt] at t4'
              rw [Lt] at e32
              have Lb := L20 t t4'
              rw [e32]
              rintro _ rfl
              have nx : ∀ v : Int32, v = bst (t + 1) → ∀ v2 : Int32, v2 = nI t + 1 → w_X12_tongues_19_n post fu v v2 (sUI I4 266 t (nI (L t))) J4 := by
                rintro _ rfl _ rfl
                rw [nI_1]
                refine ih (t + 1) _ J4 (by omega) (by omega) (fun p hp => by rw [sUI_ne (by omega), r4 p (by omega), r3' p hp]) (fun k hk => by rw [sUI_ne (by omega), s4 k hk, s3' k hk]) (fun p hp => by rw [j4 p hp, j3 p hp]) (fun i hi => ?_) (fun i hi nzi => ?_)
                · rw [pf_uis]
                  by_cases z : i = t
                  · rw [if_pos z, z, cv1 t nz]
                  · rw [if_neg z, r4 266 (by omega), pf_uis, if_neg z, c3 i (by omega)]
                · by_cases z : i = t
                  · rw [z]; exact t4'
                  · exact g3 i (by omega) nzi
              have cmp : ∀ m, m = (tbS nw L t).2 → m ≤ 20000 → (nI (L t) ≤ nI m → ∀ v2 : Int32, v2 = nI t + 1 → w_X12_tongues_19_n post fu (bst t) v2 (sUI I4 266 t (nI (L t))) J4) ∧ (¬ nI (L t) ≤ nI m → ∀ v2 : Int32, v2 = nI t + 1 → w_X12_tongues_19_n post fu (nI t) v2 (sUI I4 266 t (nI (L t))) J4) := by
                rintro m rfl mB
                rw [pf_le (by omega) (by omega)]
                refine ⟨fun z => nx _ ?_, fun z => nx _ ?_⟩
                · have g : ¬ (tbS nw L t).2 < L t := by omega
                  by_cases w0 : (tbS nw L t).1 = 0
                  · rw [bst0 t w0, bst0 (t + 1) (by rw [tbS_n nz g]; exact w0)]
                  · rw [bst1 t w0, bst1 (t + 1) (by rw [tbS_n nz g]; exact w0), tbS_n nz g]
                · have g : (tbS nw L t).2 < L t := by omega
                  rw [bst1 (t + 1) (by rw [tbS_y nz g]; show ¬ t + 1 = 0; omega), tbS_y nz g]; rfl
              rcases tb2 with ⟨w0, w1⟩ | ⟨w0, w1, w2⟩
              · rw [bst0 t w0]
                refine b2 (by decide) ?_
                have := cmp 0 w1.symm (by omega)
                rw [bst0 t w0, sUI_ne (by omega), e32] at *
                exact this
              · rw [bst1 t (by omega)]
                refine b1 (pf_ge0 (by omega)) ⟨vp_in_nI (by omega) (by omega), ?_⟩
                rw [pf_cl (by omega), pf_uis, if_neg (by omega), r4 266 (by omega), pf_uis, if_neg (by omega), c3 _ (by omega), cv1 _ w1, ← w2]
                have := cmp _ rfl (by rw [w2]; exact L20 _ (g3 _ (by omega) w1))
                rw [bst1 t (by omega), sUI_ne (by omega), e32] at *
                exact this
            · rw [Tt] at t4'
              rw [ep]
              rcases hr with ⟨tb, q1, q2, q3, q4, hr, h134, hj⟩ | ⟨c, _⟩
              · exact ⟨hr, fin_all hR0 ra h134 hj (ja 249 (by omega)) (fun p hp => by rw [r4 p (by omega), r3' p (by omega), r0 p (by omega)]) (fun k hk => by rw [s4 k (by omega), s3' k (by omega), s0 k (by omega)]) (fun p hp => by rw [j4 p hp, j3 p hp])⟩
              · have := c t t4 nz; omega
          · rw [nI_1]
            rintro _ rfl
            have eb2 : bst t = bst (t + 1) := by
              by_cases w0 : (tbS nw L t).1 = 0
              · rw [bst0 t w0, bst0 (t + 1) (by rw [tbS_0 nz]; exact w0)]
              · rw [bst1 t w0, bst1 (t + 1) (by rw [tbS_0 nz]; exact w0), tbS_0 nz]
            rw [eb2]
            refine ih (t + 1) _ J3 (by omega) (by omega) r3' s3' j3 (fun i hi => ?_) (fun i hi nzi => ?_)
            · rw [pf_uis]
              by_cases z : i = t
              · rw [if_pos z, z, cv0 t nz]
              · rw [if_neg z, c3 i (by omega)]
            · by_cases z : i = t
              · rw [z] at nzi; exact absurd nz nzi
              · exact g3 i (by omega) nzi
    have := loop 5 0 I0 J1 (by omega) (by omega) (fun _ _ => rfl) (fun _ _ => rfl) (fun _ _ => rfl) (fun i hi => by omega) (fun i hi => by omega)
    rw [bst0 0 rfl] at this
    exact ⟨5, this⟩
  rintro _ rfl
  obtain ⟨post, ep⟩ : ∃ post : Int32 → sI → sJ → Prop, post = fun r I1 J1 => w_X12_tongues I1 J1 (fun r2 I2 J2 => r = r2 ∧ RR0 I2 J2) := ⟨_, rfl⟩
  rw [← ep]
  have loop : ∀ fu t (I3 : sI) (J3 : sJ), t ≤ 4 → 4 - t < fu → (∀ p, ¬ (p = 136 ∨ (142 ≤ p ∧ p ≤ 223)) → I3 p = I p) → I3 136 1 = nI t → (∀ p, ¬ (p = 137 ∨ (142 ≤ p ∧ p ≤ 223)) → J3 p = J p) → (∀ i, i < t → J3 137 i = (cv i).toInt64) → (∀ i, i < t → ¬ nw i = 0 → T i ≤ 20000) → w_X11_tongues_30_n post fu (bst t) (nI (tbS nw L t).2) (nI t) I3 J3 := by
    intro fu
    induction fu with
    | zero => intro t _ _ _ h; omega
    | succ fu ih =>
      intro t I3 J3 ht hfu r3 e136 j3 c3 g3
      obtain ⟨tb1, tb2⟩ := tbS_b (nw := nw) (L := L) t
      show w_X11_tongues_30_s post (w_X11_tongues_30_n post fu) _ _ _ I3 J3
      unfold w_X11_tongues_30_s w_X11_tongues_123
      rw [show (4 : Int32) = nI 4 from rfl, pf_le (by omega) (by omega), pf_cl (by omega)]
      refine ⟨fun e => ?_, fun e => ⟨vp_in_nI (by omega) (by omega), ?_⟩⟩
      · have t4 : t = 4 := by omega
        subst t4
        refine q_X6_take e136 (by omega) (fun I4 J4 r4 e4 j4 c4 => ?_)
        rw [ep]
        exact model I4 J4 _ (fun p hp => by rw [r4 p (by omega), r3 p (by omega)]) (fun p hp => by rw [j4 p (by omega), j3 p (by omega)]) (Or.inr ⟨g3, rfl, e4, fun i hi => by rw [c4 i hi, c3 i hi]⟩)
      · have t4 : t < 4 := by omega
        have n20 := (hww t t4).1
        obtain ⟨f0, _⟩ := sRtg t t4
        rw [f0, r3 (42 + 23 * t) (by omega), (hcw t t4).1, pf_eq0 (by omega)]
        refine ⟨fun nz => ?_, fun nz => ?_⟩
        · refine q_read (mode := 0) (det := 0) (MS := ms_0) (by decide) hw (cD_congr hc (r3 4 (by omega)) (r3 5 (by omega)) (r3 6 (by omega)) (r3 7 (by omega))) g1 hx (by rw [r3 3 (by omega)]; exact e3) hww (cW_congr hww hcw (fun p p1 p2 => r3 p (by omega))) t4 (by omega) (by omega) (tk_0 (Or.inl rfl)) (fun _ _ _ => trivial) (fun I4 J4 r4 j4 t4' e30 rd4 => ?_) (fun I4 J4 r4 j4 t4' e30 => ?_)
          · rw [Tt] at t4' e30
            have u1 := rd4.1
            rw [Lt] at u1
            have Lb := L20 t t4'
            refine q_many0 (n := T t) (by omega) e30 (fun _ => b1 rfl ?_) (fun z => by omega)
            rw [u1]
            refine q_X6_put (by decide) (by rw [r4 136 (by omega)]; exact e136) (by omega) ?_
            rw [sUI_ne (by omega), u1, nI_1]
            have mB : (tbS nw L t).2 ≤ 20000 := by
              rcases tb2 with ⟨w0, w1⟩ | ⟨w0, w1, w2⟩
              · omega
              · rw [w2]; exact L20 _ (g3 _ (by omega) w1)
            rw [pf_le (by omega) (by omega)]
            have nx : ∀ v : Int32, v = bst (t + 1) → ∀ m, m = (tbS nw L (t + 1)).2 → ∀ v2 : Int32, v2 = nI (t + 1) → w_X11_tongues_30_n post fu v (nI m) v2 (sUI I4 136 1 (nI (t + 1))) (sUJ J4 137 t (nI (L t)).toInt64) := by
              rintro _ rfl _ rfl _ rfl
              refine ih (t + 1) _ _ (by omega) (by omega) (fun p hp => by rw [sUI_ne (by omega), r4 p (by omega), r3 p hp]) (by rw [pf_uis, if_pos rfl]) (fun p hp => by funext x; rw [pf_uj, if_neg (by omega), j4 p (by omega), j3 p hp]) (fun i hi => ?_) (fun i hi nzi => ?_)
              · rw [pf_ujs]
                by_cases z : i = t
                · rw [if_pos z, z, cv1 t nz]
                · rw [if_neg z, j4 137 (by omega), c3 i (by omega)]
              · by_cases z : i = t
                · rw [z]; exact t4'
                · exact g3 i (by omega) nzi
            refine ⟨fun z => ?_, fun z => ?_⟩
            · have g : ¬ (tbS nw L t).2 < L t := by omega
              refine nx _ ?_ _ (by rw [tbS_n nz g])
              by_cases w0 : (tbS nw L t).1 = 0
              · rw [bst0 t w0, bst0 (t + 1) (by rw [tbS_n nz g]; exact w0)]
              · rw [bst1 t w0, bst1 (t + 1) (by rw [tbS_n nz g]; exact w0), tbS_n nz g]
            · have g : (tbS nw L t).2 < L t := by omega
              rintro _ rfl
              refine nx _ ?_ _ (by rw [tbS_y nz g])
              rw [bst1 (t + 1) (by rw [tbS_y nz g]; show ¬ t + 1 = 0; omega), tbS_y nz g]; rfl
          · rw [Tt] at t4'
            refine q_many0 (n := 20001) (by omega) e30 (fun z => by omega) (fun _ => b2 (by decide) ?_)
            rw [ep]
            exact model I4 J4 (-3) (fun p hp => by rw [r4 p (by omega), r3 p (by omega)]) (fun p hp => by rw [j4 p (by omega), j3 p (by omega)]) (Or.inl ⟨t, t4, nz, t4', g3, rfl, by rw [r4 134 (by omega), r3 134 (by omega)], by rw [j4 135 (by omega), j3 135 (by omega)]⟩)
        · refine q_X6_put (by decide) e136 (by omega) ?_
          rw [nI_1]
          rintro _ rfl
          have eb2 : bst t = bst (t + 1) := by
            by_cases w0 : (tbS nw L t).1 = 0
            · rw [bst0 t w0, bst0 (t + 1) (by rw [tbS_0 nz]; exact w0)]
            · rw [bst1 t w0, bst1 (t + 1) (by rw [tbS_0 nz]; exact w0), tbS_0 nz]
          have nx := ih (t + 1) (sUI I3 136 1 (nI (t + 1))) (sUJ J3 (136 + 1) t (-1)) (by omega) (by omega) (fun p hp => by rw [sUI_ne (by omega), r3 p hp]) (by rw [pf_uis, if_pos rfl]) (fun p hp => by funext x; rw [pf_uj, if_neg (by omega), j3 p hp]) (fun i hi => ?_) (fun i hi nzi => ?_)
          · rw [← eb2, tbS_0 nz] at nx
            exact nx
          · rw [pf_ujs]
            by_cases z : i = t
            · rw [if_pos z, z, cv0 t nz]; decide
            · rw [if_neg z, c3 i (by omega)]
          · by_cases z : i = t
            · rw [z] at nzi; exact absurd nz nzi
            · exact g3 i (by omega) nzi
  have := loop 5 0 (sUI I 136 1 0) J (by omega) (by omega) (fun p hp => sUI_ne (by omega)) (by rw [pf_uis, if_pos rfl]; rfl) (fun _ _ => rfl) (fun i hi => by omega) (fun i hi => by omega)
  rw [bst0 0 rfl] at this
  exact ⟨5, this⟩
