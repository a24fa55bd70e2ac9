theorem dr_v (r : Int32) : ∃ V, V < 65536 ∧ (r.toUInt32 >>> (Int32.toUInt32 16 &&& Int32.toUInt32 31)).toInt32 = nI V := by
  refine ⟨(r.toUInt32 >>> (Int32.toUInt32 16 &&& Int32.toUInt32 31)).toNat, ?_, ?_⟩
  · rw [show (Int32.toUInt32 16 &&& Int32.toUInt32 31) = (16 : UInt32) by decide, UInt32.toNat_shiftRight, Nat.shiftRight_eq_div_pow]
    have := r.toUInt32.toNat_lt
    show r.toUInt32.toNat / 2 ^ ((16 : UInt32).toNat % 32) < 65536
    rw [show (16 : UInt32).toNat % 32 = 16 by decide]
    omega
  · apply Int32.toBitVec_inj.mp
    show (r.toUInt32 >>> (Int32.toUInt32 16 &&& Int32.toUInt32 31)).toBitVec = BitVec.ofNat 32 (r.toUInt32 >>> (Int32.toUInt32 16 &&& Int32.toUInt32 31)).toNat
    exact (BitVec.ofNat_toNat 32 _).symm.trans rfl |>.symm ▸ rfl
def rnN (r : Int32) : Int32 := r * 1103515245 + 12345
noncomputable def djV (r : Int32) : Nat := Classical.choose (dr_v r)
theorem dj_s (r : Int32) : djV r < 65536 ∧ (r.toUInt32 >>> (Int32.toUInt32 16 &&& Int32.toUInt32 31)).toInt32 = nI (djV r) := Classical.choose_spec (dr_v r)
theorem q_draw {I : sI} {J : sJ} {post : Int32 → sI → sJ → Prop} {k : Nat} {r : Int32} (hk : k ≤ 60) (er : I 0 15 = r) (h : post (nI (djV (rnN r) % (k + 2))) (sUI I 0 15 (rnN r)) J) : w_X11_draw (nI (k + 2)) I J post := by
  unfold w_X11_draw
  rw [er]
  rintro _ rfl
  obtain ⟨d1, d2⟩ := dj_s (rnN r)
  have e6 : (sUI I 0 15 (r * 1103515245 + 12345)) 0 15 = rnN r := by rw [pf_uis, if_pos rfl]; rfl
  refine b2 (by rw [pf_le0 (by omega)]; omega) ⟨by rw [pf_eq0 (by omega)]; omega, ?_⟩
  rw [e6, d2, pk_rem (by omega) (by omega) (by omega)]
  exact h
theorem q_draws {I : sI} {J : sJ} {post : Int32 → sI → sJ → Prop} {k : Nat} {r : Int32} (hk : k ≤ 160) (er : I 248 37 = r) (h : post (nI (djV (rnN r) % (k + 2))) (sUI I 248 37 (rnN r)) J) : w_X12_draws (nI (k + 2)) I J post := by
  unfold w_X12_draws
  rw [er]
  rintro _ rfl
  obtain ⟨d1, d2⟩ := dj_s (rnN r)
  have e6 : (sUI I 248 37 (r * 1103515245 + 12345)) 248 37 = rnN r := by rw [pf_uis, if_pos rfl]; rfl
  refine ⟨by rw [pf_eq0 (by omega)]; omega, ?_⟩
  rw [e6, d2, pk_rem (by omega) (by omega) (by omega)]
  exact h
/-- a text mixed from place i down -/
noncomputable def shS : Nat → Int32 → (Nat → Nat) → Int32 × (Nat → Nat)
  | 0, r, κ => (r, κ)
  | i + 1, r, κ => shS i (rnN r) (swp2 κ (i + 1) (djV (rnN r) % (i + 2)))
theorem sh_le {P : Nat} : ∀ {i r κ}, i < P → (∀ p, p < P → κ p ≤ 12) → ∀ p, p < P → (shS i r κ).2 p ≤ 12
  | 0, _, _, _, h => h
  | i + 1, r, κ, hi, h => by
    rw [shS]
    refine sh_le (by omega) (fun p hp => ?_)
    have : djV (rnN r) % (i + 2) < i + 2 := Nat.mod_lt _ (by omega)
    by_cases e1 : p = i + 1
    · rw [e1, sw_a]; exact h _ (by omega)
    · by_cases e2 : p = djV (rnN r) % (i + 2)
      · rw [e2, sw_b]; exact h _ hi
      · rw [sw_o e1 e2]; exact h p hp
theorem sh_tWD {G P : Nat} {s κ : Nat → Nat} {r : Int32} (hw : tWD G P s κ) (hP : 1 ≤ P) : tWD G P s (shS (P - 1) r κ).2 := ⟨hw.1, hw.2.1, hw.2.2.1, hw.2.2.2.1, hw.2.2.2.2.1, sh_le (by omega) hw.2.2.2.2.2⟩
theorem q_shuffle {I : sI} {J : sJ} {post : sI → sJ → Prop} {G P : Nat} {s κ : Nat → Nat} {r : Int32} (hw : tWD G P s κ) (hP1 : 1 ≤ P) (hc : cD G P s κ 138 I) (er : I 0 15 = r) (h : ∀ I2 : sI, (∀ q, ¬ (q = 0 ∨ q = 139) → I2 q = I q) → (∀ k, ¬ k = 15 → I2 0 k = I 0 k) → I2 0 15 = (shS (P - 1) r κ).1 → cD G P s (shS (P - 1) r κ).2 138 I2 → post I2 J) : w_X11_shuffle 138 I J post := by
  have hP := hw.2.1
  have e5 := (sRdisc 138 (by decide)).1
  unfold w_X11_shuffle
  rw [hc.2.1, nI_p hP1]
  rintro _ rfl
  have loop : ∀ f i r3 κ3 (I3 : sI), i < P → i < f → (∀ q, ¬ (q = 0 ∨ q = 139) → I3 q = I q) → (∀ k, ¬ k = 15 → I3 0 k = I 0 k) → I3 0 15 = r3 → (∀ p, p < P → I3 139 p = nI (κ3 p)) → shS i r3 κ3 = shS (P - 1) r κ → w_X11_shuffle_7_n 138 post f (nI i) I3 J := by
    intro f
    induction f with
    | zero => intro i _ _ _ _ h; omega
    | succ f ih =>
      intro i r3 κ3 I3 hi hf r4 s4 e4 c4 es
      show w_X11_shuffle_7_s 138 post (w_X11_shuffle_7_n 138 post f) (nI i) I3 J
      unfold w_X11_shuffle_7_s
      have lt1 : nI i < 1 ↔ i < 1 := by show nI i < nI 1 ↔ _; exact pf_lt (by omega) (by omega)
      rw [lt1, e5]
      refine ⟨fun z => ?_, fun z => ?_⟩
      · have i0 : i = 0 := by omega
        subst i0
        rw [shS] at es
        refine h I3 r4 s4 (by rw [← es]; exact e4) ⟨by rw [r4 138 (by omega)]; exact hc.1, by rw [r4 138 (by omega)]; exact hc.2.1, fun g hg => by rw [r4 (138 + 3) (by omega)]; exact hc.2.2.1 g hg, fun p hp => by rw [← es]; exact c4 p hp, fun g p a1 a2 a3 => by rw [r4 (138 + 2) (by omega)]; exact hc.2.2.2.2 g p a1 a2 a3⟩
      · obtain ⟨k, ek⟩ : ∃ k, i = k + 1 := ⟨i - 1, by omega⟩
        subst ek
        rw [shS] at es
        have jl : djV (rnN r3) % (k + 2) < k + 2 := Nat.mod_lt _ (by omega)
        rw [nI_1]
        refine q_draw (k := k) (by omega) e4 ?_
        have e6 : (sUI I3 0 15 (rnN r3)) 0 15 = rnN r3 := by rw [pf_uis, if_pos rfl]
        rw [pf_cl (by omega), pf_cl (by omega), sUI_ne (by omega), c4 _ hi, c4 _ (by omega)]
        refine ⟨vp_in_nI (by omega) (by omega), ?_⟩
        rintro _ rfl
        refine ⟨vp_in_nI (by omega) (by omega), vp_in_nI (by omega) (by omega), ?_⟩
        rintro _ rfl
        refine ⟨vp_in_nI (by omega) (by omega), ?_⟩
        rintro _ rfl
        rw [nI_m (by omega), Nat.add_sub_cancel]
        rintro _ rfl
        refine ih k (rnN r3) _ _ (by omega) (by omega) (fun q hq => by rw [sUI_ne (by omega), sUI_ne (by omega), sUI_ne (by omega), r4 q hq]) (fun j hj => by rw [sUI_ne (by omega), sUI_ne (by omega), pf_uis, if_neg hj, s4 j hj]) (by rw [sUI_ne (by omega), sUI_ne (by omega)]; exact e6) (fun p hp => ?_) es
        rw [pf_uis, pf_uis, sUI_ne (by omega), c4 p hp]
        by_cases z1 : p = djV (rnN r3) % (k + 2)
        · rw [if_pos z1, z1, sw_b]
        · rw [if_neg z1]
          by_cases z2 : p = k + 1
          · rw [if_pos z2, z2, sw_a]
          · rw [if_neg z2, sw_o z2 z1]
  exact ⟨P, loop P (P - 1) r κ I (by omega) (by omega) (fun _ _ => rfl) (fun _ _ => rfl) er hc.2.2.2.1 rfl⟩
noncomputable def rKk (P : Nat) (κ : Nat → Nat) (r : Int32) : Nat → Int32
  | 0 => r
  | k + 1 => (shS (P - 1) (rKk P κ r k) κ).1
theorem S_chance {I : sI} {J : sJ} (a1 a2 : Int32) (hR : RR0 I J) : St (w_X11_chance a1 a2) (w_X12_chance a1 a2) I J := by
  have hR0 := hR
  obtain ⟨hT, hD, hK, hW, hC, hQ, hX⟩ := hR
  obtain ⟨G, P, s, κ, h, d, bk, nw, wl, wt, hw, hx, hww, hc, hm, e3, e2, hcw, hmw⟩ := rd_get hD hW
  have hG := hw.1
  have hP := hw.2.1
  have refuse : ¬ ((Ix a1 4 ∧ 1 ≤ G) ∧ (1 ≤ a2 ∧ a2 ≤ 12)) → w_X12_chance a1 a2 I J (fun r2 I2 J2 => -1 = r2 ∧ RR0 I2 J2) := by
    intro z
    have fin : RR0 (sUI I 248 0 0) J := ⟨(RT_congr hT rfl rfl rfl rfl), (RD_congr hD (fun q h1 h2 => by repeat rw [sUI_ne (by omega)]) rfl rfl rfl rfl rfl rfl rfl rfl rfl rfl rfl), (RK_congr hK (fun q h1 h2 => by repeat rw [sUI_ne (by omega)]) rfl rfl), (RW_congr hW (fun q h1 h2 => by repeat rw [sUI_ne (by omega)]) rfl rfl rfl), (RC_congr hC (fun q h1 h2 => by repeat rw [sUI_ne (by omega)]) rfl rfl rfl), (RR_congr hQ rfl rfl rfl rfl), (RX_congr hX rfl rfl rfl rfl rfl)⟩
    unfold w_X12_chance
    rintro _ rfl
    refine q_isAsked hG hm.1 (fun a b => b2 (by decide) ?_) (fun _ => b1 rfl ⟨rfl, fin⟩)
    exact q_in (lo := 1) (hi := 12) (by decide) (by decide) (fun p => absurd ⟨⟨a, b⟩, p⟩ z) (fun _ => b4 rfl ⟨rfl, fin⟩)
  show w_X11_chance a1 a2 I J _
  unfold w_X11_chance
  refine q_cannotR hG hc.1 (fun z g1 => b4 rfl ?_) (fun z => b3 (by decide) (refuse (fun q => z q.1)))
  refine ⟨fun y => refuse (fun q => absurd y (Int32.not_lt.mpr q.2.1)), fun y0 => ⟨fun y1 => ?_, fun y => refuse (fun q => y q.2.2)⟩⟩
  have p1 : 1 ≤ a2 ∧ a2 ≤ 12 := ⟨Int32.not_lt.mp y0, y1⟩
  have p0 : (0 : Int32) ≤ a2 := by
    have := p1.1
    rw [pf_leInt] at this ⊢
    have : (1 : Int32).toInt = 1 := by decide
    have : (0 : Int32).toInt = 0 := by decide
    omega
  obtain ⟨n, hn, rfl⟩ := ix_of (N := 12) (by omega) p0 p1.2
  have n1 : 1 ≤ n := by
    have := p1.1
    rw [show (1 : Int32) = nI 1 from rfl, pf_le (by omega) (by omega)] at this
    exact this
  obtain ⟨t, ht, rfl⟩ := z
  have P1 : 1 ≤ P := by
    have a := (hw.2.2.2.2.1 0 (by omega)).1
    have b := s_le hw (show 0 + 1 ≤ G by omega)
    omega
  obtain ⟨rr, err⟩ : ∃ rr : Nat → Int32, rr = rKk P κ (I 0 15) := ⟨_, rfl⟩
  have rr0 : rr 0 = I 0 15 := by rw [err]; rfl
  have rrs : ∀ k, rr (k + 1) = (shS (P - 1) (rr k) κ).1 := fun k => by rw [err]; rfl
  obtain ⟨kk, ekk⟩ : ∃ kk : Nat → Nat → Nat, kk = fun k => (shS (P - 1) (rr k) κ).2 := ⟨_, rfl⟩
  have kks : ∀ k, (shS (P - 1) (rr k) κ).2 = kk k := fun k => by rw [ekk]
  have wk : ∀ k, tWD G P s (kk k) := fun k => by rw [← kks]; exact sh_tWD hw P1
  obtain ⟨L, eL⟩ : ∃ L : Nat → Nat, L = fun k => (lev (chF (dQ h d bk (nw t) (wl t) (wt t) s (kk k))) G).length := ⟨_, rfl⟩
  obtain ⟨T, eT⟩ : ∃ T : Nat → Nat, T = fun k => tot (chF (dQ h d bk (nw t) (wl t) (wt t) s (kk k))) G := ⟨_, rfl⟩
  have Lt : ∀ k, (lev (chF (dQ h d bk (nw t) (wl t) (wt t) s (kk k))) G).length = L k := fun t => by rw [eL]
  have Tt : ∀ k, tot (chF (dQ h d bk (nw t) (wl t) (wt t) s (kk k))) G = T k := fun t => by rw [eT]
  have L20 : ∀ k, T k ≤ 20000 → L k ≤ 20000 := fun k z => by rw [← Lt]; exact lev_len g1 (by rw [Tt]; exact z)
  have model : ∀ (I1 : sI) (J1 : sJ) (r : Int32), (∀ p, ¬ (p = 0 ∨ p = 134 ∨ (136 ≤ p ∧ p ≤ 223)) → I1 p = I p) → I1 0 16 = I 0 16 → I1 141 0 = 0 → (∀ p, ¬ (p = 135 ∨ p = 137 ∨ (142 ≤ p ∧ p ≤ 223)) → J1 p = J p) → ((∃ k, k < n ∧ 20000 < T k ∧ (∀ m, m < k → T m ≤ 20000) ∧ r = -3 ∧ I1 0 15 = I 0 15 ∧ I1 134 1 = I 134 1 ∧ J1 135 = J 135) ∨ ((∀ m, m < n → T m ≤ 20000) ∧ r = nI (cnt (fun k => 0 < L k) n) ∧ I1 0 15 = rr n ∧ I1 134 1 = nI n ∧ ∀ i, i < n → J1 135 i = (nI (L i)).toInt64)) → w_X12_chance (nI t) (nI n) I1 J1 (fun r2 I2 J2 => r = r2 ∧ RR0 I2 J2) := by
    intro I1 J1 r ra r16 r141 ja hr
    unfold w_X12_chance
    rintro _ rfl
    obtain ⟨m1, m2, m3⟩ := mset hm e2 hmw (I1 := I1) (fun p hp => ra p (by omega))
    obtain ⟨I0, e0⟩ : ∃ I0, I0 = sUI I1 248 0 0 := ⟨_, rfl⟩
    rw [← e0] at m1 m2 m3 ⊢
    have r0 : ∀ p, ¬ p = 248 → I0 p = I1 p := fun p hp => by rw [e0, sUI_ne hp]
    have s0 : ∀ k, ¬ k = 0 → I0 248 k = I1 248 k := fun k hk => by rw [e0, pf_uis, if_neg hk]
    have h37 : I0 248 37 = I 0 15 := by rw [s0 37 (by omega), ra 248 (by omega)]; exact hX.1.symm
    refine q_isAsked hG m1.1 (fun _ _ => b2 (by decide) ?_) (fun q => absurd ⟨⟨t, ht, rfl⟩, g1⟩ q)
    refine q_in (lo := 1) (hi := 12) (by decide) (by decide) (fun _ => b3 (by decide) ?_) (fun q => absurd p1 q)
    rw [h37]
    rintro _ rfl
    obtain ⟨post, ep⟩ : ∃ post : Int32 → sI → sJ → Prop, post = fun r2 I2 J2 => r = r2 ∧ RR0 I2 J2 := ⟨_, rfl⟩
    rw [← ep]
    -- what the end needs
    have finX : ∀ (I2 : sI) (J2 : sJ), (∀ p, ¬ (p = 248 ∨ (260 ≤ p ∧ p ≤ 269)) → I2 p = I0 p) → (∀ k, ¬ (k = 0 ∨ k = 1 ∨ k = 24 ∨ k = 30 ∨ k = 37) → I2 248 k = I0 248 k) → I1 0 15 = I2 248 37 → RR I2 J2 → RR0 I2 J2 := by
      intro I2 J2 r2 s2 h15 hq
      refine fin_gen hR0 (fun q hq => by rw [r2 q (by omega), r0 q (by omega), ra q (by omega)]) (fun k hk => by rw [s2 k (by omega), s0 k (by omega), ra 248 (by omega)]) hq (RX_mk ?_ ?_ ?_)
      · rw [r2 0 (by omega), r0 0 (by omega)]; exact h15
      · rw [r2 0 (by omega), r0 0 (by omega), r16, s2 33 (by omega), s0 33 (by omega), ra 248 (by omega)]; exact hX.2.1
      · rw [r2 141 (by omega), r0 141 (by omega)]; exact r141
    have loop : ∀ fu k (I3 : sI) (J3 : sJ), k ≤ n → n - k < fu → (∀ p, ¬ (p = 248 ∨ (260 ≤ p ∧ p ≤ 269)) → I3 p = I0 p) → (∀ k, ¬ (k = 24 ∨ k = 30 ∨ k = 37) → I3 248 k = I0 248 k) → I3 248 37 = rr k → (∀ p, ¬ p = 262 → J3 p = J1 p) → (∀ i, i < k → I3 269 i = nI (L i)) → (∀ m, m < k → T m ≤ 20000) → w_X12_chance_38_n post fu (nI t) (nI n) (I 0 15) (nI (cnt (fun k => 0 < L k) k)) (nI k) I3 J3 := by
      intro fu
      induction fu with
      | zero => intro k _ _ _ h; omega
      | succ fu ih =>
        intro k I3 J3 hk hfu r3 s3 e37 j3 c3 g3
        show w_X12_chance_38_s post (w_X12_chance_38_n post fu) _ _ _ _ _ I3 J3
        unfold w_X12_chance_38_s
        have mm := mD_congr m1 (s3 11 (by omega)) (s3 12 (by omega)) (r3 253 (by omega)) (r3 254 (by omega))
        rw [pf_le (by omega) (by omega), mm.1]
        refine ⟨fun e => ?_, fun e => ?_⟩
        · have kn : k = n := by omega
          subst kn
          rintro _ rfl
          rcases hr with ⟨k2, q1, q2, _⟩ | ⟨_, hr, h15, h134, hj⟩
          · have := g3 k2 q1; omega
          have out : ∀ fu2 i (I4 : sI) (J4 : sJ), i ≤ k → k - i < fu2 → (∀ p, ¬ p = 248 → I4 p = I3 p) → (∀ k, ¬ k = 1 → I4 248 k = I3 248 k) → I4 248 1 = nI i → (∀ p, ¬ p = 249 → J4 p = J3 p) → (∀ j, j < i → J4 249 j = (nI (L j)).toInt64) → w_X12_chance_195_n post fu2 (nI k) (nI (cnt (fun k => 0 < L k) k)) (nI i) I4 J4 := by
            intro fu2
            induction fu2 with
            | zero => intro i _ _ _ h; omega
            | succ fu2 ih2 =>
              intro i I4 J4 hi hfu2 r4 s4 e4 j4 c4
              show w_X12_chance_195_s post (w_X12_chance_195_n post fu2) _ _ _ I4 J4
              unfold w_X12_chance_195_s
              rw [pf_le (by omega) (by omega), pf_cl (by omega)]
              refine ⟨fun e5 => ?_, fun e5 => ⟨vp_in_nI (by omega) (by omega), ?_⟩⟩
              · rw [show i = k by omega] at e4 c4
                rw [ep]
                refine ⟨hr, finX I4 J4 (fun p hp => by rw [r4 p (by omega), r3 p hp]) (fun j hj => by rw [s4 j (by omega), s3 j (by omega)]) (by rw [h15, s4 37 (by omega), e37]) ⟨k, by omega, by rw [r4 134 (by omega), r3 134 (by omega), r0 134 (by omega)]; exact h134, e4, fun j hj2 => ?_⟩⟩
                rw [j4 135 (by omega), j3 135 (by omega), hj j hj2, c4 j hj2]
              · rw [r4 269 (by omega), c3 i (by omega)]
                refine q_enters e4 (by omega) ?_
                rw [nI_1]
                rintro _ rfl
                refine ih2 (i + 1) _ _ (by omega) (by omega) (fun p hp => by rw [sUI_ne hp, r4 p hp]) (fun k hk => by rw [pf_uis, if_neg hk, s4 k hk]) (by rw [pf_uis, if_pos rfl]) (fun p hp => by funext x; rw [pf_uj, if_neg (by omega), j4 p hp]) (fun j hj => ?_)
                rw [pf_ujs]
                by_cases z2 : j = i
                · rw [if_pos z2, z2]
                · rw [if_neg z2, c4 j (by omega)]
          exact ⟨k + 1, out (k + 1) 0 _ J3 (by omega) (by omega) (fun p hp => sUI_ne hp) (fun k hk => by rw [pf_uis, if_neg hk]) (by rw [pf_uis, if_pos rfl]; rfl) (fun _ _ => rfl) (fun j hj => by omega)⟩
        · refine q_takesDisc hw mm (Nat.le_refl _) (fun I4 r4 s4 e24 z4 c4 => ?_)
          rw [s4 12 (by omega), mm.2.1, nI_p P1]
          rintro _ rfl
          rw [hw.2.2.2.1] at c4
          have mix : ∀ fu2 i r5 κ5 (I5 : sI), i < P → i < fu2 → (∀ p, ¬ (p = 248 ∨ p = 261) → I5 p = I4 p) → (∀ k, ¬ k = 37 → I5 248 k = I4 248 k) → I5 248 37 = r5 → (∀ p, p < P → I5 261 p = nI (κ5 p)) → shS i r5 κ5 = shS (P - 1) (rr k) κ → w_X12_chance_60_n post (w_X12_chance_38_n post fu) fu2 (nI t) (nI n) (I 0 15) (nI (cnt (fun k => 0 < L k) k)) (nI k) (nI i) I5 J3 := by
            intro fu2
            induction fu2 with
            | zero => intro i _ _ _ _ h; omega
            | succ fu2 ih2 =>
              intro i r5 κ5 I5 hi hfu2 rr5 ss5 e5 c5 es
              show w_X12_chance_60_s post (w_X12_chance_38_n post fu) (w_X12_chance_60_n post (w_X12_chance_38_n post fu) fu2) _ _ _ _ _ _ I5 J3
              unfold w_X12_chance_60_s
              rw [pf_le0 (by omega), nI_1]
              refine ⟨fun z => ?_, fun z => ?_⟩
              · subst z
                rw [shS] at es
                have es1 : r5 = rr (k + 1) := by rw [rrs, ← es]
                have es2 : κ5 = kk k := by rw [← kks, ← es]
                have hq := dQ_O (t := t) (wk k) hx hww ht
                have sq : sqS (dQ h d bk (nw t) (wl t) (wt t) s (kk k)) G t bk s I5 := dQ_sq (wk k) (Nat.le_refl _) ht (by rw [ss5 24 (by omega)]; exact e24) (by rw [ss5 21 (by omega), ss5 22 (by omega), ss5 23 (by omega), s4 21 (by omega), s4 22 (by omega), s4 23 (by omega), s3 21 (by omega), s3 22 (by omega), s3 23 (by omega)]; exact m2) (mW_congr (mW_congr (mW_congr m3 (r3 257 (by omega)) (r3 258 (by omega)) (r3 259 (by omega))) (r4 257 (by omega)) (r4 258 (by omega)) (r4 259 (by omega))) (rr5 257 (by omega)) (rr5 258 (by omega)) (rr5 259 (by omega))) (fun g hg => by rw [rr5 260 (by omega)]; exact z4 g hg) (fun p hp => by rw [hw.2.2.2.1] at hp; rw [← es2]; exact c5 p hp)
                refine q_searches hq ht hx.2.2.2 sq (fun I6 J6 r6 s6 j6 t6 e30 bf6 => b3 (by decide) ?_) (fun I6 J6 r6 s6 j6 t6 e30 => b4 rfl ?_)
                · rw [Tt] at t6
                  have Lb := L20 k t6
                  obtain ⟨g, eg⟩ : ∃ g, G = g + 1 := ⟨G - 1, by omega⟩
                  have et : tot (chF (dQ h d bk (nw t) (wl t) (wt t) s (kk k))) G = tot (chF (dQ h d bk (nw t) (wl t) (wt t) s (kk k))) (G - 1) + (lev (chF (dQ h d bk (nw t) (wl t) (wt t) s (kk k))) G).length := by rw [eg]; rfl
                  rw [s6 11 (by omega), ss5 11 (by omega), s4 11 (by omega), mm.1, nI_p g1]
                  refine ⟨vp_in_nI (by omega) (by omega), ?_⟩
                  refine q_lvl (by omega) bf6 (by omega) ?_
                  rw [pf_cl (by omega), pf_cl (by omega), bf6.1 (G - 1) (by omega), show G - 1 + 1 = G by omega, pk_sub (by omega), show tot (chF (dQ h d bk (nw t) (wl t) (wt t) s (kk k))) G - tot (chF (dQ h d bk (nw t) (wl t) (wt t) s (kk k))) (G - 1) = L k by rw [← Lt]; omega]
                  refine ⟨vp_in_nI (by omega) (by omega), ?_⟩
                  rintro _ rfl
                  rw [pf_uis, if_pos rfl, pf_le0 (by omega)]
                  have nx : ∀ c2, c2 = cnt (fun k => 0 < L k) (k + 1) → w_X12_chance_38_n post fu (nI t) (nI n) (I 0 15) (nI c2) (nI (k + 1)) (sUI I6 269 k (nI (L k))) J6 := by
                    rintro _ rfl
                    refine ih (k + 1) _ J6 (by omega) (by omega) (fun p hp => by rw [sUI_ne (by omega), r6 p (by omega), rr5 p (by omega), r4 p (by omega), r3 p hp]) (fun j hj => by rw [sUI_ne (by omega), s6 j (by omega), ss5 j (by omega), s4 j (by omega), s3 j hj]) (by rw [sUI_ne (by omega), s6 37 (by omega), e5, es1]) (fun p hp => by rw [j6 p hp, j3 p hp]) (fun i hi2 => ?_) (fun m hm2 => ?_)
                    · rw [pf_uis]
                      by_cases z2 : i = k
                      · rw [if_pos z2, z2]
                      · rw [if_neg z2, r6 269 (by omega), rr5 269 (by omega), r4 269 (by omega), c3 i (by omega)]
                    · by_cases z2 : m = k
                      · rw [z2]; exact t6
                      · exact g3 m (by omega)
                  unfold w_X12_chance_175
                  rw [nI_1]
                  refine ⟨vp_in_nI (by omega) (by omega), fun z2 => ?_, fun z2 => ?_⟩
                  · refine q_flag (fun _ => ?_) (fun x => absurd rfl x)
                    rw [Int32.add_zero]
                    rintro _ rfl _ rfl
                    exact nx _ (by rw [cnt_n (p := fun k => 0 < L k) (by show ¬ 0 < L k; omega)])
                  · refine q_flag (fun x => absurd x (by decide)) (fun _ => ?_)
                    rw [nI_1]
                    rintro _ rfl _ rfl
                    exact nx _ (by rw [cnt_s (p := fun k => 0 < L k) (by show 0 < L k; omega)])
                · rw [Tt] at t6
                  rintro _ rfl
                  rw [ep]
                  rcases hr with ⟨k2, q1, q2, q3, hr, h15, h134, hj⟩ | ⟨c, _⟩
                  · refine ⟨hr, finX _ J6 (fun p hp => by rw [sUI_ne (by omega), r6 p (by omega), rr5 p (by omega), r4 p (by omega), r3 p hp]) (fun j hj2 => by rw [pf_uis, if_neg (by omega), s6 j (by omega), ss5 j (by omega), s4 j (by omega), s3 j (by omega)]) (by rw [h15, pf_uis, if_pos rfl]) (RR_congr hQ ?_ ?_ ?_ ?_)⟩
                    · rw [sUI_ne (by omega), r6 134 (by omega), rr5 134 (by omega), r4 134 (by omega), r3 134 (by omega), r0 134 (by omega)]; exact h134
                    · rw [pf_uis, if_neg (by omega), s6 1 (by omega), ss5 1 (by omega), s4 1 (by omega), s3 1 (by omega), s0 1 (by omega), ra 248 (by omega)]
                    · rw [j6 135 (by omega), j3 135 (by omega)]; exact hj
                    · rw [j6 249 (by omega), j3 249 (by omega), ja 249 (by omega)]
                  · have := c k (by omega); omega
              · obtain ⟨i2, ei⟩ : ∃ i2, i = i2 + 1 := ⟨i - 1, by omega⟩
                subst ei
                rw [shS] at es
                have jl : djV (rnN r5) % (i2 + 2) < i2 + 2 := Nat.mod_lt _ (by omega)
                refine q_draws (k := i2) (by omega) e5 ?_
                have e6 : (sUI I5 248 37 (rnN r5)) 248 37 = rnN r5 := by rw [pf_uis, if_pos rfl]
                rw [pf_cl (by omega), pf_cl (by omega), sUI_ne (by omega), c5 _ hi, c5 _ (by omega)]
                refine ⟨vp_in_nI (by omega) (by omega), ?_⟩
                rintro _ rfl
                refine ⟨vp_in_nI (by omega) (by omega), vp_in_nI (by omega) (by omega), ?_⟩
                rintro _ rfl
                refine ⟨vp_in_nI (by omega) (by omega), ?_⟩
                rintro _ rfl
                rw [nI_m (by omega), Nat.add_sub_cancel]
                rintro _ rfl
                refine ih2 i2 (rnN r5) _ _ (by omega) (by omega) (fun q hq => by rw [sUI_ne (by omega), sUI_ne (by omega), sUI_ne (by omega), rr5 q hq]) (fun j hj => by rw [sUI_ne (by omega), sUI_ne (by omega), pf_uis, if_neg hj, ss5 j hj]) (by rw [sUI_ne (by omega), sUI_ne (by omega)]; exact e6) (fun p hp => ?_) es
                rw [pf_uis, pf_uis, sUI_ne (by omega), c5 p hp]
                by_cases z1 : p = djV (rnN r5) % (i2 + 2)
                · rw [if_pos z1, z1, sw_b]
                · rw [if_neg z1]
                  by_cases z2 : p = i2 + 1
                  · rw [if_pos z2, z2, sw_a]
                  · rw [if_neg z2, sw_o z2 z1]
          exact ⟨P, mix P (P - 1) (rr k) κ I4 (by omega) (by omega) (fun _ _ => rfl) (fun _ _ => rfl) (by rw [s4 37 (by omega)]; exact e37) c4 rfl⟩
    exact ⟨n + 1, loop (n + 1) 0 I0 J1 (by omega) (by omega) (fun _ _ => rfl) (fun _ _ => rfl) (by rw [rr0]; exact h37) (fun _ _ => rfl) (fun i hi => by omega) (fun m hm => by omega)⟩
  rintro _ rfl _ rfl
  obtain ⟨post, ep⟩ : ∃ post : Int32 → sI → sJ → Prop, post = fun r I1 J1 => w_X12_chance (nI t) (nI n) I1 J1 (fun r2 I2 J2 => r = r2 ∧ RR0 I2 J2) := ⟨_, rfl⟩
  rw [← ep]
  have loop : ∀ fu k (I3 : sI) (J3 : sJ), k ≤ n → n - k < fu → (∀ p, ¬ (p = 0 ∨ (136 ≤ p ∧ p ≤ 223)) → I3 p = I p) → (∀ k, ¬ k = 15 → I3 0 k = I 0 k) → I3 0 15 = rr k → I3 141 0 = 0 → I3 136 1 = nI k → (∀ p, ¬ (p = 137 ∨ (142 ≤ p ∧ p ≤ 223)) → J3 p = J p) → (∀ i, i < k → J3 137 i = (nI (L i)).toInt64) → (∀ m, m < k → T m ≤ 20000) → w_X11_chance_40_n post fu (nI t) (nI n) (I 0 15) (nI (cnt (fun k => 0 < L k) k)) (nI k) I3 J3 := by
    intro fu
    induction fu with
    | zero => intro k _ _ _ h; omega
    | succ fu ih =>
      intro k I3 J3 hk hfu r3 s3 e15 e141 e136 j3 c3 g3
      show w_X11_chance_40_s post (w_X11_chance_40_n post fu) _ _ _ _ _ I3 J3
      unfold w_X11_chance_40_s
      rw [pf_le (by omega) (by omega)]
      refine ⟨fun e => ?_, fun e => ?_⟩
      · have kn : k = n := by omega
        subst kn
        refine q_X6_take e136 (by omega) (fun I4 J4 r4 e4 j4 c4 => ?_)
        rw [ep]
        exact model I4 J4 _ (fun p hp => by rw [r4 p (by omega), r3 p (by omega)]) (by rw [r4 0 (by omega), s3 16 (by omega)]) (by rw [r4 141 (by omega)]; exact e141) (fun p hp => by rw [j4 p (by omega), j3 p (by omega)]) (Or.inr ⟨g3, rfl, by rw [r4 0 (by omega)]; exact e15, e4, fun i hi => by rw [c4 i hi, c3 i hi]⟩)
      · refine q_X2_take (by decide) (by decide) (by omega) hw (cD_congr hc (r3 4 (by omega)) (r3 5 (by omega)) (r3 6 (by omega)) (r3 7 (by omega))) (fun I4 r4 c4 => ?_)
        refine q_shuffle (r := rr k) hw P1 c4 (by rw [r4 0 (by omega)]; exact e15) (fun I5 r5 s5 e5 c5 => ?_)
        rw [← rrs] at e5
        rw [kks] at c5
        have q5 : ∀ p, ¬ (p = 0 ∨ (136 ≤ p ∧ p ≤ 223)) → I5 p = I p := fun p hp => by rw [r5 p (by omega), r4 p (by omega), r3 p (by omega)]
        have z5 : ∀ k, ¬ k = 15 → I5 0 k = I 0 k := fun k hk => by rw [s5 k hk, r4 0 (by omega), s3 k hk]
        have e141' : I5 141 0 = 0 := by rw [show (141 : Nat) = 138 + 3 from rfl, c5.2.2.1 0 (by omega), hw.2.2.1]; rfl
        refine q_read (mode := 0) (det := 0) (MS := ms_0) (by decide) (wk k) c5 g1 hx (by rw [q5 3 (by omega)]; exact e3) hww (cW_congr hww hcw (fun p p1 p2 => q5 p (by omega))) ht (by omega) (by omega) (tk_0 (Or.inl rfl)) (fun _ _ _ => trivial) (fun I6 J6 r6 j6 t6 e30 rd6 => ?_) (fun I6 J6 r6 j6 t6 e30 => ?_)
        · rw [Tt] at t6 e30
          have u1 := rd6.1
          rw [Lt] at u1
          have Lb := L20 k t6
          refine q_many0 (n := T k) (by omega) e30 (fun _ => b1 rfl ?_) (fun z => by omega)
          rw [u1]
          refine q_X6_put (by decide) (by rw [r6 136 (by omega), r5 136 (by omega), r4 136 (by omega)]; exact e136) (by omega) ?_
          rw [sUI_ne (by omega), u1, pf_le0 (by omega)]
          have nx : ∀ c2, c2 = cnt (fun k => 0 < L k) (k + 1) → w_X11_chance_40_n post fu (nI t) (nI n) (I 0 15) (nI c2) (nI (k + 1)) (sUI I6 136 1 (nI (k + 1))) (sUJ J6 137 k (nI (L k)).toInt64) := by
            rintro _ rfl
            refine ih (k + 1) _ _ (by omega) (by omega) (fun p hp => by rw [sUI_ne (by omega), r6 p (by omega), q5 p hp]) (fun j hj => by rw [sUI_ne (by omega), r6 0 (by omega), z5 j hj]) (by rw [sUI_ne (by omega), r6 0 (by omega)]; exact e5) (by rw [sUI_ne (by omega), r6 141 (by omega)]; exact e141') (by rw [pf_uis, if_pos rfl]) (fun p hp => by funext x; rw [pf_uj, if_neg (by omega), j6 p (by omega), j3 p hp]) (fun i hi => ?_) (fun m hm2 => ?_)
            · rw [pf_ujs]
              by_cases z2 : i = k
              · rw [if_pos z2, z2]
              · rw [if_neg z2, j6 137 (by omega), c3 i (by omega)]
            · by_cases z2 : m = k
              · rw [z2]; exact t6
              · exact g3 m (by omega)
          unfold w_X11_chance_129
          rw [Int32.add_zero, nI_1, nI_1]
          refine ⟨fun z2 => ?_, fun z2 => ?_⟩
          · rintro _ rfl _ rfl
            exact nx _ (by rw [cnt_n (p := fun k => 0 < L k) (by show ¬ 0 < L k; omega)])
          · rintro _ rfl _ rfl
            exact nx _ (by rw [cnt_s (p := fun k => 0 < L k) (by show 0 < L k; omega)])
        · rw [Tt] at t6
          refine q_many0 (n := 20001) (by omega) e30 (fun z => by omega) (fun _ => b2 (by decide) ?_)
          rintro _ rfl
          rw [ep]
          exact model _ J6 (-3) (fun p hp => by rw [sUI_ne (by omega), r6 p (by omega), q5 p (by omega)]) (by rw [pf_uis, if_neg (by omega), r6 0 (by omega), z5 16 (by omega)]) (by rw [sUI_ne (by omega), r6 141 (by omega)]; exact e141') (fun p hp => by rw [j6 p (by omega), j3 p (by omega)]) (Or.inl ⟨k, by omega, t6, g3, rfl, by rw [pf_uis, if_pos rfl], by rw [sUI_ne (by omega), r6 134 (by omega), q5 134 (by omega)], by rw [j6 135 (by omega), j3 135 (by omega)]⟩)
  exact ⟨n + 1, loop (n + 1) 0 (sUI I 136 1 0) J (by omega) (by omega) (fun p hp => sUI_ne (by omega)) (fun k hk => by rw [sUI_ne (by omega)]) (by rw [sUI_ne (by omega), rr0]) (by rw [sUI_ne (by omega)]; exact hX.2.2) (by rw [pf_uis, if_pos rfl]; rfl) (fun _ _ => rfl) (fun i hi => by omega) (fun m hm => by omega)⟩
