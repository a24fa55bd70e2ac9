theorem q_lvl {I : sI} {J : sJ} {post : Int32 → sI → sJ → Prop} {ch : Nat → Nat → List Nat} {N g : Nat} (hN : N ≤ 24) (bf : bfS ch N I J) (hg : g < N) (h : post (nI (tot ch g)) I J) : w_X12_levelBegin (nI g) I J post := by
  unfold w_X12_levelBegin
  rw [pf_eq0 (by omega)]
  refine ⟨fun z => ?_, fun z => ?_⟩
  · rw [nI_p (by omega), pf_cl (by omega), bf.1 (g - 1) (by omega), show g - 1 + 1 = g by omega]
    exact ⟨vp_in_nI (by omega) (by omega), h⟩
  · rw [z] at h; exact h
def hdK (b : Nat) (κ : Nat → Nat) (p : Nat) : Nat := if b.testBit (κ p) = true then 12 else κ p
theorem hd_tWD {b G P : Nat} {s κ : Nat → Nat} (hw : tWD G P s κ) : tWD G P s (hdK b κ) := by
  refine ⟨hw.1, hw.2.1, hw.2.2.1, hw.2.2.2.1, hw.2.2.2.2.1, fun p hp => ?_⟩
  unfold hdK
  split
  · omega
  · exact hw.2.2.2.2.2 p hp
theorem q_hide {I : sI} {J : sJ} {post : sI → sJ → Prop} {G P b : Nat} {s κ : Nat → Nat} (hw : tWD G P s κ) (hc : cD G P s κ 138 I) (hb : b < 4096) (h : ∀ I2 : sI, (∀ q, ¬ q = 139 → I2 q = I q) → cD G P s (hdK b κ) 138 I2 → post I2 J) : w_X2_hide 138 (nI b) I J post := by
  have hP := hw.2.1
  have hκ := hw.2.2.2.2.2
  have e5 := (sRdisc 138 (by decide)).1
  have loop : ∀ m p (I3 : sI), p ≤ P → P - p < m → (∀ q, ¬ q = 139 → I3 q = I q) → (∀ p2, p2 < P → I3 139 p2 = nI (if p2 < p then hdK b κ p2 else κ p2)) → w_X2_hide_2_n 138 post m (nI b) (nI p) I3 J := by
    intro m
    induction m with
    | zero => intro p _ _ h; omega
    | succ m ih =>
      intro p I3 hp hm r3 c3
      show w_X2_hide_2_s 138 post (w_X2_hide_2_n 138 post m) _ _ I3 J
      unfold w_X2_hide_2_s w_X2_hide_31
      rw [e5, r3 138 (by omega), hc.2.1, pf_le (by omega) (by omega), nI_1, pf_cl (by omega)]
      refine ⟨fun e => ?_, fun e => ⟨vp_in_nI (by omega) (by omega), ?_⟩⟩
      · refine h I3 r3 ⟨by rw [r3 138 (by omega)]; exact hc.1, by rw [r3 138 (by omega)]; exact hc.2.1, fun g hg => by rw [r3 (138 + 3) (by omega)]; exact hc.2.2.1 g hg, fun p2 hp2 => ?_, fun g p2 a1 a2 a3 => by rw [r3 (138 + 2) (by omega)]; exact hc.2.2.2.2 g p2 a1 a2 a3⟩
        rw [c3 p2 hp2, if_pos (by omega)]
      · have k1 := hκ p (by omega)
        rw [c3 p (by omega), if_neg (by omega), m_shr (by omega) (by omega)]
        cases tb : b.testBit (κ p) with
        | false =>
          refine b1 (by decide) ?_
          rintro _ rfl
          refine ih (p + 1) I3 (by omega) (by omega) r3 (fun p2 hp2 => ?_)
          rw [c3 p2 hp2]
          by_cases e2 : p2 = p
          · rw [e2, if_neg (by omega), if_pos (by omega), hdK, tb]; rfl
          · by_cases e4 : p2 < p
            · rw [if_pos e4, if_pos (by omega)]
            · rw [if_neg e4, if_neg (by omega)]
        | true =>
          refine b2 (by decide) ⟨vp_in_nI (by omega) (by omega), ?_⟩
          rintro _ rfl _ rfl
          refine ih (p + 1) _ (by omega) (by omega) (fun q hq => by rw [sUI_ne hq, r3 q hq]) (fun p2 hp2 => ?_)
          rw [pf_uis]
          by_cases e2 : p2 = p
          · rw [if_pos e2, e2, if_pos (by omega), hdK, tb]; rfl
          · rw [if_neg e2, c3 p2 hp2]
            by_cases e4 : p2 < p
            · rw [if_pos e4, if_pos (by omega)]
            · rw [if_neg e4, if_neg (by omega)]
  exact ⟨P + 1, loop (P + 1) 0 I (by omega) (by omega) (fun _ _ => rfl) (fun p2 hp2 => by rw [if_neg (by omega)]; exact hc.2.2.2.1 p2 hp2)⟩
theorem S_blind {I : sI} {J : sJ} (a1 a2 : Int32) (hR : RR0 I J) : St (w_X11_blind a1 a2) (w_X12_blind a1 a2) I J := by
  have hR0 := hR
  obtain ⟨hT, hD, hK, hW, hC, hQ, hX⟩ := hR
  obtain ⟨G, P, s, κ, h, d, bk, nw, wl, wt, hw, hx, hww, hc, hm, e3, e2, hcw, hmw⟩ := rd_get hD hW
  have hG := hw.1
  have hP := hw.2.1
  have refuse : ¬ ((Ix a1 4 ∧ 1 ≤ G) ∧ (0 ≤ a2 ∧ a2 ≤ 4095)) → w_X12_blind a1 a2 I J (fun r2 I2 J2 => -1 = r2 ∧ RR0 I2 J2) := by
    intro z
    have fin : RR0 (sUI I 248 0 0) J := ⟨(RT_congr hT rfl rfl rfl rfl), (RD_congr hD (fun q h1 h2 => by repeat rw [sUI_ne (by omega)]) rfl rfl rfl rfl rfl rfl rfl rfl rfl rfl rfl), (RK_congr hK (fun q h1 h2 => by repeat rw [sUI_ne (by omega)]) rfl rfl), (RW_congr hW (fun q h1 h2 => by repeat rw [sUI_ne (by omega)]) rfl rfl rfl), (RC_congr hC (fun q h1 h2 => by repeat rw [sUI_ne (by omega)]) rfl rfl rfl), (RR_congr hQ rfl rfl rfl rfl), (RX_congr hX rfl rfl rfl rfl rfl)⟩
    unfold w_X12_blind
    rintro _ rfl
    refine q_isAsked hG hm.1 (fun a b => b2 (by decide) ?_) (fun _ => b1 rfl ⟨rfl, fin⟩)
    exact q_in (lo := 0) (hi := 4095) (by decide) (by decide) (fun p => absurd ⟨⟨a, b⟩, p⟩ z) (fun _ => b4 rfl ⟨rfl, fin⟩)
  show w_X11_blind a1 a2 I J _
  unfold w_X11_blind
  refine q_cannotR hG hc.1 (fun z g1 => b4 rfl ?_) (fun z => b3 (by decide) (refuse (fun q => z q.1)))
  refine ⟨fun y => refuse (fun q => absurd y (Int32.not_lt.mpr q.2.1)), fun y0 => ⟨fun y1 => ?_, fun y => refuse (fun q => y ?_)⟩⟩
  rotate_left
  · obtain ⟨i, hi, e⟩ := ix_of (N := 4095) (by omega) q.2.1 q.2.2
    rw [e, show (4096 : Int32) = nI 4096 from rfl, pf_lt (by omega) (by omega)]
    omega
  have p1 : 0 ≤ a2 ∧ a2 ≤ 4095 := by
    refine ⟨Int32.not_lt.mp y0, ?_⟩
    rw [pf_ltInt] at y1
    rw [pf_leInt]
    have : (4096 : Int32).toInt = 4096 := by decide
    have : (4095 : Int32).toInt = 4095 := by decide
    omega
  obtain ⟨b, hb, rfl⟩ := ix_of (N := 4095) (by omega) p1.1 p1.2
  obtain ⟨t, ht, rfl⟩ := z
  have hw2 := hd_tWD (b := b) hw
  have hq := dQ_O hw2 hx hww ht
  obtain ⟨q, eq⟩ : ∃ q, q = dQ h d bk (nw t) (wl t) (wt t) s (hdK b κ) := ⟨_, rfl⟩
  obtain ⟨ch, ech⟩ : ∃ ch, ch = chF q := ⟨_, rfl⟩
  have hq' : qO q G := by rw [eq]; exact hq
  have model : ∀ (I1 : sI) (J1 : sJ) (r : Int32), (∀ p, ¬ ((136 ≤ p ∧ p ≤ 223)) → I1 p = I p) → I1 141 0 = 0 → (∀ p, ¬ (142 ≤ p ∧ p ≤ 223) → J1 p = J p) → ((20000 < tot ch G ∧ r = -3) ∨ (tot ch G ≤ 20000 ∧ r = nI (lev ch G).length)) → w_X12_blind (nI t) (nI b) I1 J1 (fun r2 I2 J2 => r = r2 ∧ RR0 I2 J2) := by
    intro I1 J1 r ra h141 ja hr
    unfold w_X12_blind
    rintro _ rfl
    obtain ⟨m1, m2, m3⟩ := mset hm e2 hmw (I1 := I1) (fun p hp => ra p (by omega))
    refine q_isAsked hG m1.1 (fun _ _ => b2 (by decide) ?_) (fun q => absurd ⟨⟨t, ht, rfl⟩, g1⟩ q)
    refine q_in (lo := 0) (hi := 4095) (by decide) (by decide) (fun _ => b3 (by decide) ?_) (fun q => absurd p1 q)
    rw [m1.1]
    refine q_takesDisc hw m1 (Nat.le_refl _) (fun I2 r2 s2 e24 z2 c2 => ?_)
    rw [hw.2.2.2.1] at c2
    obtain ⟨post, ep⟩ : ∃ post : Int32 → sI → sJ → Prop, post = fun r2 I2 J2 => r = r2 ∧ RR0 I2 J2 := ⟨_, rfl⟩
    rw [← ep]
    have loop : ∀ fu p (I3 : sI), p ≤ P → P - p < fu → (∀ q, ¬ q = 261 → I3 q = I2 q) → (∀ p2, p2 < P → I3 261 p2 = nI (if p2 < p then hdK b κ p2 else κ p2)) → w_X12_blind_37_n post fu (nI t) (nI b) (nI p) I3 J1 := by
      intro fu
      induction fu with
      | zero => intro p _ _ h; omega
      | succ fu ih =>
        intro p I3 hp hfu r3 c3
        show w_X12_blind_37_s post (w_X12_blind_37_n post fu) _ _ _ I3 J1
        unfold w_X12_blind_37_s w_X12_blind_79 w_X12_blind_85
        rw [r3 248 (by omega), s2 12 (by omega), m1.2.1, pf_le (by omega) (by omega), pf_cl (by omega)]
        refine ⟨fun e => ?_, fun e => ⟨vp_in_nI (by omega) (by omega), ?_⟩⟩
        · have sq : sqS q G t bk s I3 := by
            rw [eq]
            exact dQ_sq hw2 (Nat.le_refl _) ht (by rw [r3 248 (by omega)]; exact e24) (by rw [r3 248 (by omega), s2 21 (by omega), s2 22 (by omega), s2 23 (by omega)]; exact m2) (by unfold mW at *; rw [r3 257 (by omega), r3 258 (by omega), r3 259 (by omega), r2 257 (by omega), r2 258 (by omega), r2 259 (by omega)]; exact m3) (fun g hg => by rw [r3 260 (by omega)]; exact z2 g hg) (fun p2 hp2 => by rw [hw.2.2.2.1] at hp2; rw [c3 p2 hp2, if_pos (by omega)])
          have fin : ∀ (I4 : sI) (J4 : sJ), (∀ p, ¬ (p = 248 ∨ p = 263 ∨ p = 264) → I4 p = I3 p) → (∀ k, ¬ k = 30 → I4 248 k = I3 248 k) → (∀ p, ¬ p = 262 → J4 p = J1 p) → RR0 I4 J4 := by
            intro I4 J4 r4 s4 j4
            have rr : ∀ q, ¬ ((136 ≤ q ∧ q ≤ 223) ∨ q = 248 ∨ (260 ≤ q ∧ q ≤ 269)) → I4 q = I q := fun q hq => by rw [r4 q (by omega), r3 q (by omega), r2 q (by omega), sUI_ne (by omega), ra q (by omega)]
            have ss : ∀ k, ¬ (k = 0 ∨ k = 24 ∨ k = 30) → I4 248 k = I 248 k := fun k hk => by rw [s4 k (by omega), r3 248 (by omega), s2 k (by omega), pf_uis, if_neg (by omega), ra 248 (by omega)]
            refine fin_gen hR0 (fun q hq => rr q (by omega)) (fun k hk => ss k (by omega)) (RR_congr hQ (by rw [rr 134 (by omega)]) (ss 1 (by omega)) (by rw [j4 135 (by omega), ja 135 (by omega)]) (by rw [j4 249 (by omega), ja 249 (by omega)])) (RX_mk ?_ ?_ ?_)
            · rw [rr 0 (by omega), ss 37 (by omega)]; exact hX.1
            · rw [rr 0 (by omega), ss 33 (by omega)]; exact hX.2.1
            · rw [r4 141 (by omega), r3 141 (by omega), r2 141 (by omega), sUI_ne (by omega)]; exact h141
          refine q_searches hq' ht hx.2.2.2 sq (fun I4 J4 r4 s4 j4 t4 e30 bf4 => b2 (by decide) ?_) (fun I4 J4 r4 s4 j4 t4 e30 => b1 rfl ?_)
          · rw [← ech] at t4 bf4
            rw [s4 11 (by omega), r3 248 (by omega), s2 11 (by omega), m1.1, nI_p g1, pf_cl (by omega), bf4.1 (G - 1) (by omega), show G - 1 + 1 = G by omega]
            refine ⟨vp_in_nI (by omega) (by omega), ?_⟩
            refine q_lvl (by omega) bf4 (by omega) ?_
            obtain ⟨g, eg⟩ : ∃ g, G = g + 1 := ⟨G - 1, by omega⟩
            have et : tot ch G = tot ch (G - 1) + (lev ch G).length := by rw [eg]; rfl
            rw [pk_sub (by omega), show tot ch G - tot ch (G - 1) = (lev ch G).length by omega, ep]
            rcases hr with ⟨c, _⟩ | ⟨_, hr⟩
            · omega
            · exact ⟨hr, fin I4 J4 r4 s4 j4⟩
          · rw [← ech] at t4
            rw [ep]
            rcases hr with ⟨_, hr⟩ | ⟨c, _⟩
            · exact ⟨hr, fin I4 J4 r4 s4 j4⟩
            · omega
        · have k1 := hw.2.2.2.2.2 p (by omega)
          rw [c3 p (by omega), if_neg (by omega), show (12 : Int32) = nI 12 from rfl, pf_le (by omega) (by omega), nI_1]
          have nx : ∀ v, v = hdK b κ p → vp_in (nI p) 160 ∧ ∀ I4 : sI, I4 = sUI I3 261 p (nI v) → ∀ v3 : Int32, v3 = nI (p + 1) → w_X12_blind_37_n post fu (nI t) (nI b) v3 I4 J1 := by
            rintro v rfl
            refine ⟨vp_in_nI (by omega) (by omega), ?_⟩
            rintro _ rfl _ rfl
            refine ih (p + 1) _ (by omega) (by omega) (fun q hq => by rw [sUI_ne hq, r3 q hq]) (fun p2 hp2 => ?_)
            rw [pf_uis]
            by_cases e5 : p2 = p
            · rw [if_pos e5, e5, if_pos (by omega)]
            · rw [if_neg e5, c3 p2 hp2]
              by_cases e6 : p2 < p
              · rw [if_pos e6, if_pos (by omega)]
              · rw [if_neg e6, if_neg (by omega)]
          refine ⟨fun z => ⟨vp_in_nI (by omega) (by omega), nx (κ p) ?_⟩, fun z => ⟨vp_in_nI (by omega) (by omega), ?_⟩⟩
          · have : κ p = 12 := by omega
            have tb : b.testBit 12 = false := Nat.testBit_lt_two_pow (by omega)
            rw [hdK, this, tb]; rfl
          · refine q_hasB (by omega) (by omega) (fun tb => b2 (by decide) (nx 12 (by rw [hdK, tb]; rfl))) (fun tb => b1 rfl ?_)
            rw [c3 p (by omega), if_neg (by omega)]
            exact ⟨vp_in_nI (by omega) (by omega), nx (κ p) (by rw [hdK, tb]; rfl)⟩
    exact ⟨P + 1, loop (P + 1) 0 I2 (by omega) (by omega) (fun _ _ => rfl) (fun p2 hp2 => by rw [if_neg (by omega)]; exact c2 p2 hp2)⟩
  refine q_X2_take (by decide) (by decide) (by omega) hw hc (fun I1 r1 c1 => ?_)
  refine q_hide hw c1 (by omega) (fun I2 r2 c2 => ?_)
  have rr : ∀ p, ¬ (138 ≤ p ∧ p ≤ 141) → I2 p = I p := fun p hp => by rw [r2 p (by omega), r1 p (by omega)]
  refine q_read (mode := 0) (det := 0) (MS := ms_0) (by decide) hw2 c2 g1 hx (by rw [rr 3 (by omega)]; exact e3) hww (by
    unfold cW at *
    intro t2 ht2
    have n20 := (hww t2 ht2).1
    obtain ⟨x1, x2⟩ := hcw t2 ht2
    rw [rr (42 + 23 * t2) (by omega), rr (64 + 23 * t2) (by omega)]
    refine ⟨x1, fun w hw => ⟨(x2 w hw).1, fun i hi => ?_⟩⟩
    rw [rr (44 + 23 * t2 + w) (by omega)]
    exact (x2 w hw).2 i hi) ht (by omega) (by omega) (tk_0 (Or.inl rfl)) (fun _ _ _ => trivial) (fun I3 J3 r3 j3 t3 e30 rd3 => ?_) (fun I3 J3 r3 j3 t3 e30 => ?_)
  · rw [← eq, ← ech] at t3 e30 rd3
    refine q_many0 (n := tot ch G) (by omega) e30 (fun _ => b1 rfl ?_) (fun z => by omega)
    rw [rd3.1]
    exact model I3 J3 _ (fun p hp => by rw [r3 p (by omega), rr p (by omega)]) (by rw [r3 141 (by omega), show (141 : Nat) = 138 + 3 from rfl, c2.2.2.1 0 (by omega), hw.2.2.1]; rfl) j3 (Or.inr ⟨t3, rfl⟩)
  · rw [← eq, ← ech] at t3
    refine q_many0 (n := 20001) (by omega) e30 (fun z => by omega) (fun _ => b2 (by decide) ?_)
    exact model I3 J3 (-3) (fun p hp => by rw [r3 p (by omega), rr p (by omega)]) (by rw [r3 141 (by omega), show (141 : Nat) = 138 + 3 from rfl, c2.2.2.1 0 (by omega), hw.2.2.1]; rfl) j3 (Or.inl ⟨t3, rfl⟩)
