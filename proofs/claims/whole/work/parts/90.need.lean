theorem qO_mono {q : sPr} {N n : Nat} (h : qO q N) (hn : n ≤ N) : qO q n := ⟨by have := h.1; omega, h.2.1, h.2.2.1, h.2.2.2.1, h.2.2.2.2.1, fun g hg => h.2.2.2.2.2.1 g (by omega), h.2.2.2.2.2.2⟩
theorem S_need {I : sI} {J : sJ} (a1 : Int32) (hR : RR0 I J) : St (w_X11_need a1) (w_X12_need a1) I J := by
  have hR0 := hR
  obtain ⟨hT, hD, hK, hW, hC, hQ, hX⟩ := hR
  obtain ⟨G, P, s, κ, h, d, bk, nw, wl, wt, hw, hx, hww, hc, hm, e3, e2, hcw, hmw⟩ := rd_get hD hW
  have hG := hw.1
  show w_X11_need a1 I J _
  unfold w_X11_need
  refine q_cannotR hG hc.1 (fun z g1 => b1 rfl ?_) (fun z => b2 (by decide) ?_)
  rotate_left
  · unfold w_X12_need
    rintro _ rfl
    refine q_isAsked hG hm.1 (fun a b => absurd ⟨a, b⟩ z) (fun _ => b4 rfl ?_)
    exact ⟨rfl, (RT_congr hT rfl rfl rfl rfl), (RD_congr hD (fun q h1 h2 => by repeat rw [sUI_ne (by omega)]) rfl rfl rfl rfl rfl rfl rfl rfl rfl rfl rfl), (RK_congr hK (fun q h1 h2 => by repeat rw [sUI_ne (by omega)]) rfl rfl), (RW_congr hW (fun q h1 h2 => by repeat rw [sUI_ne (by omega)]) rfl rfl rfl), (RC_congr hC (fun q h1 h2 => by repeat rw [sUI_ne (by omega)]) rfl rfl rfl), (RR_congr hQ rfl rfl rfl rfl), (RX_congr hX rfl rfl rfl rfl rfl)⟩
  obtain ⟨t, ht, rfl⟩ := z
  have hq := dQ_O (t := t) hw hx hww ht
  obtain ⟨q, eq⟩ : ∃ q, q = dQ h d bk (nw t) (wl t) (wt t) s κ := ⟨_, rfl⟩
  have hq' : qO q G := by rw [eq]; exact hq
  obtain ⟨ch, ech⟩ : ∃ ch, ch = chF q := ⟨_, rfl⟩
  have len : ∀ n, 1 ≤ n → tot ch n ≤ 20000 → (lev ch n).length ≤ 20000 := fun n h1 h2 => lev_len h1 h2
  obtain ⟨pr, epr⟩ : ∃ pr : Nat → Prop, pr = fun n => ∀ m, 1 ≤ m → m < n → tot ch m ≤ 20000 ∧ 2 ≤ (lev ch m).length := ⟨_, rfl⟩
  have prd : ∀ n, pr n ↔ ∀ m, 1 ≤ m → m < n → tot ch m ≤ 20000 ∧ 2 ≤ (lev ch m).length := fun n => by rw [epr]
  have prs : ∀ n, pr n → tot ch n ≤ 20000 → 2 ≤ (lev ch n).length → pr (n + 1) := fun n a b c => (prd _).mpr (fun m m1 m2 => by
    by_cases e : m = n
    · rw [e]; exact ⟨b, c⟩
    · exact (prd _).mp a m m1 (by omega))
  have model : ∀ (I1 : sI) (J1 : sJ) (r : Int32), (∀ p, ¬ (p = 134 ∨ (136 ≤ p ∧ p ≤ 137) ∨ (142 ≤ p ∧ p ≤ 223)) → I1 p = I p) → (∀ p, ¬ (p = 135 ∨ p = 137 ∨ (142 ≤ p ∧ p ≤ 223)) → J1 p = J p) → ((pr (G + 1) ∧ r = -2 ∧ I1 134 1 = I 134 1 ∧ J1 135 = J 135) ∨ (∃ n, 1 ≤ n ∧ n ≤ G ∧ pr n ∧ ((20000 < tot ch n ∧ r = -3 ∧ I1 134 1 = I 134 1 ∧ J1 135 = J 135) ∨ (tot ch n ≤ 20000 ∧ (lev ch n).length < 2 ∧ r = nI n ∧ I1 134 1 = nI n ∧ ∀ i, i < n → J1 135 i = (nI (lev ch (i + 1)).length).toInt64)))) → w_X12_need (nI t) I1 J1 (fun r2 I2 J2 => r = r2 ∧ RR0 I2 J2) := by
    intro I1 J1 r ra ja hr
    unfold w_X12_need
    rintro _ rfl
    obtain ⟨m1, m2, m3⟩ := mset hm e2 hmw (I1 := I1) (fun p hp => ra p (by omega))
    obtain ⟨I0, e0⟩ : ∃ I0, I0 = sUI I1 248 0 0 := ⟨_, rfl⟩
    rw [← e0] at m1 m2 m3 ⊢
    have r0 : ∀ p, ¬ p = 248 → I0 p = I1 p := fun p hp => by rw [e0, sUI_ne hp]
    have s0 : ∀ k, ¬ k = 0 → I0 248 k = I1 248 k := fun k hk => by rw [e0, pf_uis, if_neg hk]
    refine q_isAsked hG m1.1 (fun _ _ => b3 (by decide) ?_) (fun q => absurd ⟨⟨t, ht, rfl⟩, g1⟩ q)
    obtain ⟨post, ep⟩ : ∃ post : Int32 → sI → sJ → Prop, post = fun r2 I2 J2 => r = r2 ∧ RR0 I2 J2 := ⟨_, rfl⟩
    rw [← ep]
    have loop : ∀ fu n (I3 : sI) (J3 : sJ), 1 ≤ n → n ≤ G + 1 → G + 1 - n < fu → (∀ p, ¬ (p = 248 ∨ p = 260 ∨ p = 261 ∨ p = 263 ∨ p = 264 ∨ p = 267) → I3 p = I0 p) → (∀ k, ¬ (k = 24 ∨ k = 30) → I3 248 k = I0 248 k) → (∀ p, ¬ p = 262 → J3 p = J1 p) → (∀ i, i + 1 < n → I3 267 i = nI (lev ch (i + 1)).length) → pr n → w_X12_need_17_n post fu (nI t) (nI n) I3 J3 := by
      intro fu
      induction fu with
      | zero => intro n _ _ _ _ h; omega
      | succ fu ih =>
        intro n I3 J3 hn1 hn hfu r3 s3 j3 c3 hp
        show w_X12_need_17_s post (w_X12_need_17_n post fu) _ _ I3 J3
        unfold w_X12_need_17_s
        have mm := mD_congr m1 (s3 11 (by omega)) (s3 12 (by omega)) (r3 253 (by omega)) (r3 254 (by omega))
        rw [mm.1, pf_lt (by omega) (by omega)]
        refine ⟨fun e => ?_, fun e => ?_⟩
        · have nG : n = G + 1 := by omega
          subst nG
          rw [ep]
          rcases hr with ⟨_, hr, h134, hj⟩ | ⟨n, a1, a2, a3, a4⟩
          · exact ⟨hr, fin_all hR0 ra h134 hj (ja 249 (by omega)) (fun p hp => by rw [r3 p (by omega), r0 p (by omega)]) (fun k hk => by rw [s3 k (by omega), s0 k (by omega)]) (fun p hp => j3 p (by omega))⟩
          · have := (prd _).mp hp n a1 (by omega)
            rcases a4 with a4 | a4 <;> omega
        · refine q_takesDisc hw mm (show n ≤ G by omega) (fun I4 r4 s4 e24 z4 c4 => ?_)
          have qn : qO q n := qO_mono hq' (by omega)
          have sq : sqS q n t bk s I4 := by
            rw [eq]
            exact dQ_sq hw (by omega) ht e24 (by rw [s4 21 (by omega), s4 22 (by omega), s4 23 (by omega), s3 21 (by omega), s3 22 (by omega), s3 23 (by omega)]; exact m2) (mW_congr (mW_congr m3 (r3 257 (by omega)) (r3 258 (by omega)) (r3 259 (by omega))) (r4 257 (by omega)) (r4 258 (by omega)) (r4 259 (by omega))) z4 c4
          refine q_searches qn ht hx.2.2.2 sq (fun I5 J5 r5 s5 j5 t5 e30 bf5 => b3 (by decide) ?_) (fun I5 J5 r5 s5 j5 t5 e30 => b4 rfl ?_)
          · rw [← ech] at t5 bf5
            have Lb := len n hn1 t5
            have et : tot ch n = tot ch (n - 1) + (lev ch n).length := by
              obtain ⟨g, eg⟩ : ∃ g, n = g + 1 := ⟨n - 1, by omega⟩
              rw [eg]; rfl
            rw [nI_p hn1]
            refine ⟨vp_in_nI (by omega) (by omega), ?_⟩
            refine q_lvl (by omega) bf5 (by omega) ?_
            rw [pf_cl (by omega), bf5.1 (n - 1) (by omega), show n - 1 + 1 = n by omega, pk_sub (by omega), show tot ch n - tot ch (n - 1) = (lev ch n).length by omega]
            refine ⟨vp_in_nI (by omega) (by omega), ?_⟩
            rintro _ rfl
            rw [pf_uis, if_pos rfl, show (2 : Int32) = nI 2 from rfl, pf_le (by omega) (by omega), nI_1]
            have rr : ∀ p, ¬ (p = 248 ∨ p = 260 ∨ p = 261 ∨ p = 263 ∨ p = 264 ∨ p = 267) → (sUI I5 267 (n - 1) (nI (lev ch n).length)) p = I0 p := fun p hp => by rw [sUI_ne (by omega), r5 p (by omega), r4 p (by omega), r3 p hp]
            have ss : ∀ k, ¬ (k = 24 ∨ k = 30) → (sUI I5 267 (n - 1) (nI (lev ch n).length)) 248 k = I0 248 k := fun k hk => by rw [sUI_ne (by omega), s5 k (by omega), s4 k (by omega), s3 k hk]
            have cc : ∀ i, i < n → (sUI I5 267 (n - 1) (nI (lev ch n).length)) 267 i = nI (lev ch (i + 1)).length := by
              intro i hi
              rw [pf_uis]
              by_cases z : i = n - 1
              · rw [if_pos z, z, show n - 1 + 1 = n by omega]
              · rw [if_neg z, r5 267 (by omega), r4 267 (by omega), c3 i (by omega)]
            refine ⟨vp_in_nI (by omega) (by omega), fun y => ?_, fun y => ?_⟩
            · rintro _ rfl
              exact ih (n + 1) _ J5 (by omega) (by omega) (by omega) rr ss (fun p hp => by rw [j5 p hp, j3 p hp]) (fun i hi => cc i (by omega)) (prs n hp t5 y)
            · rintro _ rfl
              have ans : r = nI n ∧ I1 134 1 = nI n ∧ ∀ i, i < n → J1 135 i = (nI (lev ch (i + 1)).length).toInt64 := by
                rcases hr with ⟨p1, _⟩ | ⟨n2, a1, a2, a3, a4⟩
                · have := (prd _).mp p1 n hn1 (by omega)
                  omega
                · have e5 : n2 = n := by
                    rcases Nat.lt_trichotomy n2 n with y2 | y2 | y2
                    · have := (prd _).mp hp n2 a1 y2
                      rcases a4 with a4 | a4 <;> omega
                    · exact y2
                    · have := (prd _).mp a3 n hn1 y2
                      omega
                  subst e5
                  rcases a4 with a4 | a4
                  · omega
                  · exact a4.2.2
              have out : ∀ fu2 i (I6 : sI) (J6 : sJ), i ≤ n → n - i < fu2 → (∀ p, ¬ p = 248 → I6 p = (sUI I5 267 (n - 1) (nI (lev ch n).length)) p) → (∀ k, ¬ k = 1 → I6 248 k = (sUI I5 267 (n - 1) (nI (lev ch n).length)) 248 k) → I6 248 1 = nI i → (∀ p, ¬ p = 249 → J6 p = J5 p) → (∀ j, j < i → J6 249 j = (nI (lev ch (j + 1)).length).toInt64) → w_X12_need_84_n post fu2 (nI n) (nI i) I6 J6 := by
                intro fu2
                induction fu2 with
                | zero => intro i _ _ _ h; omega
                | succ fu2 ih2 =>
                  intro i I6 J6 hi hfu2 r6 s6 e6 j6 c6
                  show w_X12_need_84_s post (w_X12_need_84_n post fu2) _ _ I6 J6
                  unfold w_X12_need_84_s
                  rw [pf_le (by omega) (by omega), pf_cl (by omega)]
                  refine ⟨fun e7 => ?_, fun e7 => ⟨vp_in_nI (by omega) (by omega), ?_⟩⟩
                  · rw [show i = n by omega] at e6 c6
                    rw [ep]
                    refine ⟨ans.1, fin_row hR0 ra (fun p hp => by rw [r6 p (by omega), rr p (by omega), r0 p (by omega)]) (fun k hk => by rw [s6 k (by omega), ss k (by omega), s0 k (by omega)]) ⟨n, by omega, by rw [r6 134 (by omega), rr 134 (by omega), r0 134 (by omega)]; exact ans.2.1, e6, fun j hj => ?_⟩⟩
                    rw [j6 135 (by omega), j5 135 (by omega), j3 135 (by omega), ans.2.2 j hj, c6 j hj]
                  · rw [r6 267 (by omega), cc i (by omega)]
                    refine q_enters e6 (by omega) ?_
                    rw [nI_1]
                    rintro _ rfl
                    refine ih2 (i + 1) _ _ (by omega) (by omega) (fun p hp => by rw [sUI_ne hp, r6 p hp]) (fun k hk => by rw [pf_uis, if_neg hk, s6 k hk]) (by rw [pf_uis, if_pos rfl]) (fun p hp => by funext x; rw [pf_uj, if_neg (by omega), j6 p hp]) (fun j hj => ?_)
                    rw [pf_ujs]
                    by_cases z2 : j = i
                    · rw [if_pos z2, z2]
                    · rw [if_neg z2, c6 j (by omega)]
              exact ⟨n + 1, out (n + 1) 0 _ J5 (by omega) (by omega) (fun p hp => sUI_ne hp) (fun k hk => by rw [pf_uis, if_neg hk]) (by rw [pf_uis, if_pos rfl]; rfl) (fun _ _ => rfl) (fun j hj => by omega)⟩
          · rw [← ech] at t5
            rw [ep]
            have ans : r = -3 ∧ I1 134 1 = I 134 1 ∧ J1 135 = J 135 := by
              rcases hr with ⟨p1, _⟩ | ⟨n2, a1, a2, a3, a4⟩
              · have := (prd _).mp p1 n hn1 (by omega)
                omega
              · have e5 : n2 = n := by
                  rcases Nat.lt_trichotomy n2 n with y2 | y2 | y2
                  · have := (prd _).mp hp n2 a1 y2
                    rcases a4 with a4 | a4 <;> omega
                  · exact y2
                  · have := (prd _).mp a3 n hn1 y2
                    omega
                subst e5
                rcases a4 with a4 | a4
                · exact a4.2
                · omega
            exact ⟨ans.1, fin_all hR0 ra ans.2.1 ans.2.2 (ja 249 (by omega)) (fun p hp => by rw [r5 p (by omega), r4 p (by omega), r3 p (by omega), r0 p (by omega)]) (fun k hk => by rw [s5 k (by omega), s4 k (by omega), s3 k (by omega), s0 k (by omega)]) (fun p hp => by rw [j5 p (by omega), j3 p (by omega)])⟩
    exact ⟨G + 1, loop (G + 1) 1 I0 J1 (by omega) (by omega) (by omega) (fun _ _ => rfl) (fun _ _ => rfl) (fun _ _ => rfl) (fun i hi => by omega) ((prd _).mpr (fun m m1 m2 => by omega))⟩
  obtain ⟨f0, f1, f2, f3⟩ := sRtg t ht
  rw [e3.1, e3.2.1, e3.2.2]
  refine q_wopen (q := dQ h d bk (nw t) (wl t) (wt t) s κ) rfl rfl ⟨hx.1, hx.2.1⟩ hx.2.2.2 (fun I5 J5 r5 j5 cf5 wy5 => ?_)
  rw [pf_cl (by omega), f0]
  refine ⟨vp_in_nI (by omega) (by omega), ?_⟩
  refine q_add hq (show 0 + G ≤ G by omega) (by decide) hw (cD_congr hc (r5 4 (by omega)) (r5 5 (by omega)) (r5 6 (by omega)) (r5 7 (by omega))) (fun g _ => dQ_gp g) ht (dQ_tg (cW_congr hww hcw (fun p p1 p2 => r5 p (by omega))) ht) cf5 hx.2.2.2 wy5 (fun I6 J6 r6 j6 cf6 wy6 => ?_)
  rw [Nat.zero_add] at wy6
  rw [← eq] at cf6 wy6
  rintro _ rfl
  obtain ⟨post, ep⟩ : ∃ post : Int32 → sI → sJ → Prop, post = fun r I1 J1 => w_X12_need (nI t) I1 J1 (fun r2 I2 J2 => r = r2 ∧ RR0 I2 J2) := ⟨_, rfl⟩
  rw [← ep]
  have loop : ∀ fu n (I3 : sI) (J3 : sJ), 1 ≤ n → n ≤ G + 1 → G + 1 - n < fu → (∀ p, ¬ (p = 136 ∨ p = 220 ∨ p = 222 ∨ p = 223) → I3 p = I6 p) → I3 136 1 = nI (n - 1) → (∀ p, ¬ (p = 137 ∨ p = 220 ∨ p = 221) → J3 p = J6 p) → (∀ i, i + 1 < n → J3 137 i = (nI (lev ch (i + 1)).length).toInt64) → pr n → w_X11_need_68_n post fu (nI n) I3 J3 := by
    intro fu
    induction fu with
    | zero => intro n _ _ _ _ h; omega
    | succ fu ih =>
      intro n I3 J3 hn1 hn hfu r3 e136 j3 c3 hp
      show w_X11_need_68_s post (w_X11_need_68_n post fu) _ I3 J3
      unfold w_X11_need_68_s
      have wy3 : wyS q G I3 J3 := wyS_congr wy6 (by omega) (fun p p1 p2 => r3 p (by omega)) (fun p p1 p2 => j3 p (by omega))
      have cf3 : cfS q bk I3 := by
        unfold cfS at *
        rw [r3 142 (by omega)]
        exact cf6
      have rI : ∀ p, ¬ (p = 136 ∨ (142 ≤ p ∧ p ≤ 223)) → I3 p = I p := fun p hp => by rw [r3 p (by omega), r6 p (by omega), r5 p (by omega)]
      have rJ : ∀ p, ¬ (p = 137 ∨ (142 ≤ p ∧ p ≤ 223)) → J3 p = J p := fun p hp => by rw [j3 p (by omega), j6 p (by omega), j5 p (by omega)]
      rw [wy3.1, pf_lt (by omega) (by omega)]
      refine ⟨fun e => ?_, fun e => ?_⟩
      · rw [ep]
        exact model I3 J3 (-2) (fun p hp => rI p (by omega)) (fun p hp => rJ p (by omega)) (Or.inl ⟨by rw [show G + 1 = n by omega]; exact hp, rfl, by rw [rI 134 (by omega)], rJ 135 (by omega)⟩)
      · refine q_run (mode := 0) (det := 0) (MS := ms_0) hq' (show n ≤ G by omega) hn1 (by omega) (by omega) (tk_0 (Or.inl rfl)) (fun _ _ _ => trivial) cf3 wy3 (fun I7 J7 r7 j7 t7 e7 rd7 => ?_) (fun I7 J7 r7 j7 t7 e7 => ?_)
        · rw [← ech] at t7 e7 rd7
          have Lb := len n hn1 t7
          have u1 := rd7.1
          refine q_many0 (n := tot ch n) (by omega) e7 (fun _ => b1 rfl ?_) (fun z => by omega)
          rw [u1]
          refine q_X6_put (by decide) (by rw [r7 136 (by omega)]; exact e136) (by omega) ?_
          rw [show n - 1 + 1 = n by omega, sUI_ne (by omega), u1, show (1 : Int32) = nI 1 from rfl, pf_lt (by omega) (by omega), nI_add]
          have cc : ∀ i, i < n → (sUJ J7 (136 + 1) (n - 1) (nI (lev ch n).length).toInt64) 137 i = (nI (lev ch (i + 1)).length).toInt64 := by
            intro i hi
            rw [pf_ujs]
            by_cases z : i = n - 1
            · rw [if_pos z, z, show n - 1 + 1 = n by omega]
            · rw [if_neg z, j7 137 (by omega), c3 i (by omega)]
          refine ⟨fun y => ?_, fun y => ?_⟩
          · rintro _ rfl
            exact ih (n + 1) _ _ (by omega) (by omega) (by omega) (fun p hp => by rw [sUI_ne (by omega), r7 p (by omega), r3 p (by omega)]) (by rw [pf_uis, if_pos rfl]; rfl) (fun p hp => by funext x; rw [pf_uj, if_neg (by omega), j7 p (by omega), j3 p (by omega)]) (fun i hi => cc i (by omega)) (prs n hp t7 (by omega))
          · refine q_X6_take (n := n) (by rw [pf_uis, if_pos rfl]) (by omega) (fun I8 J8 r8 e8 j8 c8 => ?_)
            rw [ep]
            exact model I8 J8 _ (fun p hp => by rw [r8 p (by omega), sUI_ne (by omega), r7 p (by omega), rI p (by omega)]) (fun p hp => by rw [j8 p (by omega)]; funext x; rw [pf_uj, if_neg (by omega), j7 p (by omega), rJ p (by omega)]) (Or.inr ⟨n, hn1, by omega, hp, Or.inr ⟨t7, by omega, rfl, e8, fun i hi => by rw [c8 i hi, cc i hi]⟩⟩)
        · rw [← ech] at t7
          refine q_many0 (n := 20001) (by omega) e7 (fun z => by omega) (fun _ => b2 (by decide) ?_)
          rw [ep]
          exact model I7 J7 (-3) (fun p hp => by rw [r7 p (by omega), rI p (by omega)]) (fun p hp => by rw [j7 p (by omega), rJ p (by omega)]) (Or.inr ⟨n, hn1, by omega, hp, Or.inl ⟨t7, rfl, by rw [r7 134 (by omega), rI 134 (by omega)], by rw [j7 135 (by omega), rJ 135 (by omega)]⟩⟩)
  exact ⟨G + 1, loop (G + 1) 1 _ J6 (by omega) (by omega) (by omega) (fun p hp => sUI_ne (by omega)) (by rw [pf_uis, if_pos rfl]; rfl) (fun _ _ => rfl) (fun i hi => by omega) ((prd _).mpr (fun m m1 m2 => by omega))⟩
