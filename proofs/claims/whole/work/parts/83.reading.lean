theorem fin_gen {I I2 : sI} {J J2 : sJ} (hR : RR0 I J) (r1 : ∀ q, ¬ (q = 0 ∨ q = 134 ∨ (136 ≤ q ∧ q ≤ 223) ∨ q = 248 ∨ (260 ≤ q ∧ q ≤ 269)) → I2 q = I q) (s1 : ∀ k, ¬ (k = 0 ∨ k = 1 ∨ (24 ≤ k ∧ k ≤ 33) ∨ k = 37) → I2 248 k = I 248 k) (hq : RR I2 J2) (hx : RX I2) : RR0 I2 J2 := by
  obtain ⟨hT, hD, hK, hW, hC, hQ, hX⟩ := hR
  exact ⟨(RT_congr hT (by rw [r1 1 (by omega)]) (r1 2 (by omega)) (s1 4 (by omega)) (r1 250 (by omega))), (RD_congr hD (fun q h1 h2 => r1 q (by omega)) (r1 253 (by omega)) (r1 254 (by omega)) (r1 255 (by omega)) (r1 256 (by omega)) (r1 276 (by omega)) (s1 11 (by omega)) (s1 12 (by omega)) (s1 15 (by omega)) (s1 21 (by omega)) (s1 22 (by omega)) (s1 23 (by omega))), (RK_congr hK (fun q h1 h2 => r1 q (by omega)) (r1 279 (by omega)) (r1 280 (by omega))), (RW_congr hW (fun q h1 h2 => r1 q (by omega)) (r1 257 (by omega)) (r1 258 (by omega)) (r1 259 (by omega))), (RC_congr hC (fun q h1 h2 => r1 q (by omega)) (by rw [r1 227 (by omega)]) (s1 46 (by omega)) (r1 275 (by omega))), hq, hx⟩
theorem fin_row {I I1 I2 : sI} {J J2 : sJ} (hR : RR0 I J) (ra : ∀ p, ¬ (p = 134 ∨ (136 ≤ p ∧ p ≤ 137) ∨ (142 ≤ p ∧ p ≤ 223)) → I1 p = I p) (r2 : ∀ p, ¬ (p = 248 ∨ (260 ≤ p ∧ p ≤ 269)) → I2 p = I1 p) (s2 : ∀ k, ¬ (k = 0 ∨ k = 1 ∨ k = 24 ∨ k = 30 ∨ k = 32) → I2 248 k = I1 248 k) (hq : RR I2 J2) : RR0 I2 J2 := by
  have hX := hR.2.2.2.2.2.2
  refine fin_gen hR (fun q hq => by rw [r2 q (by omega), ra q (by omega)]) (fun k hk => by rw [s2 k (by omega), ra 248 (by omega)]) hq (RX_congr hX (by rw [r2 0 (by omega), ra 0 (by omega)]) (by rw [s2 37 (by omega), ra 248 (by omega)]) (by rw [r2 0 (by omega), ra 0 (by omega)]) (by rw [s2 33 (by omega), ra 248 (by omega)]) (by rw [r2 141 (by omega), ra 141 (by omega)]))
theorem fin_all {I I1 I2 : sI} {J J1 J2 : sJ} (hR : RR0 I J) (ra : ∀ p, ¬ (p = 134 ∨ (136 ≤ p ∧ p ≤ 137) ∨ (142 ≤ p ∧ p ≤ 223)) → I1 p = I p) (h134 : I1 134 1 = I 134 1) (h135 : J1 135 = J 135) (h249 : J1 249 = J 249) (r2 : ∀ p, ¬ (p = 248 ∨ (260 ≤ p ∧ p ≤ 269)) → I2 p = I1 p) (s2 : ∀ k, ¬ (k = 0 ∨ k = 24 ∨ k = 30 ∨ k = 32) → I2 248 k = I1 248 k) (j2 : ∀ p, ¬ (p = 262 ∨ p = 265) → J2 p = J1 p) : RR0 I2 J2 :=
  fin_row hR ra r2 (fun k hk => s2 k (by omega)) (RR_congr hR.2.2.2.2.2.1 (by rw [r2 134 (by omega)]; exact h134) (by rw [s2 1 (by omega), ra 248 (by omega)]) (by rw [j2 135 (by omega)]; exact h135) (by rw [j2 249 (by omega)]; exact h249))
theorem lev_len {ch : Nat → Nat → List Nat} {G : Nat} (h : 1 ≤ G) (t : tot ch G ≤ 20000) : (lev ch G).length ≤ 20000 := by
  obtain ⟨g, eg⟩ : ∃ g, G = g + 1 := ⟨G - 1, by omega⟩
  subst eg
  have : tot ch (g + 1) = tot ch g + (lev ch (g + 1)).length := rfl
  omega
theorem lev_8 {q : sPr} {N : Nat} (hq : qO q N) : ∀ {g x}, g ≤ N → x ∈ lev (chF q) g → ∀ k, k < 12 → nb x k ≤ 8 := by
  intro g
  induction g with
  | zero =>
    intro x _ hx k _
    rw [lev, List.mem_singleton] at hx
    rw [hx, nb_0]; omega
  | succ g ih =>
    intro x hg hx k hk
    rw [lev, List.mem_flatMap] at hx
    obtain ⟨c, hc, hcx⟩ := hx
    have hn := lev_ok hq (show g ≤ N by omega) hc
    rw [ch_cs hq (show g < N by omega) hn, List.mem_map] at hcx
    obtain ⟨e, he, rfl⟩ := hcx
    obtain ⟨m1, m2⟩ := List.mem_filter.mp he
    obtain ⟨a, b, _⟩ := cs_ok hq (show g < N by omega) m1
    obtain ⟨w, hw, ew⟩ := chL_mem.mp m1
    obtain ⟨u1, u2⟩ := un_nb hn b (bp_t.mp m2).1 k hk
    by_cases z : knF q g k
    · rw [u1 z]; exact ih (by omega) hc k hk
    · rw [u2 z]; exact sp_nb8 hq (show g < N by omega) hw (cw_sp ew).1 hk
theorem S_reading {I : sI} {J : sJ} (a1 a2 : Int32) (hR : RR0 I J) : St (w_X11_reading a1 a2) (w_X12_reading a1 a2) I J := by
  have hR0 := hR
  obtain ⟨hT, hD, hK, hW, hC, hQ, hX⟩ := hR
  obtain ⟨G, P, s, κ, h, d, bk, nw, wl, wt, hw, hx, hww, hc, hm, e3, e2, hcw, hmw⟩ := rd_get hD hW
  have hG := hw.1
  have refuse : ¬ ((Ix a1 4 ∧ 1 ≤ G) ∧ (0 ≤ a2 ∧ a2 ≤ 199)) → w_X12_reading a1 a2 I J (fun r2 I2 J2 => -1 = r2 ∧ RR0 I2 J2) := by
    intro z
    have fin : RR0 (sUI I 248 0 0) J := ⟨(RT_congr hT rfl rfl rfl rfl), (RD_congr hD (fun q h1 h2 => by repeat rw [sUI_ne (by omega)]) rfl rfl rfl rfl rfl rfl rfl rfl rfl rfl rfl), (RK_congr hK (fun q h1 h2 => by repeat rw [sUI_ne (by omega)]) rfl rfl), (RW_congr hW (fun q h1 h2 => by repeat rw [sUI_ne (by omega)]) rfl rfl rfl), (RC_congr hC (fun q h1 h2 => by repeat rw [sUI_ne (by omega)]) rfl rfl rfl), (RR_congr hQ rfl rfl rfl rfl), (RX_congr hX rfl rfl rfl rfl rfl)⟩
    unfold w_X12_reading
    rintro _ rfl
    refine q_isAsked hG hm.1 (fun a b => b2 (by decide) ?_) (fun _ => b1 rfl ⟨rfl, fin⟩)
    exact q_in (lo := 0) (hi := 199) (by decide) (by decide) (fun p => absurd ⟨⟨a, b⟩, p⟩ z) (fun _ => b4 rfl ⟨rfl, fin⟩)
  show w_X11_reading a1 a2 I J _
  unfold w_X11_reading
  refine q_cannotR hG hc.1 (fun z g1 => b4 rfl ?_) (fun z => b3 (by decide) (refuse (fun q => z q.1)))
  refine ⟨fun y => refuse (fun q => absurd y (Int32.not_lt.mpr q.2.1)), fun y0 => ⟨fun y1 => ?_, fun y => refuse (fun q => y ?_)⟩⟩
  rotate_left
  · obtain ⟨i, hi, e⟩ := ix_of (N := 199) (by omega) q.2.1 q.2.2
    rw [e, show (200 : Int32) = nI 200 from rfl, pf_lt (by omega) (by omega)]
    omega
  have p1 : 0 ≤ a2 ∧ a2 ≤ 199 := by
    refine ⟨Int32.not_lt.mp y0, ?_⟩
    rw [pf_ltInt] at y1
    rw [pf_leInt]
    have : (200 : Int32).toInt = 200 := by decide
    have : (199 : Int32).toInt = 199 := by decide
    omega
  obtain ⟨i, hi, rfl⟩ := ix_of (N := 199) (by omega) p1.1 p1.2
  obtain ⟨t, ht, rfl⟩ := z
  have hq := dQ_O hw hx hww ht
  obtain ⟨ch, ech⟩ : ∃ ch, ch = chF (dQ h d bk (nw t) (wl t) (wt t) s κ) := ⟨_, rfl⟩
  have x48 : ∀ x, x ∈ lev ch G → x < 2 ^ 48 := fun x hx2 => (lev_ok hq (Nat.le_refl _) (by rw [← ech]; exact hx2)).1
  have model : ∀ (I1 : sI) (J1 : sJ) (r : Int32), (∀ p, ¬ (p = 134 ∨ (136 ≤ p ∧ p ≤ 137) ∨ (142 ≤ p ∧ p ≤ 223)) → I1 p = I p) → (∀ p, ¬ (p = 135 ∨ (142 ≤ p ∧ p ≤ 223)) → J1 p = J p) → ((20000 < tot ch G ∧ r = -3 ∧ I1 134 1 = I 134 1 ∧ J1 135 = J 135) ∨ (tot ch G ≤ 20000 ∧ (((lev ch G).length ≤ i ∧ r = -2 ∧ I1 134 1 = I 134 1 ∧ J1 135 = J 135) ∨ (i < (lev ch G).length ∧ r = 0 ∧ I1 134 1 = nI 12 ∧ ∃ v, rkV (lev ch G) i v ∧ ∀ k, k < 12 → J1 135 k = (nI (nb v k) - 1).toInt64)))) → w_X12_reading (nI t) (nI i) I1 J1 (fun r2 I2 J2 => r = r2 ∧ RR0 I2 J2) := by
    intro I1 J1 r ra ja hr
    unfold w_X12_reading
    rintro _ rfl
    obtain ⟨m1, m2, m3⟩ := mset hm e2 hmw (I1 := I1) (fun p hp => ra p (by omega))
    refine q_isAsked hG m1.1 (fun _ _ => b2 (by decide) ?_) (fun q => absurd ⟨⟨t, ht, rfl⟩, g1⟩ q)
    refine q_in (lo := 0) (hi := 199) (by decide) (by decide) (fun _ => b3 (by decide) ?_) (fun q => absurd p1 q)
    refine q_all hw m1 g1 hx m2 hww m3 ht (fun I2 J2 F r2 s2 j2 t2 e30 e32 f2 o2 _ => b3 (by decide) ?_) (fun I2 J2 r2 s2 j2 t2 e30 => b4 rfl ?_)
    · rw [← ech] at t2 e32 f2 o2
      have len := lev_len g1 t2
      rcases hr with ⟨c, _⟩ | ⟨_, hr⟩
      · omega
      rw [e32, pf_lt (by omega) (by omega)]
      rcases hr with ⟨l0, hr, h134, hj⟩ | ⟨l1, hr, h134, v, v1, v2⟩
      · refine b2 (by omega) ⟨hr, fin_all hR0 ra h134 hj (ja 249 (by omega)) (fun p hp => by rw [r2 p (by omega), sUI_ne (by omega)]) (fun k hk => by rw [s2 k (by omega), pf_uis, if_neg (by omega)]) j2⟩
      · refine b1 l1 ?_
        rintro _ rfl
        rw [pf_cl (by omega), (f2 i l1).1, rk_uni (sr_rk o2 l1) v1]
        refine ⟨vp_in_nI (by omega) (by omega), ?_⟩
        refine q_entersR (x48 v v1.1) (by rw [pf_uis, if_pos rfl]; rfl) (fun I4 J4 r4 s4 e4 j4 c4 => ⟨hr, ?_⟩)
        refine fin_row hR0 ra (fun p hp => by rw [r4 p (by omega), sUI_ne (by omega), r2 p (by omega), sUI_ne (by omega)]) (fun k hk => by rw [s4 k (by omega), pf_uis, if_neg (by omega), s2 k (by omega), pf_uis, if_neg (by omega)]) (RR_12 (by rw [r4 134 (by omega), sUI_ne (by omega), r2 134 (by omega), sUI_ne (by omega)]; exact h134) e4 (fun k hk => ?_))
        rw [j4 135 (by omega), j2 135 (by omega), v2 k hk, c4 k hk]
    · rw [← ech] at t2
      rcases hr with ⟨_, hr, h134, hj⟩ | ⟨c, _⟩
      · exact ⟨hr, fin_all hR0 ra h134 hj (ja 249 (by omega)) (fun p hp => by rw [r2 p (by omega), sUI_ne (by omega)]) (fun k hk => by rw [s2 k (by omega), pf_uis, if_neg (by omega)]) j2⟩
      · omega
  rw [nI_1]
  refine q_read (mode := 2) (det := i + 1) (MS := ms_2 (i + 1)) (by decide) hw hc g1 hx e3 hww hcw ht (by omega) (by omega) (tk_2 (by omega) (by omega)) (fun _ _ _ j hj => by simp at hj) (fun I1 J1 r1 j1 t1 e1 rd1 => ?_) (fun I1 J1 r1 j1 t1 e1 => ?_)
  · rw [← ech] at t1 e1 rd1
    have len := lev_len g1 t1
    refine q_many0 (n := tot ch G) (by omega) e1 (fun _ => b1 rfl ?_) (fun z => by omega)
    obtain ⟨u1, u2, u3, u4, u5, u6, u7⟩ := rd1
    rw [u1, pf_lt (by omega) (by omega)]
    refine ⟨fun z => ?_, fun z => ?_⟩
    · rintro _ rfl
      obtain ⟨v, v1, v2⟩ := u7 i z (by omega)
      rw [pf_cl (by omega), v1]
      refine ⟨vp_in_nI (by omega) (by omega), ?_⟩
      refine q_tellL (x48 v v2.1) (by rw [pf_uis, if_pos rfl]; rfl) (fun I4 J4 r4 e4 j4 c4 => ?_)
      exact model I4 J4 0 (fun p hp => by rw [r4 p (by omega), sUI_ne (by omega), r1 p (by omega)]) (fun p hp => by rw [j4 p (by omega), j1 p (by omega)]) (Or.inr ⟨t1, Or.inr ⟨z, rfl, e4, v, v2, c4⟩⟩)
    · exact model I1 J1 (-2) (fun p hp => r1 p (by omega)) (fun p hp => j1 p (by omega)) (Or.inr ⟨t1, Or.inl ⟨by omega, rfl, by rw [r1 134 (by omega)], j1 135 (by omega)⟩⟩)
  · rw [← ech] at t1
    refine q_many0 (n := 20001) (by omega) e1 (fun z => by omega) (fun _ => b2 (by decide) ?_)
    exact model I1 J1 (-3) (fun p hp => r1 p (by omega)) (fun p hp => j1 p (by omega)) (Or.inl ⟨t1, rfl, by rw [r1 134 (by omega)], j1 135 (by omega)⟩)
