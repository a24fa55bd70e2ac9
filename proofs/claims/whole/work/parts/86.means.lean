theorem fw_iff {q : sPr} {N g r w : Nat} (hq : qO q N) (hg : g < N) (hw : w < qN q) (hn : ndO (knF q N) (qH q) r) : fwK q g r w ↔ (lnO q g w ∧ ∃ d, ftF (qH q) (qK q g) (qT q w) r (qZ q g) = some d) := by
  constructor
  · rintro ⟨_, e, ew, se⟩
    obtain ⟨ln, f⟩ := sp_ft (cw_sp ew).1
    have sg := qO_sg hq hg hw ln
    obtain ⟨a, b, c⟩ := sp_D sg f
    obtain ⟨d0, f0, _⟩ := ft_E (h := qH q) (c := r) (d := r) sg hn.1 (fun k _ _ => rfl) hn.2.2 (Nat.le_refl _) (fun j hj x => by
      have kj := (sg j hj).1
      have cj := c j hj x
      rw [se _ (by omega) (by omega)]; exact cj)
    exact ⟨ln, d0, f0⟩
  · rintro ⟨ln, d, f⟩
    have sg := qO_sg hq hg hw ln
    obtain ⟨a1, a2, a3, a4, a5⟩ := ft_D sg hn.1 (Nat.le_refl _) f
    have rj : ∀ j, j < qZ q g → qK q g j ≠ 12 → nb r (qK q g j) = qT q w j + 1 := by
      intro j hj x
      have kj := (sg j hj).1
      have kn : nb r (qK q g j) ≠ 0 := (hn.2.1 _ (by omega)).mpr ⟨g, hg, j, hj, rfl⟩
      rw [← a2 _ (by omega) kn]
      exact a4 j hj x
    obtain ⟨e, e1, e2⟩ := ft_E (h := 13) (c := 0) (d := r) sg (by decide) (fun k _ x => absurd nb_0 x) (fun l _ => by have := usd_le (c := r) (l := l); omega) (Nat.le_refl _) rj
    have sp : spF q g w = some e := by rw [spF, if_pos (bp_t.mpr ln)]; exact e1
    refine ⟨hw, e, sp_cw sp (fun l hl => ?_), e2⟩
    have : frK (knF q g) e l ≤ usd r l := cnt_mono (fun k hk x => by rw [e2 k hk (by have := x.1; omega)]; exact x.1)
    have := hn.2.2 l hl
    omega
theorem msk_cut {p : Nat → Prop} {n m : Nat} (h : n ≤ m) (hp : ∀ i, n ≤ i → i < m → ¬ p i) : msk p m = msk p n := by
  apply Nat.eq_of_testBit_eq
  intro i
  rw [Bool.eq_iff_iff, msk_in, msk_in]
  constructor
  · rintro ⟨a, b⟩
    refine ⟨?_, b⟩
    rcases Nat.lt_or_ge i n with y | y
    · exact y
    · exact absurd b (hp i y a)
  · rintro ⟨a, b⟩; exact ⟨by omega, b⟩
theorem S_means {I : sI} {J : sJ} (a1 a2 : Int32) (hR : RR0 I J) : St (w_X11_means a1 a2) (w_X12_means a1 a2) I J := by
  have hR0 := hR
  obtain ⟨hT, hD, hK, hW, hC, hQ, hX⟩ := hR
  obtain ⟨G, P, s, κ, h, d, bk, nw, wl, wt, hw, hx, hww, hc, hm, e3, e2, hcw, hmw⟩ := rd_get hD hW
  have hG := hw.1
  have hP := hw.2.1
  have big : ∀ x : Int32, 1 ≤ G → ((0 ≤ x ∧ x ≤ nI G - 1) ↔ ∃ k, k < G ∧ x = nI k) := by
    intro x g1
    rw [nI_p g1]
    constructor
    · rintro ⟨q1, q2⟩
      obtain ⟨k, hk, e⟩ := ix_of (by omega) q1 q2
      exact ⟨k, by omega, e⟩
    · rintro ⟨k, hk, rfl⟩
      exact ⟨pf_ge0 (by omega), (pf_le (by omega) (by omega)).mpr (by omega)⟩
  have refuse : ¬ ((Ix a1 4 ∧ 1 ≤ G) ∧ ∃ k, k < G ∧ a2 = nI k) → w_X12_means a1 a2 I J (fun r2 I2 J2 => -1 = r2 ∧ RR0 I2 J2) := by
    intro z
    have fin : RR0 (sUI I 248 0 0) J := ⟨(RT_congr hT rfl rfl rfl rfl), (RD_congr hD (fun q h1 h2 => by repeat rw [sUI_ne (by omega)]) rfl rfl rfl rfl rfl rfl rfl rfl rfl rfl rfl), (RK_congr hK (fun q h1 h2 => by repeat rw [sUI_ne (by omega)]) rfl rfl), (RW_congr hW (fun q h1 h2 => by repeat rw [sUI_ne (by omega)]) rfl rfl rfl), (RC_congr hC (fun q h1 h2 => by repeat rw [sUI_ne (by omega)]) rfl rfl rfl), (RR_congr hQ rfl rfl rfl rfl), (RX_congr hX rfl rfl rfl rfl rfl)⟩
    have e11 : (sUI I 248 0 0) 248 11 = nI G := hm.1
    unfold w_X12_means
    rintro _ rfl
    refine q_isAsked hG e11 (fun a b => b2 (by decide) ?_) (fun _ => b1 rfl ⟨rfl, fin⟩)
    exact q_in (lo := 0) (hi := nI G - 1) (by decide) (by rw [e11]) (fun p => absurd ⟨⟨a, b⟩, (big a2 b).mp p⟩ z) (fun _ => b4 rfl ⟨rfl, fin⟩)
  show w_X11_means a1 a2 I J _
  unfold w_X11_means
  refine q_cannotR hG hc.1 (fun z g1 => b4 rfl ?_) (fun z => b3 (by decide) (refuse (fun q => z q.1)))
  rw [hc.1]
  rcases pf_split a2 (N := G) (by omega) with ⟨g, hg, rfl⟩ | y | y
  rotate_left
  · refine b1 y (refuse (fun ⟨_, k, hk, e⟩ => ?_))
    rw [e] at y; exact absurd y (pf_lt0 (by omega))
  · have nx : ¬ ((Ix a1 4 ∧ 1 ≤ G) ∧ ∃ k, k < G ∧ a2 = nI k) := by
      rintro ⟨_, k, hk, rfl⟩
      rw [pf_le (by omega) (by omega)] at y
      omega
    exact ⟨fun _ => refuse nx, fun _ => b2 (Int32.not_lt.mpr y) (refuse nx)⟩
  refine b2 (pf_lt0 (by omega)) (b1 (by rw [pf_lt (by omega) (by omega)]; exact hg) ?_)
  obtain ⟨t, ht, rfl⟩ := z
  have hq := dQ_O hw hx hww ht
  obtain ⟨q, eq⟩ : ∃ q, q = dQ h d bk (nw t) (wl t) (wt t) s κ := ⟨_, rfl⟩
  obtain ⟨xs, exs⟩ : ∃ xs, xs = lev (chF q) G := ⟨_, rfl⟩
  obtain ⟨T, eT⟩ : ∃ T, T = tot (chF q) G := ⟨_, rfl⟩
  have hq' : qO q G := by rw [eq]; exact hq
  have qz : qZ q g = s (g + 1) - s g := by rw [eq]; rfl
  have n20 := hq'.2.2.2.2.1
  have qn : qN q = nw t := by rw [eq]; rfl
  have xok : ∀ x, x ∈ xs → ndO (knF q G) (qH q) x := fun x hx2 => lev_ok hq' (Nat.le_refl _) (by rw [← exs]; exact hx2)
  have model : ∀ (I1 : sI) (J1 : sJ) (r : Int32), (∀ p, ¬ (p = 134 ∨ (136 ≤ p ∧ p ≤ 137) ∨ (142 ≤ p ∧ p ≤ 223)) → I1 p = I p) → I1 134 1 = I 134 1 → (∀ p, ¬ (142 ≤ p ∧ p ≤ 223) → J1 p = J p) → ((20000 < T ∧ r = -3) ∨ (T ≤ 20000 ∧ r = nI (msk (fun w => ∃ r, r ∈ xs ∧ fwK q g r w) 20))) → w_X12_means (nI t) (nI g) I1 J1 (fun r2 I2 J2 => r = r2 ∧ RR0 I2 J2) := by
    intro I1 J1 r ra h134 ja hr
    unfold w_X12_means
    rintro _ rfl
    obtain ⟨m1, m2, m3⟩ := mset hm e2 hmw (I1 := I1) (fun p hp => ra p (by omega))
    refine q_isAsked hG m1.1 (fun _ _ => b2 (by decide) ?_) (fun q => absurd ⟨⟨t, ht, rfl⟩, g1⟩ q)
    refine q_in (lo := 0) (hi := nI G - 1) (by decide) (by rw [m1.1]) (fun _ => b3 (by decide) ?_) (fun q => absurd ((big _ g1).mpr ⟨g, hg, rfl⟩) q)
    refine q_all hw m1 g1 hx m2 hww m3 ht (fun I2 J2 F r2 s2 j2 t2 e30 e32 f2 o2 sq2 => b3 (by decide) ?_) (fun I2 J2 r2 s2 j2 t2 e30 => b4 rfl ?_)
    · have len := lev_len g1 t2
      rw [← eq] at t2 e32 f2 o2 len sq2
      rw [← exs] at e32 f2 o2 len
      rw [← eT] at t2
      rcases hr with ⟨c, _⟩ | ⟨_, hr⟩
      · omega
      have fin : RR0 I2 J2 := fin_all hR0 ra h134 (ja 135 (by omega)) (ja 249 (by omega)) (fun p hp => by rw [r2 p (by omega), sUI_ne (by omega)]) (fun k hk => by rw [s2 k (by omega), pf_uis, if_neg (by omega)]) j2
      have m2' : mD G P s κ I2 := mD_congr m1 (s2 11 (by omega)) (s2 12 (by omega)) (r2 253 (by omega)) (r2 254 (by omega))
      have l1 := hw.2.2.2.2.1 g hg
      have l3 := s_le hw (show g + 1 ≤ G by omega)
      have e253 : I2 253 g = nI (qZ q g) := by rw [m2'.2.2.1 g hg, qz]
      obtain ⟨post, ep⟩ : ∃ post : Int32 → sI → sJ → Prop, post = fun r2 I2 J2 => r = r2 ∧ RR0 I2 J2 := ⟨_, rfl⟩
      rw [← ep]
      obtain ⟨W, eW⟩ : ∃ W : Nat → Prop, W = fun w => ∃ r, r ∈ xs ∧ fwK q g r w := ⟨_, rfl⟩
      have words : ∀ fu w, w ≤ qN q → qN q - w < fu → w_X12_means_75_n post fu (nI t) (nI g) (nI (s g)) (nI (msk W w)) (nI w) I2 J2 := by
        intro fu
        induction fu with
        | zero => intro w _ h; omega
        | succ fu ih =>
          intro w hw1 hfu
          show w_X12_means_75_s post (w_X12_means_75_n post fu) _ _ _ _ _ I2 J2
          unfold w_X12_means_75_s
          rw [pf_cl (by omega), sq2.2.2.2.2.1, pf_le (by omega) (by omega), show (20 : Int32) = nI 20 from rfl, pk_mul, nI_add]
          refine ⟨vp_in_nI (by omega) (by omega), fun e => ?_, fun e => ?_⟩
          · rw [ep]
            refine ⟨?_, fin⟩
            rw [hr, show w = qN q by omega, ← eW]
            congr 1
            refine msk_cut n20 (fun i h1 h2 => ?_)
            rw [eW]
            rintro ⟨r, hr2, fr⟩
            have := fr.1
            omega
          · rintro _ rfl
            have wq : w < qN q := by omega
            have tail : ∀ x7 : Int32, ((x7 = 1 ∧ W w) ∨ (x7 = 0 ∧ ¬ W w)) → w_X12_means_168 post (w_X12_means_75_n post fu) (nI t) (nI g) (nI (s g)) (nI (msk W w)) (nI w) x7 I2 J2 := by
              intro x7 hx7
              unfold w_X12_means_168 w_X12_means_183
              rw [nI_1, sh1 w (by omega)]
              rcases hx7 with ⟨rfl, ww⟩ | ⟨rfl, ww⟩
              · refine b2 (by decide) ?_
                rw [m_or ww]
                rintro _ rfl _ rfl
                exact ih (w + 1) (by omega) (by omega)
              · refine b1 rfl ?_
                rw [m_or0 ww]
                rintro _ rfl _ rfl
                exact ih (w + 1) (by omega) (by omega)
            have Wi : ∀ {x}, x ∈ xs → fwK q g x w → W w := fun hx2 f => by rw [eW]; exact ⟨_, hx2, f⟩
            have inner : ∀ fu2 r (x7 : Int32), r ≤ xs.length → xs.length - r < fu2 → ((x7 = 1 ∧ W w) ∨ (x7 = 0 ∧ ∀ j, j < r → ¬ fwK q g (F j) w)) → w_X12_means_101_n post (w_X12_means_75_n post fu) fu2 (nI t) (nI g) (nI (s g)) (nI (msk W w)) (nI w) (nI (20 * t + w)) x7 (nI r) I2 J2 := by
              intro fu2
              induction fu2 with
              | zero => intro r _ _ h; omega
              | succ fu2 ih2 =>
                intro r x7 hr1 hfu2 hx7
                show w_X12_means_101_s post (w_X12_means_75_n post fu) (w_X12_means_101_n post (w_X12_means_75_n post fu) fu2) _ _ _ _ _ _ _ _ I2 J2
                unfold w_X12_means_101_s w_X12_means_160
                rw [e32, pf_le (by omega) (by omega), pf_cl (by omega), e253]
                rcases hx7 with ⟨rfl, ww⟩ | ⟨rfl, no⟩
                · exact ⟨fun _ => tail 1 (Or.inl ⟨rfl, ww⟩), fun _ => b3 (by decide) (tail 1 (Or.inl ⟨rfl, ww⟩))⟩
                · refine ⟨fun e5 => tail 0 (Or.inr ⟨rfl, ?_⟩), fun e5 => b4 rfl ⟨vp_in_nI (by omega) (by omega), ?_⟩⟩
                  · rw [eW]
                    rintro ⟨x, hx2, fx⟩
                    obtain ⟨j, hj, ej⟩ := sr_ix o2 hx2
                    rw [← ej] at fx
                    exact no j (by omega) fx
                  · refine q_mayBe hq' ht sq2 hg wq (fun ln => b2 (by decide) ⟨vp_in_nI (by omega) (by omega), vp_in_nI (by omega) (by omega), ?_⟩) (fun ln => b1 rfl (tail 0 (Or.inr ⟨rfl, ?_⟩)))
                    · have fm := sr_mem o2 (show r < xs.length by omega)
                      rw [pf_cl (by omega), (f2 r (by omega)).1, e253]
                      refine q_fits hq' ht hx.2.2.2 sq2 hg wq ln.1 (xok _ fm).1 (fun dd fd => ?_) (fun fd => ?_)
                      · have d48 : dd < 2 ^ 48 := (ft_D (qO_sg hq' hg wq ln) (xok _ fm).1 (Nat.le_refl _) fd).1
                        refine b2 (lN_neg d48) ?_
                        rw [nI_1]
                        rintro _ rfl
                        exact ih2 (r + 1) 1 (by omega) (by omega) (Or.inl ⟨rfl, Wi fm ((fw_iff hq' hg wq (xok _ fm)).mpr ⟨ln, dd, fd⟩)⟩)
                      · refine b1 (by decide) ?_
                        rw [nI_1]
                        rintro _ rfl
                        refine ih2 (r + 1) 0 (by omega) (by omega) (Or.inr ⟨rfl, fun j hj => ?_⟩)
                        by_cases ej : j = r
                        · rw [ej]
                          intro f
                          obtain ⟨_, dd, fdd⟩ := (fw_iff hq' hg wq (xok _ fm)).mp f
                          rw [fd] at fdd; cases fdd
                        · exact no j (by omega)
                    · rw [eW]
                      rintro ⟨x, hx2, fx⟩
                      exact ln ((fw_iff hq' hg wq (xok _ hx2)).mp fx).1
            exact ⟨xs.length + 1, inner (xs.length + 1) 0 0 (by omega) (by omega) (Or.inr ⟨rfl, fun j hj => by omega⟩)⟩
      have froms : ∀ fu k, k ≤ g → g - k < fu → w_X12_means_47_n post fu (nI t) (nI g) (nI (s k)) (nI k) I2 J2 := by
        intro fu
        induction fu with
        | zero => intro k _ h; omega
        | succ fu ih =>
          intro k hk hfu
          show w_X12_means_47_s post (w_X12_means_47_n post fu) _ _ _ _ I2 J2
          unfold w_X12_means_47_s
          rw [pf_le (by omega) (by omega), pf_cl (by omega), nI_1]
          refine ⟨fun e => ?_, fun e => ⟨vp_in_nI (by omega) (by omega), ?_⟩⟩
          · rw [show k = g by omega]
            exact ⟨qN q + 1, words (qN q + 1) 0 (by omega) (by omega)⟩
          · have l2 := hw.2.2.2.2.1 k (by omega)
            rw [m2'.2.2.1 k (by omega), nI_add, show s k + (s (k + 1) - s k) = s (k + 1) by omega]
            rintro _ rfl _ rfl
            exact ih (k + 1) (by omega) (by omega)
      have := froms (g + 1) 0 (by omega) (by omega)
      rw [hw.2.2.1] at this
      exact ⟨g + 1, this⟩
    · rw [← eq, ← eT] at t2
      rcases hr with ⟨_, hr⟩ | ⟨c, _⟩
      · exact ⟨hr, fin_all hR0 ra h134 (ja 135 (by omega)) (ja 249 (by omega)) (fun p hp => by rw [r2 p (by omega), sUI_ne (by omega)]) (fun k hk => by rw [s2 k (by omega), pf_uis, if_neg (by omega)]) j2⟩
      · omega
  have ms0 : ∀ T S, (∀ i, i < 96 → T i = 0) → ms_3 (dQ h d bk (nw t) (wl t) (wt t) s κ) g [] 0 T S := fun T S z => by
    unfold ms_3
    rw [msk_zero.mpr (fun i _ ⟨r, hr, _⟩ => by simp at hr)]; rfl
  refine q_read (mode := 3) (det := g) (MS := ms_3 (dQ h d bk (nw t) (wl t) (wt t) s κ) g) (by decide) hw hc g1 hx e3 hww hcw ht (by omega) (by omega) (tk_3 hq (Nat.le_refl _) hg) ms0 (fun I1 J1 r1 j1 t1 e1 rd1 => ?_) (fun I1 J1 r1 j1 t1 e1 => ?_)
  · rw [← eq] at t1 e1 rd1
    rw [← exs] at rd1
    rw [← eT] at t1 e1
    refine q_many0 (n := T) (by omega) e1 (fun _ => b1 rfl ?_) (fun z => by omega)
    obtain ⟨u1, u2, u3, u4, u5, u6, u7⟩ := rd1
    unfold ms_3 at u7
    rw [u7]
    exact model I1 J1 _ (fun p hp => r1 p (by omega)) (by rw [r1 134 (by omega)]) j1 (Or.inr ⟨t1, rfl⟩)
  · rw [← eq, ← eT] at t1
    refine q_many0 (n := 20001) (by omega) e1 (fun z => by omega) (fun _ => b2 (by decide) ?_)
    exact model I1 J1 (-3) (fun p hp => r1 p (by omega)) (by rw [r1 134 (by omega)]) j1 (Or.inl ⟨t1, rfl⟩)
