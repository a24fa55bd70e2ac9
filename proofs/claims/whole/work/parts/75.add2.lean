def akS (q : sPr) (g : Nat) (J : sJ) : Prop := ∃ a, J 219 g = lN a ∧ isM a (fun k => ownK (qZ q g) (qK q g) k ∧ knF q g k)
/-- the ways of the first levels -/
def wyS (q : sPr) (L : Nat) (I : sI) (J : sJ) : Prop := I 142 5 = nI L ∧ (∃ m, J 142 6 = lN m ∧ isM m (knF q L)) ∧ ∀ g, g < L → lwS q g (qN q) I J ∧ akS q g J
theorem q_add {I : sI} {J : sJ} {post : sI → sJ → Prop} {q : sPr} {h0 G P t bk B N : Nat} {s κ : Nat → Nat} (hq : qO q N) (hB : B + G ≤ N) (h4 : h0 ∈ [4, 138]) (hw : tWD G P s κ) (hc : cD G P s κ h0 I) (gp : ∀ g, g < G → gpS q bk (B + g) g s κ) (ht : t < 4) (tg : tgS q t I) (cf : cfS q bk I) (hb : bk ≤ 1) (wy : wyS q B I J) (h : ∀ (I2 : sI) (J2 : sJ), (∀ p, ¬ (142 ≤ p ∧ p ≤ 223) → I2 p = I p) → (∀ p, ¬ (142 ≤ p ∧ p ≤ 223) → J2 p = J p) → cfS q bk I2 → wyS q (B + G) I2 J2 → post I2 J2) : w_X10_add h0 (42 + 23 * t) I J post := by
  have hP := hw.2.1
  have hG := hw.1
  have h5 : h0 ∈ [4, 14, 23, 32, 138] := by
    rcases List.mem_cons.mp h4 with e | e
    · rw [e]; decide
    · rw [List.mem_singleton.mp e]; decide
  have h6 : h0 = 4 ∨ h0 = 138 := by
    rcases List.mem_cons.mp h4 with e | e
    · exact Or.inl e
    · exact Or.inr (List.mem_singleton.mp e)
  obtain ⟨q1, q2, q3, q4, q5, q6, q7⟩ := id hq
  have hc3 : ∀ I3 : sI, (∀ p, ¬ (142 ≤ p ∧ p ≤ 223) → I3 p = I p) → cD G P s κ h0 I3 := fun I3 r3 => by
    unfold cD at *
    rw [r3 h0 (by omega), r3 (h0 + 3) (by omega), r3 (h0 + 1) (by omega), r3 (h0 + 2) (by omega)]
    exact hc
  have tg3 : ∀ I3 : sI, (∀ p, ¬ (142 ≤ p ∧ p ≤ 223) → I3 p = I p) → tgS q t I3 := fun I3 r3 => by
    unfold tgS at *
    rw [r3 (42 + 23 * t) (by omega), r3 (64 + 23 * t) (by omega)]
    refine ⟨tg.1, fun w hw => ⟨(tg.2 w hw).1, fun i hi => ?_⟩⟩
    rw [r3 (44 + 23 * t + w) (by omega)]
    exact (tg.2 w hw).2 i hi
  have main : ∀ f g (I3 : sI) (J3 : sJ), g ≤ G → G - g < f → (∀ p, ¬ (142 ≤ p ∧ p ≤ 223) → I3 p = I p) → (∀ p, ¬ (142 ≤ p ∧ p ≤ 223) → J3 p = J p) → cfS q bk I3 → wyS q (B + g) I3 J3 → w_X10_add_2_n h0 (42 + 23 * t) post f (nI g) I3 J3 := by
    intro f
    induction f with
    | zero => intro g _ _ _ h; omega
    | succ f ih =>
      intro g I3 J3 hg hf r3 j3 cf3 wy3
      obtain ⟨a1, ⟨m, a2, a3⟩, a4⟩ := id wy3
      show w_X10_add_2_s h0 (42 + 23 * t) post (w_X10_add_2_n h0 (42 + 23 * t) post f) (nI g) I3 J3
      unfold w_X10_add_2_s
      rw [(hc3 I3 r3).1, pf_le (by omega) (by omega), a1, show (24 : Int32) = nI 24 from rfl, pf_le (by omega) (by omega)]
      refine ⟨fun e => ?_, fun e => b2 (by omega) ?_⟩
      · rw [show g = G by omega] at wy3
        exact h I3 J3 r3 j3 cf3 wy3
      · refine q_maskOf h5 hw (hc3 I3 r3) (by omega) (fun mk hmk => ?_)
        have l1 := hw.2.2.2.2.1 g (by omega)
        obtain ⟨gz, gk⟩ := gp g (by omega)
        have own : isM mk (ownK (qZ q (B + g)) (qK q (B + g))) := isM_congr hmk (fun k hk => by
          constructor
          · rintro ⟨p, p1, p2, p3⟩
            by_cases b0 : bk = 0
            · refine ⟨p - s g, by omega, ?_⟩
              rw [gk _ (by omega), if_pos b0, show s g + (p - s g) = p by omega]; exact p3
            · refine ⟨s (g + 1) - 1 - p, by omega, ?_⟩
              rw [gk _ (by omega), if_neg b0, show s (g + 1) - 1 - (s (g + 1) - 1 - p) = p by omega]; exact p3
          · rintro ⟨j, hj, ej⟩
            rw [gk j hj] at ej
            by_cases b0 : bk = 0
            · rw [if_pos b0] at ej
              exact ⟨s g + j, by omega, by omega, ej⟩
            · rw [if_neg b0] at ej
              exact ⟨s (g + 1) - 1 - j, by omega, by omega, ej⟩)
        rw [a1, pf_cl (by omega), a2, lN_and]
        refine ⟨vp_in_nI (by omega) (by omega), ?_⟩
        rintro _ rfl
        have a1' : (sUI I3 218 (B + g) 0) 142 5 = nI (B + g) := by rw [sUI_ne (by omega)]; exact a1
        rw [a1', pf_cl (by omega)]
        refine ⟨vp_in_nI (by omega) (by omega), ?_⟩
        rintro _ rfl
        have words : ∀ f2 n (I4 : sI) (J4 : sJ), n ≤ qN q → qN q - n < f2 → (∀ p, ¬ (142 ≤ p ∧ p ≤ 223) → I4 p = I p) → (∀ p, ¬ (142 ≤ p ∧ p ≤ 223) → J4 p = J p) → cfS q bk I4 → I4 142 5 = nI (B + g) → J4 142 6 = lN m → (∀ g2, g2 < B + g → lwS q g2 (qN q) I4 J4 ∧ akS q g2 J4) → akS q (B + g) J4 → lwS q (B + g) n I4 J4 → w_X10_add_55_n h0 (42 + 23 * t) post (w_X10_add_2_n h0 (42 + 23 * t) post f) f2 (nI g) (lN mk) (nI n) I4 J4 := by
          intro f2
          induction f2 with
          | zero => intro n _ _ _ h; omega
          | succ f2 ih2 =>
            intro n I4 J4 hn hf2 r4 j4 cf4 c1 c2 c3 c4 c5
            show w_X10_add_55_s h0 (42 + 23 * t) post (w_X10_add_2_n h0 (42 + 23 * t) post f) (w_X10_add_55_n h0 (42 + 23 * t) post (w_X10_add_2_n h0 (42 + 23 * t) post f) f2) (nI g) (lN mk) (nI n) I4 J4
            unfold w_X10_add_55_s w_X10_add_92
            rw [(tg3 I4 r4).1, pf_le (by omega) (by omega), c1, c2, lN_or, nI_1, nI_1, nI_1]
            refine ⟨fun e2 => ?_, fun e2 => ?_⟩
            · rintro _ rfl _ rfl _ rfl
              rw [show n = qN q by omega] at c5
              refine ih (g + 1) _ _ (by omega) (by omega) (fun p hp => by rw [sUI_ne (by omega), r4 p hp]) (fun p hp => by funext k; rw [pf_uj, if_neg (by omega), j4 p hp]) ?_ ?_
              · unfold cfS at *
                rw [pf_uis, if_neg (by omega), pf_uis, if_neg (by omega), pf_uis, if_neg (by omega)]
                exact cf4
              · refine ⟨by rw [pf_uis, if_pos rfl]; rfl, ⟨m ||| mk, by rw [pf_ujs, if_pos rfl], isM_congr (isM_ors a3 own) (fun k _ => ?_)⟩, fun g2 hg2 => ?_⟩
                · rw [show B + (g + 1) = B + g + 1 by omega]; exact knF_s.symm
                · have cg : ∀ g2, lwS q g2 (qN q) I4 J4 → akS q g2 J4 → lwS q g2 (qN q) (sUI I4 142 5 (nI (B + g + 1))) (sUJ J4 142 6 (lN (m ||| mk))) ∧ akS q g2 (sUJ J4 142 6 (lN (m ||| mk))) := by
                    intro g2 x1 x2
                    refine ⟨lwS_congr x1 (by rw [sUI_ne (by omega)]) (by funext k; rw [pf_uj, if_neg (by omega)]) (by rw [sUI_ne (by omega)]) (by rw [sUI_ne (by omega)]), ?_⟩
                    obtain ⟨a, b, c⟩ := x2
                    exact ⟨a, by rw [pf_uj, if_neg (by omega)]; exact b, c⟩
                  by_cases e3 : g2 = B + g
                  · rw [e3]; exact cg _ c5 c4
                  · obtain ⟨x1, x2⟩ := c3 g2 (by omega)
                    exact cg _ x1 x2
            · have cont : lwS q (B + g) (n + 1) I4 J4 → ∀ v : Int32, v = nI (n + 1) → w_X10_add_55_n h0 (42 + 23 * t) post (w_X10_add_2_n h0 (42 + 23 * t) post f) f2 (nI g) (lN mk) v I4 J4 := by
                rintro x _ rfl
                exact ih2 (n + 1) I4 J4 (by omega) (by omega) r4 j4 cf4 c1 c2 c3 c4 x
              refine q_spelt hq (show B + g < N by omega) h5 hw (hc3 I4 r4) (by omega) (gp g (by omega)) ht (tg3 I4 r4) cf4 hb (by omega) (fun e he => ?_) (fun he => ?_)
              · obtain ⟨s1, s2⟩ := sp_ok hq (show B + g < N by omega) (by omega) he
                refine b2 ?_ ?_
                · rw [pf_lgc_eq, m1_64, lN_inj (lt64 s1) (by decide)]
                  intro x
                  rw [x] at s1
                  exact absurd s1 (by decide)
                · refine q_addWay hq (show B + g < N by omega) (by omega) cf4 c1 c2 a3 he c5 (fun I5 J5 r5 r6 j5 c6 => ?_)
                  rintro _ rfl
                  refine ih2 (n + 1) I5 J5 (by omega) (by omega) (fun p hp => by rw [r5 p (by omega), r4 p hp]) (fun p hp => by rw [j5 p (by omega), j4 p hp]) ?_ (by rw [r5 142 (by omega)]; exact c1) (by rw [j5 142 (by omega)]; exact c2) (fun g2 hg2 => ?_) ?_ c6
                  · unfold cfS at *
                    rw [r5 142 (by omega)]
                    exact cf4
                  · obtain ⟨x1, a, x2, x3⟩ := c3 g2 hg2
                    exact ⟨lwS_congr x1 (r6 g2 (by omega)) (j5 _ (by omega)) (r5 _ (by omega)) (r5 _ (by omega)), a, by rw [j5 219 (by omega)]; exact x2, x3⟩
                  · obtain ⟨a, x2, x3⟩ := c4
                    exact ⟨a, by rw [j5 219 (by omega)]; exact x2, x3⟩
              · refine b1 (by decide) (cont (lwS_no c5 ?_))
                rw [cwF, he]
        refine ⟨21, words 21 0 _ _ (by omega) (by omega) (fun p hp => by rw [sUI_ne (by omega), r3 p hp]) (fun p hp => by funext k; rw [pf_uj, if_neg (by omega), j3 p hp]) ?_ a1' ?_ (fun g2 hg2 => ?_) ?_ ?_⟩
        · unfold cfS at *
          rw [sUI_ne (by omega)]
          exact cf3
        · rw [pf_uj, if_neg (by omega)]; exact a2
        · obtain ⟨x1, a, x2, x3⟩ := a4 g2 hg2
          refine ⟨lwS_congr x1 (by rw [pf_uis, if_neg (by omega)]) (by funext k; rw [pf_uj, if_neg (by omega)]) (by rw [sUI_ne (by omega)]) (by rw [sUI_ne (by omega)]), a, ?_, x3⟩
          rw [pf_ujs, if_neg (by omega)]; exact x2
        · exact ⟨mk &&& m, by rw [pf_ujs, if_pos rfl], isM_ands own a3⟩
        · refine ⟨by rw [pf_uis, if_pos rfl]; rfl, fun i hi => by simp [chL] at hi⟩
  exact ⟨G + 1, main (G + 1) 0 I J (by omega) (by omega) (fun _ _ => rfl) (fun _ _ => rfl) cf wy⟩
theorem q_wopen {I : sI} {J : sJ} {post : sI → sJ → Prop} {q : sPr} {bk h d : Nat} (eh : qH q = h) (ed : qD q = d) (h1 : 1 ≤ h ∧ h ≤ 3) (hb : bk ≤ 1) (hp : ∀ (I2 : sI) (J2 : sJ), (∀ p, ¬ (142 ≤ p ∧ p ≤ 223) → I2 p = I p) → (∀ p, ¬ (142 ≤ p ∧ p ≤ 223) → J2 p = J p) → cfS q bk I2 → wyS q 0 I2 J2 → post I2 J2) : w_X10_open (nI h) (nI d) (nI bk) I J post := by
  unfold w_X10_open
  rintro _ rfl _ rfl
  rw [show (7 : Int32) = nI 7 from rfl, pk_sub (by omega), show (286331153 : Int32) = nI 286331153 from rfl, pk_mul]
  rintro _ rfl _ rfl
  refine ⟨?_, ?_⟩
  · have : bk = 0 ∨ bk = 1 := by omega
    rcases this with rfl | rfl
    · exact Or.inl rfl
    · exact Or.inr rfl
  · rintro _ rfl
    refine hp _ _ (fun p hp => by rw [sUI_ne (by omega), sUI_ne (by omega), sUI_ne (by omega), sUI_ne (by omega)]) (fun p hp => by funext k; rw [pf_uj, if_neg (by omega)]) ?_ ?_
    · refine ⟨?_, ?_, ?_⟩
      · rw [pf_uis, if_neg (by omega), pf_uis, if_neg (by omega), pf_uis, if_pos rfl, eh]
      · rw [pf_uis, if_neg (by omega), pf_uis, if_pos rfl, ed]
      · rw [pf_uis, if_pos rfl]
    · refine ⟨?_, ⟨0, by rw [pf_ujs, if_pos rfl]; rfl, by decide, fun k hk => ⟨fun ⟨g2, h2, _⟩ => by omega, fun _ => nb_0⟩⟩, fun g hg => by omega⟩
      rw [pf_uis, if_neg (by omega), pf_uis, if_neg (by omega), pf_uis, if_neg (by omega), pf_uis, if_pos rfl]; rfl
