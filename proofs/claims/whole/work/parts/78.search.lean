-- the model's search
theorem sf_sm : ∀ k, k < 12 → (((nI (sf k)).toInt64 &&& 63).toBitVec.smod 64).toNat = sf k := by decide +kernel
theorem q_letterOf {I : sI} {J : sJ} {post : Int32 → sI → sJ → Prop} {c k : Nat} (hc : c < 2 ^ 48) (hk : k < 12) (h : post (nI (nb c k) - 1) I J) : w_X12_letterOf (lN c) (nI k) I J post := by
  unfold w_X12_letterOf
  rw [sf_c hk, pf_shr (sf_sm k hk) (Nat.lt_trans hc (by decide)), show (15 : Int64) = lN (16 - 1) from rfl, g_mask (s := 4) (p := 16) (by decide) (by omega) (Nat.lt_of_le_of_lt (Nat.div_le_self _ _) (lt64 hc)), lN_i]
  exact h
theorem q_withLetter {I : sI} {J : sJ} {post : Int64 → sI → sJ → Prop} {c k l : Nat} (hk : k < 12) (hl : l < 8) (h : post (lN (c ||| pt k (l + 1))) I J) : w_X12_withLetter (lN c) (nI k) (nI l) I J post := by
  unfold w_X12_withLetter
  rw [sf_c hk, nI_1, nI_l (by omega), wb_shl _ sf_lt, lN_or]
  exact h
def sqS (q : sPr) (N t bk : Nat) (fr : Nat → Nat) (I : sI) : Prop := I 248 24 = nI N ∧ I 248 21 = nI (qH q) ∧ I 248 22 = nI (qD q) ∧ I 248 23 = nI bk ∧ I 257 t = nI (qN q) ∧ (∀ w, w < qN q → I 258 (20 * t + w) = nI (qL q w) ∧ ∀ i, i < qL q w → I 259 (6 * (20 * t + w) + i) = nI (qT q w i)) ∧ (∀ g, g < N → I 260 g = nI (qZ q g)) ∧ (fr 0 = 0 ∧ ∀ g, g < N → fr (g + 1) = fr g + qZ q g) ∧ (∀ g, g ≤ N → fr g ≤ 150) ∧ ∀ g, g < N → ∀ i, i < qZ q g → I 261 (fr g + (if bk = 0 then i else qZ q g - 1 - i)) = nI (qK q g i)
theorem q_fits {I : sI} {J : sJ} {post : Int64 → sI → sJ → Prop} {q : sPr} {N t bk g c w : Nat} {fr : Nat → Nat} (hq : qO q N) (ht : t < 4) (hb : bk ≤ 1) (sq : sqS q N t bk fr I) (hg : g < N) (hw : w < qN q) (hz : qZ q g ≤ qL q w) (hc : c < 2 ^ 48) (h1 : ∀ d, ftF (qH q) (qK q g) (qT q w) c (qZ q g) = some d → post (lN d) I J) (h0 : ftF (qH q) (qK q g) (qT q w) c (qZ q g) = none → post (-1) I J) : w_X12_fits (lN c) (nI (fr g)) (nI (qZ q g)) (nI (20 * t + w)) I J post := by
  obtain ⟨s24, s21, s22, s23, s257, swd, s260, ⟨fr0, frs⟩, frb, s261⟩ := sq
  obtain ⟨q1, q2, q3, q4, q5, q6, q7⟩ := id hq
  obtain ⟨z1, z6, zk⟩ := q6 g hg
  obtain ⟨w1, w6, wt⟩ := q7 w hw
  obtain ⟨_, wl⟩ := swd w hw
  have sg : sgO (qZ q g) (qK q g) (qT q w) := fun i hi => ⟨zk i hi, wt i (by omega)⟩
  have fg := frb g (by omega)
  have fg1 := frb (g + 1) (by omega)
  have fgs := frs g hg
  have loop : ∀ f i d, i ≤ qZ q g → qZ q g - i < f → ftF (qH q) (qK q g) (qT q w) c i = some d → w_X12_fits_6_n post f (nI (fr g)) (nI (qZ q g)) (nI (20 * t + w)) (lN d) (nI i) I J := by
    intro f
    induction f with
    | zero => intro i _ _ h; omega
    | succ f ih =>
      intro i d hi hf fd
      have d48 := (ft_D sg hc hi fd).1
      show w_X12_fits_6_s post (w_X12_fits_6_n post f) _ _ _ _ _ I J
      unfold w_X12_fits_6_s
      rw [pf_le (by omega) (by omega), s23, pf_eq0 (by omega)]
      refine ⟨fun e => ?_, fun e => ?_⟩
      · rw [show i = qZ q g by omega] at fd
        exact h1 d fd
      · obtain ⟨k12, l8⟩ := sg i (by omega)
        have fs := ft_s fd
        have dead : ftF (qH q) (qK q g) (qT q w) c (i + 1) = none → post (-1) I J := fun x => h0 (by
          rw [show qZ q g = i + 1 + (qZ q g - (i + 1)) by omega]
          exact ft_none x _)
        have body : ∀ o, o < qZ q g → I 261 (fr g + o) = nI (qK q g i) → w_X12_fits_37 post (w_X12_fits_6_n post f) (nI (fr g)) (nI (qZ q g)) (nI (20 * t + w)) (lN d) (nI i) (nI o) (nI (fr g)) I J := by
          intro o ho eo
          unfold w_X12_fits_37 w_X12_fits_159
          rw [nI_add, pf_cl (by omega), eo, show (6 : Int32) = nI 6 from rfl, pk_mul, nI_add, pf_cl (by omega), wl i (by omega)]
          refine ⟨vp_in_nI (by omega) (by omega), ?_⟩
          rintro _ rfl
          refine ⟨vp_in_nI (by omega) (by omega), ?_⟩
          rintro _ rfl
          rw [show (12 : Int32) = nI 12 from rfl, pf_eq (by omega) (by omega), nI_1]
          refine ⟨fun y => ?_, fun y => ?_⟩
          · rw [stp, if_neg y] at fs
            refine q_letterOf d48 (by omega) ?_
            rw [lt_l nb_lt (by omega)]
            by_cases n0 : nb d (qK q g i) = 0
            · rw [if_pos n0] at fs
              rw [n0]
              refine b1 (by decide) ?_
              have cntl : ∀ f2 k, k ≤ 12 → 12 - k < f2 → w_X12_fits_97_n post (w_X12_fits_6_n post f) f2 (nI (fr g)) (nI (qZ q g)) (nI (20 * t + w)) (lN d) (nI i) (nI (qK q g i)) (nI (qT q w i)) (nI (cnt (fun k => nb d k = qT q w i + 1) k)) (nI k) I J := by
                intro f2
                induction f2 with
                | zero => intro k _ h; omega
                | succ f2 ih2 =>
                  intro k hk hf2
                  show w_X12_fits_97_s post (w_X12_fits_6_n post f) (w_X12_fits_97_n post (w_X12_fits_6_n post f) f2) _ _ _ _ _ _ _ _ _ I J
                  unfold w_X12_fits_97_s w_X12_fits_159 w_X12_fits_123
                  have cl := cnt_le (fun k => nb d k = qT q w i + 1) k
                  rw [show (12 : Int32) = nI 12 from rfl, pf_le (by omega) (by omega), s21, pf_lt (by omega) (by omega)]
                  refine ⟨fun e2 => ?_, fun e2 => ?_⟩
                  · have k12 : k = 12 := by omega
                    subst k12
                    refine ⟨fun us => ?_, fun us => ?_⟩
                    · rw [if_neg (by unfold usd; omega)] at fs
                      refine q_withLetter (by omega) (by omega) ?_
                      rintro _ rfl
                      rw [nI_1]
                      exact ih (i + 1) _ (by omega) (by omega) fs
                    · rw [if_pos (by unfold usd; omega)] at fs
                      exact dead fs
                  · refine q_letterOf d48 (by omega) ?_
                    rw [lt_l nb_lt (by omega), nI_1]
                    refine ⟨fun y2 => ?_, fun y2 => ?_⟩
                    · refine q_flag (fun _ => ?_) (fun x => absurd rfl x)
                      rw [Int32.add_zero]
                      rintro _ rfl _ rfl
                      have := ih2 (k + 1) (by omega) (by omega)
                      rw [cnt_n (p := fun k => nb d k = qT q w i + 1) y2] at this
                      exact this
                    · refine q_flag (fun x => absurd x (by decide)) (fun _ => ?_)
                      rw [nI_1]
                      rintro _ rfl _ rfl
                      have := ih2 (k + 1) (by omega) (by omega)
                      rw [cnt_s (p := fun k => nb d k = qT q w i + 1) y2] at this
                      exact this
              exact ⟨13, cntl 13 0 (by omega) (by omega)⟩
            · rw [if_neg n0] at fs
              refine b2 (by rw [nI_p (by omega)]; exact pf_lt0 (by have := nb_lt (c := d) (k := qK q g i); omega)) ⟨fun n1 => ?_, fun n1 => ?_⟩
              · rw [if_pos n1] at fs
                rintro _ rfl
                exact ih (i + 1) d (by omega) (by omega) fs
              · rw [if_neg n1] at fs
                exact dead fs
          · rw [stp, if_pos y] at fs
            rintro _ rfl
            exact ih (i + 1) d (by omega) (by omega) fs
        have kz := s261 g hg i (by omega)
        refine ⟨fun b0 => ?_, fun b0 => ?_⟩
        · rw [if_pos b0] at kz
          exact body i (by omega) kz
        · rw [if_neg b0] at kz
          rw [nI_p (by omega), pk_sub (by omega)]
          exact body _ (by omega) kz
  exact ⟨7, loop 7 0 c (by omega) (by omega) rfl⟩
theorem q_mayBe {I : sI} {J : sJ} {post : Int32 → sI → sJ → Prop} {q : sPr} {N t bk g w : Nat} {fr : Nat → Nat} (hq : qO q N) (ht : t < 4) (sq : sqS q N t bk fr I) (hg : g < N) (hw : w < qN q) (h1 : lnO q g w → post 1 I J) (h0 : ¬ lnO q g w → post 0 I J) : w_X12_mayBe (nI (20 * t + w)) (nI (qZ q g)) I J post := by
  obtain ⟨s24, s21, s22, s23, s257, swd, _⟩ := sq
  obtain ⟨q1, q2, q3, q4, q5, q6, q7⟩ := id hq
  obtain ⟨z1, z6, zk⟩ := q6 g hg
  obtain ⟨w1, w6, wt⟩ := q7 w hw
  unfold w_X12_mayBe
  rw [pf_cl (by omega), (swd w hw).1, s22]
  refine ⟨vp_in_nI (by omega) (by omega), ?_⟩
  rintro _ rfl
  refine q_in (lo := 0) (hi := nI (qD q)) (by decide) rfl (fun p => ⟨Or.inr rfl, h1 ?_⟩) (fun p => ⟨Or.inl rfl, h0 (fun x => p ?_)⟩)
  · obtain ⟨p1, p2⟩ := p
    rcases Nat.lt_or_ge (qL q w) (qZ q g) with y | y
    · exfalso
      have e : nI (qL q w) - nI (qZ q g) < 0 := by
        have : nI (qL q w) - nI (qZ q g) = -(nI (qZ q g - qL q w)) := by
          rw [← pk_sub (by omega), Int32.neg_sub]
        rw [this]
        have dec : ∀ n, n < 7 → 1 ≤ n → -(nI n) < 0 := by decide
        exact dec _ (by omega) (by omega)
      exact absurd e (Int32.not_lt.mpr p1)
    · rw [pk_sub y, pf_le (by omega) (by omega)] at p2
      exact ⟨y, by omega⟩
  · rw [pk_sub x.1, pf_le (by omega) (by omega)]
    exact ⟨pf_ge0 (by omega), by have := x.1; have := x.2; omega⟩
theorem gw_lt {q : sPr} {N g c w d : Nat} (hq : qO q N) (hg : g < N) (hw : w < qN q) (hc : c < 2 ^ 48) (h : gwF q g c w = some d) : d < 2 ^ 48 := by
  rw [gwF] at h
  by_cases z : lnO q g w
  · rw [if_pos (bp_t.mpr z)] at h
    exact (ft_D (qO_sg hq hg hw z) hc (Nat.le_refl _) h).1
  · rw [if_neg (fun y => z (bp_t.mp y))] at h; cases h
def sqC (q : sPr) (N t bk : Nat) (fr : Nat → Nat) {I I2 : sI} (h : sqS q N t bk fr I) (a : ∀ p, ¬ (p = 248 ∨ p = 263 ∨ p = 264) → I2 p = I p) (b : ∀ k, ¬ k = 30 → I2 248 k = I 248 k) : sqS q N t bk fr I2 := by
  unfold sqS at *
  rw [b 24 (by omega), b 21 (by omega), b 22 (by omega), b 23 (by omega), a 257 (by omega), a 258 (by omega), a 259 (by omega), a 260 (by omega), a 261 (by omega)]
  exact h
theorem lN_neg {d : Nat} (h : d < 2 ^ 48) : ¬ lg_cmp (lN d) 0 < 0 := by
  rw [pf_lgc_lt, show (0 : Int64) = lN 0 from rfl, lN_lt48 h (by decide)]
  omega
theorem q_goesOn {I : sI} {J : sJ} {post : Int32 → sI → sJ → Prop} {q : sPr} {N t bk g c W : Nat} {fr : Nat → Nat} {x2 : Int32} (hq : qO q N) (ht : t < 4) (hb : bk ≤ 1) (sq : sqS q N t bk fr I) (hg : g < N) (hc : c < 2 ^ 48) (e30 : I 248 30 = nI W) (hW : W ≤ 20000) (hx : (x2 = -1 ∧ c = 0) ∨ ∃ v, v < W ∧ x2 = nI v ∧ J 262 v = lN c) (h1 : ∀ (I2 : sI) (J2 : sJ), (∀ p, ¬ (p = 248 ∨ p = 263) → I2 p = I p) → (∀ k, ¬ k = 30 → I2 248 k = I 248 k) → (∀ k, k < W → I2 263 k = I 263 k) → (∀ p, ¬ p = 262 → J2 p = J p) → (∀ k, k < W → J2 262 k = J 262 k) → W + (chF q g c).length ≤ 20000 → I2 248 30 = nI (W + (chF q g c).length) → (∀ i, i < (chF q g c).length → J2 262 (W + i) = lN (gtL (chF q g c) i) ∧ I2 263 (W + i) = x2) → post 1 I2 J2) (h0 : ∀ (I2 : sI) (J2 : sJ), (∀ p, ¬ (p = 248 ∨ p = 263) → I2 p = I p) → (∀ k, ¬ k = 30 → I2 248 k = I 248 k) → (∀ p, ¬ p = 262 → J2 p = J p) → 20000 < W + (chF q g c).length → I2 248 30 = nI 20001 → post 0 I2 J2) : w_X12_goesOn (nI t) x2 (nI (fr g)) (nI (qZ q g)) I J post := by
  obtain ⟨q1, q2, q3, q4, q5, q6, q7⟩ := id hq
  unfold w_X12_goesOn
  rw [e30]
  rintro _ rfl
  have mono : ∀ n k, (chL (gwF q g c) n).length ≤ (chL (gwF q g c) (n + k)).length := by
    intro n k
    induction k with
    | zero => exact Nat.le_refl _
    | succ k ih =>
      rw [← Nat.add_assoc]
      cases x : gwF q g c (n + k) with
      | none => rw [chL_no x]; exact ih
      | some d =>
        by_cases m : d ∈ chL (gwF q g c) (n + k)
        · rw [chL_in x m]; exact ih
        · rw [chL_new x m, List.length_append]; omega
  have main : ∀ f n (I3 : sI) (J3 : sJ), n ≤ qN q → qN q - n < f → (∀ p, ¬ (p = 248 ∨ p = 263) → I3 p = I p) → (∀ k, ¬ k = 30 → I3 248 k = I 248 k) → (∀ k, k < W → I3 263 k = I 263 k) → (∀ p, ¬ p = 262 → J3 p = J p) → (∀ k, k < W → J3 262 k = J 262 k) → W + (chL (gwF q g c) n).length ≤ 20000 → I3 248 30 = nI (W + (chL (gwF q g c) n).length) → (∀ i, i < (chL (gwF q g c) n).length → J3 262 (W + i) = lN (gtL (chL (gwF q g c) n) i) ∧ I3 263 (W + i) = x2) → w_X12_goesOn_9_n post f (nI t) x2 (nI (fr g)) (nI (qZ q g)) (nI W) (nI n) I3 J3 := by
    intro f
    induction f with
    | zero => intro n _ _ _ h; omega
    | succ f ih =>
      intro n I3 J3 hn hf r3 s3 w3 j3 k3 c3 e3 l3
      have sq3 : sqS q N t bk fr I3 := sqC q N t bk fr sq (fun p hp => r3 p (by omega)) s3
      show w_X12_goesOn_9_s post (w_X12_goesOn_9_n post f) _ _ _ _ _ _ I3 J3
      unfold w_X12_goesOn_9_s w_X12_goesOn_184
      rw [pf_cl (by omega), sq3.2.2.2.2.1, pf_le (by omega) (by omega), show (20 : Int32) = nI 20 from rfl, pk_mul, nI_add]
      refine ⟨vp_in_nI (by omega) (by omega), fun e => ?_, fun e => ?_⟩
      · have : n = qN q := by omega
        subst this
        exact h1 I3 J3 r3 s3 w3 j3 k3 c3 e3 l3
      · rintro _ rfl
        have nxt : gwF q g c n = none ∨ (∃ d, gwF q g c n = some d ∧ d ∈ chL (gwF q g c) n) → ∀ v : Int32, v = nI n + 1 → w_X12_goesOn_9_n post f (nI t) x2 (nI (fr g)) (nI (qZ q g)) (nI W) v I3 J3 := by
          rintro x _ rfl
          have ec : chL (gwF q g c) (n + 1) = chL (gwF q g c) n := by
            rcases x with x | ⟨d, x1, x2⟩
            · exact chL_no x
            · exact chL_in x1 x2
          rw [nI_1]
          exact ih (n + 1) I3 J3 (by omega) (by omega) r3 s3 w3 j3 k3 (by rw [ec]; exact c3) (by rw [ec]; exact e3) (by rw [ec]; exact l3)
        refine q_mayBe hq ht sq3 hg (by omega) (fun ln => b3 (by decide) ?_) (fun ln => b4 rfl (nxt (Or.inl (by rw [gwF, if_neg (fun y => ln (bp_t.mp y))]))))
        have gw : gwF q g c n = ftF (qH q) (qK q g) (qT q n) c (qZ q g) := by rw [gwF, if_pos (bp_t.mpr ln)]
        have go : w_X12_goesOn_58 post (w_X12_goesOn_9_n post f) (nI t) x2 (nI (fr g)) (nI (qZ q g)) (nI W) (nI n) (nI (20 * t + n)) (lN c) I3 J3 := by
          unfold w_X12_goesOn_58 w_X12_goesOn_80
          refine q_fits hq ht hb sq3 hg (by omega) ln.1 hc (fun d fd => ?_) (fun fd => ?_)
          · have gd : gwF q g c n = some d := by rw [gw]; exact fd
            have d48 := gw_lt hq hg (by omega) hc gd
            refine b2 (lN_neg d48) ?_
            have seek : ∀ f2 i (x10 : Int32), i ≤ (chL (gwF q g c) n).length → (chL (gwF q g c) n).length - i < f2 → ((x10 = 1 ∧ ∀ j, j < i → gtL (chL (gwF q g c) n) j ≠ d) ∨ (x10 = 0 ∧ d ∈ chL (gwF q g c) n)) → w_X12_goesOn_86_n post (w_X12_goesOn_9_n post f) f2 (nI t) x2 (nI (fr g)) (nI (qZ q g)) (nI W) (nI n) (lN d) x10 (nI (W + i)) I3 J3 := by
              intro f2
              induction f2 with
              | zero => intro i _ _ h; omega
              | succ f2 ih2 =>
                intro i x10 hi hf2 hx10
                show w_X12_goesOn_86_s post (w_X12_goesOn_9_n post f) (w_X12_goesOn_86_n post (w_X12_goesOn_9_n post f) f2) _ _ _ _ _ _ _ _ _ I3 J3
                unfold w_X12_goesOn_86_s w_X12_goesOn_118
                have len := chL_len (f := gwF q g c) (n := n)
                have dead : d ∈ chL (gwF q g c) n → w_X12_goesOn_126 post (w_X12_goesOn_9_n post f) (nI t) x2 (nI (fr g)) (nI (qZ q g)) (nI W) (nI n) (lN d) 0 I3 J3 := by
                  intro x
                  unfold w_X12_goesOn_126 w_X12_goesOn_184
                  exact b1 rfl (nxt (Or.inr ⟨d, gd, x⟩))
                rw [e3, pf_le (by omega) (by omega)]
                rcases hx10 with ⟨rfl, hne⟩ | ⟨rfl, hin⟩
                · refine ⟨fun e2 => ?_, fun e2 => b2 (by decide) ?_⟩
                  · have nm : ¬ d ∈ chL (gwF q g c) n := fun x => by
                      obtain ⟨j, hj, ej⟩ := gtL_i x
                      exact hne j (by omega) ej
                    have ec := chL_new gd nm
                    have el : (chL (gwF q g c) (n + 1)).length = (chL (gwF q g c) n).length + 1 := by rw [ec, List.length_append, List.length_singleton]
                    unfold w_X12_goesOn_126 w_X12_goesOn_184
                    refine b2 (by decide) ?_
                    rw [e3, show (20000 : Int32) = nI 20000 from rfl, pf_eq (by omega) (by omega), nI_1, nI_1]
                    refine ⟨fun z => ?_, fun z => ?_⟩
                    · rw [pf_cl (by omega)]
                      refine ⟨vp_in_nI (by omega) (by omega), ?_⟩
                      rintro _ rfl
                      refine ⟨vp_in_nI (by omega) (by omega), ?_⟩
                      rintro _ rfl
                      rw [sUI_ne (by omega), e3, nI_1]
                      rintro _ rfl _ rfl
                      refine ih (n + 1) _ _ (by omega) (by omega) (fun p hp => by rw [sUI_ne (by omega), sUI_ne (by omega), r3 p hp]) (fun k hk => by rw [pf_uis, if_neg hk, sUI_ne (by omega), s3 k hk]) (fun k hk => by rw [sUI_ne (by omega), pf_uis, if_neg (by omega), w3 k hk]) (fun p hp => by funext k; rw [pf_uj, if_neg (by omega), j3 p hp]) (fun k hk => by rw [pf_ujs, if_neg (by omega), k3 k hk]) (by rw [el]; omega) (by rw [pf_uis, if_pos rfl, el]; rfl) (fun i2 hi2 => ?_)
                      rw [el] at hi2
                      rw [pf_ujs, sUI_ne (by omega), pf_uis, ec]
                      by_cases e5 : i2 = (chL (gwF q g c) n).length
                      · rw [if_pos (by omega), if_pos (by omega), e5, gtL_2]
                        exact ⟨rfl, rfl⟩
                      · rw [if_neg (by omega), if_neg (by omega), gtL_1 (by omega)]
                        exact l3 i2 (by omega)
                    · rintro _ rfl
                      refine h0 _ J3 (fun p hp => by rw [sUI_ne (by omega), r3 p hp]) (fun k hk => by rw [pf_uis, if_neg hk, s3 k hk]) j3 ?_ (by rw [pf_uis, if_pos rfl, z])
                      have := mono (n + 1) (qN q - (n + 1))
                      rw [show n + 1 + (qN q - (n + 1)) = qN q by omega, el] at this
                      show 20000 < W + (chL (gwF q g c) (qN q)).length
                      omega
                  · have il : i < (chL (gwF q g c) n).length := by omega
                    rw [pf_cl (by omega), (l3 i il).1]
                    obtain ⟨w0, hw0, ew0⟩ := chL_mem.mp (gtL_m il)
                    rw [pf_lgc_eq, lN_inj (lt64 (gw_lt hq hg (by omega) hc ew0)) (lt64 d48), nI_1]
                    refine ⟨vp_in_nI (by omega) (by omega), fun y => ?_, fun y => ?_⟩
                    · rintro _ rfl
                      rw [Nat.add_assoc]
                      exact ih2 (i + 1) 0 (by omega) (by omega) (Or.inr ⟨rfl, by rw [← y]; exact gtL_m il⟩)
                    · rintro _ rfl
                      rw [Nat.add_assoc]
                      refine ih2 (i + 1) 1 (by omega) (by omega) (Or.inl ⟨rfl, fun j hj => ?_⟩)
                      by_cases ej : j = i
                      · rw [ej]; exact y
                      · exact hne j (by omega)
                · exact ⟨fun _ => dead hin, fun _ => b1 rfl (dead hin)⟩
            exact ⟨22, seek 22 0 1 (by omega) (by have := chL_len (f := gwF q g c) (n := n); omega) (Or.inl ⟨rfl, fun j hj => by omega⟩)⟩
          · refine b1 (by decide) ⟨1, ?_⟩
            show w_X12_goesOn_86_s post (w_X12_goesOn_9_n post f) (w_X12_goesOn_86_n post (w_X12_goesOn_9_n post f) 0) _ _ _ _ _ _ _ _ _ I3 J3
            unfold w_X12_goesOn_86_s w_X12_goesOn_126 w_X12_goesOn_184
            have := nxt (Or.inl (by rw [gw]; exact fd))
            exact ⟨fun _ => b1 rfl this, fun _ => b1 rfl (b1 rfl this)⟩
        rcases hx with ⟨rfl, c0⟩ | ⟨v, v1, rfl, v2⟩
        · refine b2 (by decide) ?_
          rw [c0] at go
          exact go
        · refine b1 (pf_ge0 (by omega)) ⟨vp_in_nI (by omega) (by omega), ?_⟩
          rw [pf_cl (by omega), k3 v v1, v2]
          exact go
  exact ⟨21, main 21 0 I J (by omega) (by omega) (fun _ _ => rfl) (fun _ _ => rfl) (fun _ _ => rfl) (fun _ _ => rfl) (fun _ _ => rfl) (by show W + 0 ≤ 20000; omega) (by show I 248 30 = nI (W + 0); exact e30) (fun i hi => by simp [chL] at hi)⟩
