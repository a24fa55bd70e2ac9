def gtL : List Nat → Nat → Nat
  | [], _ => 0
  | x :: _, 0 => x
  | _ :: xs, i + 1 => gtL xs i
theorem gtL_1 {ys : List Nat} : ∀ {xs : List Nat} {i : Nat}, i < xs.length → gtL (xs ++ ys) i = gtL xs i
  | [], i, h => by simp at h
  | x :: xs, 0, _ => rfl
  | x :: xs, i + 1, h => by
    rw [List.length_cons] at h
    show gtL (xs ++ ys) i = gtL xs i
    exact gtL_1 (by omega)
theorem gtL_2 {y : Nat} : ∀ {xs : List Nat}, gtL (xs ++ [y]) xs.length = y
  | [] => rfl
  | x :: xs => gtL_2 (xs := xs)
theorem gtL_m : ∀ {xs : List Nat} {i : Nat}, i < xs.length → gtL xs i ∈ xs
  | [], i, h => by simp at h
  | x :: xs, 0, _ => List.mem_cons_self ..
  | x :: xs, i + 1, h => by
    rw [List.length_cons] at h
    exact List.mem_cons_of_mem _ (gtL_m (xs := xs) (by omega))
theorem gtL_i {x : Nat} : ∀ {xs : List Nat}, x ∈ xs → ∃ i, i < xs.length ∧ gtL xs i = x
  | [], h => by simp at h
  | y :: xs, h => by
    rcases List.mem_cons.mp h with e | e
    · exact ⟨0, by rw [List.length_cons]; omega, e.symm⟩
    · obtain ⟨i, a, b⟩ := gtL_i e
      exact ⟨i + 1, by rw [List.length_cons]; omega, b⟩
theorem lN_inj {a b : Nat} (ha : a < 2 ^ 64) (hb : b < 2 ^ 64) : lN a = lN b ↔ a = b := by
  constructor
  · intro e
    have := congrArg (fun x => x.toBitVec.toNat) e
    have this : (lN a).toBitVec.toNat = (lN b).toBitVec.toNat := this
    rw [lN_nat ha, lN_nat hb] at this
    exact this
  · intro e; rw [e]
theorem lt63' {c : Nat} (h : c < 2 ^ 48) : c < 2 ^ 63 := Nat.lt_trans h (by decide)
theorem cs_cw {q : sPr} {N L n e : Nat} (hq : qO q N) (hL : L < N) (hn : n ≤ qN q) (he : e ∈ chL (cwF q L) n) : e < 2 ^ 48 ∧ ∃ w, w < n ∧ cwF q L w = some e := by
  obtain ⟨w, hw, ew⟩ := chL_mem.mp he
  exact ⟨(sp_ok hq hL (by omega) (cw_sp ew).1).1, w, hw, ew⟩
theorem chL_inj {f : Nat → Option Nat} : ∀ {n i j : Nat}, i < (chL f n).length → j < (chL f n).length → gtL (chL f n) i = gtL (chL f n) j → i = j := by
  intro n
  induction n with
  | zero => intro i j h; simp [chL] at h
  | succ n ih =>
    intro i j
    cases x : f n with
    | none => rw [chL_no x]; exact ih
    | some e =>
      by_cases m : e ∈ chL f n
      · rw [chL_in x m]; exact ih
      · rw [chL_new x m, List.length_append, List.length_singleton]
        intro hi hj
        by_cases a : i < (chL f n).length <;> by_cases b : j < (chL f n).length
        · rw [gtL_1 a, gtL_1 b]; exact ih a b
        · rw [gtL_1 a, show j = (chL f n).length by omega, gtL_2]
          intro z
          exact absurd (by rw [← z]; exact gtL_m a) m
        · rw [gtL_1 b, show i = (chL f n).length by omega, gtL_2]
          intro z
          exact absurd (by rw [z]; exact gtL_m b) m
        · intro _; omega
/-- a tongue of the class, as what is searched has it -/
def tgS (q : sPr) (t : Nat) (I : sI) : Prop := I (42 + 23 * t) 2 = nI (qN q) ∧ ∀ w, w < qN q → I (64 + 23 * t) w = nI (qL q w) ∧ ∀ i, i < qL q w → I (44 + 23 * t + w) i = nI (qT q w i)
def cfS (q : sPr) (bk : Nat) (I : sI) : Prop := I 142 7 = nI ((7 - qH q) * 286331153) ∧ I 142 8 = nI (qD q) ∧ I 142 9 = nI bk
/-- a group of a disc, as what is searched has it at a level -/
def gpS (q : sPr) (bk L g : Nat) (s κ : Nat → Nat) : Prop := qZ q L = s (g + 1) - s g ∧ ∀ i, i < qZ q L → qK q L i = κ (if bk = 0 then s g + i else s (g + 1) - 1 - i)
theorem q_spelt {I : sI} {J : sJ} {post : Int64 → sI → sJ → Prop} {q : sPr} {h0 G P g t bk L N w : Nat} {s κ : Nat → Nat} (hq : qO q N) (hL : L < N) (h4 : h0 ∈ [4, 14, 23, 32, 138]) (hw : tWD G P s κ) (hc : cD G P s κ h0 I) (hg : g < G) (gp : gpS q bk L g s κ) (ht : t < 4) (tg : tgS q t I) (cf : cfS q bk I) (hb : bk ≤ 1) (ww : w < qN q) (h1 : ∀ e, spF q L w = some e → post (lN e) I J) (h2 : spF q L w = none → post (-1) I J) : w_X10_spelt h0 (nI g) (42 + 23 * t) (nI w) I J post := by
  have hP := hw.2.1
  have hG := hw.1
  have hκ := hw.2.2.2.2.2
  obtain ⟨e5, -, e7⟩ := sRdisc h0 h4
  obtain ⟨-, f0, f1, f2⟩ := sRtg t ht
  have l1 := hw.2.2.2.2.1 g hg
  have l3 := s_le hw (show g + 1 ≤ G by omega)
  obtain ⟨_, _, _, q4, q5, q6, q7⟩ := id hq
  obtain ⟨w1, w2, w3⟩ := q7 w ww
  obtain ⟨t1, t2⟩ := tg.2 w ww
  obtain ⟨z1, z2⟩ := gp
  unfold w_X10_spelt
  refine q_lenD h4 hw hc hg ?_
  have no : ¬ lnO q L w → post (-1) I J := fun z => h2 (by rw [spF, if_neg (fun y => z (bp_t.mp y))])
  rw [f1, pf_cl (by omega), t1, cf.2.1, nI_add, pf_lt (by omega) (by omega), pf_le (by omega) (by omega)]
  unfold w_X10_spelt_36
  refine ⟨vp_in_nI (by omega) (by omega), fun y => no (fun z => by have := z.1; omega), fun y => ⟨vp_in_nI (by omega) (by omega), fun y2 => ?_, fun y2 => no (fun z => by have := z.2; omega)⟩⟩
  have ln : lnO q L w := ⟨by omega, by omega⟩
  have sg := qO_sg hq hL ww ln
  have es : spF q L w = ftF 13 (qK q L) (qT q w) 0 (qZ q L) := by rw [spF, if_pos (bp_t.mpr ln)]
  have loop : ∀ m i c, i ≤ qZ q L → qZ q L - i < m → ftF 13 (qK q L) (qT q w) 0 i = some c → w_X10_spelt_46_n h0 (42 + 23 * t) post m (nI g) (nI w) (nI (s (g + 1) - s g)) (lN c) (nI i) I J := by
    intro m
    induction m with
    | zero => intro i _ _ h; omega
    | succ m ih =>
      intro i c hi hm fc
      have c48 := (ft_D sg (by decide) hi fc).1
      show w_X10_spelt_46_s h0 (42 + 23 * t) post (w_X10_spelt_46_n h0 (42 + 23 * t) post m) _ _ _ _ _ I J
      unfold w_X10_spelt_46_s
      rw [pf_le (by omega) (by omega), cf.2.2, pf_eq0 (by omega)]
      refine ⟨fun e => ?_, fun e => ?_⟩
      · rw [show i = qZ q L by omega] at fc
        exact h1 c (by rw [es]; exact fc)
      · obtain ⟨k1, l2⟩ := sg i (by omega)
        have fs := ft_s fc
        have body : ∀ p, p < P → κ p = qK q L i → w_X10_spelt_89 h0 (42 + 23 * t) post (w_X10_spelt_46_n h0 (42 + 23 * t) post m) (nI g) (nI w) (nI (s (g + 1) - s g)) (lN c) (nI i) (nI p) I J := by
          intro p hp ep
          unfold w_X10_spelt_89 w_X10_spelt_156 w_X10_spelt_140
          rw [e5, pf_cl (by omega), hc.2.2.2.1 p hp, ep, f0, pf_cl (by omega), pf_cl (by omega), f2 w (by omega), t2 i (by omega), nI_1]
          refine ⟨vp_in_nI (by omega) (by omega), ?_⟩
          rintro _ rfl
          rw [show (12 : Int32) = nI 12 from rfl, pf_eq (by omega) (by omega)]
          refine ⟨fun y3 => ⟨vp_in_nI (by omega) (by omega), vp_in_nI (by omega) (by omega), ?_⟩, fun y3 => ?_⟩
          · rintro _ rfl
            refine q_letterIn c48 (by omega) ?_
            rw [lt_m1 nb_lt, lt_l nb_lt (by omega)]
            have go : ftF 13 (qK q L) (qT q w) 0 (i + 1) = some (c ||| pt (qK q L i) (qT q w i + 1)) → w_X11_shiftOf (nI (qK q L i)) I J (fun r_149 I_149 J_149 => ∀ v6_154 : Int64, v6_154 = lN c ||| ((nI (qT q w i) + 1).toInt64 <<< (Int32.toInt64 r_149 &&& 63)) → ∀ v8_156 : Int32, v8_156 = nI i + 1 → w_X10_spelt_46_n h0 (42 + 23 * t) post m (nI g) (nI w) (nI (s (g + 1) - s g)) v6_154 v8_156 I_149 J_149) := by
              intro fn
              refine q_shiftOf (by omega) ?_
              rw [nI_1, nI_1, nI_l (by omega), wb_shl _ sf_lt, lN_or]
              rintro _ rfl _ rfl
              exact ih (i + 1) _ (by omega) (by omega) fn
            rw [stp, if_neg y3] at fs
            refine ⟨fun n0 => ?_, fun n0 => ⟨fun n1 => ?_, fun n1 => ?_⟩⟩
            · rw [if_pos n0, if_neg (by have := usd_le (c := c) (l := qT q w i); omega)] at fs
              exact go fs
            · rw [if_neg n0, if_pos n1] at fs
              exact go (by rw [nb_same c48 (by omega) (by omega) n1]; exact fs)
            · rw [if_neg n0, if_neg n1] at fs
              refine h2 ?_
              rw [es, show qZ q L = i + 1 + (qZ q L - (i + 1)) by omega]
              exact ft_none fs _
          · rw [stp, if_pos y3] at fs
            rintro _ rfl
            exact ih (i + 1) c (by omega) (by omega) fs
        have kz := z2 i (by omega)
        refine ⟨fun b0 => ⟨vp_in_nI (by omega) (by omega), ?_⟩, fun b0 => ?_⟩
        · rw [e7, pf_cl (by omega), hc.2.2.1 g (by omega), nI_add]
          rw [if_pos b0] at kz
          exact body _ (by omega) kz.symm
        · rw [e7, nI_1, pf_cl (by omega), hc.2.2.1 (g + 1) (by omega), nI_p (by omega), pk_sub (by omega)]
          rw [if_neg b0] at kz
          exact ⟨vp_in_nI (by omega) (by omega), body _ (by omega) kz.symm⟩
  exact ⟨7, loop 7 0 0 (by omega) (by omega) rfl⟩
/-- the ways of one level -/
def lwS (q : sPr) (L n : Nat) (I : sI) (J : sJ) : Prop := I 218 L = nI (chL (cwF q L) n).length ∧ ∀ i, i < (chL (cwF q L) n).length → J (144 + L) i = lN (gtL (chL (cwF q L) n) i) ∧ I (169 + L) i = nI (smS (frK (knF q L) (gtL (chL (cwF q L) n) i)) 8) ∧ I (194 + L) i = nI (msk (fun w => w < n ∧ cwF q L w = some (gtL (chL (cwF q L) n) i)) 20)
theorem lwS_congr {q : sPr} {L n : Nat} {I I2 : sI} {J J2 : sJ} (h : lwS q L n I J) (a : I2 218 L = I 218 L) (b : J2 (144 + L) = J (144 + L)) (c : I2 (169 + L) = I (169 + L)) (d : I2 (194 + L) = I (194 + L)) : lwS q L n I2 J2 := by
  unfold lwS at *
  rw [a, b, c, d]
  exact h
theorem lwS_no {q : sPr} {L n : Nat} {I : sI} {J : sJ} (h : lwS q L n I J) (e : cwF q L n = none) : lwS q L (n + 1) I J := by
  unfold lwS at *
  rw [chL_no e]
  refine ⟨h.1, fun i hi => ?_⟩
  obtain ⟨a, b, c⟩ := h.2 i hi
  refine ⟨a, b, ?_⟩
  rw [c]
  congr 1
  refine msk_congr (fun w _ => ⟨fun x => ⟨by omega, x.2⟩, fun x => ⟨?_, x.2⟩⟩)
  have := x.2
  by_cases z : w = n
  · rw [z, e] at this; cases this
  · omega
theorem sp_nb8 {q : sPr} {N L w e k : Nat} (hq : qO q N) (hL : L < N) (ww : w < qN q) (he : spF q L w = some e) (hk : k < 12) : nb e k ≤ 8 := by
  obtain ⟨ln, f⟩ := sp_ft he
  have sg := qO_sg hq hL ww ln
  obtain ⟨a, b, c⟩ := sp_D sg f
  by_cases z : nb e k = 0
  · omega
  · obtain ⟨j, hj, ej⟩ := (b k hk).mp z
    have := c j hj (by omega)
    rw [ej] at this
    have := (sg j hj).2
    omega
theorem own_le {z : Nat} {kd : Nat → Nat} : ∀ (n : Nat), cnt (fun k => ∃ j, j < z ∧ kd j = k) n ≤ z := by
  induction z with
  | zero => intro n; rw [cnt_0 (fun i _ ⟨j, hj, _⟩ => by omega)]; omega
  | succ z ih =>
    intro n
    have a := ih n
    by_cases old : (∃ j, j < z ∧ kd j = kd z) ∨ ¬ kd z < n
    · have : cnt (fun k => ∃ j, j < z + 1 ∧ kd j = k) n = cnt (fun k => ∃ j, j < z ∧ kd j = k) n := cnt_congr (fun i hi => by
        constructor
        · rintro ⟨j, hj, ej⟩
          by_cases e : j = z
          · subst e
            rcases old with ⟨j2, h2, e2⟩ | o
            · exact ⟨j2, h2, by rw [e2]; exact ej⟩
            · omega
          · exact ⟨j, by omega, ej⟩
        · rintro ⟨j, hj, ej⟩
          exact ⟨j, by omega, ej⟩)
      omega
    · have nold : ¬ ∃ j, j < z ∧ kd j = kd z := fun x => old (Or.inl x)
      have lt : kd z < n := by
        rcases Nat.lt_or_ge (kd z) n with x | x
        · exact x
        · exact absurd (Or.inr (by omega)) old
      have : cnt (fun k => ∃ j, j < z + 1 ∧ kd j = k) n = cnt (fun k => ∃ j, j < z ∧ kd j = k) n + 1 := cnt_one (n := kd z) ⟨z, by omega, rfl⟩ nold (fun i hi => by
        constructor
        · rintro ⟨j, hj, ej⟩
          refine ⟨j, ?_, ej⟩
          by_cases e : j = z
          · subst e; exact absurd ej.symm hi
          · omega
        · rintro ⟨j, hj, ej⟩
          exact ⟨j, by omega, ej⟩) lt
      omega
theorem fr_le {q : sPr} {N L w e l : Nat} (hq : qO q N) (hL : L < N) (ww : w < qN q) (he : spF q L w = some e) : frK (knF q L) e l ≤ 6 := by
  obtain ⟨a, b⟩ := sp_ok hq hL ww he
  have c := own_le (z := qZ q L) (kd := qK q L) 12
  have d : frK (knF q L) e l ≤ cnt (fun k => ∃ j, j < qZ q L ∧ qK q L j = k) 12 := cnt_mono (fun k hk x => (b k hk).mp (by have := x.1; omega))
  have := (hq.2.2.2.2.2.1 L hL).2.1
  omega
theorem q_addWay {I : sI} {J : sJ} {post : sI → sJ → Prop} {q : sPr} {bk L N n e m : Nat} (hq : qO q N) (hL : L < N) (ww : n < qN q) (cf : cfS q bk I) (e5 : I 142 5 = nI L) (e6 : J 142 6 = lN m) (hm : isM m (knF q L)) (he : spF q L n = some e) (lw : lwS q L n I J) (h : ∀ (I2 : sI) (J2 : sJ), (∀ p, ¬ (p = 169 + L ∨ p = 194 + L ∨ p = 218) → I2 p = I p) → (∀ g, ¬ g = L → I2 218 g = I 218 g) → (∀ p, ¬ (p = 144 + L) → J2 p = J p) → lwS q L (n + 1) I2 J2 → post I2 J2) : w_X10_addWay (lN e) (nI n) I J post := by
  obtain ⟨q1, q2, q3, q4, q5', q6, q7⟩ := id hq
  obtain ⟨y1, y2, y3⟩ := sRwy L (by omega)
  obtain ⟨s1, s2⟩ := sp_ok hq hL ww he
  unfold w_X10_addWay
  rw [e6, m1_64, lN_xor, lN_and]
  have out : ∀ k, k < 12 → nb (e &&& (m ^^^ 18446744073709551615)) k = if bp (knF q L k) = true then 0 else nb e k := fun k hk => nb_out hm hk
  have us : ∀ l, usd (e &&& (m ^^^ 18446744073709551615)) l = frK (knF q L) e l := fun l => cnt_congr (fun k hk => by
    rw [out k hk]
    by_cases z : knF q L k
    · rw [if_pos (bp_t.mpr z)]
      exact ⟨fun x => by omega, fun x => absurd z x.2⟩
    · rw [if_neg (fun y => z (bp_t.mp y))]
      exact ⟨fun x => ⟨x, z⟩, fun x => x.1⟩)
  refine q_sums (Nat.lt_of_le_of_lt Nat.and_le_left s1) (fun k hk => ?_) ?_
  · rw [out k hk]
    split
    · omega
    · exact sp_nb8 hq hL ww he hk
  rw [show smS (usd (e &&& (m ^^^ 18446744073709551615))) 8 = smS (frK (knF q L) e) 8 from sumN_congr (fun i _ => by rw [us])]
  refine q_crowded (h := qH q) ⟨q2, q3⟩ (fun l _ => by have := fr_le (l := l) hq hL ww he; omega) cf.1 (fun z => b1 rfl ?_) (fun z => b2 (by decide) (h I J (fun _ _ => rfl) (fun _ _ => rfl) (fun _ _ => rfl) (lwS_no lw (sp_no he z))))
  have ec := sp_cw he z
  have len := chL_len (f := cwF q L) (n := n)
  obtain ⟨w1, w2⟩ := lw
  have find : ∀ f i, i ≤ (chL (cwF q L) n).length → (chL (cwF q L) n).length - i < f → (∀ j, j < i → gtL (chL (cwF q L) n) j ≠ e) → w_X10_addWay_28_n post f (lN e) (nI n) (nI (smS (frK (knF q L) e) 8)) (nI i) I J := by
    intro f
    induction f with
    | zero => intro i _ h; omega
    | succ f ih =>
      intro i hi hf hne
      show w_X10_addWay_28_s post (w_X10_addWay_28_n post f) _ _ _ _ I J
      unfold w_X10_addWay_28_s
      rw [e5, pf_cl (by omega), w1, pf_le (by omega) (by omega), pf_cl (by omega), y1]
      have fin : i ≤ (chL (cwF q L) n).length → (i < (chL (cwF q L) n).length → gtL (chL (cwF q L) n) i = e) → w_X10_addWay_65 post (lN e) (nI n) (nI (smS (frK (knF q L) e) 8)) (nI i) I J := by
        intro _ hin
        unfold w_X10_addWay_65 w_X10_addWay_132
        rw [e5, pf_cl (by omega), w1, pf_eq (by omega) (by omega), pf_cl (by omega), y1, y2, y3]
        refine ⟨vp_in_nI (by omega) (by omega), fun z2 => ⟨vp_in_nI (by omega) (by omega), vp_in_nI (by omega) (by omega), vp_in_nI (by omega) (by omega), ?_⟩, fun z2 => ⟨vp_in_nI (by omega) (by omega), vp_in_nI (by omega) (by omega), ?_⟩⟩
        · have hil : i < (chL (cwF q L) n).length := by omega
          have ge := hin hil
          have mem : e ∈ chL (cwF q L) n := by rw [← ge]; exact gtL_m hil
          obtain ⟨v1, v2, v3⟩ := w2 i hil
          rw [v3, ge, sh1 n (by omega), m_or1 (by omega)]
          rintro _ rfl
          refine h _ J (fun p hp => sUI_ne (by omega)) (fun g hg => by rw [sUI_ne (by omega)]) (fun _ _ => rfl) ?_
          unfold lwS
          rw [chL_in ec mem]
          refine ⟨by rw [sUI_ne (by omega)]; exact w1, fun j hj => ?_⟩
          obtain ⟨u1, u2, u3⟩ := w2 j hj
          refine ⟨u1, by rw [sUI_ne (by omega)]; exact u2, ?_⟩
          rw [pf_uis]
          by_cases ej : j = i
          · rw [if_pos ej, ej, ge]
            congr 1
            refine msk_congr (fun w _ => ⟨fun x => x.elim (fun x => ⟨by omega, x.2⟩) (fun x => ⟨by omega, by rw [x]; exact ec⟩), fun x => ?_⟩)
            by_cases ew : w = n
            · exact Or.inr ew
            · exact Or.inl ⟨by omega, x.2⟩
          · rw [if_neg ej, u3]
            congr 1
            refine msk_congr (fun w _ => ⟨fun x => ⟨by omega, x.2⟩, fun x => ⟨?_, x.2⟩⟩)
            by_cases ew : w = n
            · have x2 := x.2
              rw [ew, ec] at x2
              cases x2
              have a := hne
              rcases Nat.lt_trichotomy j i with b | b | b
              · exact absurd rfl (hne j b)
              · exact absurd b ej
              · exact absurd (chL_inj hil hj (by rw [ge])) (by omega)
            · omega
        · rintro _ rfl
          refine ⟨vp_in_nI (by omega) (by omega), vp_in_nI (by omega) (by omega), ?_⟩
          rintro _ rfl
          have a5 : ∀ (X : sI) (p k : Nat) (x : Int32), p ≠ 142 → X 142 5 = nI L → (sUI X p k x) 142 5 = nI L := fun X p k x hp hX => by rw [sUI_ne (fun z => hp z.symm)]; exact hX
          have g1 : (sUI I (169 + L) i (nI (smS (frK (knF q L) e) 8))) 142 5 = nI L := a5 _ _ _ _ (by omega) e5
          rw [g1, pf_cl (by omega), y3]
          refine ⟨vp_in_nI (by omega) (by omega), vp_in_nI (by omega) (by omega), ?_⟩
          rintro _ rfl
          have g2 : (sUI (sUI I (169 + L) i (nI (smS (frK (knF q L) e) 8))) (194 + L) i 0) 142 5 = nI L := a5 _ _ _ _ (by omega) g1
          rw [g2, pf_cl (by omega)]
          refine ⟨vp_in_nI (by omega) (by omega), vp_in_nI (by omega) (by omega), ?_⟩
          rintro _ rfl
          have g3 : (sUI (sUI I (169 + L) i (nI (smS (frK (knF q L) e) 8))) (194 + L) i 0) 218 L = nI (chL (cwF q L) n).length := by rw [sUI_ne (by omega), sUI_ne (by omega)]; exact w1
          rw [g3, nI_1]
          have g4 : (sUI (sUI (sUI I (169 + L) i (nI (smS (frK (knF q L) e) 8))) (194 + L) i 0) 218 L (nI ((chL (cwF q L) n).length + 1))) 142 5 = nI L := a5 _ _ _ _ (by omega) g2
          rw [g4, pf_cl (by omega), y3]
          refine ⟨vp_in_nI (by omega) (by omega), vp_in_nI (by omega) (by omega), vp_in_nI (by omega) (by omega), ?_⟩
          rintro _ rfl
          have nm : ¬ e ∈ chL (cwF q L) n := fun x => by
            obtain ⟨j, hj, ej⟩ := gtL_i x
            exact hne j (by omega) ej
          refine h _ _ (fun p hp => ?_) (fun g hg => ?_) (fun p hp => ?_) ?_
          · rw [sUI_ne (by omega), sUI_ne (by omega), sUI_ne (by omega), sUI_ne (by omega)]
          · rw [sUI_ne (by omega), pf_uis, if_neg hg, sUI_ne (by omega), sUI_ne (by omega)]
          · funext k; rw [pf_uj, if_neg (by omega)]
          · unfold lwS
            rw [chL_new ec nm, List.length_append, List.length_singleton]
            refine ⟨by rw [sUI_ne (by omega), pf_uis, if_pos rfl], fun j hj => ?_⟩
            by_cases ej : j = i
            · rw [ej, z2, gtL_2]
              refine ⟨by rw [pf_ujs, if_pos rfl], ?_, ?_⟩
              · rw [sUI_ne (by omega), sUI_ne (by omega), sUI_ne (by omega), pf_uis, if_pos rfl]
              · rw [pf_uis, if_pos rfl, sUI_ne (by omega), pf_uis, if_pos rfl, sh1 n (by omega), show (0 : Int32) = nI (msk (fun _ => False) 20) by rw [msk_zero.mpr (fun _ _ x => x)]; rfl, m_or1 (by omega)]
                congr 1
                refine msk_congr (fun w _ => ⟨fun x => x.elim (fun x => x.elim) (fun x => ⟨by omega, by rw [x]; exact ec⟩), fun x => Or.inr ?_⟩)
                by_cases ew : w = n
                · exact ew
                · exact absurd (chL_mem.mpr ⟨w, by omega, x.2⟩) nm
            · have jl : j < (chL (cwF q L) n).length := by omega
              obtain ⟨u1, u2, u3⟩ := w2 j jl
              rw [gtL_1 jl]
              refine ⟨by rw [pf_ujs, if_neg ej]; exact u1, ?_, ?_⟩
              · rw [sUI_ne (by omega), sUI_ne (by omega), sUI_ne (by omega), pf_uis, if_neg ej]; exact u2
              · rw [pf_uis, if_neg ej, sUI_ne (by omega), pf_uis, if_neg ej, sUI_ne (by omega), u3]
                congr 1
                refine msk_congr (fun w _ => ⟨fun x => ⟨by omega, x.2⟩, fun x => ⟨?_, x.2⟩⟩)
                by_cases ew : w = n
                · have x2 := x.2
                  rw [ew, ec] at x2
                  cases x2
                  exact absurd (gtL_m jl) nm
                · omega
      refine ⟨vp_in_nI (by omega) (by omega), fun z2 => fin (by omega) (fun x => by omega), fun z2 => ⟨vp_in_nI (by omega) (by omega), vp_in_nI (by omega) (by omega), ?_⟩⟩
      have hil : i < (chL (cwF q L) n).length := by omega
      have gm := (cs_cw hq hL (by omega) (gtL_m hil)).1
      rw [(w2 i hil).1, pf_lgc_eq, lN_inj (lt64 gm) (lt64 s1)]
      refine ⟨fun x => fin (by omega) (fun _ => x), fun x => ?_⟩
      rintro _ rfl
      rw [nI_1]
      refine ih (i + 1) (by omega) (by omega) (fun j hj => ?_)
      by_cases ej : j = i
      · rw [ej]; exact x
      · exact hne j (by omega)
  exact ⟨22, find 22 0 (by omega) (by omega) (fun j hj => by omega)⟩
