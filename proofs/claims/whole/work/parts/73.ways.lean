-- the class's ways
theorem sRtg : ∀ t, t < 4 → sR 41 t = 42 + 23 * t ∧ sR (42 + 23 * t) 0 = 43 + 23 * t ∧ sR (42 + 23 * t) 1 = 64 + 23 * t ∧ ∀ w, w < 20 → sR (43 + 23 * t) w = 44 + 23 * t + w := by decide +kernel
theorem sRwy : ∀ L, L < 24 → sR 143 L = 144 + L ∧ sR 168 L = 169 + L ∧ sR 193 L = 194 + L := by decide +kernel
theorem lN_and (a b : Nat) : lN a &&& lN b = lN (a &&& b) := by
  apply Int64.toBitVec_inj.mp
  rw [Int64.toBitVec_and, lN_bv, lN_bv, lN_bv]
  apply BitVec.eq_of_getLsbD_eq
  intro i hi
  rw [BitVec.getLsbD_and, BitVec.getLsbD_ofNat, BitVec.getLsbD_ofNat, BitVec.getLsbD_ofNat, Nat.testBit_and]
  simp [hi]
theorem nb_all : ∀ k, k < 12 → nb 18446744073709551615 k = 15 := by decide +kernel
theorem m1_64 : (-1 : Int64) = lN 18446744073709551615 := by decide
theorem lt64 {c : Nat} (h : c < 2 ^ 48) : c < 2 ^ 64 := Nat.lt_trans h (by decide)
theorem lt63 {c : Nat} (h : c < 2 ^ 48) : c < 9223372036854775808 := Nat.lt_trans h (by decide)
theorem sf_lt {k : Nat} : sf k < 64 := by unfold sf; omega
theorem sf_c {k : Nat} (hk : k < 12) : (4 : Int32) * (11 - nI k) = nI (sf k) := by
  rw [show (11 : Int32) = nI 11 from rfl, pk_sub (by omega), show (4 : Int32) = nI 4 from rfl, pk_mul]; rfl
theorem q_letterIn {I : sI} {J : sJ} {post : Int32 → sI → sJ → Prop} {c k : Nat} (hc : c < 2 ^ 48) (hk : k < 12) (h : post (nI (nb c k) - 1) I J) : w_X11_letterIn (lN c) (nI k) I J post := by
  unfold w_X11_letterIn w_X11_shiftOf
  rw [sf_c hk]
  show post ((((lN c).toUInt64 >>> ((nI (sf k)).toInt64.toUInt64 &&& Int64.toUInt64 63)).toInt64 &&& 15).toInt32 - 1) I J
  rw [wb_shr (lt64 hc) sf_lt, show (15 : Int64) = lN (16 - 1) from rfl, g_mask (s := 4) (p := 16) (by decide) (by omega) (Nat.lt_of_le_of_lt (Nat.div_le_self _ _) (lt64 hc)), lN_i]
  exact h
theorem ltz {n : Nat} (h : n = 0) : nI n - 1 = -1 := by rw [h]; decide
theorem lt_m1 {n : Nat} (h : n < 16) : nI n - 1 = -1 ↔ n = 0 := by
  constructor
  · intro e
    cases n with
    | zero => rfl
    | succ n => rw [nI_p (by omega)] at e; exact absurd e (pf_ne_m1 (by omega))
  · exact ltz
theorem lt_l {n l : Nat} (h : n < 16) (hl : l < 100) : nI n - 1 = nI l ↔ n = l + 1 := by
  cases n with
  | zero =>
    rw [ltz rfl]
    exact ⟨fun e => absurd e.symm (pf_ne_m1 (by omega)), fun e => by omega⟩
  | succ n => rw [nI_p (by omega), pf_eq (by omega) (by omega)]; omega
theorem q_shiftOf {I : sI} {J : sJ} {post : Int32 → sI → sJ → Prop} {k : Nat} (hk : k < 12) (h : post (nI (sf k)) I J) : w_X11_shiftOf (nI k) I J post := by
  unfold w_X11_shiftOf
  rw [sf_c hk]
  exact h
def isM (m : Nat) (a : Nat → Prop) : Prop := m < 2 ^ 48 ∧ ∀ k, k < 12 → (a k → nb m k = 15) ∧ (¬ a k → nb m k = 0)
theorem isM_congr {m : Nat} {a b : Nat → Prop} (h : isM m a) (e : ∀ k, k < 12 → (a k ↔ b k)) : isM m b := ⟨h.1, fun k hk => ⟨fun x => (h.2 k hk).1 ((e k hk).mpr x), fun x => (h.2 k hk).2 (fun y => x ((e k hk).mp y))⟩⟩
theorem isM_or {m k : Nat} {a : Nat → Prop} (h : isM m a) (hk : k < 12) : isM (m ||| pt k 15) (fun j => a j ∨ j = k) := by
  refine ⟨or_lt h.1 (pt_lt hk (by omega)), fun j hj => ?_⟩
  rw [nb_or, nb_pt hk hj (by omega)]
  by_cases e : j = k
  · rw [if_pos e]
    refine ⟨fun _ => ?_, fun x => absurd (Or.inr e) x⟩
    by_cases y : a j
    · rw [(h.2 j hj).1 y]; rfl
    · rw [(h.2 j hj).2 y]; rfl
  · rw [if_neg e, Nat.or_zero]
    exact ⟨fun x => (h.2 j hj).1 (x.elim id (fun x => absurd x e)), fun x => (h.2 j hj).2 (fun y => x (Or.inl y))⟩
theorem isM_ors {m n : Nat} {a b : Nat → Prop} (h : isM m a) (g : isM n b) : isM (m ||| n) (fun j => a j ∨ b j) := by
  refine ⟨or_lt h.1 g.1, fun j hj => ?_⟩
  rw [nb_or]
  by_cases x : a j <;> by_cases y : b j
  · rw [(h.2 j hj).1 x, (g.2 j hj).1 y]; exact ⟨fun _ => rfl, fun z => absurd (Or.inl x) z⟩
  · rw [(h.2 j hj).1 x, (g.2 j hj).2 y]; exact ⟨fun _ => rfl, fun z => absurd (Or.inl x) z⟩
  · rw [(h.2 j hj).2 x, (g.2 j hj).1 y]; exact ⟨fun _ => rfl, fun z => absurd (Or.inr y) z⟩
  · rw [(h.2 j hj).2 x, (g.2 j hj).2 y]; exact ⟨fun z => z.elim (fun z => absurd z x) (fun z => absurd z y), fun _ => rfl⟩
theorem isM_ands {m n : Nat} {a b : Nat → Prop} (h : isM m a) (g : isM n b) : isM (m &&& n) (fun j => a j ∧ b j) := by
  refine ⟨Nat.lt_of_le_of_lt Nat.and_le_left h.1, fun j hj => ?_⟩
  rw [nb_and]
  by_cases x : a j <;> by_cases y : b j
  · rw [(h.2 j hj).1 x, (g.2 j hj).1 y]; exact ⟨fun _ => rfl, fun z => absurd ⟨x, y⟩ z⟩
  · rw [(h.2 j hj).1 x, (g.2 j hj).2 y]; exact ⟨fun z => absurd z.2 y, fun _ => rfl⟩
  · rw [(h.2 j hj).2 x, (g.2 j hj).1 y]; exact ⟨fun z => absurd z.1 x, fun _ => rfl⟩
  · rw [(h.2 j hj).2 x, (g.2 j hj).2 y]; exact ⟨fun z => absurd z.1 x, fun _ => rfl⟩
/-- what a code has outside a mask -/
theorem nb_out {m e k : Nat} {a : Nat → Prop} (h : isM m a) (hk : k < 12) : nb (e &&& (m ^^^ 18446744073709551615)) k = if bp (a k) = true then 0 else nb e k := by
  rw [nb_and, nb_xor, nb_all k hk]
  by_cases x : a k
  · rw [if_pos (bp_t.mpr x), (h.2 k hk).1 x]
    show nb e k &&& 0 = 0
    rw [Nat.and_zero]
  · rw [if_neg (fun y => x (bp_t.mp y)), (h.2 k hk).2 x]
    show nb e k &&& 15 = nb e k
    have := nb_lt (c := e) (k := k)
    rw [show (15 : Nat) = 2 ^ 4 - 1 from rfl, Nat.and_two_pow_sub_one_eq_mod, Nat.mod_eq_of_lt this]
def smS (f : Nat → Nat) (n : Nat) : Nat := sumN (fun l => f l * 16 ^ l) n
theorem smS_lt {f : Nat → Nat} : ∀ {n}, (∀ l, l < n → f l < 16) → smS f n < 16 ^ n
  | 0, _ => by show 0 < 1; omega
  | n + 1, h => by
    have a := smS_lt (n := n) (fun l hl => h l (by omega))
    have b := h n (by omega)
    show smS f n + f n * 16 ^ n < _
    have c : f n * 16 ^ n ≤ 15 * 16 ^ n := Nat.mul_le_mul_right _ (by omega)
    rw [Nat.pow_succ]; omega
theorem smS_nib {f : Nat → Nat} : ∀ {n l}, (∀ l, l < n → f l < 16) → l < n → smS f n / 16 ^ l % 16 = f l
  | n + 1, l, h, hl => by
    have a := smS_lt (n := n) (fun l hl => h l (by omega))
    show (smS f n + f n * 16 ^ n) / 16 ^ l % 16 = _
    by_cases e : l = n
    · subst e
      rw [Nat.add_mul_div_right _ _ (Nat.pow_pos (by omega)), Nat.div_eq_of_lt a, Nat.zero_add, Nat.mod_eq_of_lt (h l (by omega))]
    · have p : f n * 16 ^ n = (f n * 16 ^ (n - l - 1) * 16) * 16 ^ l := by
        rw [Nat.mul_assoc, Nat.mul_assoc, ← Nat.pow_succ', ← Nat.pow_add, show n - l - 1 + (l + 1) = n by omega]
      rw [p, Nat.add_mul_div_right _ _ (Nat.pow_pos (by omega)), Nat.add_mul_mod_self_right]
      exact smS_nib (n := n) (fun l hl => h l (by omega)) (by omega)
theorem n32_0 {x : Nat} (h : x < 4294967296) : nI x = 0 ↔ x = 0 := by
  constructor
  · intro e
    apply Nat.eq_of_testBit_eq
    intro i
    rw [Nat.zero_testBit]
    by_cases z : i < 32
    · have a : bt (nI x) i = bt (nI 0) i := by rw [e]; rfl
      rw [bt_nI, bt_nI, decide_eq_true z, Bool.true_and, Bool.true_and, Nat.zero_testBit] at a
      exact a
    · exact Nat.testBit_lt_two_pow (Nat.lt_of_lt_of_le h (Nat.pow_le_pow_right (n := 2) (i := 32) (by omega) (by omega)))
  · intro e; rw [e]; rfl
theorem m88 {a : Nat} : a &&& 2290649224 = 0 ↔ ∀ l, l < 8 → a.testBit (4 * l + 3) = false := by
  constructor
  · intro e l hl
    have b : (a &&& 2290649224).testBit (4 * l + 3) = false := by rw [e, Nat.zero_testBit]
    have c : ∀ l, l < 8 → (2290649224 : Nat).testBit (4 * l + 3) = true := by decide
    rw [Nat.testBit_and, c l hl, Bool.and_true] at b
    exact b
  · intro h
    apply Nat.eq_of_testBit_eq
    intro i
    rw [Nat.testBit_and, Nat.zero_testBit]
    by_cases z : i < 32
    · have c : ∀ i, i < 32 → (2290649224 : Nat).testBit i = decide (i % 4 = 3) := by decide
      rw [c i z]
      by_cases y : i % 4 = 3
      · have := h (i / 4) (by omega)
        rw [show 4 * (i / 4) + 3 = i by omega] at this
        rw [this, Bool.false_and]
      · rw [decide_eq_false y, Bool.and_false]
    · rw [Nat.testBit_lt_two_pow (x := 2290649224) (Nat.lt_of_lt_of_le (by decide) (Nat.pow_le_pow_right (n := 2) (i := 32) (by omega) (by omega))), Bool.and_false]
theorem q_crowded {I : sI} {J : sJ} {post : Int32 → sI → sJ → Prop} {f : Nat → Nat} {h : Nat} (h1 : 1 ≤ h ∧ h ≤ 3) (hf : ∀ l, l < 8 → f l ≤ 8) (e7 : I 142 7 = nI ((7 - h) * 286331153)) (y : (∀ l, l < 8 → f l ≤ h) → post 0 I J) (n : ¬ (∀ l, l < 8 → f l ≤ h) → post 1 I J) : w_X10_crowded (nI (smS f 8)) I J post := by
  unfold w_X10_crowded
  have e : smS f 8 + (7 - h) * 286331153 = smS (fun l => f l + (7 - h)) 8 := by
    simp only [smS, sumN]
    omega
  rw [e7, nI_add, e, show (-2004318072 : Int32) = nI 2290649224 by decide, fa_and, n32_0 (Nat.lt_of_le_of_lt Nat.and_le_right (by decide)), m88]
  have g : ∀ l, l < 8 → (smS (fun l => f l + (7 - h)) 8).testBit (4 * l + 3) = decide (8 ≤ f l + (7 - h)) := by
    intro l hl
    have a := smS_nib (f := fun l => f l + (7 - h)) (n := 8) (l := l) (fun l hl => by have := hf l hl; show f l + (7 - h) < 16; omega) hl
    have b : ∀ x, x < 16 → x.testBit 3 = decide (8 ≤ x) := by decide
    have c := b (f l + (7 - h)) (by have := hf l hl; omega)
    have a : smS (fun l => f l + (7 - h)) 8 / 16 ^ l % 16 = f l + (7 - h) := a
    rw [← c, ← a, show (16 : Nat) ^ l = 2 ^ (4 * l) by rw [Nat.pow_mul], show (16 : Nat) = 2 ^ 4 from rfl, Nat.testBit_mod_two_pow, Nat.testBit_div_two_pow, Nat.add_comm 3, decide_eq_true (show 3 < 4 by omega), Bool.true_and]
  refine ⟨fun q => y (fun l hl => ?_), fun q => n (fun z => q (fun l hl => ?_))⟩
  · have := q l hl
    rw [g l hl] at this
    have := of_decide_eq_false this
    omega
  · rw [g l hl]
    have := z l hl
    exact decide_eq_false (by omega)
theorem q_sums {I : sI} {J : sJ} {post : Int32 → sI → sJ → Prop} {c : Nat} (hc : c < 2 ^ 48) (h8 : ∀ k, k < 12 → nb c k ≤ 8) (h : post (nI (smS (usd c) 8)) I J) : w_X10_letterSums (lN c) I J post := by
  have loop : ∀ m n, n ≤ 12 → 12 - n < m → w_X10_letterSums_4_n post m (lN c) (nI (smS (fun l => cnt (fun k => nb c k = l + 1) n) 8)) (nI n) I J := by
    intro m
    induction m with
    | zero => intro n _ h; omega
    | succ m ih =>
      intro n hn hm
      show w_X10_letterSums_4_s post (w_X10_letterSums_4_n post m) _ _ _ I J
      unfold w_X10_letterSums_4_s w_X10_letterSums_34
      rw [show (12 : Int32) = nI 12 from rfl, pf_le (by omega) (by omega)]
      refine ⟨fun e => ?_, fun e => ?_⟩
      · rw [show n = 12 by omega]; exact h
      · have nx := ih (n + 1) (by omega) (by omega)
        refine q_letterIn hc (by omega) ?_
        have b8 := h8 n (by omega)
        rw [lt_m1 nb_lt]
        refine ⟨fun z => ?_, fun z => ?_⟩
        · obtain ⟨v, ev⟩ : ∃ v, nb c n = v + 1 := ⟨nb c n - 1, by omega⟩
          rw [ev, nI_p (by omega), Nat.add_sub_cancel, show (4 : Int32) = nI 4 from rfl, pk_mul, sh1 (4 * v) (by omega), nI_add, nI_1]
          rintro _ rfl _ rfl
          have e2 : smS (fun l => cnt (fun k => nb c k = l + 1) (n + 1)) 8 = smS (fun l => cnt (fun k => nb c k = l + 1) n) 8 + 2 ^ (4 * v) := by
            refine sumN_upd (j := v) ?_ (fun i hi => ?_) (by omega)
            · show cnt (fun k => nb c k = v + 1) (n + 1) * 16 ^ v = cnt (fun k => nb c k = v + 1) n * 16 ^ v + 2 ^ (4 * v)
              rw [cnt_s (p := fun k => nb c k = v + 1) ev, Nat.add_mul, Nat.one_mul, Nat.pow_mul]
            · show cnt (fun k => nb c k = i + 1) (n + 1) * 16 ^ i = cnt (fun k => nb c k = i + 1) n * 16 ^ i
              rw [cnt_n (by show ¬ nb c n = i + 1; omega)]
          rw [e2] at nx
          exact nx
        · rw [Int32.add_zero, nI_1]
          rintro _ rfl _ rfl
          have e2 : smS (fun l => cnt (fun k => nb c k = l + 1) (n + 1)) 8 = smS (fun l => cnt (fun k => nb c k = l + 1) n) 8 := by
            refine sumN_congr (fun i hi => ?_)
            show cnt (fun k => nb c k = i + 1) (n + 1) * 16 ^ i = cnt (fun k => nb c k = i + 1) n * 16 ^ i
            rw [cnt_n (by show ¬ nb c n = i + 1; omega)]
          rw [e2] at nx
          exact nx
  have e0 : smS (fun l => cnt (fun k => nb c k = l + 1) 0) 8 = 0 := by
    rw [smS, sumN_congr (u := fun _ => 0) (fun i _ => by show 0 * _ = 0; exact Nat.zero_mul _), sumN_0]
  have := loop 13 0 (by omega) (by omega)
  rw [e0] at this
  exact ⟨13, this⟩
theorem q_lenD {I : sI} {J : sJ} {post : Int32 → sI → sJ → Prop} {h0 G P g : Nat} {s κ : Nat → Nat} (h4 : h0 ∈ [4, 14, 23, 32, 138]) (hw : tWD G P s κ) (hc : cD G P s κ h0 I) (hg : g < G) (h : post (nI (s (g + 1) - s g)) I J) : w_X2_lengthOf h0 (nI g) I J post := by
  have hP := hw.2.1
  have hG := hw.1
  have e7 := (sRdisc h0 h4).2.2
  unfold w_X2_lengthOf
  have := (hw.2.2.2.2.1 g hg).1
  rw [e7, nI_1, pf_cl (by omega), pf_cl (by omega), hc.2.2.1 (g + 1) (by omega), hc.2.2.1 g (by omega), pk_sub (by omega)]
  exact ⟨vp_in_nI (by omega) (by omega), vp_in_nI (by omega) (by omega), h⟩
theorem q_maskOf {I : sI} {J : sJ} {post : Int64 → sI → sJ → Prop} {h0 G P g : Nat} {s κ : Nat → Nat} (h4 : h0 ∈ [4, 14, 23, 32, 138]) (hw : tWD G P s κ) (hc : cD G P s κ h0 I) (hg : g < G) (h : ∀ m, isM m (fun k => ∃ p, s g ≤ p ∧ p < s (g + 1) ∧ κ p = k) → post (lN m) I J) : w_X10_maskOf h0 (nI g) I J post := by
  have hP := hw.2.1
  have hG := hw.1
  have hκ := hw.2.2.2.2.2
  obtain ⟨e5, -, e7⟩ := sRdisc h0 h4
  have l1 := hw.2.2.2.2.1 g hg
  have l3 := s_le hw (show g + 1 ≤ G by omega)
  have loop : ∀ m p a, s g ≤ p → p ≤ s (g + 1) → s (g + 1) - p < m → isM a (fun k => ∃ p2, s g ≤ p2 ∧ p2 < p ∧ κ p2 = k) → w_X10_maskOf_10_n h0 post m (nI g) (lN a) (nI p) I J := by
    intro m
    induction m with
    | zero => intro p _ _ _ h; omega
    | succ m ih =>
      intro p a h1 h2 hm ha
      show w_X10_maskOf_10_s h0 post (w_X10_maskOf_10_n h0 post m) _ _ _ I J
      unfold w_X10_maskOf_10_s w_X10_maskOf_54
      rw [e5, e7, nI_1, nI_1, pf_cl (by omega), pf_cl (by omega), hc.2.2.1 (g + 1) (by omega), pf_le (by omega) (by omega)]
      refine ⟨vp_in_nI (by omega) (by omega), fun y => ?_, fun y => ⟨vp_in_nI (by omega) (by omega), ?_⟩⟩
      · rw [show p = s (g + 1) by omega] at ha
        exact h a ha
      · have k1 := hκ p (by omega)
        rw [hc.2.2.2.1 p (by omega), show (12 : Int32) = nI 12 from rfl, pf_eq (by omega) (by omega)]
        refine ⟨fun y2 => ⟨vp_in_nI (by omega) (by omega), ?_⟩, fun y2 => ?_⟩
        · refine q_shiftOf (by omega) ?_
          rw [show (15 : Int64) = lN 15 from rfl, wb_shl 15 sf_lt, lN_or]
          rintro _ rfl _ rfl
          refine ih (p + 1) _ (by omega) (by omega) (by omega) (isM_congr (isM_or ha (show κ p < 12 by omega)) (fun k hk => ?_))
          constructor
          · rintro (⟨p2, a1, a2, a3⟩ | e)
            · exact ⟨p2, a1, by omega, a3⟩
            · exact ⟨p, h1, by omega, e.symm⟩
          · rintro ⟨p2, a1, a2, a3⟩
            by_cases e : p2 = p
            · subst e; exact Or.inr a3.symm
            · exact Or.inl ⟨p2, a1, by omega, a3⟩
        · rw [Int64.or_zero]
          rintro _ rfl _ rfl
          refine ih (p + 1) _ (by omega) (by omega) (by omega) (isM_congr ha (fun k hk => ?_))
          constructor
          · rintro ⟨p2, a1, a2, a3⟩
            exact ⟨p2, a1, by omega, a3⟩
          · rintro ⟨p2, a1, a2, a3⟩
            refine ⟨p2, a1, ?_, a3⟩
            by_cases e : p2 = p
            · subst e; omega
            · omega
  unfold w_X10_maskOf
  rw [e7, pf_cl (by omega), hc.2.2.1 g (by omega)]
  refine ⟨vp_in_nI (by omega) (by omega), ?_⟩
  rintro _ rfl
  exact ⟨8, loop 8 (s g) 0 (by omega) (by omega) (by omega) ⟨by decide, fun k hk => ⟨fun ⟨p2, a1, a2, _⟩ => by omega, fun _ => nb_0⟩⟩⟩
