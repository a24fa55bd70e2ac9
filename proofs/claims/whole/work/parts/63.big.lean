/-! numbers that outgrow a long -/
theorem bgt {b N f i : Nat} (hb : 0 < b) : ((N / b ^ i % b) * f + (N % b ^ i) * f / b ^ i) % b = N * f / b ^ i % b ∧ ((N / b ^ i % b) * f + (N % b ^ i) * f / b ^ i) / b = (N % b ^ (i + 1)) * f / b ^ (i + 1) := by
  have hp : 0 < b ^ i := Nat.pow_pos hb
  have e1 : N % b ^ (i + 1) = N % b ^ i + b ^ i * (N / b ^ i % b) := Nat.mod_pow_succ
  have pr : (N / b ^ i % b) * f + (N % b ^ i) * f / b ^ i = (N % b ^ (i + 1)) * f / b ^ i := by
    rw [e1, Nat.add_mul, Nat.mul_assoc, Nat.add_mul_div_left _ _ hp, Nat.add_comm]
  constructor
  · rw [pr]
    have e2 : N * f = (N % b ^ (i + 1)) * f + b ^ i * (b * (N / b ^ (i + 1) * f)) := by
      have := Nat.mod_add_div N (b ^ (i + 1))
      calc N * f = (N % b ^ (i + 1) + b ^ (i + 1) * (N / b ^ (i + 1))) * f := by rw [this]
        _ = _ := by rw [Nat.add_mul, Nat.pow_succ, Nat.mul_assoc, Nat.mul_assoc]
    rw [e2, Nat.add_mul_div_left _ _ hp, Nat.add_mul_mod_self_left]
  · rw [pr, Nat.div_div_eq_div_mul, ← Nat.pow_succ]
theorem bgt_c {b N f i : Nat} (hb : 0 < b) : (N % b ^ i) * f / b ^ i ≤ f := by
  have hp : 0 < b ^ i := Nat.pow_pos hb
  apply Nat.div_le_of_le_mul
  exact Nat.mul_le_mul_right f (Nat.le_of_lt (Nat.mod_lt _ hp))
def cmpN (a b : Nat) : Int32 := if a < b then -1 else if a = b then 0 else 1
theorem cmp_lt {a b : Nat} (h : a < b) : cmpN a b = -1 := by rw [cmpN, if_pos h]
theorem cmp_eq {a b : Nat} (h : a = b) : cmpN a b = 0 := by rw [cmpN, if_neg (by omega), if_pos h]
theorem cmp_gt {a b : Nat} (h : b < a) : cmpN a b = 1 := by rw [cmpN, if_neg (by omega), if_neg (by omega)]
theorem cmp_dig {b N M k : Nat} (h : N / b ^ (k + 1) = M / b ^ (k + 1)) : (N / b ^ k % b < M / b ^ k % b → N < M) ∧ (N / b ^ k % b = M / b ^ k % b → N / b ^ k = M / b ^ k) ∧ (M / b ^ k % b < N / b ^ k % b → M < N) := by
  rw [Nat.pow_succ, ← Nat.div_div_eq_div_mul, ← Nat.div_div_eq_div_mul] at h
  have x := Nat.div_add_mod (N / b ^ k) b
  have y := Nat.div_add_mod (M / b ^ k) b
  rw [h] at x
  refine ⟨fun l => ?_, fun l => ?_, fun l => ?_⟩
  · rcases Nat.lt_or_ge N M with z | z
    · exact z
    · have := Nat.div_le_div_right (c := b ^ k) z
      omega
  · omega
  · rcases Nat.lt_or_ge M N with z | z
    · exact z
    · have := Nat.div_le_div_right (c := b ^ k) z
      omega
theorem lgc0 {c : Nat} (h : c < 9223372036854775808) : lg_cmp (lN c) 0 ≤ 0 ↔ c = 0 := by
  rw [← Int32.not_lt, pf_lgc_gt, show (0 : Int64) = lN 0 from rfl, pk_lLT (by omega) (by omega)]
  omega
theorem q_cmp {I : sI} {J : sJ} {post : Int32 → sI → sJ → Prop} {a b : Nat} (ha : a < 9223372036854775808) (hb : b < 9223372036854775808) (h : post (cmpN a b) I J) : w_J13_compare_74951 (lN a) (lN b) I J post := by
  unfold w_J13_compare_74951
  rw [← Int32.not_lt, pf_lgc_lt, pf_lgc_eq, pk_lLT ha hb, pk_lEQ ha hb]
  refine ⟨fun x => ⟨fun y => ?_, fun y => ?_⟩, fun x => ?_⟩
  · rw [cmp_gt (by omega)] at h; exact h
  · rw [cmp_eq y] at h; exact h
  · rw [cmp_lt (by omega)] at h; exact h
/-- the class's: limbs of 40 bits -/
def bB : Nat := 1099511627776
theorem hB : bB = 1099511627776 := rfl
def cB (h N : Nat) (I : sI) (J : sJ) : Prop := ∃ u, 1 ≤ u ∧ u ≤ 16 ∧ I h 1 = nI u ∧ (∀ i, i < u → J (h + 1) i = lN (N / bB ^ i % bB)) ∧ N < bB ^ u
theorem q_become {I : sI} {J : sJ} {post : sI → sJ → Prop} {h x : Nat} (hh : h ∈ [243, 245]) (hx : x < 2147483648) (hp : cB h x (sUI I h 1 1) (sUJ J (h + 1) 0 (lN x)) → post (sUI I h 1 1) (sUJ J (h + 1) 0 (lN x))) : w_X0_become h (nI x) I J post := by
  unfold w_X0_become
  rw [sRbig h hh, show Int32.toNatClampNeg 0 = 0 from rfl, nI_l (by omega)]
  refine ⟨vp_in_nI (n := 0) (by omega) (by omega), ?_⟩
  rintro _ rfl _ rfl
  have := hB
  refine hp ⟨1, by omega, by omega, by rw [pf_uis, if_pos rfl]; rfl, fun i hi => ?_, by rw [Nat.pow_one]; omega⟩
  rw [show i = 0 by omega, pf_ujs, if_pos rfl, Nat.pow_zero, Nat.div_one, Nat.mod_eq_of_lt (by omega)]
theorem bB_pos : 0 < bB := by decide
theorem q_Btimes {I : sI} {J : sJ} {post : sI → sJ → Prop} {h N f : Nat} (hh : h ∈ [243, 245]) (hb : cB h N I J) (hf : f < 4194304) (hN : N * f < bB ^ 16) (hp : ∀ (I2 : sI) (J2 : sJ), (∀ q, ¬ q = h → I2 q = I q) → (∀ q, ¬ q = h + 1 → J2 q = J q) → cB h (N * f) I2 J2 → post I2 J2) : w_X0_times h (nI f) I J post := by
  obtain ⟨u, u1, u2, u3, u4, u5⟩ := hb
  have hB := hB
  have loop : ∀ m i (J1 : sJ), i ≤ u → u - i < m → (∀ q, ¬ q = h + 1 → J1 q = J q) → (∀ j, j < i → J1 (h + 1) j = lN (N * f / bB ^ j % bB)) → (∀ j, i ≤ j → j < u → J1 (h + 1) j = lN (N / bB ^ j % bB)) → w_X0_times_5_n h post m (nI f) (lN ((N % bB ^ i) * f / bB ^ i)) (nI i) I J1 := by
    intro m
    induction m with
    | zero => intro i J1 _ h; omega
    | succ m ih =>
      intro i J1 hi hm j1 j2 j3
      have c1 := bgt_c (N := N) (f := f) (i := i) bB_pos
      show w_X0_times_5_s h post _ _ _ _ I J1
      unfold w_X0_times_5_s
      rw [u3, pf_le (by omega) (by omega), sRbig h hh, pf_cl (by omega), pf_cl (by omega), lgc0 (by omega), nI_1, nI_1, show (16 : Int32) = nI 16 from rfl, pf_le (by omega) (by omega)]
      refine ⟨fun e => ?_, fun e => ⟨vp_in_nI (by omega) (by omega), ?_⟩⟩
      · have e : i = u := by omega
        subst e
        rw [Nat.mod_eq_of_lt u5]
        rw [Nat.mod_eq_of_lt u5] at c1
        refine ⟨fun z => ?_, fun z => ⟨fun y => ?_, fun y => ⟨vp_in_nI (by omega) (by omega), ?_⟩⟩⟩
        · exact hp I J1 (fun _ _ => rfl) j1 ⟨i, u1, u2, u3, j2, (Nat.div_eq_zero_iff_lt (Nat.pow_pos bB_pos)).mp z⟩
        · rw [show i = 16 by omega, Nat.div_eq_of_lt hN] at z
          exact absurd rfl z
        · rintro _ rfl _ rfl
          refine hp _ _ (fun q hq => by rw [sUI_ne hq]) (fun q hq => by rw [sUJ_ne hq, j1 q hq]) ⟨i + 1, by omega, by omega, by rw [pf_uis, if_pos rfl], fun j hj => ?_, ?_⟩
          · rw [pf_ujs]
            by_cases z2 : j = i
            · rw [if_pos z2, z2, Nat.mod_eq_of_lt (a := N * f / bB ^ i) (by omega)]
            · rw [if_neg z2, j2 j (by omega)]
          · rw [Nat.pow_succ]
            refine (Nat.div_lt_iff_lt_mul (Nat.pow_pos bB_pos)).mp ?_ |> fun x => by rw [Nat.mul_comm] at x; exact x
            omega
      · have d1 : N / bB ^ i % bB < bB := Nat.mod_lt _ bB_pos
        have d2 : (N / bB ^ i % bB) * f ≤ 1099511627775 * f := Nat.mul_le_mul_right f (by omega)
        obtain ⟨t1, t2⟩ := bgt (N := N) (f := f) (i := i) bB_pos
        rw [j3 i (by omega) (by omega), nI_l (by omega), lN_mul, lN_add]
        have d3 : 1099511627775 * f ≤ 1099511627775 * 4194303 := Nat.mul_le_mul_left _ (by omega)
        rintro _ rfl
        refine ⟨vp_in_nI (by omega) (by omega), ?_⟩
        rw [show (1099511627775 : Int64) = lN (1099511627776 - 1) from rfl, g_mask (s := 40) (p := 1099511627776) (by decide) (by omega) (by omega), show (40 : Int32) = nI 40 from rfl, wb_shr (by omega) (by omega), show (2 : Nat) ^ 40 = bB by decide, ← hB, t1, t2]
        rintro _ rfl _ rfl _ rfl
        refine ih (i + 1) _ (by omega) (by omega) (fun q hq => by rw [sUJ_ne hq, j1 q hq]) (fun j hj => ?_) (fun j hj hj2 => ?_)
        · rw [pf_ujs]
          by_cases z2 : j = i
          · rw [if_pos z2, z2]
          · rw [if_neg z2, j2 j (by omega)]
        · rw [pf_ujs, if_neg (by omega), j3 j (by omega) hj2]
  have := loop (u + 1) 0 J (by omega) (by omega) (fun _ _ => rfl) (fun j hj => by omega) (fun j _ hj => u4 j hj)
  rw [Nat.pow_zero, Nat.mod_one, Nat.zero_mul, Nat.zero_div] at this
  exact ⟨u + 1, this⟩
theorem cB_congr {h N : Nat} {I I2 : sI} {J J2 : sJ} (hb : cB h N I J) (e1 : I2 h = I h) (e2 : J2 (h + 1) = J (h + 1)) : cB h N I2 J2 := by
  unfold cB at *
  rw [e1, e2]
  exact hb
theorem q_Bpower {I : sI} {J : sJ} {post : sI → sJ → Prop} {h N f p : Nat} (hh : h ∈ [243, 245]) (hb : cB h N I J) (hf : f < 4194304) (hpp : p < 1000) (hN : ∀ k, k < p → N * f ^ (k + 1) < bB ^ 16) (hp : ∀ (I2 : sI) (J2 : sJ), (∀ q, ¬ q = h → I2 q = I q) → (∀ q, ¬ q = h + 1 → J2 q = J q) → cB h (N * f ^ p) I2 J2 → post I2 J2) : w_X0_timesPower h (nI f) (nI p) I J post := by
  have loop : ∀ m k (I1 : sI) (J1 : sJ), k ≤ p → p - k < m → (∀ q, ¬ q = h → I1 q = I q) → (∀ q, ¬ q = h + 1 → J1 q = J q) → cB h (N * f ^ k) I1 J1 → w_X0_timesPower_2_n h post m (nI f) (nI p) (nI k) I1 J1 := by
    intro m
    induction m with
    | zero => intro i I1 J1 _ h; omega
    | succ m ih =>
      intro k I1 J1 hk hm r1 j1 b1
      show w_X0_timesPower_2_s h post _ _ _ _ I1 J1
      unfold w_X0_timesPower_2_s
      rw [pf_le (by omega) (by omega), nI_1]
      refine ⟨fun e => ?_, fun e => ?_⟩
      · rw [show k = p by omega] at b1
        exact hp I1 J1 r1 j1 b1
      · have e2 : N * f ^ k * f = N * f ^ (k + 1) := by rw [Nat.pow_succ, Nat.mul_assoc]
        refine q_Btimes hh b1 hf (by rw [e2]; exact hN k (by omega)) (fun I2 J2 r2 j2 b2 => ?_)
        rintro _ rfl
        rw [e2] at b2
        exact ih (k + 1) I2 J2 (by omega) (by omega) (fun q hq => by rw [r2 q hq, r1 q hq]) (fun q hq => by rw [j2 q hq, j1 q hq]) b2
  exact ⟨p + 1, loop (p + 1) 0 I J (by omega) (by omega) (fun _ _ => rfl) (fun _ _ => rfl) (by rw [Nat.pow_zero, Nat.mul_one]; exact hb)⟩
theorem q_limbAt {I : sI} {J : sJ} {post : Int64 → sI → sJ → Prop} {h N i : Nat} (hh : h ∈ [243, 245]) (hb : cB h N I J) (hi : i < 16) (hp : post (lN (N / bB ^ i % bB)) I J) : w_X0_limbAt h (nI i) I J post := by
  obtain ⟨u, u1, u2, u3, u4, u5⟩ := hb
  unfold w_X0_limbAt
  rw [u3, pf_le (by omega) (by omega), sRbig h hh, pf_cl (by omega)]
  refine ⟨fun e => ?_, fun e => ⟨vp_in_nI (by omega) (by omega), ?_⟩⟩
  · have l := Nat.pow_le_pow_right bB_pos e
    rw [Nat.div_eq_of_lt (by omega), Nat.zero_mod] at hp
    exact hp
  · rw [u4 i (by omega)]; exact hp
theorem q_against {I : sI} {J : sJ} {post : Int32 → sI → sJ → Prop} {h h2 N M : Nat} (hh : h ∈ [243, 245]) (hh2 : h2 ∈ [243, 245]) (hb : cB h N I J) (hb2 : cB h2 M I J) (hp : post (cmpN N M) I J) : w_X0_against h h2 I J post := by
  have loop : ∀ k, k ≤ 16 → N / bB ^ k = M / bB ^ k → w_X0_against_3_n h h2 post (k + 1) (if k = 0 then -1 else nI (k - 1)) I J := by
    intro k
    induction k with
    | zero =>
      intro _ e
      show w_X0_against_3_s h h2 post _ _ I J
      unfold w_X0_against_3_s
      rw [if_pos rfl]
      refine b1 (by decide) ?_
      rw [Nat.pow_zero, Nat.div_one, Nat.div_one] at e
      rw [cmp_eq e] at hp
      exact hp
    | succ k ih =>
      intro hk e
      show w_X0_against_3_s h h2 post _ _ I J
      unfold w_X0_against_3_s
      rw [if_neg (by omega), show k + 1 - 1 = k by omega]
      refine b2 (pf_lt0 (by omega)) ?_
      have hB := hB
      have d1 : N / bB ^ k % bB < bB := Nat.mod_lt _ bB_pos
      have d2 : M / bB ^ k % bB < bB := Nat.mod_lt _ bB_pos
      refine q_limbAt hh hb (by omega) (q_limbAt hh2 hb2 (by omega) (q_cmp (by omega) (by omega) ?_))
      obtain ⟨x1, x2, x3⟩ := cmp_dig e
      rcases Nat.lt_trichotomy (N / bB ^ k % bB) (M / bB ^ k % bB) with z | z | z
      · rw [cmp_lt z]
        rw [cmp_lt (x1 z)] at hp
        exact b2 (by decide) hp
      · rw [cmp_eq z]
        refine b1 rfl ?_
        have := ih (by omega) (x2 z)
        rintro _ rfl
        by_cases z0 : k = 0
        · subst z0
          exact this
        · obtain ⟨k, rfl⟩ : ∃ j, k = j + 1 := ⟨k - 1, by omega⟩
          rw [if_neg (by omega), show k + 1 - 1 = k by omega] at this
          rw [pk_m1]
          exact this
      · rw [cmp_gt z]
        rw [cmp_gt (x3 z)] at hp
        exact b2 (by decide) hp
  have lt : ∀ {h N : Nat}, cB h N I J → N / bB ^ 16 = 0 := by
    intro h N ⟨u, u1, u2, u3, u4, u5⟩
    have l := Nat.pow_le_pow_right bB_pos u2
    exact Nat.div_eq_of_lt (by omega)
  exact ⟨17, loop 16 (by omega) (by rw [lt hb, lt hb2])⟩
/-- the model's: digits of base 10000, as many as its cell 0 says -/
def mB (h N : Nat) (I : sI) : Prop := ∃ d, 1 ≤ d ∧ d ≤ 64 ∧ I h 0 = nI d ∧ (∀ k, k < d → I h (k + 1) = nI (N / 10000 ^ k % 10000)) ∧ N < 10000 ^ d ∧ (d = 1 ∨ 10000 ^ (d - 1) ≤ N)
theorem c_0 : Int32.toNatClampNeg 0 = 0 := rfl
theorem c_1 : Int32.toNatClampNeg 1 = 1 := rfl
theorem v_0 : vp_in 0 65 := vp_in_nI (n := 0) (by omega) (by omega)
theorem q_one {I : sI} {J : sJ} {post : sI → sJ → Prop} {h : Nat} (hp : mB h 1 (sUI (sUI I h 0 1) h 1 1) → post (sUI (sUI I h 0 1) h 1 1) J) : w_X12_one h I J post := by
  unfold w_X12_one
  rw [c_0, c_1]
  refine ⟨v_0, ?_⟩
  rintro _ rfl
  refine ⟨vp_in_nI (n := 1) (by omega) (by omega), ?_⟩
  rintro _ rfl
  refine hp ⟨1, by omega, by omega, ?_, fun k hk => ?_, by decide, Or.inl rfl⟩
  · rw [pf_uis, if_neg (by omega), pf_uis, if_pos rfl]; rfl
  · rw [show k = 0 by omega, pf_uis, if_pos rfl]; rfl
theorem q_Mtimes {I : sI} {J : sJ} {post : sI → sJ → Prop} {h N f : Nat} (hb : mB h N I) (hf : f < 4194304) (hN : N * f < 10000 ^ 64) (hp : ∀ I2 : sI, (∀ q, ¬ q = h → I2 q = I q) → mB h (N * f) I2 → post I2 J) : w_X12_times h (nI f) I J post := by
  obtain ⟨d, u1, u2, u3, u4, u5, u6⟩ := hb
  have loop3 : ∀ e (I1 : sI), 1 ≤ e → e ≤ 64 → (∀ q, ¬ q = h → I1 q = I q) → I1 h 0 = nI e → (∀ k, k < e → I1 h (k + 1) = nI (N * f / 10000 ^ k % 10000)) → N * f < 10000 ^ e → w_X12_times_79_n h post e I1 J := by
    intro e
    induction e with
    | zero => intro I1 h; omega
    | succ e ih =>
      intro I1 h1 h2 r1 e0 dg lt
      show w_X12_times_79_s h post _ I1 J
      unfold w_X12_times_79_s
      rw [c_0, e0, show (1 : Int32) = nI 1 from rfl, pf_le (by omega) (by omega), pf_cl (by omega), dg e (by omega)]
      have dl : N * f / 10000 ^ e % 10000 < 10000 := Nat.mod_lt _ (by omega)
      rw [pf_eq0 (by omega), pk_sub (by omega)]
      refine ⟨v_0, fun z => ?_, fun z => ⟨v_0, vp_in_nI (by omega) (by omega), fun y => ?_, fun y => ⟨v_0, v_0, ?_⟩⟩⟩
      · exact hp I1 r1 ⟨e + 1, by omega, by omega, e0, dg, lt, Or.inl (by omega)⟩
      · refine hp I1 r1 ⟨e + 1, by omega, by omega, e0, dg, lt, Or.inr ?_⟩
        rw [show e + 1 - 1 = e by omega]
        rcases Nat.lt_or_ge (N * f) (10000 ^ e) with x | x
        · rw [Nat.div_eq_of_lt x] at y; exact absurd rfl y
        · exact x
      · rintro _ rfl
        rw [show e + 1 - 1 = e by omega]
        refine ih _ (by omega) (by omega) (fun q hq => by rw [sUI_ne hq, r1 q hq]) (by rw [pf_uis, if_pos rfl]) (fun k hk => by rw [pf_uis, if_neg (by omega), dg k (by omega)]) ?_
        rw [Nat.pow_succ] at lt
        have : N * f / 10000 ^ e < 10000 := (Nat.div_lt_iff_lt_mul (Nat.pow_pos (by omega))).mpr (by rw [Nat.mul_comm 10000]; exact lt)
        rw [Nat.mod_eq_of_lt this] at y
        exact (Nat.div_eq_zero_iff_lt (Nat.pow_pos (by omega))).mp y
  have loop2 : ∀ m e (I1 : sI), 1 ≤ e → e ≤ 64 → 65 - e < m → (∀ q, ¬ q = h → I1 q = I q) → I1 h 0 = nI e → (∀ k, k < e → I1 h (k + 1) = nI (N * f / 10000 ^ k % 10000)) → N * f / 10000 ^ e < 9223372036854775808 → w_X12_times_46_n h post m (lN (N * f / 10000 ^ e)) I1 J := by
    intro m
    induction m with
    | zero => intro e I1 _ _ h; omega
    | succ m ih =>
      intro e I1 h1 h2 hm r1 e0 dg hc
      show w_X12_times_46_s h post _ _ I1 J
      unfold w_X12_times_46_s
      rw [lgc0 hc, c_0, e0, nI_1, show (10000 : Int64) = lN 10000 from rfl, pk_lRem (by omega) (by omega) (by omega), lN_i, pk_lDiv (by omega) (by omega) (by omega), Nat.div_div_eq_div_mul, ← Nat.pow_succ]
      refine ⟨fun z => ?_, fun z => ⟨v_0, v_0, ?_⟩⟩
      · exact ⟨e, loop3 e I1 h1 h2 r1 e0 dg ((Nat.div_eq_zero_iff_lt (Nat.pow_pos (by omega))).mp z)⟩
      · have l64 : e < 64 := by
          rcases Nat.lt_or_ge e 64 with x | x
          · exact x
          · rw [show e = 64 by omega, Nat.div_eq_of_lt hN] at z; exact absurd rfl z
        rintro _ rfl
        have g : (sUI I1 h 0 (nI (e + 1))) h 0 = nI (e + 1) := by rw [pf_uis, if_pos rfl]
        rw [g, pf_cl (by omega)]
        refine ⟨v_0, vp_in_nI (by omega) (by omega), ?_⟩
        rintro _ rfl _ rfl
        refine ih (e + 1) _ (by omega) (by omega) (by omega) (fun q hq => by rw [sUI_ne hq, sUI_ne hq, r1 q hq]) (by rw [pf_uis, if_neg (by omega), g]) (fun k hk => ?_) ?_
        · rw [pf_uis]
          by_cases z2 : k = e
          · rw [if_pos (by omega), z2]
          · rw [if_neg (by omega), pf_uis, if_neg (by omega), dg k (by omega)]
        · rw [Nat.pow_succ, ← Nat.div_div_eq_div_mul]; omega
  have loop1 : ∀ m i (I1 : sI), i ≤ d → d - i < m → (∀ q, ¬ q = h → I1 q = I q) → I1 h 0 = nI d → (∀ k, k < i → I1 h (k + 1) = nI (N * f / 10000 ^ k % 10000)) → (∀ k, i ≤ k → k < d → I1 h (k + 1) = nI (N / 10000 ^ k % 10000)) → w_X12_times_5_n h post m (nI f) (lN ((N % 10000 ^ i) * f / 10000 ^ i)) (nI (i + 1)) I1 J := by
    intro m
    induction m with
    | zero => intro i I1 _ h; omega
    | succ m ih =>
      intro i I1 hi hm r1 e0 dg dg2
      have c1 := bgt_c (N := N) (f := f) (i := i) (b := 10000) (by omega)
      show w_X12_times_5_s h post _ _ _ _ I1 J
      unfold w_X12_times_5_s
      rw [c_0, e0, pf_lt (by omega) (by omega), pf_cl (by omega)]
      refine ⟨v_0, fun z => ?_, fun z => ⟨vp_in_nI (by omega) (by omega), ?_⟩⟩
      · have e : i = d := by omega
        subst e
        rw [Nat.mod_eq_of_lt u5]
        rw [Nat.mod_eq_of_lt u5] at c1
        exact ⟨66, loop2 66 i I1 u1 u2 (by omega) r1 e0 dg (by omega)⟩
      · have d1 : N / 10000 ^ i % 10000 < 10000 := Nat.mod_lt _ (by omega)
        have d2 : (N / 10000 ^ i % 10000) * f ≤ 9999 * f := Nat.mul_le_mul_right f (by omega)
        obtain ⟨t1, t2⟩ := bgt (N := N) (f := f) (i := i) (b := 10000) (by omega)
        rw [dg2 i (by omega) (by omega), nI_l (by omega), nI_l (by omega), lN_mul, lN_add, Nat.add_comm ((N % 10000 ^ i) * f / 10000 ^ i)]
        rintro _ rfl
        rw [show (10000 : Int64) = lN 10000 from rfl, pk_lRem (by omega) (by omega) (by omega), lN_i, pk_lDiv (by omega) (by omega) (by omega), t1, t2, nI_1]
        refine ⟨vp_in_nI (by omega) (by omega), ?_⟩
        rintro _ rfl _ rfl _ rfl
        refine ih (i + 1) _ (by omega) (by omega) (fun q hq => by rw [sUI_ne hq, r1 q hq]) (by rw [pf_uis, if_neg (by omega), e0]) (fun k hk => ?_) (fun k hk hk2 => ?_)
        · rw [pf_uis]
          by_cases z2 : k = i
          · rw [if_pos (by omega), z2]
          · rw [if_neg (by omega), dg k (by omega)]
        · rw [pf_uis, if_neg (by omega), dg2 k (by omega) hk2]
  have := loop1 (d + 1) 0 I (by omega) (by omega) (fun _ _ => rfl) u3 (fun k hk => by omega) (fun k _ hk => u4 k hk)
  rw [Nat.pow_zero, Nat.mod_one, Nat.zero_mul, Nat.zero_div] at this
  exact ⟨d + 1, this⟩
theorem mB_congr {h N : Nat} {I I2 : sI} (hb : mB h N I) (e1 : I2 h = I h) : mB h N I2 := by
  unfold mB at *
  rw [e1]
  exact hb
theorem q_compares {I : sI} {J : sJ} {post : Int32 → sI → sJ → Prop} {h h2 N M : Nat} (hb : mB h N I) (hb2 : mB h2 M I) (hp : post (cmpN N M) I J) : w_X12_compares h h2 I J post := by
  obtain ⟨d, u1, u2, u3, u4, u5, u6⟩ := hb
  obtain ⟨g, w1, w2, w3, w4, w5, w6⟩ := hb2
  unfold w_X12_compares
  rw [c_0, u3, w3, pf_eq (by omega) (by omega), pf_le (by omega) (by omega)]
  refine ⟨v_0, v_0, fun e => ⟨v_0, ?_⟩, fun e => ⟨v_0, v_0, fun z => ?_, fun z => ?_⟩⟩
  · subst e
    rintro _ rfl
    have loop : ∀ k, k ≤ d → N / 10000 ^ k = M / 10000 ^ k → w_X12_compares_28_n h h2 post (k + 1) (nI k) I J := by
      intro k
      induction k with
      | zero =>
        intro _ e
        show w_X12_compares_28_s h h2 post _ _ I J
        unfold w_X12_compares_28_s
        rw [pf_le0 (by omega)]
        refine b1 rfl ?_
        rw [Nat.pow_zero, Nat.div_one, Nat.div_one] at e
        rw [cmp_eq e] at hp
        exact hp
      | succ k ih =>
        intro hk e
        show w_X12_compares_28_s h h2 post _ _ I J
        unfold w_X12_compares_28_s
        have d1 : N / 10000 ^ k % 10000 < 10000 := Nat.mod_lt _ (by omega)
        have d2 : M / 10000 ^ k % 10000 < 10000 := Nat.mod_lt _ (by omega)
        rw [pf_le0 (by omega), pf_cl (by omega), u4 k (by omega), w4 k (by omega), pf_eq (by omega) (by omega), pf_le (by omega) (by omega), pk_m1]
        obtain ⟨x1, x2, x3⟩ := cmp_dig e
        refine b2 (by omega) ⟨vp_in_nI (by omega) (by omega), vp_in_nI (by omega) (by omega), fun z => ?_, fun z => ⟨vp_in_nI (by omega) (by omega), vp_in_nI (by omega) (by omega), fun y => ?_, fun y => ?_⟩⟩
        · rintro _ rfl
          exact ih (by omega) (x2 z)
        · rw [cmp_gt (x3 (by omega))] at hp; exact hp
        · rw [cmp_lt (x1 (by omega))] at hp; exact hp
    exact ⟨d + 1, loop d (by omega) (by rw [Nat.div_eq_of_lt u5, Nat.div_eq_of_lt w5])⟩
  · have l := Nat.pow_le_pow_right (show 0 < 10000 by omega) (show g ≤ d - 1 by omega)
    rw [cmp_gt (by omega)] at hp; exact hp
  · have l := Nat.pow_le_pow_right (show 0 < 10000 by omega) (show d ≤ g - 1 by omega)
    rw [cmp_lt (by omega)] at hp; exact hp
