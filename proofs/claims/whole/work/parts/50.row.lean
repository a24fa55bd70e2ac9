theorem q_X6_put {I : sI} {J : sJ} {post : sI → sJ → Prop} {h k : Nat} {x : Int64} (hh : h ∈ [134, 136]) (hk : I h 1 = nI k) (h13 : k < 13) (hp : post (sUI I h 1 (nI (k + 1))) (sUJ J (h + 1) k x)) : w_X6_put h x I J post := by
  unfold w_X6_put
  rw [hk, sRrow h hh]
  refine b2 (by rw [pf_le (by omega) (by omega)]; omega) ⟨vp_in_nI (by omega) (by omega), ?_⟩
  rw [pf_cl (by omega), nI_1]
  rintro _ rfl _ rfl
  exact hp
theorem q_X6_tell {I : sI} {J : sJ} {post : sI → sJ → Prop} {x : Int64} (hp : post (sUI (sUI I 134 1 0) 134 1 (nI 1)) (sUJ J 135 0 x)) : w_X6_tell 134 x I J post := by
  unfold w_X6_tell
  rintro _ rfl
  exact q_X6_put (k := 0) (by decide) rfl (by omega) hp
theorem q_X6_tell2 {I : sI} {J : sJ} {post : sI → sJ → Prop} {x y : Int64} (hp : post (sUI (sUI (sUI I 134 1 0) 134 1 (nI 1)) 134 1 (nI 2)) (sUJ (sUJ J 135 0 x) 135 1 y)) : w_X6_tell_ 134 x y I J post := by
  unfold w_X6_tell_
  refine q_X6_tell ?_
  exact q_X6_put (k := 1) (by decide) rfl (by omega) hp
theorem q_enters {I : sI} {J : sJ} {post : sI → sJ → Prop} {k : Nat} {x : Int64} (hk : I 248 1 = nI k) (h64 : k < 64) (hp : post (sUI I 248 1 (nI (k + 1))) (sUJ J 249 k x)) : w_X12_enters x I J post := by
  unfold w_X12_enters
  rw [hk]
  refine ⟨vp_in_nI (by omega) (by omega), ?_⟩
  rw [pf_cl (by omega), nI_1]
  rintro _ rfl _ rfl
  exact hp
theorem lN_z {n : Nat} (h : n < 9223372036854775808) : lN n = 0 ↔ n = 0 := by
  rw [show (0 : Int64) = lN 0 from rfl, pk_lEQ h (by omega)]
theorem lN_rem {x y : Nat} (hx : x < 9223372036854775808) (hy : y < 9223372036854775808) (h0 : 0 < y) : lN x - lN x / lN y * lN y = lN (x % y) := pk_lRem hx h0 hy
theorem q_common {I : sI} {J : sJ} {post : Int64 → sI → sJ → Prop} {x y : Nat} (hx : x < 9223372036854775808) (hy : y < 9223372036854775808) (h : post (lN (Nat.gcd x y)) I J) : w_X12_common (lN x) (lN y) I J post := by
  have loop : ∀ m x y, x < 9223372036854775808 → y < m → y < 9223372036854775808 → post (lN (Nat.gcd x y)) I J → w_X12_common_6_n post m (lN x) (lN y) I J := by
    intro m
    induction m with
    | zero => intro x y _ h; exact absurd h (Nat.not_lt_zero _)
    | succ m ih =>
      intro x y hx hm hy h
      show w_X12_common_6_s post _ _ _ I J
      unfold w_X12_common_6_s
      rw [pf_lgc_eq, lN_z hy]
      refine ⟨fun e => ?_, fun e => ⟨e, ?_⟩⟩
      · subst e; rw [Nat.gcd_zero_right] at h; exact h
      · rw [lN_rem hx hy (by omega)]
        rintro _ rfl
        have hlt := Nat.mod_lt x (show 0 < y by omega)
        refine ih y (x % y) hy (by omega) (by omega) ?_
        rw [show Nat.gcd y (x % y) = Nat.gcd x y by rw [Nat.gcd_comm x y, Nat.gcd_rec y x, Nat.gcd_comm]]
        exact h
  exact ⟨y + 1, loop (y + 1) x y hx (by omega) hy h⟩
theorem half_mod {y r : Nat} (h0 : 0 < r) (h : r < y) : 2 * (y % r) < y := by
  rcases Nat.lt_or_ge y (2 * r) with x | x
  · have : y % r = y - r := by
      rw [Nat.mod_eq_sub_mod (by omega), Nat.mod_eq_of_lt (by omega)]
    omega
  · have := Nat.mod_lt y h0
    omega
theorem q_commonDivisor {I : sI} {J : sJ} {post : Int64 → sI → sJ → Prop} {x y : Nat} (hx : x < 9223372036854775808) (hy : y < 8796093022208) (h : post (lN (Nat.gcd x y)) I J) : w_X6_commonDivisor (lN x) (lN y) I J post := by
  have gr : ∀ x y, Nat.gcd y (x % y) = Nat.gcd x y := fun x y => by rw [Nat.gcd_comm x y, Nat.gcd_rec y x, Nat.gcd_comm]
  have done : ∀ m x (t : Nat), t ≤ 100 → post (lN x) I J → w_X6_commonDivisor_9_n post (m + 1) (lN x) (lN 0) (nI t) I J := by
    intro m x t ht h
    show w_X6_commonDivisor_9_s post _ _ _ _ I J
    unfold w_X6_commonDivisor_9_s
    rw [pf_lgc_eq, lN_z (by omega)]
    exact ⟨fun _ => h, fun _ => b1 rfl h⟩
  have step : ∀ m x y (t : Nat), t < 100 → 0 < y → x < 9223372036854775808 → y < 9223372036854775808 → w_X6_commonDivisor_9_n post m (lN y) (lN (x % y)) (nI (t + 1)) I J → w_X6_commonDivisor_9_n post (m + 1) (lN x) (lN y) (nI t) I J := by
    intro m x y t ht h0 hx hy h
    show w_X6_commonDivisor_9_s post _ _ _ _ I J
    unfold w_X6_commonDivisor_9_s
    rw [pf_lgc_eq, lN_z hy, show (100 : Int32) = nI 100 from rfl, pf_le (by omega) (by omega)]
    refine b2 (by omega) (b2 (by omega) ⟨by omega, ?_⟩)
    rw [lN_rem hx hy h0]
    rintro _ rfl _ rfl
    rw [nI_1]
    exact h
  have loop : ∀ k x y (t : Nat), y < 2 ^ k → k ≤ 43 → t + 2 * k ≤ 99 → x < 9223372036854775808 → post (lN (Nat.gcd x y)) I J → w_X6_commonDivisor_9_n post (2 * k + 2) (lN x) (lN y) (nI t) I J := by
    intro k
    induction k with
    | zero =>
      intro x y t hy _ ht hx h
      have : y = 0 := by rw [Nat.pow_zero] at hy; omega
      subst this
      rw [Nat.gcd_zero_right] at h
      exact done _ x t (by omega) h
    | succ k ih =>
      intro x y t hy hk ht hx h
      have h43 : 2 ^ (k + 1) ≤ 2 ^ 43 := Nat.pow_le_pow_right (by omega) hk
      have e43 : (2 : Nat) ^ 43 = 8796093022208 := by decide
      rcases Nat.eq_zero_or_pos y with e | e
      · subst e
        rw [Nat.gcd_zero_right] at h
        exact done _ x t (by omega) h
      · rw [show 2 * (k + 1) + 2 = (2 * k + 3) + 1 by omega]
        refine step _ x y t (by omega) e hx (by omega) ?_
        have hr := Nat.mod_lt x e
        rw [← gr x y] at h
        rcases Nat.eq_zero_or_pos (x % y) with e2 | e2
        · rw [e2] at h ⊢
          rw [Nat.gcd_zero_right] at h
          exact done _ y (t + 1) (by omega) h
        · rw [show 2 * k + 3 = (2 * k + 2) + 1 by omega]
          refine step _ y (x % y) (t + 1) (by omega) e2 (by omega) (by omega) ?_
          have hh := half_mod e2 hr
          rw [Nat.pow_succ] at hy
          rw [← gr y (x % y)] at h
          exact ih (x % y) (y % (x % y)) (t + 1 + 1) (by omega) (by omega) (by omega) (by omega) h
  exact ⟨_, loop 43 x y 0 (by omega) (by omega) (by omega) hx h⟩
theorem q_tellFraction {I : sI} {J : sJ} {post : sI → sJ → Prop} {x y : Nat} (hx : x < 9223372036854775808) (hy : y < 8796093022208) (h0 : 0 < y) (hp : post (sUI (sUI (sUI I 134 1 0) 134 1 (nI 1)) 134 1 (nI 2)) (sUJ (sUJ J 135 0 (lN (x / Nat.gcd x y))) 135 1 (lN (y / Nat.gcd x y)))) : w_X6_tellFraction 134 (lN x) (lN y) I J post := by
  have hg : 0 < Nat.gcd x y := Nat.gcd_pos_of_pos_right x h0
  have hg2 : Nat.gcd x y ≤ y := Nat.gcd_le_right x h0
  unfold w_X6_tellFraction
  refine q_commonDivisor (by omega) hy ?_
  have nz : ¬ lN (Nat.gcd x y) = 0 := by rw [lN_z (by omega)]; omega
  refine b2 ?_ ⟨nz, nz, ?_⟩
  · rw [Int32.not_le, pf_lgc_gt, show (0 : Int64) = lN 0 from rfl, pk_lLT (by omega) (by omega)]
    exact hg
  · rw [pk_lDiv (by omega) hg (by omega), pk_lDiv (by omega) hg (by omega)]
    exact q_X6_tell2 hp
theorem q_entersFraction {I : sI} {J : sJ} {post : sI → sJ → Prop} {x y : Nat} (hr : I 248 1 = nI 0) (hx : x < 9223372036854775808) (hy : y < 8796093022208) (h0 : 0 < y) (hp : post (sUI (sUI I 248 1 (nI 1)) 248 1 (nI 2)) (sUJ (sUJ J 249 0 (lN (x / Nat.gcd x y))) 249 1 (lN (y / Nat.gcd x y)))) : w_X12_entersFraction (lN x) (lN y) I J post := by
  have hg : 0 < Nat.gcd x y := Nat.gcd_pos_of_pos_right x h0
  have hg2 : Nat.gcd x y ≤ y := Nat.gcd_le_right x h0
  unfold w_X12_entersFraction
  refine q_common (by omega) (by omega) ?_
  have nz : ¬ lN (Nat.gcd x y) = 0 := by rw [lN_z (by omega)]; omega
  refine ⟨nz, ?_⟩
  rw [pk_lDiv (by omega) hg (by omega), pk_lDiv (by omega) hg (by omega)]
  exact q_enters (k := 0) hr (by omega) ⟨nz, q_enters (k := 1) rfl (by omega) hp⟩
/-- the row behind one number, behind two -/
theorem RR_1 {I : sI} {J : sJ} {x : Int64} (h1 : I 134 1 = nI 1) (h2 : I 248 1 = nI 1) (j1 : J 135 0 = x) (j2 : J 249 0 = x) : RR I J := ⟨1, by omega, h1, h2, fun i hi => by rw [show i = 0 by omega, j1, j2]⟩
theorem RR_2 {I : sI} {J : sJ} {x y : Int64} (h1 : I 134 1 = nI 2) (h2 : I 248 1 = nI 2) (j1 : J 135 0 = x) (j2 : J 249 0 = x) (j3 : J 135 1 = y) (j4 : J 249 1 = y) : RR I J := ⟨2, by omega, h1, h2, fun i hi => by
  rcases (show i = 0 ∨ i = 1 by omega) with e | e
  · rw [e, j1, j2]
  · rw [e, j3, j4]⟩
