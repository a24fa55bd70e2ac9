/-- falling products, and what is weighed -/
def flp (n : Nat) : Nat → Nat
  | 0 => 1
  | k + 1 => flp n k * (n - k)
def LL (n m u s : Nat) : Nat := flp n u * m ^ s
theorem flp_le {n : Nat} (h : n ≤ 200) : ∀ k, flp n k ≤ 200 ^ k
  | 0 => Nat.le_refl _
  | k + 1 => by rw [flp, Nat.pow_succ]; exact Nat.mul_le_mul (flp_le h k) (by omega)
theorem flp_pw {n m u k : Nat} (hn : n ≤ 200) (hm : m ≤ 200) (h : u + k ≤ 72) : flp n u * m ^ k ≤ 200 ^ 72 := by
  have a := Nat.mul_le_mul (flp_le hn u) (Nat.pow_le_pow_left hm k)
  rw [← Nat.pow_add] at a
  exact Nat.le_trans a (Nat.pow_le_pow_right (by omega) h)
theorem b72 : 200 ^ 72 < bB ^ 16 := by decide +kernel
theorem m72 : 200 ^ 72 < 10000 ^ 64 := by decide +kernel
theorem flp_0 {n : Nat} : ∀ {u}, n < u → flp n u = 0
  | 0, h => by omega
  | u + 1, h => by
    rw [flp]
    by_cases e : n < u
    · rw [flp_0 e, Nat.zero_mul]
    · rw [show n - u = 0 by omega, Nat.mul_zero]
theorem flp_pos {n : Nat} : ∀ {u}, u ≤ n → 0 < flp n u
  | 0, _ => Nat.one_pos
  | u + 1, h => by rw [flp]; exact Nat.mul_pos (flp_pos (by omega)) (by omega)
theorem q_likelierC {I : sI} {J : sJ} {post : Int32 → sI → sJ → Prop} {o : Nat → Nat} {n m u : Nat} (ho : ∀ k, k < 13 → o k ≤ 60 ∧ I 247 k = nI (o k)) (hs : sumN o 12 ≤ 60) (hu : u ≤ 12) (hn : u ≤ n ∧ n ≤ 200) (hm : u ≤ m ∧ m ≤ 200) (h : ∀ (I2 : sI) (J2 : sJ), (∀ q, ¬ (q = 243 ∨ q = 245) → I2 q = I q) → (∀ q, ¬ (q = 244 ∨ q = 246) → J2 q = J q) → post (cmpN (LL n m u (sumN o 12)) (LL m n u (sumN o 12))) I2 J2) : w_X11_likelier (nI n) (nI m) (nI u) I J post := by
  unfold w_X11_likelier
  have bb := b72
  refine q_seen ho (q_become (x := 1) (by decide) (by omega) (fun c1 => q_become (x := 1) (by decide) (by omega) (fun c2 => ?_)))
  have loop : ∀ t i (I1 : sI) (J1 : sJ), i ≤ u → u - i < t → (∀ q, ¬ (q = 243 ∨ q = 245) → I1 q = I q) → (∀ q, ¬ (q = 244 ∨ q = 246) → J1 q = J q) → cB 243 (flp n i) I1 J1 → cB 245 (flp m i) I1 J1 → w_X11_likelier_25_n post t (nI n) (nI m) (nI u) (nI (sumN o 12)) (nI i) I1 J1 := by
    intro t
    induction t with
    | zero => intro i I1 J1 _ h; omega
    | succ t ih =>
      intro i I1 J1 hi ht r1 j1 d1 d2
      show w_X11_likelier_25_s post _ _ _ _ _ _ I1 J1
      unfold w_X11_likelier_25_s
      rw [pf_le (by omega) (by omega)]
      refine ⟨fun e => ?_, fun e => ?_⟩
      · rw [show i = u by omega] at d1 d2
        refine q_Bpower (by decide) d1 (by omega) (by omega) (fun k hk => ?_) (fun I2 J2 r2 j2 e1 => ?_)
        · have := flp_pw (n := n) (m := m) (u := u) (k := k + 1) (by omega) (by omega) (by omega)
          omega
        refine q_Bpower (by decide) (cB_congr d2 (r2 245 (by omega)) (j2 246 (by omega))) (by omega) (by omega) (fun k hk => ?_) (fun I3 J3 r3 j3 e2 => ?_)
        · have := flp_pw (n := m) (m := n) (u := u) (k := k + 1) (by omega) (by omega) (by omega)
          omega
        refine q_against (by decide) (by decide) (cB_congr e1 (r3 243 (by omega)) (j3 244 (by omega))) e2 ?_
        exact h I3 J3 (fun q hq => by rw [r3 q (by omega), r2 q (by omega), r1 q hq]) (fun q hq => by rw [j3 q (by omega), j2 q (by omega), j1 q hq])
      · rw [pk_sub (by omega), pk_sub (by omega), nI_1]
        refine q_Btimes (by decide) d1 (by omega) ?_ (fun I2 J2 r2 j2 e1 => ?_)
        · have := flp_pw (n := n) (m := 1) (u := i + 1) (k := 0) (by omega) (by omega) (by omega)
          rw [Nat.pow_zero, Nat.mul_one, flp] at this
          omega
        refine q_Btimes (by decide) (cB_congr d2 (r2 245 (by omega)) (j2 246 (by omega))) (by omega) ?_ (fun I3 J3 r3 j3 e2 => ?_)
        · have := flp_pw (n := m) (m := 1) (u := i + 1) (k := 0) (by omega) (by omega) (by omega)
          rw [Nat.pow_zero, Nat.mul_one, flp] at this
          omega
        rintro _ rfl
        exact ih (i + 1) I3 J3 (by omega) (by omega) (fun q hq => by rw [r3 q (by omega), r2 q (by omega), r1 q hq]) (fun q hq => by rw [j3 q (by omega), j2 q (by omega), j1 q hq]) (cB_congr e1 (r3 243 (by omega)) (j3 244 (by omega))) e2
  exact ⟨u + 1, loop (u + 1) 0 _ _ (by omega) (by omega) (fun q hq => by rw [sUI_ne (by omega), sUI_ne (by omega)]) (fun q hq => by rw [sUJ_ne (by omega), sUJ_ne (by omega)]) (cB_congr c1 (sUI_ne (by omega)) (sUJ_ne (by omega))) c2⟩
theorem q_max0 {I : sI} {J : sJ} {post : Int32 → sI → sJ → Prop} {n k : Nat} (hn : n < 1000) (hk : k < 1000) (h : post (nI (n - k)) I J) : w_J9_max_7cf53 0 (nI n - nI k) I J post := by
  unfold w_J9_max_7cf53
  rcases Nat.lt_or_ge n k with e | e
  · have := pk_sneg (a := n) (b := k) (by omega) e
    refine b2 (fun q => ?_) (by rw [show n - k = 0 by omega] at h; exact h)
    rw [fa_lt] at *
    have : (0 : Int32).toInt = 0 := by decide
    omega
  · rw [pk_sub e, pf_gt0 (by omega)]
    refine ⟨fun _ => h, fun q => by rw [show n - k = 0 by omega] at h; exact h⟩
theorem q_weighs {I : sI} {J : sJ} {post : sI → sJ → Prop} {h n m u s : Nat} (hh : h ≠ 248) (e42 : I 248 42 = nI s) (e43 : I 248 43 = nI u) (hu : u ≤ 12) (hs : s ≤ 60) (hn : n ≤ 200) (hm : m ≤ 200) (hp : ∀ I2 : sI, (∀ q, ¬ q = h → I2 q = I q) → mB h (LL n m u s) I2 → post I2 J) : w_X12_weighs h (nI n) (nI m) I J post := by
  have mm := m72
  have loop2 : ∀ t i (I1 : sI), i ≤ s → s - i < t → (∀ q, ¬ q = h → I1 q = I q) → mB h (flp n u * m ^ i) I1 → w_X12_weighs_37_n h post t (nI m) (nI i) I1 J := by
    intro t
    induction t with
    | zero => intro i I1 _ h; omega
    | succ t ih =>
      intro i I1 hi ht r1 d1
      show w_X12_weighs_37_s h post _ _ _ I1 J
      unfold w_X12_weighs_37_s
      rw [r1 248 (fun q => hh q.symm), e42, pf_le (by omega) (by omega), nI_1]
      refine ⟨fun e => ?_, fun e => ?_⟩
      · rw [show i = s by omega] at d1
        exact hp I1 r1 d1
      · have e2 : flp n u * m ^ i * m = flp n u * m ^ (i + 1) := by rw [Nat.pow_succ, Nat.mul_assoc]
        refine q_Mtimes d1 (by omega) ?_ (fun I2 r2 d2 => ?_)
        · have := flp_pw (n := n) (m := m) (u := u) (k := i + 1) (by omega) (by omega) (by omega)
          omega
        rintro _ rfl
        rw [e2] at d2
        exact ih (i + 1) I2 (by omega) (by omega) (fun q hq => by rw [r2 q hq, r1 q hq]) d2
  have loop1 : ∀ t i (I1 : sI), i ≤ u → u - i < t → (∀ q, ¬ q = h → I1 q = I q) → mB h (flp n i) I1 → w_X12_weighs_7_n h post t (nI n) (nI m) (nI i) I1 J := by
    intro t
    induction t with
    | zero => intro i I1 _ h; omega
    | succ t ih =>
      intro i I1 hi ht r1 d1
      show w_X12_weighs_7_s h post _ _ _ _ I1 J
      unfold w_X12_weighs_7_s
      rw [r1 248 (fun q => hh q.symm), e43, pf_le (by omega) (by omega), nI_1]
      refine ⟨fun e => ?_, fun e => ?_⟩
      · rw [show i = u by omega] at d1
        exact ⟨s + 1, loop2 (s + 1) 0 I1 (by omega) (by omega) r1 (by rw [Nat.pow_zero, Nat.mul_one]; exact d1)⟩
      · refine q_max0 (by omega) (by omega) ?_
        refine q_Mtimes d1 (by omega) ?_ (fun I2 r2 d2 => ?_)
        · have := flp_pw (n := n) (m := 1) (u := i + 1) (k := 0) (by omega) (by omega) (by omega)
          rw [Nat.pow_zero, Nat.mul_one, flp] at this
          omega
        rintro _ rfl
        exact ih (i + 1) I2 (by omega) (by omega) (fun q hq => by rw [r2 q hq, r1 q hq]) d2
  unfold w_X12_weighs
  refine q_one (fun d => ⟨u + 1, loop1 (u + 1) 0 _ (by omega) (by omega) (fun q hq => by rw [sUI_ne hq, sUI_ne hq]) d⟩)
theorem q_likelierM {I : sI} {J : sJ} {post : Int32 → sI → sJ → Prop} {n m u s : Nat} (e42 : I 248 42 = nI s) (e43 : I 248 43 = nI u) (hu : u ≤ 12) (hs : s ≤ 60) (hn : n ≤ 200) (hm : m ≤ 200) (hp : ∀ I2 : sI, (∀ q, ¬ (q = 273 ∨ q = 274) → I2 q = I q) → post (cmpN (LL n m u s) (LL m n u s)) I2 J) : w_X12_likelier (nI n) (nI m) I J post := by
  unfold w_X12_likelier
  refine q_weighs (by omega) e42 e43 hu hs hn hm (fun I2 r2 d2 => ?_)
  refine q_weighs (by omega) (by rw [r2 248 (by omega)]; exact e42) (by rw [r2 248 (by omega)]; exact e43) hu hs hm hn (fun I3 r3 d3 => ?_)
  refine q_compares (mB_congr d2 (r3 273 (by omega))) d3 ?_
  exact hp I3 (fun q hq => by rw [r3 q (by omega), r2 q (by omega)])
/-- one is likelier -/
def scR (n m u s : Nat) : Int32 := if n < u ∧ m < u then -2 else if LL n m u s < LL m n u s then 1 else if LL n m u s = LL m n u s then 2 else 0
def scG (a1 a2 : Int32) : Prop := (1 ≤ a1 ∧ a1 ≤ 200) ∧ (1 ≤ a2 ∧ a2 ≤ 200)
theorem scG_get {a1 a2 : Int32} (h : scG a1 a2) : ∃ n m, 1 ≤ n ∧ n ≤ 200 ∧ 1 ≤ m ∧ m ≤ 200 ∧ a1 = nI n ∧ a2 = nI m := by
  obtain ⟨⟨p1, p2⟩, p3, p4⟩ := h
  have z : ∀ a : Int32, 1 ≤ a → (0 : Int32) ≤ a := by
    intro a h
    rw [pf_leInt] at *
    have : (1 : Int32).toInt = 1 := by decide
    have : (0 : Int32).toInt = 0 := by decide
    omega
  obtain ⟨n, x1, rfl⟩ := ix_of (N := 200) (by omega) (z _ p1) p2
  obtain ⟨m, x2, rfl⟩ := ix_of (N := 200) (by omega) (z _ p3) p4
  rw [show (1 : Int32) = nI 1 from rfl, pf_le (by omega) (by omega)] at p1 p3
  exact ⟨n, m, p1, x1, p3, x2, rfl, rfl⟩
theorem LL_0 {n m u s : Nat} (h : n < u) : LL n m u s = 0 := by rw [LL, flp_0 h, Nat.zero_mul]
theorem LL_pos {n m u s : Nat} (h : u ≤ n) (hm : 1 ≤ m) : 0 < LL n m u s := Nat.mul_pos (flp_pos h) (Nat.pow_pos hm)
theorem S_script {I : sI} {J : sJ} (a1 a2 : Int32) (hR : RR0 I J) : St (w_X11_script a1 a2) (w_X12_script a1 a2) I J := by
  obtain ⟨hT, hD, hK, hW, hC, hQ, hX⟩ := hR
  obtain ⟨G, P, s, κ, hw, hc, hm⟩ := d_get hD
  have hP := hw.2.1
  have hs := oft_sum κ P 12
  have hu := cnt_le (fun k => 0 < oft κ P k) 12
  -- the model
  have model : ∀ (I1 : sI) (J1 : sJ) (r : Int32), (∀ q, ¬ (q = 243 ∨ q = 245 ∨ q = 247) → I1 q = I q) → (∀ q, ¬ (q = 244 ∨ q = 246) → J1 q = J q) → ((¬ scG a1 a2 ∨ cnt (fun k => 0 < oft κ P k) 12 = 0) → r = -1) → (∀ n m, scG a1 a2 → a1 = nI n → a2 = nI m → ¬ cnt (fun k => 0 < oft κ P k) 12 = 0 → n ≤ 200 → m ≤ 200 → r = scR n m (cnt (fun k => 0 < oft κ P k) 12) (sumN (oft κ P) 12)) → w_X12_script a1 a2 I1 J1 (fun r2 I2 J2 => r = r2 ∧ RR0 I2 J2) := by
    intro I1 J1 r ra ja hr0 hr1
    unfold w_X12_script
    rintro _ rfl
    refine q_counts (I := sUI I1 248 0 0) hw (mD_congr hm (by rw [pf_uis, if_neg (by omega), ra 248 (by omega)]) (by rw [pf_uis, if_neg (by omega), ra 248 (by omega)]) (by rw [sUI_ne (by omega), ra 253 (by omega)]) (by rw [sUI_ne (by omega), ra 254 (by omega)])) (fun I2 rb sb ho e42 e43 => ?_)
    have fin : ∀ I3 : sI, (∀ q, ¬ (q = 273 ∨ q = 274) → I3 q = I2 q) → RR0 I3 J1 := by
      intro I3 rc
      have r1 : ∀ q, ¬ (q = 243 ∨ q = 245 ∨ q = 247 ∨ q = 248 ∨ q = 272 ∨ q = 273 ∨ q = 274) → I3 q = I q := fun q hq => by rw [rc q (by omega), rb q (by omega), sUI_ne (by omega), ra q (by omega)]
      have s1 : ∀ k, ¬ (k = 0 ∨ k = 42 ∨ k = 43) → I3 248 k = I 248 k := fun k hk => by rw [rc 248 (by omega), sb k (by omega), pf_uis, if_neg (by omega), ra 248 (by omega)]
      exact ⟨(RT_congr hT (by rw [r1 1 (by omega)]) (r1 2 (by omega)) (s1 4 (by omega)) (r1 250 (by omega))), (RD_congr hD (fun q h1 h2 => r1 q (by omega)) (r1 253 (by omega)) (r1 254 (by omega)) (r1 255 (by omega)) (r1 256 (by omega)) (r1 276 (by omega)) (s1 11 (by omega)) (s1 12 (by omega)) (s1 15 (by omega)) (s1 21 (by omega)) (s1 22 (by omega)) (s1 23 (by omega))), (RK_congr hK (fun q h1 h2 => r1 q (by omega)) (r1 279 (by omega)) (r1 280 (by omega))), (RW_congr hW (fun q h1 h2 => r1 q (by omega)) (r1 257 (by omega)) (r1 258 (by omega)) (r1 259 (by omega))), (RC_congr hC (fun q h1 h2 => r1 q (by omega)) (by rw [r1 227 (by omega)]) (s1 46 (by omega)) (r1 275 (by omega))), (RR_congr hQ (by rw [r1 134 (by omega)]) (s1 1 (by omega)) (ja 135 (by omega)) (ja 249 (by omega))), (RX_congr hX (by rw [r1 0 (by omega)]) (s1 37 (by omega)) (by rw [r1 0 (by omega)]) (s1 33 (by omega)) (by rw [r1 141 (by omega)]))⟩
    have fin0 := fin I2 (fun _ _ => rfl)
    refine q_in (lo := 1) (hi := 200) (by decide) (by decide) (fun p1 => b2 (by decide) ?_) (fun p1 => b1 rfl ⟨hr0 (Or.inl (fun q => p1 q.1)), fin0⟩)
    refine q_in (lo := 1) (hi := 200) (by decide) (by decide) (fun p2 => b2 (by decide) ?_) (fun p2 => b1 rfl ⟨hr0 (Or.inl (fun q => p2 q.2)), fin0⟩)
    obtain ⟨n, m, n1, n2, m1, m2, en, em⟩ := scG_get ⟨p1, p2⟩
    have key := hr1 n m ⟨p1, p2⟩ en em
    rw [en, em, e43, pf_eq0 (by omega), pf_le (by omega) (by omega), pf_le (by omega) (by omega)]
    have join : ¬ cnt (fun k => 0 < oft κ P k) 12 = 0 → ¬ (n < cnt (fun k => 0 < oft κ P k) 12 ∧ m < cnt (fun k => 0 < oft κ P k) 12) → w_X12_script_61 (fun r2 I2 J2 => r = r2 ∧ RR0 I2 J2) (nI n) (nI m) I2 J1 := by
      intro u0 nb
      have key := key u0 n2 m2
      unfold scR at key
      rw [if_neg nb] at key
      unfold w_X12_script_61
      refine q_likelierM e42 e43 (by omega) (by omega) n2 m2 (fun I3 r3 => ?_)
      have f3 := fin I3 r3
      rcases Nat.lt_trichotomy (LL n m (cnt (fun k => 0 < oft κ P k) 12) (sumN (oft κ P) 12)) (LL m n (cnt (fun k => 0 < oft κ P k) 12) (sumN (oft κ P) 12)) with z | z | z
      · rw [cmp_lt z]; rw [if_pos z] at key
        exact b1 (by decide) (b2 (by decide) ⟨key, f3⟩)
      · rw [cmp_eq z]; rw [if_neg (by omega), if_pos z] at key
        exact b1 (by decide) (b1 (by decide) ⟨key, f3⟩)
      · rw [cmp_gt z]; rw [if_neg (by omega), if_neg (by omega)] at key
        exact b2 (by decide) ⟨key, f3⟩
    refine ⟨fun u0 => ⟨fun x => join u0 (by omega), fun x => ⟨fun y => join u0 (by omega), fun y => ⟨?_, fin0⟩⟩⟩, fun u0 => ⟨hr0 (Or.inr u0), fin0⟩⟩
    have key := key u0 n2 m2
    unfold scR at key
    rw [if_pos ⟨by omega, by omega⟩] at key
    exact key
  -- the class
  show w_X11_script a1 a2 I J _
  unfold w_X11_script w_X11_script_59 w_X11_oneIsTooSmall w_X11_oneIsTooSmall_13
  refine q_countKinds hw hc (fun I1 ra ho => ?_)
  have ho2 : ∀ k, k < 13 → oft κ P k ≤ 60 ∧ I1 247 k = nI (oft κ P k) := fun k hk => ⟨by have := oft_le κ P k; omega, ho k hk⟩
  refine q_unlike ho2 ?_
  rw [pf_eq0 (by omega)]
  have bad : (¬ scG a1 a2 ∨ cnt (fun k => 0 < oft κ P k) 12 = 0) → w_X12_script a1 a2 I1 J (fun r2 I2 J2 => (-1 : Int32) = r2 ∧ RR0 I2 J2) := fun q => model I1 J (-1) (fun q hq => ra q (by omega)) (fun _ _ => rfl) (fun _ => rfl) (fun n m g _ _ u0 => by rcases q with x | x; exact absurd g x; exact absurd x u0)
  refine ⟨fun u0 => bad (Or.inr u0), fun u0 => ⟨fun p => bad (Or.inl (fun q => absurd p (Int32.not_lt.mpr q.1.1))), fun p1 => ⟨fun p => bad (Or.inl (fun q => absurd p (Int32.not_lt.mpr q.1.2))), fun p2 => ⟨fun p => bad (Or.inl (fun q => absurd p (Int32.not_lt.mpr q.2.1))), fun p3 => ⟨fun p4 => ?_, fun p => bad (Or.inl (fun q => absurd q.2.2 p))⟩⟩⟩⟩⟩
  have g : scG a1 a2 := ⟨⟨Int32.not_lt.mp p1, Int32.not_lt.mp p2⟩, Int32.not_lt.mp p3, p4⟩
  have g2 := g
  obtain ⟨n, m, n1, n2, m1, m2, rfl, rfl⟩ := scG_get g
  have go : ∀ (I2 : sI) (J2 : sJ) (r : Int32), (∀ q, ¬ (q = 243 ∨ q = 245 ∨ q = 247) → I2 q = I q) → (∀ q, ¬ (q = 244 ∨ q = 246) → J2 q = J q) → r = scR n m (cnt (fun k => 0 < oft κ P k) 12) (sumN (oft κ P) 12) → w_X12_script (nI n) (nI m) I2 J2 (fun r2 I2 J2 => r = r2 ∧ RR0 I2 J2) := by
    intro I2 J2 r r2 j2 e
    refine model I2 J2 r r2 j2 (fun q => by rcases q with x | x; exact absurd g2 x; exact absurd x u0) (fun n' m' _ e1 e2 _ l1 l2 => ?_)
    rw [pf_eq (by omega) (by omega)] at e1 e2
    rw [← e1, ← e2]
    exact e
  have ra' : ∀ q, ¬ (q = 243 ∨ q = 245 ∨ q = 247) → I1 q = I q := fun q hq => ra q (by omega)
  rw [pf_lt (by omega) (by omega), pf_le (by omega) (by omega), pf_le (by omega) (by omega)]
  have small : (n < cnt (fun k => 0 < oft κ P k) 12 ∨ m < cnt (fun k => 0 < oft κ P k) 12) → ((cnt (fun k => 0 < oft κ P k) 12 ≤ n → (cnt (fun k => 0 < oft κ P k) 12 ≤ n → w_X12_script (nI n) (nI m) I1 J (fun r2 I2 J2 => (0 : Int32) = r2 ∧ RR0 I2 J2)) ∧ (¬ cnt (fun k => 0 < oft κ P k) 12 ≤ n → w_X12_script (nI n) (nI m) I1 J (fun r2 I2 J2 => (1 : Int32) = r2 ∧ RR0 I2 J2))) ∧ (¬ cnt (fun k => 0 < oft κ P k) 12 ≤ n → (cnt (fun k => 0 < oft κ P k) 12 ≤ m → (cnt (fun k => 0 < oft κ P k) 12 ≤ n → w_X12_script (nI n) (nI m) I1 J (fun r2 I2 J2 => (0 : Int32) = r2 ∧ RR0 I2 J2)) ∧ (¬ cnt (fun k => 0 < oft κ P k) 12 ≤ n → w_X12_script (nI n) (nI m) I1 J (fun r2 I2 J2 => (1 : Int32) = r2 ∧ RR0 I2 J2))) ∧ (¬ cnt (fun k => 0 < oft κ P k) 12 ≤ m → w_X12_script (nI n) (nI m) I1 J (fun r2 I2 J2 => (-2 : Int32) = r2 ∧ RR0 I2 J2)))) := by
    intro sm
    refine ⟨fun x => b1 x (go I1 J 0 ra' (fun _ _ => rfl) ?_), fun x => ⟨fun y => b2 x (go I1 J 1 ra' (fun _ _ => rfl) ?_), fun y => go I1 J (-2) ra' (fun _ _ => rfl) ?_⟩⟩
    · have z := LL_0 (n := m) (m := n) (u := cnt (fun k => 0 < oft κ P k) 12) (s := sumN (oft κ P) 12) (by omega)
      have z2 := LL_pos (n := n) (m := m) (u := cnt (fun k => 0 < oft κ P k) 12) (s := sumN (oft κ P) 12) x m1
      rw [scR, if_neg (by omega), if_neg (by omega), if_neg (by omega)]
    · have z := LL_0 (n := n) (m := m) (u := cnt (fun k => 0 < oft κ P k) 12) (s := sumN (oft κ P) 12) (by omega)
      have z2 := LL_pos (n := m) (m := n) (u := cnt (fun k => 0 < oft κ P k) 12) (s := sumN (oft κ P) 12) y n1
      rw [scR, if_neg (by omega), if_pos (by omega)]
    · rw [scR, if_pos ⟨by omega, by omega⟩]
  refine ⟨fun x => small (Or.inl x), fun x => ⟨fun y => ?_, fun y => small (Or.inr (by omega))⟩⟩
  refine q_likelierC ho2 (by omega) hu (by omega) (by omega) (fun I2 J2 r2 j2 => ?_)
  have r2' : ∀ q, ¬ (q = 243 ∨ q = 245 ∨ q = 247) → I2 q = I q := fun q hq => by rw [r2 q (by omega), ra q (by omega)]
  rcases Nat.lt_trichotomy (LL n m (cnt (fun k => 0 < oft κ P k) 12) (sumN (oft κ P) 12)) (LL m n (cnt (fun k => 0 < oft κ P k) 12) (sumN (oft κ P) 12)) with z | z | z
  · rw [cmp_lt z]
    exact b3 (by decide) (b1 (by decide) (go I2 J2 1 r2' j2 (by rw [scR, if_neg (by omega), if_pos z])))
  · rw [cmp_eq z]
    exact b4 rfl (go I2 J2 2 r2' j2 (by rw [scR, if_neg (by omega), if_neg (by omega), if_pos z]))
  · rw [cmp_gt z]
    exact b3 (by decide) (b2 (by decide) (go I2 J2 0 r2' j2 (by rw [scR, if_neg (by omega), if_neg (by omega), if_neg (by omega)])))
/-- one summit -/
def ngn (u s b : Nat) : Bool := Nat.ble ((b + 1) * b ^ s) ((b + 1 - u) * (b + 1) ^ s)
def swp (u s : Nat) : Nat → Bool
  | 0 => true
  | b + 1 => swp u s b && (!(ngn u s b) || (Nat.blt b u || ngn u s (b + 1)))
theorem swp_all : ∀ u, u < 13 → ∀ s, s < 61 → swp u s 199 = true := by decide +kernel
theorem swp_at {u s : Nat} : ∀ {n b : Nat}, swp u s n = true → b < n → u ≤ b → ngn u s b = true → ngn u s (b + 1) = true
  | 0, b, _, h, _, _ => by omega
  | n + 1, b, h, hb, hu, hg => by
    rw [swp, Bool.and_eq_true] at h
    by_cases e : b = n
    · subst e
      have := h.2
      rw [hg, Bool.not_true, Bool.false_or, Bool.or_eq_true] at this
      rcases this with x | x
      · have := Nat.blt_eq.mp x
        omega
      · exact x
    · exact swp_at h.1 (by omega) hu hg
theorem flp_sh (b : Nat) : ∀ u, flp (b + 1) u * (b + 1 - u) = (b + 1) * flp b u
  | 0 => by rw [flp, flp]; omega
  | u + 1 => by rw [flp, flp, flp_sh b u, show b + 1 - (u + 1) = b - u by omega, Nat.mul_assoc]
theorem ngn_iff {u s b : Nat} (h : u ≤ b) : ngn u s b = true ↔ LL (b + 1) b u s ≤ LL b (b + 1) u s := by
  unfold ngn LL
  rw [Nat.ble_eq]
  have p1 : 0 < flp b u := flp_pos h
  have p2 : 0 < b + 1 - u := by omega
  have e := flp_sh b u
  constructor
  · intro q
    have := Nat.mul_le_mul_left (flp b u) q
    apply Nat.le_of_mul_le_mul_right _ p2
    calc flp (b + 1) u * b ^ s * (b + 1 - u) = (flp (b + 1) u * (b + 1 - u)) * b ^ s := by rw [Nat.mul_right_comm]
      _ = flp b u * ((b + 1) * b ^ s) := by rw [e, Nat.mul_comm (b + 1), Nat.mul_assoc]
      _ ≤ flp b u * ((b + 1 - u) * (b + 1) ^ s) := this
      _ = flp b u * (b + 1) ^ s * (b + 1 - u) := by rw [Nat.mul_comm (b + 1 - u), Nat.mul_assoc]
  · intro q
    have := Nat.mul_le_mul_right (b + 1 - u) q
    apply Nat.le_of_mul_le_mul_left _ p1
    calc flp b u * ((b + 1) * b ^ s) = (flp (b + 1) u * (b + 1 - u)) * b ^ s := by rw [e, ← Nat.mul_assoc, Nat.mul_comm (flp b u)]
      _ = flp (b + 1) u * b ^ s * (b + 1 - u) := by rw [Nat.mul_right_comm]
      _ ≤ flp b u * (b + 1) ^ s * (b + 1 - u) := this
      _ = flp b u * ((b + 1 - u) * (b + 1) ^ s) := by rw [Nat.mul_comm (b + 1 - u), Nat.mul_assoc]
/-- where the climb ends -/
def mnP (u s b : Nat) : Prop := u ≤ b ∧ b ≤ 200 ∧ (∀ c, u ≤ c → c < b → LL c (c + 1) u s < LL (c + 1) c u s) ∧ (b = 200 ∨ LL (b + 1) b u s ≤ LL b (b + 1) u s)
theorem mn_far {u s b : Nat} (h0 : 1 ≤ u) (hu : u < 13) (hs : s < 61) (h : mnP u s b) : ∀ k, b + k ≤ 200 → LL (b + k) b u s ≤ LL b (b + k) u s := by
  obtain ⟨h1, h2, h3, h4⟩ := h
  have low : ∀ k, b + k < 200 → ngn u s (b + k) = true := by
    intro k
    induction k with
    | zero =>
      intro hk
      rw [Nat.add_zero, ngn_iff h1]
      rcases h4 with x | x
      · omega
      · exact x
    | succ k ih =>
      intro hk
      have := swp_at (b := b + k) (swp_all u hu s hs) (by omega) (by omega) (ih (by omega))
      exact this
  intro k
  induction k with
  | zero => intro _; exact Nat.le_refl _
  | succ k ih =>
    intro hk
    have a := ih (by omega)
    have c := (ngn_iff (by omega)).mp (low k (by omega))
    unfold LL at *
    rw [show b + (k + 1) = b + k + 1 by omega]
    have p : 0 < (b + k) ^ s := Nat.pow_pos (by omega)
    apply Nat.le_of_mul_le_mul_right _ p
    calc flp (b + k + 1) u * b ^ s * (b + k) ^ s = (flp (b + k + 1) u * (b + k) ^ s) * b ^ s := by rw [Nat.mul_right_comm]
      _ ≤ (flp (b + k) u * (b + k + 1) ^ s) * b ^ s := Nat.mul_le_mul_right _ c
      _ = (flp (b + k) u * b ^ s) * (b + k + 1) ^ s := by rw [Nat.mul_right_comm]
      _ ≤ (flp b u * (b + k) ^ s) * (b + k + 1) ^ s := Nat.mul_le_mul_right _ a
      _ = flp b u * (b + k + 1) ^ s * (b + k) ^ s := by rw [Nat.mul_right_comm]
theorem S_many {I : sI} {J : sJ} (hR : RR0 I J) : St w_X11_many w_X12_many I J := by
  obtain ⟨hT, hD, hK, hW, hC, hQ, hX⟩ := hR
  obtain ⟨G, P, s, κ, hw, hc, hm⟩ := d_get hD
  have hP := hw.2.1
  have hs := oft_sum κ P 12
  have hu := cnt_le (fun k => 0 < oft κ P k) 12
  obtain ⟨u, eu⟩ : ∃ u, u = cnt (fun k => 0 < oft κ P k) 12 := ⟨_, rfl⟩
  obtain ⟨t, et⟩ : ∃ t, t = sumN (oft κ P) 12 := ⟨_, rfl⟩
  have model : ∀ (I1 : sI) (J1 : sJ) (r : Int32), (∀ q, ¬ (q = 243 ∨ q = 245 ∨ q = 247) → I1 q = I q) → (∀ q, ¬ (q = 244 ∨ q = 246) → J1 q = J q) → ((u = 0 ∧ r = -1) ∨ (1 ≤ u ∧ ∃ b, mnP u t b ∧ r = nI b)) → w_X12_many I1 J1 (fun r2 I2 J2 => r = r2 ∧ RR0 I2 J2) := by
    intro I1 J1 r ra ja hr
    unfold w_X12_many
    rintro _ rfl
    refine q_counts (I := sUI I1 248 0 0) hw (mD_congr hm (by rw [pf_uis, if_neg (by omega), ra 248 (by omega)]) (by rw [pf_uis, if_neg (by omega), ra 248 (by omega)]) (by rw [sUI_ne (by omega), ra 253 (by omega)]) (by rw [sUI_ne (by omega), ra 254 (by omega)])) (fun I2 rb sb ho e42 e43 => ?_)
    have fin : ∀ I3 : sI, (∀ q, ¬ (q = 273 ∨ q = 274) → I3 q = I2 q) → RR0 I3 J1 := by
      intro I3 rc
      have r1 : ∀ q, ¬ (q = 243 ∨ q = 245 ∨ q = 247 ∨ q = 248 ∨ q = 272 ∨ q = 273 ∨ q = 274) → I3 q = I q := fun q hq => by rw [rc q (by omega), rb q (by omega), sUI_ne (by omega), ra q (by omega)]
      have s1 : ∀ k, ¬ (k = 0 ∨ k = 42 ∨ k = 43) → I3 248 k = I 248 k := fun k hk => by rw [rc 248 (by omega), sb k (by omega), pf_uis, if_neg (by omega), ra 248 (by omega)]
      exact ⟨(RT_congr hT (by rw [r1 1 (by omega)]) (r1 2 (by omega)) (s1 4 (by omega)) (r1 250 (by omega))), (RD_congr hD (fun q h1 h2 => r1 q (by omega)) (r1 253 (by omega)) (r1 254 (by omega)) (r1 255 (by omega)) (r1 256 (by omega)) (r1 276 (by omega)) (s1 11 (by omega)) (s1 12 (by omega)) (s1 15 (by omega)) (s1 21 (by omega)) (s1 22 (by omega)) (s1 23 (by omega))), (RK_congr hK (fun q h1 h2 => r1 q (by omega)) (r1 279 (by omega)) (r1 280 (by omega))), (RW_congr hW (fun q h1 h2 => r1 q (by omega)) (r1 257 (by omega)) (r1 258 (by omega)) (r1 259 (by omega))), (RC_congr hC (fun q h1 h2 => r1 q (by omega)) (by rw [r1 227 (by omega)]) (s1 46 (by omega)) (r1 275 (by omega))), (RR_congr hQ (by rw [r1 134 (by omega)]) (s1 1 (by omega)) (ja 135 (by omega)) (ja 249 (by omega))), (RX_congr hX (by rw [r1 0 (by omega)]) (s1 37 (by omega)) (by rw [r1 0 (by omega)]) (s1 33 (by omega)) (by rw [r1 141 (by omega)]))⟩
    rw [← eu] at e43
    rw [← et] at e42
    rw [e43, pf_eq0 (by omega), nI_1]
    rcases hr with ⟨u0, hr⟩ | ⟨u1, b, hb, hr⟩
    · exact b4 u0 ⟨hr, fin I2 (fun _ _ => rfl)⟩
    · refine b3 (by omega) ?_
      rintro _ rfl _ rfl
      have hb2 := hb
      obtain ⟨m1, m2, m3, m4⟩ := hb
      have loop : ∀ m n x (I3 : sI), n ≤ 201 → 201 - n < m → u < n → ((n ≤ b + 1 ∧ x = n - 1) ∨ (b < n - 1 ∧ x = b)) → (∀ q, ¬ (q = 273 ∨ q = 274) → I3 q = I2 q) → w_X12_many_30_n (fun r2 I2 J2 => r = r2 ∧ RR0 I2 J2) m (nI x) (nI n) I3 J1 := by
        intro m
        induction m with
        | zero => intro n x I3 _ h; omega
        | succ m ih =>
          intro n x I3 hn hm2 hun hx rc
          show w_X12_many_30_s (fun r2 I2 J2 => r = r2 ∧ RR0 I2 J2) (w_X12_many_30_n (fun r2 I2 J2 => r = r2 ∧ RR0 I2 J2) m) (nI x) (nI n) I3 J1
          unfold w_X12_many_30_s w_X12_many_51
          rw [show (200 : Int32) = nI 200 from rfl, pf_lt (by omega) (by omega), nI_1]
          refine ⟨fun e => ⟨?_, fin I3 rc⟩, fun e => ?_⟩
          · rw [hr]
            congr 1
            omega
          · refine q_likelierM (by rw [rc 248 (by omega)]; exact e42) (by rw [rc 248 (by omega)]; exact e43) (by omega) (by omega) (by omega) (by omega) (fun I4 rd => ?_)
            have rc4 : ∀ q, ¬ (q = 273 ∨ q = 274) → I4 q = I2 q := fun q hq => by rw [rd q hq, rc q hq]
            by_cases z : n ≤ b
            · have ex : x = n - 1 := by omega
              have g := m3 (n - 1) (by omega) (by omega)
              rw [show n - 1 + 1 = n by omega, ← ex] at g
              rw [cmp_gt g]
              refine b2 (by decide) ?_
              rintro _ rfl
              exact ih (n + 1) n I4 (by omega) (by omega) (by omega) (by omega) rc4
            · have ex : x = b := by omega
              have g := mn_far u1 (by omega) (by omega) hb2 (n - b) (by omega)
              rw [show b + (n - b) = n by omega, ← ex] at g
              have g2 : cmpN (LL n x u t) (LL x n u t) ≤ 0 := by
                rcases Nat.lt_or_eq_of_le g with y | y
                · rw [cmp_lt y]; decide
                · rw [cmp_eq y]; decide
              refine b1 g2 ?_
              rintro _ rfl
              exact ih (n + 1) x I4 (by omega) (by omega) (by omega) (by omega) rc4
      exact ⟨201, loop 201 (u + 1) u I2 (by omega) (by omega) (by omega) (by omega) (fun _ _ => rfl)⟩
  show w_X11_many I J _
  unfold w_X11_many
  refine q_countKinds hw hc (fun I1 ra ho => ?_)
  have ho2 : ∀ k, k < 13 → oft κ P k ≤ 60 ∧ I1 247 k = nI (oft κ P k) := fun k hk => ⟨by have := oft_le κ P k; omega, ho k hk⟩
  refine q_unlike ho2 ?_
  rw [← eu, pf_eq0 (by omega)]
  refine ⟨fun u0 => ?_, fun u0 => model I1 J (-1) (fun q hq => ra q (by omega)) (fun _ _ => rfl) (Or.inl ⟨u0, rfl⟩)⟩
  have loop : ∀ m b (I3 : sI) (J3 : sJ), b ≤ 200 → 200 - b < m → u ≤ b → (∀ c, u ≤ c → c < b → LL c (c + 1) u t < LL (c + 1) c u t) → (∀ q, ¬ (q = 243 ∨ q = 245) → I3 q = I1 q) → (∀ q, ¬ (q = 244 ∨ q = 246) → J3 q = J q) → w_X11_many_27_n (fun r I1 J1 => w_X12_many I1 J1 (fun r2 I2 J2 => r = r2 ∧ RR0 I2 J2)) m (nI u) (nI b) I3 J3 := by
    intro m
    induction m with
    | zero => intro b I3 J3 _ h; omega
    | succ m ih =>
      intro b I3 J3 hb hm2 hub hg rc jc
      show w_X11_many_27_s (fun r I1 J1 => w_X12_many I1 J1 (fun r2 I2 J2 => r = r2 ∧ RR0 I2 J2)) (w_X11_many_27_n (fun r I1 J1 => w_X12_many I1 J1 (fun r2 I2 J2 => r = r2 ∧ RR0 I2 J2)) m) (nI u) (nI b) I3 J3
      unfold w_X11_many_27_s
      rw [show (200 : Int32) = nI 200 from rfl, pf_le (by omega) (by omega), nI_1]
      refine ⟨fun e => ?_, fun e => ?_⟩
      · exact model I3 J3 (nI b) (fun q hq => by rw [rc q (by omega), ra q (by omega)]) jc (Or.inr ⟨by omega, b, ⟨hub, hb, hg, Or.inl (by omega)⟩, rfl⟩)
      · refine q_likelierC (o := oft κ P) (fun k hk => ⟨(ho2 k hk).1, by rw [rc 247 (by omega)]; exact (ho2 k hk).2⟩) (by omega) (by omega) (by omega) (by omega) (fun I4 J4 rd jd => ?_)
        have rd4 : ∀ q, ¬ (q = 243 ∨ q = 245) → I4 q = I1 q := fun q hq => by rw [rd q hq, rc q hq]
        have jd4 : ∀ q, ¬ (q = 244 ∨ q = 246) → J4 q = J q := fun q hq => by rw [jd q hq, jc q hq]
        rw [← et]
        rcases Nat.lt_or_ge (LL b (b + 1) u t) (LL (b + 1) b u t) with z | z
        · rw [cmp_gt z]
          refine b2 (by decide) ?_
          rintro _ rfl
          refine ih (b + 1) I4 J4 (by omega) (by omega) (by omega) (fun c c1 c2 => ?_) rd4 jd4
          rcases Nat.lt_or_ge c b with y | y
          · exact hg c c1 y
          · rw [show c = b by omega]; exact z
        · have g2 : cmpN (LL (b + 1) b u t) (LL b (b + 1) u t) ≤ 0 := by
            rcases Nat.lt_or_eq_of_le z with y | y
            · rw [cmp_lt y]; decide
            · rw [cmp_eq y]; decide
          refine b1 g2 ?_
          exact model I4 J4 (nI b) (fun q hq => by rw [rd4 q (by omega), ra q (by omega)]) jd4 (Or.inr ⟨by omega, b, ⟨hub, hb, hg, Or.inr z⟩, rfl⟩)
  exact ⟨201, loop 201 u I1 J (by omega) (by omega) (by omega) (fun c c1 c2 => by omega) (fun _ _ => rfl) (fun _ _ => rfl)⟩
