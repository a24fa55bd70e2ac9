/-- what axe sums up -/
def axS (al k m s n : Nat) : Nat := sumN (fun j => chA k (s + j) * chA (al - k) (m - (s + j))) n
theorem axS_lt {al k m s n : Nat} (h1 : al ≤ 45) (h2 : k ≤ al) (h3 : m ≤ al) (h4 : s ≤ m) (hn : s + n ≤ m + 1) : axS al k m s n < 9223372036854775808 := by
  have b := sumN_le (o := fun j => chA k (s + j) * chA (al - k) (m - (s + j))) (B := 35184372088832) (n := n) (fun i hi => by
    have x := (chA_45 k (by omega) (s + i) (by omega)).1
    have y := (chA_45 (al - k) (by omega) (m - (s + i)) (by omega)).1
    have z := Nat.mul_le_mul x y
    rw [← Nat.pow_add, show k + (al - k) = al by omega] at z
    have w : 2 ^ al ≤ 2 ^ 45 := Nat.pow_le_pow_right (by omega) h1
    show _ ≤ 2 ^ 45
    omega)
  have c : n * 35184372088832 ≤ 46 * 35184372088832 := Nat.mul_le_mul_right _ (by omega)
  unfold axS
  omega
def axG (a1 a2 a3 a4 : Int32) : Prop := (1 ≤ a1 ∧ a1 ≤ 45) ∧ (0 ≤ a2 ∧ a2 ≤ a1) ∧ (0 ≤ a3 ∧ a3 ≤ a1) ∧ (0 ≤ a4 ∧ a4 ≤ a3)
theorem ix_of {a : Int32} {N : Nat} (hN : N < 2147483647) (h1 : 0 ≤ a) (h2 : a ≤ nI N) : ∃ n, n ≤ N ∧ a = nI n := by
  rcases pf_split a (N := N + 1) (by omega) with ⟨n, h, e⟩ | h | h
  · exact ⟨n, by omega, e⟩
  · exact absurd h1 (Int32.not_le.mpr h)
  · rw [pf_leInt, pf_toInt (by omega)] at h
    rw [pf_leInt, pf_toInt (by omega)] at h2
    omega
theorem axG_get {a1 a2 a3 a4 : Int32} (h : axG a1 a2 a3 a4) : ∃ al k m s, 1 ≤ al ∧ al ≤ 45 ∧ k ≤ al ∧ m ≤ al ∧ s ≤ m ∧ a1 = nI al ∧ a2 = nI k ∧ a3 = nI m ∧ a4 = nI s := by
  obtain ⟨⟨p1, p2⟩, ⟨p3, p4⟩, ⟨p5, p6⟩, p7, p8⟩ := h
  have p0 : (0 : Int32) ≤ a1 := by
    rw [pf_leInt] at *
    have : (1 : Int32).toInt = 1 := by decide
    have : (0 : Int32).toInt = 0 := by decide
    omega
  obtain ⟨al, x1, rfl⟩ := ix_of (N := 45) (by omega) p0 p2
  obtain ⟨k, x2, rfl⟩ := ix_of (by omega) p3 p4
  obtain ⟨m, x3, rfl⟩ := ix_of (by omega) p5 p6
  obtain ⟨s, x4, rfl⟩ := ix_of (by omega) p7 p8
  refine ⟨al, k, m, s, ?_, x1, x2, x3, x4, rfl, rfl, rfl, rfl⟩
  rw [show (1 : Int32) = nI 1 from rfl, pf_le (by omega) (by omega)] at p1
  exact p1
theorem q_axeC {I : sI} {J : sJ} {post : Int32 → sI → sJ → Prop} {a1 a2 a3 a4 : Int32} (h0 : ¬ axG a1 a2 a3 a4 → post (-1) I J) (h : ∀ al k m s, 1 ≤ al → al ≤ 45 → k ≤ al → m ≤ al → s ≤ m → a1 = nI al → a2 = nI k → a3 = nI m → a4 = nI s → w_X6_tellFraction 134 (lN (axS al k m s (m + 1 - s))) (lN (chA al m)) I J (fun I3 J3 => post 0 I3 J3)) : w_X11_axe a1 a2 a3 a4 I J post := by
  unfold w_X11_axe
  by_cases g : axG a1 a2 a3 a4
  · have g2 := g
    obtain ⟨⟨p1, p2⟩, ⟨p3, p4⟩, ⟨p5, p6⟩, p7, p8⟩ := g
    refine b2 (Int32.not_lt.mpr p1) (b2 (Int32.not_lt.mpr p2) (b2 (Int32.not_lt.mpr p3) (b2 (Int32.not_lt.mpr p4) (b2 (Int32.not_lt.mpr p5) (b2 (Int32.not_lt.mpr p6) (b2 (Int32.not_lt.mpr p7) (b1 p8 ?_)))))))
    obtain ⟨al, k, m, s, x0, x1, x2, x3, x4, rfl, rfl, rfl, rfl⟩ := axG_get g2
    have fin := h al k m s x0 x1 x2 x3 x4 rfl rfl rfl rfl
    have loop : ∀ n i, i ≤ m + 1 - s → m + 1 - s - i < n → w_X11_axe_49_n post n (nI al) (nI k) (nI m) (lN (axS al k m s i)) (nI (s + i)) I J := by
      intro n
      induction n with
      | zero => intro p _ h; omega
      | succ n ih =>
        intro i hi hm
        show w_X11_axe_49_s post _ _ _ _ _ _ I J
        unfold w_X11_axe_49_s
        rw [pf_lt (by omega) (by omega)]
        refine ⟨fun e => ?_, fun e => ?_⟩
        · rw [show i = m + 1 - s by omega]
          exact q_X11_choose (by omega) (by omega) fin
        · refine q_X11_choose (by omega) (by omega) ?_
          rw [pk_sub (by omega), pk_sub (by omega)]
          refine q_X11_choose (by omega) (by omega) ?_
          rw [lN_mul, lN_add, nI_1]
          rintro _ rfl _ rfl
          exact ih (i + 1) (by omega) (by omega)
    exact ⟨m + 2, loop (m + 2) 0 (by omega) (by omega)⟩
  · have f := h0 g
    refine ⟨fun _ => f, fun p1 => ⟨fun _ => f, fun p2 => ⟨fun _ => f, fun p3 => ⟨fun _ => f, fun p4 => ⟨fun _ => f, fun p5 => ⟨fun _ => f, fun p6 => ⟨fun _ => f, fun p7 => ⟨fun p8 => ?_, fun _ => f⟩⟩⟩⟩⟩⟩⟩⟩
    rw [Int32.not_lt] at *
    exact absurd ⟨⟨p1, p2⟩, ⟨p3, p4⟩, ⟨p5, p6⟩, p7, p8⟩ g
theorem q_axeM {I : sI} {J : sJ} {post : Int32 → sI → sJ → Prop} {a1 a2 a3 a4 : Int32} (h0 : ¬ axG a1 a2 a3 a4 → post (-1) (sUI I 248 0 0) J) (h : ∀ al k m s, 1 ≤ al → al ≤ 45 → k ≤ al → m ≤ al → s ≤ m → a1 = nI al → a2 = nI k → a3 = nI m → a4 = nI s → w_X12_entersFraction (lN (axS al k m s (m + 1 - s))) (lN (chA al m)) (sUI (sUI I 248 0 0) 248 1 0) J (fun I3 J3 => post 0 I3 J3)) : w_X12_axe a1 a2 a3 a4 I J post := by
  unfold w_X12_axe
  rintro _ rfl
  generalize sUI I 248 0 0 = I1 at *
  refine q_in (lo := 1) (hi := 45) (by decide) (by decide) (fun p1 => b2 (by decide) ?_) (fun p1 => b1 rfl (h0 (fun q => p1 q.1)))
  refine q_in (lo := 0) (by decide) rfl (fun p2 => b2 (by decide) ?_) (fun p2 => b1 rfl (h0 (fun q => p2 q.2.1)))
  refine q_in (lo := 0) (by decide) rfl (fun p3 => b2 (by decide) ?_) (fun p3 => b1 rfl (h0 (fun q => p3 q.2.2.1)))
  refine q_in (lo := 0) (by decide) rfl (fun p4 => b3 (by decide) ?_) (fun p4 => b4 rfl (h0 (fun q => p4 q.2.2.2)))
  obtain ⟨al, k, m, s, x0, x1, x2, x3, x4, rfl, rfl, rfl, rfl⟩ := axG_get ⟨p1, p2, p3, p4⟩
  have fin := h al k m s x0 x1 x2 x3 x4 rfl rfl rfl rfl
  have loop : ∀ n i, i ≤ m + 1 - s → m + 1 - s - i < n → w_X12_axe_60_n post n (nI al) (nI k) (nI m) (lN (axS al k m s i)) (nI (s + i)) I1 J := by
    intro n
    induction n with
    | zero => intro p _ h; omega
    | succ n ih =>
      intro i hi hm
      show w_X12_axe_60_s post _ _ _ _ _ _ I1 J
      unfold w_X12_axe_60_s
      rw [pf_lt (by omega) (by omega)]
      refine ⟨fun e => ?_, fun e => ?_⟩
      · rw [show i = m + 1 - s by omega]
        rintro _ rfl
        exact q_X12_choices (by omega) (by omega) fin
      · refine q_X12_choices (by omega) (by omega) ?_
        rw [pk_sub (by omega), pk_sub (by omega)]
        refine q_X12_choices (by omega) (by omega) ?_
        rw [lN_mul, lN_add, nI_1]
        rintro _ rfl _ rfl
        exact ih (i + 1) (by omega) (by omega)
  exact ⟨m + 2, loop (m + 2) 0 (by omega) (by omega)⟩
theorem S_axe {I : sI} {J : sJ} (a1 a2 a3 a4 : Int32) (hR : RR0 I J) : St (w_X11_axe a1 a2 a3 a4) (w_X12_axe a1 a2 a3 a4) I J := by
  obtain ⟨hT, hD, hK, hW, hC, hQ, hX⟩ := hR
  refine q_axeC (fun g => ?_) (fun al k m s x0 x1 x2 x3 x4 e1 e2 e3 e4 => ?_)
  · refine q_axeM (fun _ => ?_) (fun al k m s x0 x1 x2 x3 x4 e1 e2 e3 e4 => ?_)
    · exact ⟨rfl, (RT_congr hT rfl rfl rfl rfl), (RD_congr hD (fun q h1 h2 => by repeat rw [sUI_ne (by omega)]) rfl rfl rfl rfl rfl rfl rfl rfl rfl rfl rfl), (RK_congr hK (fun q h1 h2 => by repeat rw [sUI_ne (by omega)]) rfl rfl), (RW_congr hW (fun q h1 h2 => by repeat rw [sUI_ne (by omega)]) rfl rfl rfl), (RC_congr hC (fun q h1 h2 => by repeat rw [sUI_ne (by omega)]) rfl rfl rfl), (RR_congr hQ rfl rfl rfl rfl), (RX_congr hX rfl rfl rfl rfl rfl)⟩
    · refine absurd ?_ g
      rw [e1, e2, e3, e4]
      unfold axG
      rw [show (1 : Int32) = nI 1 from rfl, show (45 : Int32) = nI 45 from rfl, show (0 : Int32) = nI 0 from rfl, pf_le (by omega) (by omega), pf_le (by omega) (by omega), pf_le (by omega) (by omega), pf_le (by omega) (by omega), pf_le (by omega) (by omega), pf_le (by omega) (by omega), pf_le (by omega) (by omega), pf_le (by omega) (by omega)]
      omega
  · have c := chA_45 al (by omega) m (by omega)
    refine q_tellFraction (axS_lt x1 x2 x3 x4 (by omega)) c.2.1 (c.2.2 x3) ?_
    refine q_axeM (fun g => ?_) (fun al2 k2 m2 s2 y0 y1 y2 y3 y4 f1 f2 f3 f4 => ?_)
    · refine absurd ?_ g
      rw [e1, e2, e3, e4]
      unfold axG
      rw [show (1 : Int32) = nI 1 from rfl, show (45 : Int32) = nI 45 from rfl, show (0 : Int32) = nI 0 from rfl, pf_le (by omega) (by omega), pf_le (by omega) (by omega), pf_le (by omega) (by omega), pf_le (by omega) (by omega), pf_le (by omega) (by omega), pf_le (by omega) (by omega), pf_le (by omega) (by omega), pf_le (by omega) (by omega)]
      omega
    · rw [e1, pf_eq (by omega) (by omega)] at f1
      rw [e2, pf_eq (by omega) (by omega)] at f2
      rw [e3, pf_eq (by omega) (by omega)] at f3
      rw [e4, pf_eq (by omega) (by omega)] at f4
      subst f1 f2 f3 f4
      refine q_entersFraction rfl (axS_lt x1 x2 x3 x4 (by omega)) c.2.1 (c.2.2 x3) ?_
      exact ⟨rfl, (RT_congr hT rfl rfl rfl rfl), (RD_congr hD (fun q h1 h2 => by repeat rw [sUI_ne (by omega)]) rfl rfl rfl rfl rfl rfl rfl rfl rfl rfl rfl), (RK_congr hK (fun q h1 h2 => by repeat rw [sUI_ne (by omega)]) rfl rfl), (RW_congr hW (fun q h1 h2 => by repeat rw [sUI_ne (by omega)]) rfl rfl rfl), (RC_congr hC (fun q h1 h2 => by repeat rw [sUI_ne (by omega)]) rfl rfl rfl), RR_2 rfl rfl rfl rfl rfl rfl, (RX_congr hX rfl rfl rfl rfl rfl)⟩
