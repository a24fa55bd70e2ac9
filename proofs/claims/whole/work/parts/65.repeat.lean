-- repeat: shares to a power by halving, pairs of groups
theorem nI_p {n : Nat} (h : 1 ≤ n) : nI n - 1 = nI (n - 1) := pk_sub (b := 1) h
def bsr (A B : Nat) : Nat → Nat → Nat → Nat
  | 0, lo, _ => lo
  | n + 1, lo, hi => if hi ≤ lo then lo else if (lo + hi + 1) / 2 * A ≤ 1000000 * B then bsr A B n ((lo + hi + 1) / 2) hi else bsr A B n lo ((lo + hi + 1) / 2 - 1)
theorem bsr_e {A B n lo hi : Nat} (h : hi ≤ lo) : bsr A B n lo hi = lo := by
  cases n with
  | zero => rfl
  | succ n => rw [bsr, if_pos h]
theorem bsr_le {A B : Nat} : ∀ {n lo hi}, lo ≤ hi → bsr A B n lo hi ≤ hi
  | 0, _, _, h => h
  | n + 1, lo, hi, h => by
    rw [bsr]
    split
    · exact h
    · split
      · exact bsr_le (by omega)
      · exact Nat.le_trans (bsr_le (by omega)) (by omega)
theorem cmp_le {a b : Nat} : ¬ 0 < cmpN a b ↔ a ≤ b := by
  rcases Nat.lt_trichotomy a b with h | h | h
  · rw [cmp_lt h]; exact ⟨fun _ => by omega, fun _ => by decide⟩
  · rw [cmp_eq h]; exact ⟨fun _ => by omega, fun _ => by decide⟩
  · rw [cmp_gt h]; exact ⟨fun q => absurd (by decide) q, fun q => by omega⟩
theorem p6 {x k : Nat} (hx : x ≤ 43200) (hk : k ≤ 6) : x ^ k ≤ 43200 ^ 6 := Nat.le_trans (Nat.pow_le_pow_left hx k) (Nat.pow_le_pow_right (by decide) hk)
theorem p6b {h x k : Nat} (hh : h ≤ 1000000) (hx : x ≤ 43200) (hk : k ≤ 6) : h * x ^ k ≤ 1000000 * 43200 ^ 6 := Nat.mul_le_mul hh (p6 hx hk)
theorem p6B : 1000000 * 43200 ^ 6 < bB ^ 16 := by decide +kernel
theorem p6M : 1000000 * 43200 ^ 6 < 10000 ^ 64 := by decide +kernel
def sqs (o : Nat → Nat) : Nat → Nat
  | 0 => 0
  | n + 1 => sqs o n + o n * o n
theorem sqs_le {o : Nat → Nat} {N : Nat} (h : ∀ k, k < N → o k ≤ 60) : ∀ n, n ≤ N → sqs o n ≤ n * 3600
  | 0, _ => by show 0 ≤ 0 * 3600; exact Nat.zero_le _
  | n + 1, hn => by
    have := sqs_le h n (by omega)
    have := Nat.mul_le_mul (h n (by omega)) (h n (by omega))
    rw [sqs]; omega
def mil (o : Nat → Nat) (p : Nat) : Nat := bsr ((sumN o 12 * sumN o 12) ^ p) (sqs o 12 ^ p) 20 0 1000000
theorem mil_le {o : Nat → Nat} {p : Nat} : mil o p ≤ 1000000 := bsr_le (by omega)
theorem q_share {I : sI} {J : sJ} {post : Int64 → sI → sJ → Prop} {o : Nat → Nat} {p : Nat} (ho : ∀ k, k < 13 → o k ≤ 60 ∧ I 247 k = nI (o k)) (hs : sumN o 12 ≤ 60) (hp : p ≤ 6) (h : ∀ (I2 : sI) (J2 : sJ), (∀ q, ¬ (q = 243 ∨ q = 245) → I2 q = I q) → (∀ q, ¬ (q = 244 ∨ q = 246) → J2 q = J q) → post (lN (mil o p)) I2 J2) : w_X11_shareToPower (nI p) I J post := by
  unfold w_X11_shareToPower
  refine q_seen ho ?_
  obtain ⟨t, et⟩ : ∃ t, t = sumN o 12 := ⟨_, rfl⟩
  obtain ⟨u, eu⟩ : ∃ u, u = sqs o 12 := ⟨_, rfl⟩
  have hu : u ≤ 43200 := by rw [eu]; exact sqs_le (N := 12) (fun k hk => (ho k (by omega)).1) 12 (by omega)
  unfold mil at h
  rw [← et, ← eu] at h
  rw [← et] at hs ⊢
  have ht : t * t ≤ 43200 := by have := Nat.mul_le_mul hs hs; omega
  have bs : ∀ m n lo hi i (I3 : sI) (J3 : sJ), lo ≤ hi → hi ≤ 1000000 → hi - lo < 2 ^ n → i + n = 20 → n < m → (∀ q, ¬ (q = 243 ∨ q = 245) → I3 q = I q) → (∀ q, ¬ (q = 244 ∨ q = 246) → J3 q = J q) → cB 243 (1000000 * u ^ p) I3 J3 → bsr ((t * t) ^ p) (u ^ p) n lo hi = bsr ((t * t) ^ p) (u ^ p) 20 0 1000000 → w_X11_shareToPower_71_n post m (nI p) (nI t) (nI lo) (nI hi) (nI i) I3 J3 := by
    intro m
    induction m with
    | zero => intro n lo hi i _ _ _ _ _ _ h; omega
    | succ m ih =>
      intro n lo hi i I3 J3 h1 h2 h3 h4 h5 ra ja hb e
      show w_X11_shareToPower_71_s post (w_X11_shareToPower_71_n post m) (nI p) (nI t) (nI lo) (nI hi) (nI i) I3 J3
      unfold w_X11_shareToPower_71_s w_X11_shareToPower_149 w_X11_shareToPower_143
      rw [show (32 : Int32) = nI 32 from rfl, pf_le (by omega) (by omega), pf_le (by omega) (by omega), nI_add, nI_1, show (2 : Int32) = nI 2 from rfl, pk_div (by omega) (by omega) (by omega), pk_mul]
      refine b2 (by omega) ⟨fun z => ?_, fun z => ?_⟩
      · rw [bsr_e z] at e
        rw [nI_l (by omega), e]
        exact h I3 J3 ra ja
      · rintro _ rfl
        cases n with
        | zero => rw [Nat.pow_zero] at h3; omega
        | succ n =>
        have h3' : hi - lo < 2 ^ n * 2 := by rw [← Nat.pow_succ]; exact h3
        rw [bsr, if_neg z] at e
        refine q_become (by decide) (by omega) (fun hb2 => ?_)
        refine q_Bpower (by decide) hb2 (by omega) (by omega) (fun k hk => Nat.lt_of_le_of_lt (p6b (by omega) ht (by omega)) p6B) (fun I4 J4 rb jb hb3 => ?_)
        have hb4 : cB 243 (1000000 * u ^ p) I4 J4 := cB_congr hb (by rw [rb 243 (by omega), sUI_ne (by omega)]) (by rw [jb 244 (by omega)]; funext k; rw [pf_uj, if_neg (by omega)])
        refine q_against (by decide) (by decide) hb3 hb4 ?_
        have ra4 : ∀ q, ¬ (q = 243 ∨ q = 245) → I4 q = I q := fun q hq => by rw [rb q (by omega), sUI_ne (by omega), ra q hq]
        have ja4 : ∀ q, ¬ (q = 244 ∨ q = 246) → J4 q = J q := fun q hq => by
          rw [jb q (by omega), ← ja q hq]; funext k; rw [pf_uj, if_neg (by omega)]
        refine ⟨fun c => ?_, fun c => ?_⟩
        · rw [if_neg (fun q => absurd c (cmp_le.mpr q))] at e
          rintro _ rfl _ rfl
          rw [nI_1, nI_p (by omega)]
          exact ih n _ _ _ I4 J4 (by omega) (by omega) (by omega) (by omega) (by omega) ra4 ja4 hb4 e
        · rw [if_pos (cmp_le.mp c)] at e
          rintro _ rfl
          rw [nI_1]
          exact ih n _ _ _ I4 J4 (by omega) (by omega) (by omega) (by omega) (by omega) ra4 ja4 hb4 e
  have loop : ∀ m k, k ≤ 12 → 12 - k < m → w_X11_shareToPower_10_n post m (nI p) (nI t) (nI (sqs o k)) (nI k) I J := by
    intro m
    induction m with
    | zero => intro k _ h; omega
    | succ m ih =>
      intro k hk hm
      show w_X11_shareToPower_10_s post (w_X11_shareToPower_10_n post m) (nI p) (nI t) (nI (sqs o k)) (nI k) I J
      unfold w_X11_shareToPower_10_s
      rw [show (12 : Int32) = nI 12 from rfl, pf_le (by omega) (by omega), pf_cl (by omega), nI_1]
      refine ⟨fun z => ?_, fun z => ⟨vp_in_nI (by omega) (by omega), vp_in_nI (by omega) (by omega), ?_⟩⟩
      · rw [show k = 12 by omega, ← eu, show (1000000 : Int32) = nI 1000000 from rfl]
        refine q_become (by decide) (by omega) (fun hb2 => ?_)
        refine q_Bpower (by decide) hb2 (by omega) (by omega) (fun k hk => Nat.lt_of_le_of_lt (p6b (by omega) hu (by omega)) p6B) (fun I4 J4 rb jb hb3 => ?_)
        refine ⟨21, bs 21 20 0 1000000 0 I4 J4 (by omega) (by omega) (by decide) (by omega) (by omega) (fun q hq => by rw [rb q (by omega), sUI_ne (by omega)]) (fun q hq => by rw [jb q (by omega)]; funext k; rw [pf_uj, if_neg (by omega)]) hb3 rfl⟩
      · rw [(ho k (by omega)).2, pk_mul, nI_add]
        rintro _ rfl _ rfl
        exact ih (k + 1) (by omega) (by omega)
  exact ⟨13, loop 13 0 (by omega) (by omega)⟩
theorem q_million {I : sI} {J : sJ} {post : Int32 → sI → sJ → Prop} {o : Nat → Nat} {p : Nat} (ho : ∀ k, k < 13 → o k ≤ 60) (hs : sumN o 12 ≤ 60) (hp : p ≤ 6) (h : ∀ I2 : sI, (∀ q, ¬ (q = 273 ∨ q = 274) → I2 q = I q) → post (nI (mil o p)) I2 J) : w_X12_millionths (nI (sqs o 12)) (nI (sumN o 12 * sumN o 12)) (nI p) I J post := by
  unfold w_X12_millionths
  obtain ⟨t, et⟩ : ∃ t, t = sumN o 12 := ⟨_, rfl⟩
  obtain ⟨u, eu⟩ : ∃ u, u = sqs o 12 := ⟨_, rfl⟩
  have hu : u ≤ 43200 := by rw [eu]; exact sqs_le (N := 12) (fun k hk => ho k (by omega)) 12 (by omega)
  unfold mil at h
  rw [← et, ← eu] at h
  rw [← et] at hs
  rw [← et, ← eu]
  have ht : t * t ≤ 43200 := by have := Nat.mul_le_mul hs hs; omega
  obtain ⟨w, ew⟩ : ∃ w, w = t * t := ⟨_, rfl⟩
  rw [← ew] at h ht ⊢
  have bs : ∀ m n lo hi (I3 : sI), lo ≤ hi → hi ≤ 1000000 → hi - lo < 2 ^ n → n < m → (∀ q, ¬ (q = 273 ∨ q = 274) → I3 q = I q) → bsr (w ^ p) (u ^ p) n lo hi = bsr (w ^ p) (u ^ p) 20 0 1000000 → w_X12_millionths_8_n post m (nI u) (nI w) (nI p) (nI lo) (nI hi) I3 J := by
    intro m
    induction m with
    | zero => intro n lo hi _ _ _ _ h; omega
    | succ m ih =>
      intro n lo hi I3 h1 h2 h3 h5 ra e
      show w_X12_millionths_8_s post (w_X12_millionths_8_n post m) (nI u) (nI w) (nI p) (nI lo) (nI hi) I3 J
      unfold w_X12_millionths_8_s
      rw [pf_le (by omega) (by omega), nI_add, nI_1, show (2 : Int32) = nI 2 from rfl, pk_div (by omega) (by omega) (by omega), show (1000000 : Int32) = nI 1000000 from rfl]
      refine ⟨fun z => ?_, fun z => ?_⟩
      · rw [bsr_e z] at e
        rw [e]
        exact h I3 ra
      · rintro _ rfl
        cases n with
        | zero => rw [Nat.pow_zero] at h3; omega
        | succ n =>
        have h3' : hi - lo < 2 ^ n * 2 := by rw [← Nat.pow_succ]; exact h3
        rw [bsr, if_neg z] at e
        have big1 : 1000000 < 10000 ^ 64 := Nat.lt_of_le_of_lt (by decide) p6M
        refine q_one (fun hb1 => ?_)
        refine q_Mtimes hb1 (by omega) (by omega) (fun I4 r4 hb4 => ?_)
        refine q_one (fun hb5 => ?_)
        have hb4' := mB_congr (I2 := sUI (sUI I4 274 0 1) 274 1 1) hb4 (by rw [sUI_ne (by omega), sUI_ne (by omega)])
        refine q_Mtimes hb5 (by omega) (by omega) (fun I6 r6 hb6 => ?_)
        have hb4'' := mB_congr (I2 := I6) hb4' (by rw [r6 273 (by omega)])
        have ra6 : ∀ q, ¬ (q = 273 ∨ q = 274) → I6 q = I q := fun q hq => by rw [r6 q (by omega), sUI_ne (by omega), sUI_ne (by omega), r4 q (by omega), sUI_ne (by omega), sUI_ne (by omega), ra q hq]
        rw [Nat.one_mul] at hb4'' hb6
        obtain ⟨hf, ehf⟩ : ∃ hf, hf = (lo + hi + 1) / 2 := ⟨_, rfl⟩
        rw [← ehf] at hb4'' e ⊢
        have inner : ∀ m2 k (I7 : sI), k ≤ p → p - k < m2 → (∀ q, ¬ (q = 273 ∨ q = 274) → I7 q = I q) → mB 273 (hf * w ^ k) I7 → mB 274 (1000000 * u ^ k) I7 → w_X12_millionths_62_n post (w_X12_millionths_8_n post m) m2 (nI u) (nI w) (nI p) (nI lo) (nI hi) (nI hf) (nI k) I7 J := by
          intro m2
          induction m2 with
          | zero => intro k _ _ h; omega
          | succ m2 ih2 =>
            intro k I7 hk hm2 r7 a7 b7
            show w_X12_millionths_62_s post (w_X12_millionths_8_n post m) (w_X12_millionths_62_n post (w_X12_millionths_8_n post m) m2) (nI u) (nI w) (nI p) (nI lo) (nI hi) (nI hf) (nI k) I7 J
            unfold w_X12_millionths_62_s w_X12_millionths_117
            rw [pf_le (by omega) (by omega), nI_1]
            refine ⟨fun z2 => ?_, fun z2 => ?_⟩
            · rw [show k = p by omega] at a7 b7
              refine q_compares a7 b7 ?_
              refine ⟨fun c => ?_, fun c => ?_⟩
              · rw [if_neg (fun q => absurd c (cmp_le.mpr q))] at e
                rintro _ rfl
                rw [nI_p (by omega)]
                exact ih n _ _ I7 (by omega) (by omega) (by omega) (by omega) r7 e
              · rw [if_pos (cmp_le.mp c)] at e
                exact ih n _ _ I7 (by omega) (by omega) (by omega) (by omega) r7 e
            · have g1 : hf * w ^ k * w = hf * w ^ (k + 1) := by rw [Nat.pow_succ, Nat.mul_assoc]
              have g2 : 1000000 * u ^ k * u = 1000000 * u ^ (k + 1) := by rw [Nat.pow_succ, Nat.mul_assoc]
              refine q_Mtimes a7 (by omega) (by rw [g1]; exact Nat.lt_of_le_of_lt (p6b (by omega) ht (by omega)) p6M) (fun I8 r8 a8 => ?_)
              refine q_Mtimes (mB_congr b7 (r8 274 (by omega))) (by omega) (by rw [g2]; exact Nat.lt_of_le_of_lt (p6b (by omega) hu (by omega)) p6M) (fun I9 r9 a9 => ?_)
              rintro _ rfl
              rw [g1] at a8
              rw [g2] at a9
              exact ih2 (k + 1) I9 (by omega) (by omega) (fun q hq => by rw [r9 q (by omega), r8 q (by omega), r7 q hq]) (mB_congr a8 (r9 273 (by omega))) a9
        refine ⟨8, inner 8 0 I6 (by omega) (by omega) ra6 (by rw [Nat.pow_zero, Nat.mul_one]; exact hb4'') (by rw [Nat.pow_zero, Nat.mul_one]; exact hb6)⟩
  exact ⟨21, bs 21 20 0 1000000 I (by omega) (by omega) (by decide) (by omega) (fun _ _ => rfl) rfl⟩
/-- no worn sign in a group -/
def whl (s κ : Nat → Nat) (g : Nat) : Prop := ∀ p, s g ≤ p → p < s (g + 1) → κ p ≠ 12
theorem q_clear {I : sI} {J : sJ} {post : Int32 → sI → sJ → Prop} {G P g l : Nat} {s κ : Nat → Nat} (hw : tWD G P s κ) (hc : cD G P s κ 4 I) (hg : g < G) (hl : l ≤ 6) (h1 : s (g + 1) - s g = l ∧ whl s κ g → post 1 I J) (h0 : ¬ (s (g + 1) - s g = l ∧ whl s κ g) → post 0 I J) : w_X2_clear 4 (nI g) (nI l) I J post := by
  have hP := hw.2.1
  have hG := hw.1
  have hκ := hw.2.2.2.2.2
  obtain ⟨e5, -, e7⟩ := sRdisc 4 (by decide)
  have l1 := hw.2.2.2.2.1 g hg
  have l3 := s_le hw (show g + 1 ≤ G by omega)
  unfold w_X2_clear
  refine q_lengthOf hw hc hg ?_
  rw [pf_eq (by omega) (by omega), e7, pf_cl (by omega), hc.2.2.1 g (by omega)]
  refine ⟨fun z => ⟨vp_in_nI (by omega) (by omega), ?_⟩, fun z => h0 (fun q => z q.1)⟩
  rintro _ rfl
  have loop : ∀ m p, s g ≤ p → p ≤ s (g + 1) → s (g + 1) - p < m → (∀ q, s g ≤ q → q < p → κ q ≠ 12) → w_X2_clear_18_n 4 post m (nI g) (nI p) I J := by
    intro m
    induction m with
    | zero => intro p _ _ h; omega
    | succ m ih =>
      intro p hp1 hp2 hm ha
      show w_X2_clear_18_s 4 post (w_X2_clear_18_n 4 post m) (nI g) (nI p) I J
      unfold w_X2_clear_18_s
      rw [e5, e7, nI_1, nI_1, pf_cl (by omega), pf_cl (by omega), hc.2.2.1 (g + 1) (by omega), pf_le (by omega) (by omega)]
      refine ⟨vp_in_nI (by omega) (by omega), fun y => ?_, fun y => ⟨vp_in_nI (by omega) (by omega), ?_⟩⟩
      · exact h1 ⟨z, fun q q1 q2 => ha q q1 (by omega)⟩
      · have k1 := hκ p (by omega)
        rw [hc.2.2.2.1 p (by omega), show (12 : Int32) = nI 12 from rfl, pf_eq (by omega) (by omega)]
        refine ⟨fun y2 => ?_, fun y2 => h0 (fun q => q.2 p hp1 (by omega) y2)⟩
        rintro _ rfl
        refine ih (p + 1) (by omega) (by omega) (by omega) (fun q q1 q2 => ?_)
        rcases Nat.lt_or_ge q p with x | x
        · exact ha q q1 x
        · rw [show q = p by omega]; exact y2
  exact ⟨8, loop 8 (s g) (by omega) (by omega) (by omega) (fun q _ _ => by omega)⟩
theorem q_whole {I : sI} {J : sJ} {post : Int32 → sI → sJ → Prop} {G P g : Nat} {s κ : Nat → Nat} (hw : tWD G P s κ) (hm : mD G P s κ I) (hg : g < G) (h1 : whl s κ g → post 1 I J) (h0 : ¬ whl s κ g → post 0 I J) : w_X12_isWhole (nI g) I J post := by
  have hP := hw.2.1
  have hG := hw.1
  have hκ := hw.2.2.2.2.2
  have l1 := hw.2.2.2.2.1 g hg
  have l3 := s_le hw (show g + 1 ≤ G by omega)
  have loop : ∀ m i (x2 : Int32), i ≤ s (g + 1) - s g → s (g + 1) - s g - i < m → ((x2 = 1 ∧ ∀ q, s g ≤ q → q < s g + i → κ q ≠ 12) ∨ (x2 = 0 ∧ ¬ whl s κ g)) → w_X12_isWhole_4_n post m (nI g) x2 (nI i) I J := by
    intro m
    induction m with
    | zero => intro i _ _ h; omega
    | succ m ih =>
      intro i x2 hi hm2 ha
      show w_X12_isWhole_4_s post (w_X12_isWhole_4_n post m) (nI g) x2 (nI i) I J
      unfold w_X12_isWhole_4_s w_X12_isWhole_39 w_X12_isWhole_40
      rw [pf_cl (by omega), hm.2.2.1 g hg, pf_le (by omega) (by omega), nI_1]
      refine ⟨vp_in_nI (by omega) (by omega), fun y => ?_, fun y => ?_⟩
      · rcases ha with ⟨rfl, a⟩ | ⟨rfl, a⟩
        · exact ⟨Or.inr rfl, h1 (fun q q1 q2 => a q q1 (by omega))⟩
        · exact ⟨Or.inl rfl, h0 a⟩
      · rcases ha with ⟨rfl, a⟩ | ⟨rfl, a⟩
        · refine b2 (by decide) ?_
          refine q_groupBegin hw hm (by omega) ?_
          have k1 := hκ (s g + i) (by omega)
          rw [nI_add, pf_cl (by omega), hm.2.2.2 (s g + i) (by omega), show (12 : Int32) = nI 12 from rfl, pf_eq (by omega) (by omega)]
          refine ⟨vp_in_nI (by omega) (by omega), fun y2 => ?_, fun y2 => ?_⟩
          · rintro _ rfl
            exact ih (i + 1) 0 (by omega) (by omega) (Or.inr ⟨rfl, fun q => q (s g + i) (by omega) (by omega) y2⟩)
          · rintro _ rfl
            refine ih (i + 1) 1 (by omega) (by omega) (Or.inl ⟨rfl, fun q q1 q2 => ?_⟩)
            rcases Nat.lt_or_ge q (s g + i) with x | x
            · exact a q q1 x
            · rw [show q = s g + i by omega]; exact y2
        · refine b1 rfl ?_
          rintro _ rfl
          exact ih (i + 1) 0 (by omega) (by omega) (Or.inr ⟨rfl, a⟩)
  exact ⟨8, loop 8 0 1 (by omega) (by omega) (Or.inl ⟨rfl, fun q _ _ => by omega⟩)⟩
