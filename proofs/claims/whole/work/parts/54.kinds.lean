/-- how often each kind is there, sums -/
def sumN (o : Nat → Nat) : Nat → Nat
  | 0 => 0
  | n + 1 => sumN o n + o n
theorem sumN_congr {o u : Nat → Nat} : ∀ {n : Nat}, (∀ i, i < n → o i = u i) → sumN o n = sumN u n
  | 0, _ => rfl
  | n + 1, h => by
    rw [sumN, sumN, sumN_congr (fun i hi => h i (by omega)), h n (by omega)]
noncomputable def oft (κ : Nat → Nat) (P k : Nat) : Nat := cnt (fun p => κ p = k) P
theorem oft_le (κ : Nat → Nat) (P k : Nat) : oft κ P k ≤ P := cnt_le _ _
theorem oft_s {κ : Nat → Nat} {P : Nat} : oft κ (P + 1) (κ P) = oft κ P (κ P) + 1 := cnt_s rfl
theorem oft_n {κ : Nat → Nat} {P k : Nat} (h : k ≠ κ P) : oft κ (P + 1) k = oft κ P k := cnt_n (fun e => h e.symm)
theorem oft_sum_ne {κ : Nat → Nat} {P : Nat} : ∀ {n : Nat}, n ≤ κ P → sumN (oft κ (P + 1)) n = sumN (oft κ P) n
  | 0, _ => rfl
  | n + 1, h => by
    rw [sumN, sumN, oft_sum_ne (by omega), oft_n (by omega)]
theorem oft_sum_le {κ : Nat → Nat} {P : Nat} : ∀ {n : Nat}, sumN (oft κ (P + 1)) n ≤ sumN (oft κ P) n + 1
  | 0 => by rw [sumN, sumN]; omega
  | n + 1 => by
    rw [sumN, sumN]
    by_cases e : n = κ P
    · rw [oft_sum_ne (by omega), e, oft_s]; omega
    · rw [oft_n e]
      have := oft_sum_le (κ := κ) (P := P) (n := n)
      omega
theorem oft_sum (κ : Nat → Nat) : ∀ P n, sumN (oft κ P) n ≤ P
  | 0, n => by
    have : ∀ n, sumN (oft κ 0) n = 0 := by
      intro n
      induction n with
      | zero => rfl
      | succ n ih => rw [sumN, ih]; rfl
    rw [this]; omega
  | P + 1, n => by
    have := oft_sum_le (κ := κ) (P := P) (n := n)
    have := oft_sum κ P n
    omega
theorem q_countKinds {I : sI} {J : sJ} {post : sI → sJ → Prop} {G P : Nat} {s κ : Nat → Nat} (hw : tWD G P s κ) (hc : cD G P s κ 4 I) (h : ∀ I2 : sI, (∀ q, ¬ q = 247 → I2 q = I q) → (∀ k, k < 13 → I2 247 k = nI (oft κ P k)) → post I2 J) : w_X2_countKinds 4 I J post := by
  have hP := hw.2.1
  have hκ := hw.2.2.2.2.2
  have e5 := (sRdisc 4 (by decide)).1
  have loop2 : ∀ m p (I1 : sI), p ≤ P → P - p < m → (∀ q, ¬ q = 247 → I1 q = I q) → (∀ k, k < 13 → I1 247 k = nI (oft κ p k)) → w_X2_countKinds_20_n 4 post m (nI p) I1 J := by
    intro m
    induction m with
    | zero => intro p I1 _ h; omega
    | succ m ih =>
      intro p I1 hp hm hr hk
      show w_X2_countKinds_20_s 4 post _ _ I1 J
      unfold w_X2_countKinds_20_s w_X2_countKinds_51
      rw [hr 4 (by omega), hc.2.1, pf_le (by omega) (by omega), e5, hr 5 (by omega)]
      refine ⟨fun e => ?_, fun e => ⟨vp_in_nI (by omega) (by omega), ?_⟩⟩
      · rw [show p = P by omega] at hk
        exact h I1 hr hk
      · have := hκ p (by omega)
        rw [pf_cl (by omega), hc.2.2.2.1 p (by omega), pf_le (by omega) (by omega), pf_cl (by omega)]
        refine b2 (by omega) ⟨vp_in_nI (by omega) (by omega), vp_in_nI (by omega) (by omega), vp_in_nI (by omega) (by omega), ?_⟩
        rintro _ rfl _ rfl
        rw [nI_1]
        refine ih (p + 1) _ (by omega) (by omega) (fun q hq => by rw [sUI_ne hq, hr q hq]) (fun k hk2 => ?_)
        rw [pf_uis]
        by_cases e2 : k = κ p
        · rw [if_pos e2, hk _ (by omega), nI_1, e2, oft_s]
        · rw [if_neg e2, hk k hk2, oft_n e2]
  have loop1 : ∀ m k (I1 : sI), k ≤ 13 → 13 - k < m → (∀ q, ¬ q = 247 → I1 q = I q) → (∀ j, j < k → I1 247 j = nI 0) → w_X2_countKinds_2_n 4 post m (nI k) I1 J := by
    intro m
    induction m with
    | zero => intro p I1 _ h; omega
    | succ m ih =>
      intro k I1 hk hm hr hz
      show w_X2_countKinds_2_s 4 post _ _ I1 J
      unfold w_X2_countKinds_2_s
      rw [pf_le (by omega) (by omega)]
      refine ⟨fun e => ?_, fun e => ⟨vp_in_nI (by omega) (by omega), ?_⟩⟩
      · exact ⟨P + 1, loop2 (P + 1) 0 I1 (by omega) (by omega) hr (fun j hj => hz j (by omega))⟩
      · rw [pf_cl (by omega)]
        rintro _ rfl _ rfl
        rw [nI_1]
        refine ih (k + 1) _ (by omega) (by omega) (fun q hq => by rw [sUI_ne hq, hr q hq]) (fun j hj => ?_)
        rw [pf_uis]
        by_cases e2 : j = k
        · rw [if_pos e2]; rfl
        · rw [if_neg e2, hz j (by omega)]
  exact ⟨14, loop1 14 0 I (by omega) (by omega) (fun _ _ => rfl) (fun j hj => by omega)⟩
theorem q_unlike {I : sI} {J : sJ} {post : Int32 → sI → sJ → Prop} {o : Nat → Nat} (ho : ∀ k, k < 13 → o k ≤ 60 ∧ I 247 k = nI (o k)) (h : post (nI (cnt (fun k => 0 < o k) 12)) I J) : w_X11_unlikeKinds I J post := by
  have loop : ∀ m k, k ≤ 12 → 12 - k < m → w_X11_unlikeKinds_4_n post m (nI (cnt (fun k => 0 < o k) k)) (nI k) I J := by
    intro m
    induction m with
    | zero => intro p _ h; omega
    | succ m ih =>
      intro k hk hm
      show w_X11_unlikeKinds_4_s post _ _ _ I J
      unfold w_X11_unlikeKinds_4_s w_X11_unlikeKinds_25
      rw [show (12 : Int32) = nI 12 from rfl, pf_le (by omega) (by omega), pf_cl (by omega)]
      refine ⟨fun e => ?_, fun e => ⟨vp_in_nI (by omega) (by omega), ?_⟩⟩
      · rw [show k = 12 by omega]; exact h
      · obtain ⟨o1, o2⟩ := ho k (by omega)
        rw [o2, pf_le0 (by omega), nI_1]
        refine ⟨fun y => ?_, fun y => ?_⟩
        · rintro _ rfl _ rfl
          rw [show ∀ x : Int32, x + 0 = x from fun x => Int32.add_zero x, c_n (p := fun k => 0 < o k) (by omega)]
          exact ih (k + 1) (by omega) (by omega)
        · rintro _ rfl _ rfl
          rw [c_s (p := fun k => 0 < o k) (by omega)]
          exact ih (k + 1) (by omega) (by omega)
  exact ⟨13, loop 13 0 (by omega) (by omega)⟩
theorem q_seen {I : sI} {J : sJ} {post : Int32 → sI → sJ → Prop} {o : Nat → Nat} (ho : ∀ k, k < 13 → o k ≤ 60 ∧ I 247 k = nI (o k)) (h : post (nI (sumN o 12)) I J) : w_X11_seenSigns I J post := by
  have loop : ∀ m k, k ≤ 12 → 12 - k < m → w_X11_seenSigns_4_n post m (nI (sumN o k)) (nI k) I J := by
    intro m
    induction m with
    | zero => intro p _ h; omega
    | succ m ih =>
      intro k hk hm
      show w_X11_seenSigns_4_s post _ _ _ I J
      unfold w_X11_seenSigns_4_s
      rw [show (12 : Int32) = nI 12 from rfl, pf_le (by omega) (by omega), pf_cl (by omega)]
      refine ⟨fun e => ?_, fun e => ⟨vp_in_nI (by omega) (by omega), ?_⟩⟩
      · rw [show k = 12 by omega]; exact h
      · obtain ⟨o1, o2⟩ := ho k (by omega)
        rw [o2, nI_1, nI_add]
        rintro _ rfl _ rfl
        exact ih (k + 1) (by omega) (by omega)
  exact ⟨13, loop 13 0 (by omega) (by omega)⟩
theorem q_counts {I : sI} {J : sJ} {post : sI → sJ → Prop} {G P : Nat} {s κ : Nat → Nat} (hw : tWD G P s κ) (hc : mD G P s κ I) (h : ∀ I2 : sI, (∀ q, ¬ (q = 248 ∨ q = 272) → I2 q = I q) → (∀ k, ¬ (k = 42 ∨ k = 43) → I2 248 k = I 248 k) → (∀ k, k < 13 → I2 272 k = nI (oft κ P k)) → I2 248 42 = nI (sumN (oft κ P) 12) → I2 248 43 = nI (cnt (fun k => 0 < oft κ P k) 12) → post I2 J) : w_X12_counts I J post := by
  have hP := hw.2.1
  have hκ := hw.2.2.2.2.2
  have loop3 : ∀ m k (I1 : sI), k ≤ 12 → 12 - k < m → (∀ q, ¬ (q = 248 ∨ q = 272) → I1 q = I q) → (∀ k, ¬ (k = 42 ∨ k = 43) → I1 248 k = I 248 k) → (∀ k, k < 13 → I1 272 k = nI (oft κ P k)) → I1 248 42 = nI (sumN (oft κ P) k) → I1 248 43 = nI (cnt (fun k => 0 < oft κ P k) k) → w_X12_counts_64_n post m (nI k) I1 J := by
    intro m
    induction m with
    | zero => intro p I1 _ h; omega
    | succ m ih =>
      intro k I1 hk hm hr hs ho h1 h2
      show w_X12_counts_64_s post _ _ I1 J
      unfold w_X12_counts_64_s w_X12_counts_104 w_X12_flag
      rw [show (12 : Int32) = nI 12 from rfl, pf_le (by omega) (by omega), pf_cl (by omega)]
      refine ⟨fun e => ?_, fun e => ⟨vp_in_nI (by omega) (by omega), ?_⟩⟩
      · have e : k = 12 := by omega
        subst e
        exact h I1 hr hs ho h1 h2
      · have ol := oft_le κ P k
        rw [h1, ho k (by omega), nI_add]
        rintro _ rfl
        rw [sUI_ne (by omega), ho k (by omega), pf_le0 (by omega), show (sUI I1 248 42 (nI (sumN (oft κ P) k + oft κ P k))) 248 43 = nI (cnt (fun k => 0 < oft κ P k) k) from h2, nI_1]
        have st : ∀ x : Int32, x = nI (cnt (fun k => 0 < oft κ P k) (k + 1)) → ∀ v1_111 : Int32, v1_111 = nI (k + 1) → w_X12_counts_64_n post m v1_111 (sUI (sUI I1 248 42 (nI (sumN (oft κ P) k + oft κ P k))) 248 43 x) J := by
          rintro x e _ rfl
          refine ih (k + 1) _ (by omega) (by omega) (fun q hq => by rw [sUI_ne (by omega), sUI_ne (by omega), hr q hq]) (fun j hj => ?_) (fun j hj => ?_) rfl e
          · rw [pf_uis, pf_uis, if_neg (by omega), if_neg (by omega), hs j hj]
          · rw [sUI_ne (by omega), sUI_ne (by omega), ho j hj]
        refine ⟨vp_in_nI (by omega) (by omega), fun y => b1 rfl ?_, fun y => b2 (by decide) ?_⟩
        · rintro _ rfl
          exact st _ (by rw [show ∀ x : Int32, x + 0 = x from fun x => Int32.add_zero x, c_n (p := fun k => 0 < oft κ P k) (by omega)])
        · rintro _ rfl
          exact st _ (by rw [c_s (p := fun k => 0 < oft κ P k) (by omega)])
  have loop2 : ∀ m p (I1 : sI), p ≤ P → P - p < m → (∀ q, ¬ (q = 248 ∨ q = 272) → I1 q = I q) → (∀ k, ¬ (k = 42 ∨ k = 43) → I1 248 k = I 248 k) → I1 248 42 = 0 → I1 248 43 = 0 → (∀ k, k < 13 → I1 272 k = nI (oft κ p k)) → w_X12_counts_33_n post m (nI p) I1 J := by
    intro m
    induction m with
    | zero => intro p I1 _ h; omega
    | succ m ih =>
      intro p I1 hp hm hr hs z1 z2 hk
      show w_X12_counts_33_s post _ _ I1 J
      unfold w_X12_counts_33_s
      rw [hs 12 (by omega), hc.2.1, pf_le (by omega) (by omega), pf_cl (by omega), hr 254 (by omega)]
      refine ⟨fun e => ?_, fun e => ⟨vp_in_nI (by omega) (by omega), ?_⟩⟩
      · rw [show p = P by omega] at hk
        exact ⟨13, loop3 13 0 I1 (by omega) (by omega) hr hs hk z1 z2⟩
      · have := hκ p (by omega)
        rw [hc.2.2.2 p (by omega), pf_cl (by omega)]
        refine ⟨vp_in_nI (by omega) (by omega), vp_in_nI (by omega) (by omega), ?_⟩
        rintro _ rfl _ rfl
        rw [nI_1]
        refine ih (p + 1) _ (by omega) (by omega) (fun q hq => by rw [sUI_ne (by omega), hr q hq]) (fun k hq => by rw [sUI_ne (by omega), hs k hq]) z1 z2 (fun k hk2 => ?_)
        rw [pf_uis]
        by_cases e2 : k = κ p
        · rw [if_pos e2, hk _ (by omega), nI_1, e2, oft_s]
        · rw [if_neg e2, hk k hk2, oft_n e2]
  have loop1 : ∀ m k (I1 : sI), k ≤ 13 → 13 - k < m → (∀ q, ¬ (q = 248 ∨ q = 272) → I1 q = I q) → (∀ k, ¬ (k = 42 ∨ k = 43) → I1 248 k = I 248 k) → I1 248 42 = 0 → I1 248 43 = 0 → (∀ j, j < k → I1 272 j = nI 0) → w_X12_counts_12_n post m (nI k) I1 J := by
    intro m
    induction m with
    | zero => intro p I1 _ h; omega
    | succ m ih =>
      intro k I1 hk hm hr hs z1 z2 hz
      show w_X12_counts_12_s post _ _ I1 J
      unfold w_X12_counts_12_s
      rw [show (12 : Int32) = nI 12 from rfl, pf_lt (by omega) (by omega)]
      refine ⟨fun e => ?_, fun e => ⟨vp_in_nI (by omega) (by omega), ?_⟩⟩
      · exact ⟨P + 1, loop2 (P + 1) 0 I1 (by omega) (by omega) hr hs z1 z2 (fun j hj => hz j (by omega))⟩
      · rw [pf_cl (by omega)]
        rintro _ rfl _ rfl
        rw [nI_1]
        refine ih (k + 1) _ (by omega) (by omega) (fun q hq => by rw [sUI_ne (by omega), hr q hq]) (fun k hq => by rw [sUI_ne (by omega), hs k hq]) z1 z2 (fun j hj => ?_)
        rw [pf_uis]
        by_cases e2 : j = k
        · rw [if_pos e2]; rfl
        · rw [if_neg e2, hz j (by omega)]
  unfold w_X12_counts
  rintro _ rfl _ rfl
  refine ⟨14, loop1 14 0 _ (by omega) (by omega) (fun q hq => by rw [sUI_ne (by omega), sUI_ne (by omega)]) (fun k hk => ?_) rfl rfl (fun j hj => by omega)⟩
  rw [pf_uis, pf_uis, if_neg (by omega), if_neg (by omega)]
/-- numbers put one by one, class and model -/
theorem q_kindsC {I : sI} {J : sJ} {post : Int32 → sI → sJ → Prop} {G P : Nat} {s κ : Nat → Nat} (hw : tWD G P s κ) (hc : cD G P s κ 4 I) (h : ∀ (I2 : sI) (J2 : sJ), (∀ q, ¬ (q = 247 ∨ q = 134) → I2 q = I q) → I2 134 1 = nI 13 → (∀ k, k < 13 → J2 135 k = (nI (oft κ P k)).toInt64) → (∀ q, ¬ q = 135 → J2 q = J q) → post (nI (cnt (fun k => 0 < oft κ P k) 12)) I2 J2) : w_X11_kinds I J post := by
  have hP := hw.2.1
  unfold w_X11_kinds
  refine q_countKinds hw hc (fun I2 hr ho => ?_)
  rintro _ rfl
  have loop : ∀ m k (I1 : sI) (J1 : sJ), k ≤ 13 → 13 - k < m → (∀ q, ¬ q = 134 → I1 q = I2 q) → I1 134 1 = nI k → (∀ j, j < k → J1 135 j = (nI (oft κ P j)).toInt64) → (∀ q, ¬ q = 135 → J1 q = J q) → w_X11_kinds_24_n post m (nI k) I1 J1 := by
    intro m
    induction m with
    | zero => intro p I1 J1 _ h; omega
    | succ m ih =>
      intro k I1 J1 hk hm r1 e1 j1 j2
      show w_X11_kinds_24_s post _ _ I1 J1
      unfold w_X11_kinds_24_s
      rw [show (12 : Int32) = nI 12 from rfl, pf_lt (by omega) (by omega), pf_cl (by omega), r1 247 (by omega)]
      refine ⟨fun e => ?_, fun e => ⟨vp_in_nI (by omega) (by omega), ?_⟩⟩
      · refine q_unlike (o := oft κ P) (fun k hk => ⟨by have := oft_le κ P k; omega, by rw [r1 247 (by omega), ho k hk]⟩) ?_
        exact h I1 J1 (fun q hq => by rw [r1 q (by omega), hr q (by omega)]) (by rw [e1, show k = 13 by omega]) (fun j hj => j1 j (by omega)) j2
      · refine q_X6_put (h := 134) (by decide) e1 (by omega) ?_
        rw [ho k (by omega)]
        rintro _ rfl
        rw [nI_1]
        refine ih (k + 1) _ _ (by omega) (by omega) (fun q hq => by rw [sUI_ne hq, r1 q hq]) rfl (fun j hj => ?_) (fun q hq => by rw [sUJ_ne (by omega), j2 q hq])
        rw [pf_ujs]
        by_cases e2 : j = k
        · rw [if_pos e2, e2]
        · rw [if_neg e2, j1 j (by omega)]
  exact ⟨14, loop 14 0 _ J (by omega) (by omega) (fun q hq => by rw [sUI_ne hq]) (by rw [sUI_eq]; rfl) (fun j hj => by omega) (fun _ _ => rfl)⟩
theorem q_kindsM {I : sI} {J : sJ} {post : Int32 → sI → sJ → Prop} {G P : Nat} {s κ : Nat → Nat} (hw : tWD G P s κ) (hm : mD G P s κ I) (h : ∀ (I2 : sI) (J2 : sJ), (∀ q, ¬ (q = 248 ∨ q = 272) → I2 q = I q) → (∀ k, ¬ (k = 0 ∨ k = 1 ∨ k = 42 ∨ k = 43) → I2 248 k = I 248 k) → I2 248 1 = nI 13 → (∀ k, k < 13 → J2 249 k = (nI (oft κ P k)).toInt64) → (∀ q, ¬ q = 249 → J2 q = J q) → post (nI (cnt (fun k => 0 < oft κ P k) 12)) I2 J2) : w_X12_kinds I J post := by
  have hP := hw.2.1
  unfold w_X12_kinds
  rintro _ rfl
  refine q_counts (I := sUI I 248 0 0) hw hm (fun I2 hr hs ho h42 h43 => ?_)
  rintro _ rfl
  have loop : ∀ m k (I1 : sI) (J1 : sJ), k ≤ 13 → 13 - k < m → (∀ q, ¬ q = 248 → I1 q = I2 q) → (∀ j, ¬ j = 1 → I1 248 j = I2 248 j) → I1 248 1 = nI k → (∀ j, j < k → J1 249 j = (nI (oft κ P j)).toInt64) → (∀ q, ¬ q = 249 → J1 q = J q) → w_X12_kinds_16_n post m (nI k) I1 J1 := by
    intro m
    induction m with
    | zero => intro p I1 J1 _ h; omega
    | succ m ih =>
      intro k I1 J1 hk hm r1 s1 e1 j1 j2
      show w_X12_kinds_16_s post _ _ I1 J1
      unfold w_X12_kinds_16_s
      rw [show (12 : Int32) = nI 12 from rfl, pf_lt (by omega) (by omega), pf_cl (by omega), r1 272 (by omega)]
      refine ⟨fun e => ?_, fun e => ⟨vp_in_nI (by omega) (by omega), ?_⟩⟩
      · rw [s1 43 (by omega), h43]
        refine h I1 J1 (fun q hq => ?_) (fun j hj => ?_) (by rw [e1, show k = 13 by omega]) (fun j hj => j1 j (by omega)) j2
        · rw [r1 q (by omega), hr q hq, sUI_ne (by omega)]
        · rw [s1 j (by omega), hs j (by omega), pf_uis, if_neg (by omega)]
      · refine q_enters e1 (by omega) ?_
        rw [ho k (by omega)]
        rintro _ rfl
        rw [nI_1]
        refine ih (k + 1) _ _ (by omega) (by omega) (fun q hq => by rw [sUI_ne hq, r1 q hq]) (fun j hj => by rw [pf_uis, if_neg hj, s1 j hj]) rfl (fun j hj => ?_) (fun q hq => by rw [sUJ_ne (by omega), j2 q hq])
        rw [pf_ujs]
        by_cases e2 : j = k
        · rw [if_pos e2, e2]
        · rw [if_neg e2, j1 j (by omega)]
  exact ⟨14, loop 14 0 _ J (by omega) (by omega) (fun q hq => by rw [sUI_ne hq]) (fun j hj => by rw [pf_uis, if_neg hj]) (by rw [sUI_eq]; rfl) (fun j hj => by omega) (fun _ _ => rfl)⟩
/-- the told disc -/
theorem d_get {I : sI} (hD : RD I) : ∃ (G P : Nat) (s κ : Nat → Nat), tWD G P s κ ∧ cD G P s κ 4 I ∧ mD G P s κ I := by
  obtain ⟨⟨G, P, s, κ, n, ob, oa, h, d, bk, fi⟩, hw, hc, hm⟩ := hD
  exact ⟨G, P, s, κ, hw.1, hc.1, hm.1⟩
theorem mD_congr {G P : Nat} {s κ : Nat → Nat} {I I2 : sI} (h : mD G P s κ I) (a : I2 248 11 = I 248 11) (b : I2 248 12 = I 248 12) (c : I2 253 = I 253) (d : I2 254 = I 254) : mD G P s κ I2 := by
  unfold mD at *
  rw [a, b, c, d]
  exact h
theorem S_kinds {I : sI} {J : sJ} (hR : RR0 I J) : St w_X11_kinds w_X12_kinds I J := by
  obtain ⟨hT, hD, hK, hW, hC, hQ, hX⟩ := hR
  obtain ⟨G, P, s, κ, hw, hc, hm⟩ := d_get hD
  refine q_kindsC hw hc (fun I1 J1 ra e1 ja jb => ?_)
  refine q_kindsM hw (mD_congr hm (by rw [ra 248 (by omega)]) (by rw [ra 248 (by omega)]) (ra _ (by omega)) (ra _ (by omega))) (fun I2 J2 rb sb e2 jc jd => ?_)
  have r1 : ∀ q, ¬ (q = 134 ∨ q = 247 ∨ q = 248 ∨ q = 272) → I2 q = I q := fun q hq => by rw [rb q (by omega), ra q (by omega)]
  have s1 : ∀ k, ¬ (k = 0 ∨ k = 1 ∨ k = 42 ∨ k = 43) → I2 248 k = I 248 k := fun k hk => by rw [sb k hk, ra 248 (by omega)]
  refine ⟨rfl, (RT_congr hT (by rw [r1 1 (by omega)]) (r1 2 (by omega)) (s1 4 (by omega)) (r1 250 (by omega))), (RD_congr hD (fun q h1 h2 => r1 q (by omega)) (r1 253 (by omega)) (r1 254 (by omega)) (r1 255 (by omega)) (r1 256 (by omega)) (r1 276 (by omega)) (s1 11 (by omega)) (s1 12 (by omega)) (s1 15 (by omega)) (s1 21 (by omega)) (s1 22 (by omega)) (s1 23 (by omega))), (RK_congr hK (fun q h1 h2 => r1 q (by omega)) (r1 279 (by omega)) (r1 280 (by omega))), (RW_congr hW (fun q h1 h2 => r1 q (by omega)) (r1 257 (by omega)) (r1 258 (by omega)) (r1 259 (by omega))), (RC_congr hC (fun q h1 h2 => r1 q (by omega)) (by rw [r1 227 (by omega)]) (s1 46 (by omega)) (r1 275 (by omega))), ⟨13, by omega, by rw [rb 134 (by omega), e1], e2, fun i hi => ?_⟩, (RX_congr hX (by rw [r1 0 (by omega)]) (s1 37 (by omega)) (by rw [r1 0 (by omega)]) (s1 33 (by omega)) (by rw [r1 141 (by omega)]))⟩
  rw [jd 135 (by omega), ja i hi, jc i hi]
