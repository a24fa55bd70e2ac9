/-- how many ways to choose, as both sides reckon it -/
def chN (d : Nat) : Nat → Nat
  | 0 => 1
  | i + 1 => chN d i * (d + (i + 1)) / (i + 1)
def chA (n k : Nat) : Nat := if k ≤ n then chN (n - k) k else 0
theorem chN_lt : ∀ d, d < 61 → ∀ i, i < 61 → d + i ≤ 59 → chN d i < 60000000000000000 := by decide +kernel
theorem chA_45 : ∀ n, n < 46 → ∀ k, k < 46 → chA n k ≤ 2 ^ n ∧ chA n k < 8796093022208 ∧ (k ≤ n → 0 < chA n k) := by decide +kernel
theorem q_X11_choose {I : sI} {J : sJ} {post : Int64 → sI → sJ → Prop} {n k : Nat} (hn : n ≤ 60) (hk : k ≤ 60) (h : post (lN (chA n k)) I J) : w_X11_choose (nI n) (nI k) I J post := by
  unfold w_X11_choose
  refine b2 (pf_lt0 (by omega)) ?_
  rw [pf_le (by omega) (by omega)]
  unfold chA at h
  refine ⟨fun e => ?_, fun e => by rw [if_neg e] at h; exact h⟩
  rw [if_pos e] at h
  have loop : ∀ m i, i ≤ k → k - i < m → w_X11_choose_16_n post m (nI n) (nI k) (lN (chN (n - k) i)) (nI (i + 1)) I J := by
    intro m
    induction m with
    | zero => intro i _ h; omega
    | succ m ih =>
      intro i hi hm
      show w_X11_choose_16_s post _ _ _ _ _ I J
      unfold w_X11_choose_16_s
      rw [pf_lt (by omega) (by omega)]
      refine ⟨fun e => ?_, fun e => ?_⟩
      · rw [show i = k by omega]; exact h
      · have c1 := chN_lt (n - k) (by omega) i (by omega) (by omega)
        have c2 : chN (n - k) i * (n - k + (i + 1)) ≤ 60000000000000000 * 60 := Nat.mul_le_mul (by omega) (by omega)
        rw [pk_sub (by omega), nI_add, nI_l (by omega), nI_l (by omega), lN_mul, pk_lDiv (by omega) (by omega) (by omega), nI_1]
        refine ⟨by rw [lN_z (by omega)]; omega, ?_⟩
        rintro _ rfl _ rfl
        exact ih (i + 1) (by omega) (by omega)
  exact ⟨k + 1, loop (k + 1) 0 (by omega) (by omega)⟩
theorem q_X12_choices {I : sI} {J : sJ} {post : Int64 → sI → sJ → Prop} {n k : Nat} (hn : n ≤ 60) (hk : k ≤ 60) (h : post (lN (chA n k)) I J) : w_X12_choices (nI n) (nI k) I J post := by
  unfold w_X12_choices
  refine b2 (pf_lt0 (by omega)) ?_
  rw [pf_le (by omega) (by omega)]
  unfold chA at h
  refine ⟨fun e => ?_, fun e => by rw [if_neg e] at h; exact h⟩
  rw [if_pos e] at h
  have loop : ∀ m i, i ≤ k → k - i < m → w_X12_choices_16_n post m (nI n) (nI k) (lN (chN (n - k) i)) (nI (i + 1)) I J := by
    intro m
    induction m with
    | zero => intro i _ h; omega
    | succ m ih =>
      intro i hi hm
      show w_X12_choices_16_s post _ _ _ _ _ I J
      unfold w_X12_choices_16_s
      rw [pf_lt (by omega) (by omega)]
      refine ⟨fun e => ?_, fun e => ?_⟩
      · rw [show i = k by omega]; exact h
      · have c1 := chN_lt (n - k) (by omega) i (by omega) (by omega)
        have c2 : chN (n - k) i * (n - k + (i + 1)) ≤ 60000000000000000 * 60 := Nat.mul_le_mul (by omega) (by omega)
        rw [pk_sub (by omega), nI_add, nI_l (by omega), nI_l (by omega), lN_mul, pk_lDiv (by omega) (by omega) (by omega), nI_1]
        refine ⟨by rw [lN_z (by omega)]; omega, ?_⟩
        rintro _ rfl _ rfl
        exact ih (i + 1) (by omega) (by omega)
  exact ⟨k + 1, loop (k + 1) 0 (by omega) (by omega)⟩
theorem sumN_le {o : Nat → Nat} {B : Nat} : ∀ {n : Nat}, (∀ i, i < n → o i ≤ B) → sumN o n ≤ n * B
  | 0, _ => by rw [sumN]; omega
  | n + 1, h => by
    have := sumN_le (n := n) (fun i hi => h i (by omega))
    have := h n (by omega)
    rw [sumN, Nat.succ_mul]; omega
theorem chA_2 (n : Nat) : chA n 2 = n * (n - 1) / 2 := by
  unfold chA
  by_cases e : 2 ≤ n
  · obtain ⟨d, rfl⟩ : ∃ d, n = d + 2 := ⟨n - 2, by omega⟩
    rw [if_pos e]
    show (1 * (d + 2 - 2 + (0 + 1)) / (0 + 1)) * (d + 2 - 2 + (1 + 1)) / (1 + 1) = _
    rw [Nat.add_sub_cancel, Nat.one_mul, Nat.zero_add, Nat.div_one, Nat.mul_comm, show d + 2 - 1 = d + 1 by omega]
  · rw [if_neg e]
    rcases (show n = 0 ∨ n = 1 by omega) with rfl | rfl <;> rfl
theorem q_likeC {I : sI} {J : sJ} {post : Int32 → sI → sJ → Prop} {G P : Nat} {s κ : Nat → Nat} (hw : tWD G P s κ) (hc : cD G P s κ 4 I) (h0 : sumN (oft κ P) 12 < 2 → ∀ I2 : sI, (∀ q, ¬ q = 247 → I2 q = I q) → post (-1) I2 J) (h : 2 ≤ sumN (oft κ P) 12 → ∀ I2 : sI, (∀ q, ¬ q = 247 → I2 q = I q) → w_X6_tellFraction 134 (lN (sumN (fun k => chA (oft κ P k) 2) 12)) (lN (chA (sumN (oft κ P) 12) 2)) I2 J (fun I3 J3 => post 0 I3 J3)) : w_X11_like I J post := by
  have hP := hw.2.1
  unfold w_X11_like
  refine q_countKinds hw hc (fun I2 hr ho => ?_)
  have ho2 : ∀ k, k < 13 → oft κ P k ≤ 60 ∧ I2 247 k = nI (oft κ P k) := fun k hk => ⟨by have := oft_le κ P k; omega, ho k hk⟩
  have hs := oft_sum κ P 12
  refine q_seen ho2 ?_
  rw [show (2 : Int32) = nI 2 from rfl, pf_le (by omega) (by omega)]
  refine ⟨fun e => ?_, fun e => h0 (by omega) I2 hr⟩
  have loop : ∀ m k, k ≤ 12 → 12 - k < m → w_X11_like_31_n post m (nI (sumN (oft κ P) 12)) (lN (sumN (fun k => chA (oft κ P k) 2) k)) (nI k) I2 J := by
    intro m
    induction m with
    | zero => intro p _ h; omega
    | succ m ih =>
      intro k hk hm
      show w_X11_like_31_s post _ _ _ _ I2 J
      unfold w_X11_like_31_s
      rw [show (12 : Int32) = nI 12 from rfl, pf_le (by omega) (by omega), pf_cl (by omega), show (2 : Int32) = nI 2 from rfl]
      refine ⟨fun e2 => ?_, fun e => ⟨vp_in_nI (by omega) (by omega), ?_⟩⟩
      · rw [show k = 12 by omega]
        exact q_X11_choose (by omega) (by omega) (h e I2 hr)
      · obtain ⟨o1, o2⟩ := ho2 k (by omega)
        rw [o2]
        refine q_X11_choose (by omega) (by omega) ?_
        rw [lN_add, nI_1]
        rintro _ rfl _ rfl
        exact ih (k + 1) (by omega) (by omega)
  exact ⟨13, loop 13 0 (by omega) (by omega)⟩
theorem tri_le {n : Nat} (h : n ≤ 60) : n * (n - 1) / 2 ≤ 1770 := by
  have := Nat.mul_le_mul h (show n - 1 ≤ 59 by omega)
  omega
theorem q_likeM {I : sI} {J : sJ} {post : Int32 → sI → sJ → Prop} {G P : Nat} {s κ : Nat → Nat} (hw : tWD G P s κ) (hm : mD G P s κ I) (h0 : sumN (oft κ P) 12 < 2 → ∀ I2 : sI, (∀ q, ¬ (q = 248 ∨ q = 272) → I2 q = I q) → (∀ k, ¬ (k = 0 ∨ k = 42 ∨ k = 43) → I2 248 k = I 248 k) → post (-1) I2 J) (h : 2 ≤ sumN (oft κ P) 12 → ∀ I2 : sI, (∀ q, ¬ (q = 248 ∨ q = 272) → I2 q = I q) → (∀ k, ¬ (k = 0 ∨ k = 1 ∨ k = 42 ∨ k = 43) → I2 248 k = I 248 k) → I2 248 1 = 0 → w_X12_entersFraction (lN (sumN (fun k => chA (oft κ P k) 2) 12)) (lN (chA (sumN (oft κ P) 12) 2)) I2 J (fun I3 J3 => post 0 I3 J3)) : w_X12_like I J post := by
  have hP := hw.2.1
  have hs := oft_sum κ P 12
  unfold w_X12_like
  rintro _ rfl
  refine q_counts (I := sUI I 248 0 0) hw hm (fun I2 hr hs2 ho h42 h43 => ?_)
  have f1 : ∀ q, ¬ (q = 248 ∨ q = 272) → I2 q = I q := fun q hq => by rw [hr q hq, sUI_ne (by omega)]
  have f2 : ∀ k, ¬ (k = 0 ∨ k = 42 ∨ k = 43) → I2 248 k = I 248 k := fun j hj => by rw [hs2 j (by omega), pf_uis, if_neg (by omega)]
  rw [h42, show (2 : Int32) = nI 2 from rfl, pf_le (by omega) (by omega)]
  refine ⟨fun e => ?_, fun e => h0 (by omega) I2 f1 f2⟩
  have loop : ∀ m k, k ≤ 12 → 12 - k < m → w_X12_like_23_n post m (nI (sumN (fun k => chA (oft κ P k) 2) k)) (nI k) I2 J := by
    intro m
    induction m with
    | zero => intro p _ h; omega
    | succ m ih =>
      intro k hk hm
      show w_X12_like_23_s post _ _ _ I2 J
      unfold w_X12_like_23_s
      rw [show (12 : Int32) = nI 12 from rfl, pf_le (by omega) (by omega), pf_cl (by omega), show (2 : Int32) = nI 2 from rfl]
      refine ⟨fun e2 => ?_, fun e => ⟨vp_in_nI (by omega) (by omega), vp_in_nI (by omega) (by omega), ?_⟩⟩
      · rintro _ rfl
        have b := sumN_le (o := fun k => chA (oft κ P k) 2) (B := 1770) (n := k) (fun i hi => by
          show chA _ 2 ≤ _
          rw [chA_2]
          have := oft_le κ P i
          exact tri_le (by omega))
        have b2 : k * 1770 ≤ 12 * 1770 := Nat.mul_le_mul_right _ hk
        have b3 := Nat.mul_le_mul (show sumN (oft κ P) 12 ≤ 60 by omega) (show sumN (oft κ P) 12 - 1 ≤ 59 by omega)
        rw [show (sUI I2 248 1 0) 248 42 = nI (sumN (oft κ P) 12) from h42, show (1 : Int32) = nI 1 from rfl, pk_sub (by omega), nI_l (by omega), nI_l (by omega), nI_l (by omega), lN_mul, show (2 : Int64) = lN 2 from rfl, pk_lDiv (by omega) (by omega) (by omega), ← chA_2, show k = 12 by omega]
        refine h e (sUI I2 248 1 0) (fun q hq => by rw [sUI_ne (by omega), f1 q hq]) (fun j hj => by rw [pf_uis, if_neg (by omega), f2 j (by omega)]) rfl
      · have o1 := oft_le κ P k
        rw [ho k (by omega)]
        have e3 : nI (oft κ P k) * (nI (oft κ P k) - 1) / nI 2 = nI (chA (oft κ P k) 2) := by
          rw [chA_2]
          rcases Nat.eq_zero_or_pos (oft κ P k) with z | z
          · rw [z]; rfl
          · have b3 := Nat.mul_le_mul (show oft κ P k ≤ 60 by omega) (show oft κ P k - 1 ≤ 59 by omega)
            rw [show (1 : Int32) = nI 1 from rfl, pk_sub (by omega), pk_mul, pk_div (by omega) (by omega) (by omega)]
        rw [e3, nI_add, nI_1]
        rintro _ rfl _ rfl
        exact ih (k + 1) (by omega) (by omega)
  exact ⟨13, loop 13 0 (by omega) (by omega)⟩
theorem S_like {I : sI} {J : sJ} (hR : RR0 I J) : St w_X11_like w_X12_like I J := by
  obtain ⟨hT, hD, hK, hW, hC, hQ, hX⟩ := hR
  obtain ⟨G, P, s, κ, hw, hc, hm⟩ := d_get hD
  have hP := hw.2.1
  have hs := oft_sum κ P 12
  have b := sumN_le (o := fun k => chA (oft κ P k) 2) (B := 1770) (n := 12) (fun i hi => by
    show chA _ 2 ≤ _
    rw [chA_2]
    have := oft_le κ P i
    exact tri_le (by omega))
  have b2 : chA (sumN (oft κ P) 12) 2 ≤ 1770 := by rw [chA_2]; exact tri_le (by omega)
  refine q_likeC hw hc (fun e I1 ra => ?_) (fun e I1 ra => ?_)
  · refine q_likeM hw (mD_congr hm (by rw [ra 248 (by omega)]) (by rw [ra 248 (by omega)]) (ra _ (by omega)) (ra _ (by omega))) (fun _ I2 rb sb => ?_) (fun q => by omega)
    have r1 : ∀ q, ¬ (q = 247 ∨ q = 248 ∨ q = 272) → I2 q = I q := fun q hq => by rw [rb q (by omega), ra q (by omega)]
    have s1 : ∀ k, ¬ (k = 0 ∨ k = 42 ∨ k = 43) → I2 248 k = I 248 k := fun k hk => by rw [sb k hk, ra 248 (by omega)]
    exact ⟨rfl, (RT_congr hT (by rw [r1 1 (by omega)]) (r1 2 (by omega)) (s1 4 (by omega)) (r1 250 (by omega))), (RD_congr hD (fun q h1 h2 => r1 q (by omega)) (r1 253 (by omega)) (r1 254 (by omega)) (r1 255 (by omega)) (r1 256 (by omega)) (r1 276 (by omega)) (s1 11 (by omega)) (s1 12 (by omega)) (s1 15 (by omega)) (s1 21 (by omega)) (s1 22 (by omega)) (s1 23 (by omega))), (RK_congr hK (fun q h1 h2 => r1 q (by omega)) (r1 279 (by omega)) (r1 280 (by omega))), (RW_congr hW (fun q h1 h2 => r1 q (by omega)) (r1 257 (by omega)) (r1 258 (by omega)) (r1 259 (by omega))), (RC_congr hC (fun q h1 h2 => r1 q (by omega)) (by rw [r1 227 (by omega)]) (s1 46 (by omega)) (r1 275 (by omega))), (RR_congr hQ (by rw [r1 134 (by omega)]) (s1 1 (by omega)) rfl rfl), (RX_congr hX (by rw [r1 0 (by omega)]) (s1 37 (by omega)) (by rw [r1 0 (by omega)]) (s1 33 (by omega)) (by rw [r1 141 (by omega)]))⟩
  · have b3 : 0 < chA (sumN (oft κ P) 12) 2 := by
      rw [chA_2]
      have := Nat.mul_le_mul e (show 1 ≤ sumN (oft κ P) 12 - 1 by omega)
      omega
    refine q_tellFraction (by omega) (by omega) b3 ?_
    refine q_likeM hw (mD_congr hm (ra 248 (by omega) ▸ rfl) (ra 248 (by omega) ▸ rfl) (ra _ (by omega)) (ra _ (by omega))) (fun q => by omega) (fun _ I2 rb sb e0 => ?_)
    refine q_entersFraction (by rw [e0]; rfl) (by omega) (by omega) b3 ?_
    have r1 : ∀ q, ¬ (q = 134 ∨ q = 247 ∨ q = 248 ∨ q = 272) → (sUI (sUI I2 248 1 (nI 1)) 248 1 (nI 2)) q = I q := fun q hq => by rw [sUI_ne (by omega), sUI_ne (by omega), rb q (by omega), sUI_ne (by omega), sUI_ne (by omega), sUI_ne (by omega), ra q (by omega)]
    have s1 : ∀ k, ¬ (k = 0 ∨ k = 1 ∨ k = 42 ∨ k = 43) → (sUI (sUI I2 248 1 (nI 1)) 248 1 (nI 2)) 248 k = I 248 k := fun k hk => by rw [pf_uis, pf_uis, if_neg (by omega), if_neg (by omega), sb k hk, sUI_ne (by omega), sUI_ne (by omega), sUI_ne (by omega), ra 248 (by omega)]
    refine ⟨rfl, (RT_congr hT (by rw [r1 1 (by omega)]) (r1 2 (by omega)) (s1 4 (by omega)) (r1 250 (by omega))), (RD_congr hD (fun q h1 h2 => r1 q (by omega)) (r1 253 (by omega)) (r1 254 (by omega)) (r1 255 (by omega)) (r1 256 (by omega)) (r1 276 (by omega)) (s1 11 (by omega)) (s1 12 (by omega)) (s1 15 (by omega)) (s1 21 (by omega)) (s1 22 (by omega)) (s1 23 (by omega))), (RK_congr hK (fun q h1 h2 => r1 q (by omega)) (r1 279 (by omega)) (r1 280 (by omega))), (RW_congr hW (fun q h1 h2 => r1 q (by omega)) (r1 257 (by omega)) (r1 258 (by omega)) (r1 259 (by omega))), (RC_congr hC (fun q h1 h2 => r1 q (by omega)) (by rw [r1 227 (by omega)]) (s1 46 (by omega)) (r1 275 (by omega))), RR_2 ?_ rfl rfl rfl rfl rfl, (RX_congr hX (by rw [r1 0 (by omega)]) (s1 37 (by omega)) (by rw [r1 0 (by omega)]) (s1 33 (by omega)) (by rw [r1 141 (by omega)]))⟩
    rw [sUI_ne (by omega), sUI_ne (by omega), rb 134 (by omega)]; rfl
