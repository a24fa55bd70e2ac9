theorem msk_self {b n : Nat} (h : b < 2 ^ n) : msk (fun i => b.testBit i = true) n = b := by
  apply Nat.eq_of_testBit_eq
  intro i
  rw [Bool.eq_iff_iff, msk_in]
  refine ⟨fun q => q.2, fun q => ⟨?_, q⟩⟩
  rcases Nat.lt_or_ge i n with x | x
  · exact x
  · have := Nat.pow_le_pow_right (show 0 < 2 by omega) x
    rw [Nat.testBit_lt_two_pow (by omega)] at q
    exact absurd q (by decide)
noncomputable def pcB (b : Nat) : Nat := cnt (fun i => b.testBit i = true) 12
theorem pcB_le (b : Nat) : pcB b ≤ 12 := cnt_le _ _
theorem q_bitN {I : sI} {J : sJ} {post : Int32 → sI → sJ → Prop} {b : Nat} (hb : b < 4096) (h : post (nI (pcB b)) I J) : w_J6_bitCount_0f7a4 (nI b) I J post := by
  have := q_bitCount (I := I) (J := J) (post := post) (p := fun i => b.testBit i = true) (n := 12) (by omega) h
  rw [msk_self (n := 12) hb] at this
  exact this
theorem cnt_0 {p : Nat → Prop} : ∀ {n : Nat}, (∀ i, i < n → ¬ p i) → cnt p n = 0
  | 0, _ => rfl
  | n + 1, h => by rw [cnt_n (h n (by omega)), cnt_0 (fun i hi => h i (by omega))]
theorem cnt_one {p q : Nat → Prop} {n : Nat} (hp : p n) (hq : ¬ q n) (h : ∀ i, i ≠ n → (p i ↔ q i)) : ∀ {N : Nat}, n < N → cnt p N = cnt q N + 1
  | 0, hn => by omega
  | N + 1, hn => by
    by_cases e : N = n
    · subst e
      rw [cnt_s hp, cnt_n hq, cnt_congr (fun i hi => h i (by omega))]
    · have ih := cnt_one hp hq h (N := N) (by omega)
      by_cases z : p N
      · rw [cnt_s z, cnt_s ((h N e).mp z), ih]
      · rw [cnt_n z, cnt_n (fun w => z ((h N e).mpr w)), ih]
theorem pcB_add {n b : Nat} (hn : n < 12) (hb : b < 2 ^ n) : pcB (2 ^ n + b) = pcB b + 1 := by
  refine cnt_one (n := n) ?_ ?_ (fun i hi => ?_) hn
  · rw [Nat.testBit_two_pow_add_eq, Nat.testBit_lt_two_pow hb]; rfl
  · rw [Nat.testBit_lt_two_pow hb]; decide
  · rcases Nat.lt_or_ge i n with x | x
    · rw [Nat.testBit_two_pow_add_gt x]
    · have l := Nat.pow_le_pow_right (show 0 < 2 by omega) (show n + 1 ≤ i by omega)
      rw [Nat.pow_succ] at l
      rw [Nat.testBit_lt_two_pow (show 2 ^ n + b < 2 ^ i by omega), Nat.testBit_lt_two_pow (show b < 2 ^ i by omega)]
theorem sumN_split (o : Nat → Nat) (a : Nat) : ∀ b, sumN o (a + b) = sumN o a + sumN (fun i => o (a + i)) b
  | 0 => rfl
  | b + 1 => by
    rw [show a + (b + 1) = a + b + 1 by omega, sumN, sumN_split o a b, sumN]
    omega
def aF : Nat → (Nat → Nat) → Nat
  | 0, f => f 0
  | n + 1, f => aF n f + aF n (fun j => f (j + 1))
theorem aF_eq : ∀ n, n ≤ 12 → ∀ f : Nat → Nat, sumN (fun b => f (pcB b)) (2 ^ n) = aF n f
  | 0, _, f => by
    show sumN _ 0 + f (pcB 0) = f 0
    rw [show pcB 0 = 0 from cnt_0 (fun i _ => by rw [Nat.zero_testBit]; decide), sumN, Nat.zero_add]
  | n + 1, hn, f => by
    rw [show 2 ^ (n + 1) = 2 ^ n + 2 ^ n by rw [Nat.pow_succ]; omega, sumN_split, aF_eq n (by omega) f, aF, ← aF_eq n (by omega) (fun j => f (j + 1))]
    congr 1
    exact sumN_congr (fun i hi => by rw [pcB_add (by omega) hi])
def ltC (n e one : Nat) : Nat := if max one (n - one) < e then 0 else chA n one
def ltM (n e j : Nat) : Nat := if max j (n - j) < e then 0 else 1
theorem lt_eq : ∀ n, n < 13 → ∀ e, e < 13 → sumN (ltC n e) (n + 1) = aF n (ltM n e) ∧ aF n (ltM n e) ≤ 4096 := by decide +kernel
theorem pw12 : ∀ n, n < 13 → 2 ^ n ≤ 4096 := by decide
theorem pcB_n {b n : Nat} (hn : n ≤ 12) (hb : b < 2 ^ n) : pcB b ≤ n := by
  unfold pcB
  have e : ∀ k, cnt (fun i => b.testBit i = true) (n + k) ≤ n := by
    intro k
    induction k with
    | zero => exact cnt_le _ _
    | succ k ih =>
      rw [show n + (k + 1) = n + k + 1 by omega, cnt_n]
      · exact ih
      · have := Nat.pow_le_pow_right (show 0 < 2 by omega) (show n ≤ n + k by omega)
        show ¬ b.testBit (n + k) = true
        rw [Nat.testBit_lt_two_pow (by omega)]; decide
  have := e (12 - n)
  rw [show n + (12 - n) = 12 by omega] at this
  exact this
theorem cnt_dj {p q : Nat → Prop} : ∀ {n : Nat}, (∀ i, i < n → p i → ¬ q i) → cnt p n + cnt q n ≤ n
  | 0, _ => by show 0 + 0 ≤ 0; omega
  | n + 1, h => by
    have := cnt_dj (n := n) (fun i hi => h i (by omega))
    by_cases a : p n
    · rw [cnt_s a, cnt_n (h n (by omega) a)]; omega
    · rw [cnt_n a]
      by_cases b : q n
      · rw [cnt_s b]; omega
      · rw [cnt_n b]; omega
theorem S_lot {I : sI} {J : sJ} (hR : RR0 I J) : St w_X11_lot w_X12_lot I J := by
  obtain ⟨hT, hD, hK, hW, hC, hQ, hX⟩ := hR
  obtain ⟨G, P, n, s, κ, ob, oa, hw, ho, hc, hm, hco, hmo⟩ := o_get hD
  have n2 : cnt (nbP G s ob oa 1) n + cnt (nbP G s ob oa 0) n ≤ n := cnt_dj (fun i _ a b => by
    obtain ⟨a, _⟩ := a
    obtain ⟨b, _⟩ := b
    omega)
  have hn := ho.1
  show w_X11_lot I J _
  unfold w_X11_lot
  refine q_nbC (w := 1) hw ho hc hco (by omega) ?_
  refine q_nbC (w := 0) hw ho hc hco (by omega) ?_
  rw [nI_add]
  rintro _ rfl
  refine q_max (by omega) (by omega) ?_
  obtain ⟨A, eA⟩ : ∃ A, A = cnt (nbP G s ob oa 1) n + cnt (nbP G s ob oa 0) n := ⟨_, rfl⟩
  obtain ⟨M, eM⟩ : ∃ M, M = max (cnt (nbP G s ob oa 1) n) (cnt (nbP G s ob oa 0) n) := ⟨_, rfl⟩
  have hM : M < 13 := by omega
  have hA : A < 13 := by omega
  obtain ⟨l1, l2⟩ := lt_eq A hA M hM
  have l3 := pw12 A hA
  have model : ∀ (I1 : sI) (J1 : sJ) (post : Int32 → sI → sJ → Prop), mD G P s κ I1 → mO n ob oa I1 → w_X12_entersFraction (lN (aF A (ltM A M))) (lN (2 ^ A)) (sUI (sUI I1 248 0 0) 248 1 0) J1 (fun I2 J2 => post 0 I2 J2) → w_X12_lot I1 J1 post := by
    intro I1 J1 post hm hmo hpost
    unfold w_X12_lot
    rintro _ rfl
    have hm' : mD G P s κ (sUI I1 248 0 0) := hm
    have hmo' : mO n ob oa (sUI I1 248 0 0) := hmo
    generalize sUI I1 248 0 0 = I2 at *
    refine q_nbM (w := 1) hw ho hm' hmo' (Or.inl ⟨rfl, rfl⟩) ?_
    refine q_nbM (w := 0) hw ho hm' hmo' (Or.inr ⟨rfl, rfl⟩) ?_
    rw [nI_add, ← eA]
    rintro _ rfl
    refine q_nbM (w := 1) hw ho hm' hmo' (Or.inl ⟨rfl, rfl⟩) ?_
    refine q_nbM (w := 0) hw ho hm' hmo' (Or.inr ⟨rfl, rfl⟩) ?_
    refine q_max (by omega) (by omega) ?_
    rw [← eM]
    have loop : ∀ m b, b ≤ 2 ^ A → 2 ^ A - b < m → w_X12_lot_36_n post m (nI A) (nI M) (nI (sumN (fun b => ltM A M (pcB b)) b)) (nI b) I2 J1 := by
      intro m
      induction m with
      | zero => intro i _ h; omega
      | succ m ih =>
        intro b hb hm2
        show w_X12_lot_36_s post _ _ _ _ _ I2 J1
        unfold w_X12_lot_36_s w_X12_lot_70 w_X12_flag
        rw [sh1 A (by omega), pf_le (by omega) (by omega)]
        refine ⟨fun e => ?_, fun e => ?_⟩
        · rw [show b = 2 ^ A by omega, aF_eq A (by omega), nI_l (n := aF A (ltM A M)) (by omega), show (1 : Int64) = lN 1 from rfl, wb_shl 1 (by omega), Nat.one_mul]
          rintro _ rfl
          exact hpost
        · have c := pcB_n (b := b) (show A ≤ 12 by omega) (by omega)
          refine q_bitN (by omega) ?_
          rw [pk_sub c]
          refine q_max (by omega) (by omega) ?_
          rw [pf_lt (by omega) (by omega), nI_1]
          have st : ∀ x : Nat, x = ltM A M (pcB b) → ∀ v3 : Int32, v3 = nI (sumN (fun b => ltM A M (pcB b)) b) + nI x → ∀ v4 : Int32, v4 = nI (b + 1) → w_X12_lot_36_n post m (nI A) (nI M) v3 v4 I2 J1 := by
            rintro x e2 _ rfl _ rfl
            rw [nI_add, e2]
            exact ih (b + 1) (by omega) (by omega)
          exact ⟨fun y => b1 rfl (st 0 (by rw [ltM, if_pos y])), fun y => b2 (by decide) (st 1 (by rw [ltM, if_neg y]))⟩
    exact ⟨2 ^ A + 1, loop (2 ^ A + 1) 0 (Nat.zero_le _) (by rw [Nat.sub_zero]; exact Nat.lt_succ_self _)⟩
  rw [← eA, ← eM]
  have fin : w_X6_tellFraction 134 (lN (aF A (ltM A M))) (lN (2 ^ A)) I J (fun I1 J1 => w_X12_lot I1 J1 (fun r2 I2 J2 => (0 : Int32) = r2 ∧ RR0 I2 J2)) := by
    have p0 : 0 < 2 ^ A := Nat.pow_pos (by omega)
    refine q_tellFraction (by omega) (by omega) p0 ?_
    refine model _ _ _ hm hmo ?_
    refine q_entersFraction rfl (by omega) (by omega) p0 ?_
    exact ⟨rfl, (RT_congr hT rfl rfl rfl rfl), (RD_congr hD (fun q h1 h2 => by repeat rw [sUI_ne (by omega)]) rfl rfl rfl rfl rfl rfl rfl rfl rfl rfl rfl), (RK_congr hK (fun q h1 h2 => by repeat rw [sUI_ne (by omega)]) rfl rfl), (RW_congr hW (fun q h1 h2 => by repeat rw [sUI_ne (by omega)]) rfl rfl rfl), (RC_congr hC (fun q h1 h2 => by repeat rw [sUI_ne (by omega)]) rfl rfl rfl), RR_2 rfl rfl rfl rfl rfl rfl, (RX_congr hX rfl rfl rfl rfl rfl)⟩
  rw [← l1] at fin
  have loop : ∀ (post : Int32 → sI → sJ → Prop), w_X6_tellFraction 134 (lN (sumN (ltC A M) (A + 1))) (lN (2 ^ A)) I J (fun I1 J1 => post 0 I1 J1) → ∀ m i, i ≤ A + 1 → A + 1 - i < m → w_X11_lot_29_n post m (nI A) (nI M) (lN (sumN (ltC A M) i)) (nI i) I J := by
    intro post hpost m
    induction m with
    | zero => intro i _ h; omega
    | succ m ih =>
      intro i hi hm2
      show w_X11_lot_29_s post _ _ _ _ _ I J
      unfold w_X11_lot_29_s w_X11_lot_61
      rw [pf_lt (by omega) (by omega)]
      refine ⟨fun e => ?_, fun e => ?_⟩
      · rw [show i = A + 1 by omega, show (1 : Int64) = lN 1 from rfl, wb_shl 1 (by omega), Nat.one_mul]
        exact hpost
      · rw [pk_sub (by omega)]
        refine q_max (by omega) (by omega) ?_
        rw [pf_lt (by omega) (by omega), nI_1]
        have st : ∀ x : Nat, x = ltC A M i → ∀ v3 : Int64, v3 = lN (sumN (ltC A M) i) + lN x → ∀ v4 : Int32, v4 = nI (i + 1) → w_X11_lot_29_n post m (nI A) (nI M) v3 v4 I J := by
          rintro x e2 _ rfl _ rfl
          rw [lN_add, e2]
          exact ih (i + 1) (by omega) (by omega)
        refine ⟨fun y => st 0 (by rw [ltC, if_pos y]), fun y => ?_⟩
        refine q_X11_choose (by omega) (by omega) ?_
        exact st _ (by rw [ltC, if_neg y])
  exact ⟨A + 2, loop _ fin (A + 2) 0 (by omega) (by omega)⟩
