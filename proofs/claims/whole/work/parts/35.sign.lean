/-- the byte k of v, by either shift -/
theorem by_eq (v : Int32) {k : Nat} (hk : k ≤ 24) : ((v.toUInt32 >>> ((nI k).toUInt32 &&& Int32.toUInt32 31)).toInt32) &&& 255 = (v >>> (nI k &&& 31)) &&& 255 := by
  apply b_ext
  intro i hi
  rw [b_and, b_and, b_255, b_ushr k (by omega), b_sshr k (by omega) v hi]
  by_cases h : i < 8
  · rw [if_pos (by omega)]
  · rw [decide_eq_false h, Bool.and_false, Bool.and_false]
theorem by_small (v : Int32) (k : Int32) : ∃ j : Nat, j < 256 ∧ (v >>> k) &&& 255 = nI j := by
  obtain ⟨j, h, e⟩ := pk_andE (v >>> k) (m := 255) 8 (by decide)
  exact ⟨j, h, e⟩
theorem q_X7_push {I : sI} {J : sJ} {post : sI → sJ → Prop} {a : Int32} {n : Nat} (hn : I 1 1 = nI n) (h : n < 80) (hp : post (sUI (sUI I 2 n a) 1 1 (nI (n + 1))) J) : w_X7_push a I J post := by
  unfold w_X7_push
  rw [hn, show (80 : Int32) = nI 80 from rfl]
  refine b2 (by rw [pf_le (by omega) (by omega)]; omega) ⟨vp_in_nI (by omega) (by omega), ?_⟩
  rintro _ rfl _ rfl
  rw [pf_cl (by omega), show (sUI I 2 n a) 1 1 = nI n from hn, nI_1]
  exact hp
theorem q_X11_sign {I : sI} {J : sJ} {post : Int32 → sI → sJ → Prop} {v : Int32} {n : Nat} (hn : I 1 1 = nI n) (h80 : n ≤ 80) (h1 : n ≤ 76 → ∀ I2 : sI, (∀ q, ¬ (q = 1 ∨ q = 2) → I2 q = I q) → I2 1 1 = nI (n + 4) → (∀ i, i < n → I2 2 i = I 2 i) → (∀ k, k < 4 → I2 2 (n + k) = (v >>> (nI (24 - 8 * k) &&& 31)) &&& 255) → post (nI (n + 4)) I2 J) (h2 : 76 < n → post (-1) I J) : w_X11_sign v I J post := by
  unfold w_X11_sign
  rw [hn, show (4 : Int32) = nI 4 from rfl, nI_add, show (80 : Int32) = nI 80 from rfl, pf_le (by omega) (by omega)]
  refine ⟨fun q => ?_, fun q => h2 (by omega)⟩
  refine ⟨5, ?_⟩
  have neg : ∀ k : Nat, k < 2147483648 → ¬ nI k < 0 := fun k hk => pf_lt0 hk
  have e0 : (24 : Int32) + (-8) = 16 := by decide
  have e1 : (16 : Int32) + (-8) = 8 := by decide
  have e2 : (8 : Int32) + (-8) = 0 := by decide
  refine b2 (by decide) (q_X7_push hn (by omega) ?_)
  rintro _ rfl
  rw [e0]
  refine b2 (by decide) (q_X7_push (n := n + 1) rfl (by omega) ?_)
  rintro _ rfl
  rw [e1]
  refine b2 (by decide) (q_X7_push (n := n + 2) rfl (by omega) ?_)
  rintro _ rfl
  rw [e2]
  refine b2 (by decide) (q_X7_push (n := n + 3) rfl (by omega) ?_)
  rintro _ rfl
  refine b1 (by decide) ?_
  refine h1 (by omega) _ (fun q hq => ?_) rfl (fun i hi => ?_) (fun k hk => ?_)
  · repeat rw [sUI_ne (by omega)]
  · simp only [pf_ui]
    repeat rw [if_neg (by omega)]
  · rcases (show k = 0 ∨ k = 1 ∨ k = 2 ∨ k = 3 by omega) with rfl | rfl | rfl | rfl
    · rw [pf_ui, if_neg (by omega), pf_uis, if_neg (by omega), pf_ui, if_neg (by omega), pf_uis, if_neg (by omega), pf_ui, if_neg (by omega), pf_uis, if_neg (by omega), pf_ui, if_neg (by omega), pf_uis, if_pos (by omega)]
      exact by_eq v (k := 24) (by omega)
    · rw [pf_ui, if_neg (by omega), pf_uis, if_neg (by omega), pf_ui, if_neg (by omega), pf_uis, if_neg (by omega), pf_ui, if_neg (by omega), pf_uis, if_pos (by omega)]
      exact by_eq v (k := 16) (by omega)
    · rw [pf_ui, if_neg (by omega), pf_uis, if_neg (by omega), pf_ui, if_neg (by omega), pf_uis, if_pos (by omega)]
      exact by_eq v (k := 8) (by omega)
    · rw [pf_ui, if_neg (by omega), pf_uis, if_pos (by omega)]
      exact by_eq v (k := 0) (by omega)
theorem q_X12_sign {I : sI} {J : sJ} {post : Int32 → sI → sJ → Prop} {v : Int32} {n : Nat} (hn : I 248 4 = nI n) (h80 : n ≤ 80) (h1 : n ≤ 76 → ∀ I2 : sI, (∀ q, ¬ (q = 248 ∨ q = 250) → I2 q = I q) → (∀ k, ¬ (k = 0 ∨ k = 4) → I2 248 k = I 248 k) → I2 248 4 = nI (n + 4) → (∀ i, i < n → I2 250 i = I 250 i) → (∀ k, k < 4 → I2 250 (n + k) = (v >>> (nI (24 - 8 * k) &&& 31)) &&& 255) → post (nI (n + 4)) I2 J) (h2 : 76 < n → post (-1) (sUI I 248 0 0) J) : w_X12_sign v I J post := by
  unfold w_X12_sign
  rintro _ rfl
  rw [show (sUI I 248 0 0) 248 4 = nI n from hn, show (76 : Int32) = nI 76 from rfl, pf_le (by omega) (by omega)]
  refine ⟨fun q => ?_, fun q => h2 (by omega)⟩
  refine ⟨5, ?_⟩
  have st : ∀ (k : Nat) (I1 : sI) (kk : Int32 → Int32 → sI → sJ → Prop), k < 4 → I1 248 4 = nI n → kk v (nI (k + 1)) (sUI I1 250 (n + k) ((v >>> (nI (24 - 8 * k) &&& 31)) &&& 255)) J → w_X12_sign_18_s post kk v (nI k) I1 J := by
    intro k I1 kk hk e hp
    unfold w_X12_sign_18_s
    rw [e, show (4 : Int32) = nI 4 from rfl]
    refine b2 (by rw [pf_le (by omega) (by omega)]; omega) ?_
    rw [nI_add]
    refine ⟨vp_in_nI (by omega) (by omega), ?_⟩
    rintro _ rfl _ rfl
    rw [pf_cl (by omega), nI_1, show (24 : Int32) - 8 * nI k = nI (24 - 8 * k) by rw [show (24 : Int32) = nI 24 from rfl, show (8 : Int32) = nI 8 from rfl, pk_mul, pk_sub (by omega)]]
    exact hp
  have fin : ∀ (I5 : sI) (kk : Int32 → Int32 → sI → sJ → Prop), I5 248 4 = nI n → (∀ q, ¬ (q = 248 ∨ q = 250) → I5 q = I q) → (∀ k, ¬ (k = 0 ∨ k = 4) → I5 248 k = I 248 k) → (∀ i, i < n → I5 250 i = I 250 i) → (∀ k, k < 4 → I5 250 (n + k) = (v >>> (nI (24 - 8 * k) &&& 31)) &&& 255) → w_X12_sign_18_s post kk v (nI 4) I5 J := by
    intro I5 kk e1 e2 e3 e4 e5
    unfold w_X12_sign_18_s
    refine b1 (by decide) ?_
    rintro _ rfl
    have e : (sUI I5 248 4 (I5 248 4 + 4)) 248 4 = nI (n + 4) := by
      rw [pf_uis, if_pos rfl, e1, show (4 : Int32) = nI 4 from rfl, nI_add]
    rw [e]
    refine h1 (by omega) _ (fun q hq => ?_) (fun k hk => ?_) e (fun i hi => ?_) (fun k hk => ?_)
    · rw [sUI_ne (by omega)]; exact e2 q hq
    · rw [pf_uis, if_neg (by omega)]; exact e3 k hk
    · rw [pf_ui, if_neg (by omega)]; exact e4 i hi
    · rw [pf_ui, if_neg (by omega)]; exact e5 k hk
  refine st 0 _ _ (by omega) hn ?_
  refine st 1 _ _ (by omega) hn ?_
  refine st 2 _ _ (by omega) hn ?_
  refine st 3 _ _ (by omega) hn ?_
  refine fin _ _ hn (fun q hq => ?_) (fun k hk => ?_) (fun i hi => ?_) (fun k hk => ?_)
  · rw [sUI_ne (by omega), sUI_ne (by omega), sUI_ne (by omega), sUI_ne (by omega), sUI_ne (by omega)]
  · rw [pf_ui, if_neg (by omega), pf_ui, if_neg (by omega), pf_ui, if_neg (by omega), pf_ui, if_neg (by omega), pf_ui, if_neg (by omega)]
  · rw [pf_ui, if_neg (by omega), pf_ui, if_neg (by omega), pf_ui, if_neg (by omega), pf_ui, if_neg (by omega), pf_ui, if_neg (by omega)]
  · rcases (show k = 0 ∨ k = 1 ∨ k = 2 ∨ k = 3 by omega) with rfl | rfl | rfl | rfl
    · rw [pf_uis, if_neg (by omega), pf_uis, if_neg (by omega), pf_uis, if_neg (by omega), pf_uis, if_pos (by omega)]
    · rw [pf_uis, if_neg (by omega), pf_uis, if_neg (by omega), pf_uis, if_pos (by omega)]
    · rw [pf_uis, if_neg (by omega), pf_uis, if_pos (by omega)]
    · rw [pf_uis, if_pos (by omega)]
theorem S_sign {I : sI} {J : sJ} (v : Int32) (hR : RR0 I J) : St (w_X11_sign v) (w_X12_sign v) I J := by
  obtain ⟨hT, hD, hK, hW, hC, hQ, hX⟩ := hR
  obtain ⟨n, b, hn, hb, ⟨c1, c2⟩, m1, m2⟩ := id hT
  refine q_X11_sign c1 hn (fun h76 I1 f1 f2 f3 f4 => ?_) (fun h76 => ?_)
  · refine q_X12_sign (n := n) (by rw [f1 248 (by omega)]; exact m1) hn (fun _ I2 g1 g2 g3 g4 g5 => ?_) (fun z => absurd z (by omega))
    have r1 : ∀ q, ¬ (q = 1 ∨ q = 2 ∨ q = 248 ∨ q = 250) → I2 q = I q := fun q hq => by rw [g1 q (by omega), f1 q (by omega)]
    have s1 : ∀ k, ¬ (k = 0 ∨ k = 4) → I2 248 k = I 248 k := fun k hk => by rw [g2 k hk, f1 248 (by omega)]
    refine ⟨rfl, ?_, (RD_congr hD (fun q h1 h2 => r1 q (by omega)) (r1 253 (by omega)) (r1 254 (by omega)) (r1 255 (by omega)) (r1 256 (by omega)) (r1 276 (by omega)) (s1 11 (by omega)) (s1 12 (by omega)) (s1 15 (by omega)) (s1 21 (by omega)) (s1 22 (by omega)) (s1 23 (by omega))), (RK_congr hK (fun q h1 h2 => r1 q (by omega)) (r1 279 (by omega)) (r1 280 (by omega))), (RW_congr hW (fun q h1 h2 => r1 q (by omega)) (r1 257 (by omega)) (r1 258 (by omega)) (r1 259 (by omega))), (RC_congr hC (fun q h1 h2 => r1 q (by omega)) (by rw [r1 227 (by omega)]) (s1 46 (by omega)) (r1 275 (by omega))), (RR_congr hQ (by rw [r1 134 (by omega)]) (s1 1 (by omega)) rfl rfl), (RX_congr hX (by rw [r1 0 (by omega)]) (s1 37 (by omega)) (by rw [r1 0 (by omega)]) (s1 33 (by omega)) (by rw [r1 141 (by omega)]))⟩
    have key : ∀ k, ∃ j : Nat, j < 256 ∧ (v >>> (nI (24 - 8 * k) &&& 31)) &&& 255 = nI j := fun k => by_small v _
    refine ⟨n + 4, fun i => if i < n then b i else (key (i - n)).choose, by omega, fun i hi => ?_, ⟨?_, fun i hi => ?_⟩, g3, fun i hi => ?_⟩
    · show (if i < n then b i else (key (i - n)).choose) < 256
      split
      · exact hb i (by assumption)
      · exact (key (i - n)).choose_spec.1
    · rw [g1 1 (by omega)]; exact f2
    · show I2 2 i = nI (if i < n then b i else (key (i - n)).choose)
      rw [g1 2 (by omega)]
      split
      · rw [f3 i (by assumption)]; exact c2 i (by assumption)
      · have := f4 (i - n) (by omega)
        rw [show n + (i - n) = i by omega] at this
        rw [this]
        exact (key (i - n)).choose_spec.2
    · show I2 250 i = nI (if i < n then b i else (key (i - n)).choose)
      split
      · rw [g4 i (by assumption), f1 250 (by omega)]; exact m2 i (by assumption)
      · have := g5 (i - n) (by omega)
        rw [show n + (i - n) = i by omega] at this
        rw [this]
        exact (key (i - n)).choose_spec.2
  · refine q_X12_sign (n := n) m1 hn (fun z => absurd z (by omega)) (fun z => ?_)
    exact ⟨rfl, (RT_congr hT rfl rfl rfl rfl), (RD_congr hD (fun q h1 h2 => by repeat rw [sUI_ne (by omega)]) rfl rfl rfl rfl rfl rfl rfl rfl rfl rfl rfl), (RK_congr hK (fun q h1 h2 => by repeat rw [sUI_ne (by omega)]) rfl rfl), (RW_congr hW (fun q h1 h2 => by repeat rw [sUI_ne (by omega)]) rfl rfl rfl), (RC_congr hC (fun q h1 h2 => by repeat rw [sUI_ne (by omega)]) rfl rfl rfl), (RR_congr hQ rfl rfl rfl rfl), (RX_congr hX rfl rfl rfl rfl rfl)⟩
