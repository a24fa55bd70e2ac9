def ndR (n : Nat) (ob oa : Nat → Nat) (E : Nat → Nat → Prop) (p q : Nat) : Prop := (∃ k, k < n ∧ ob k = p ∧ oa k = q) ∨ E p q
theorem m_or1 {p : Nat → Prop} {n c : Nat} (hc : c < n) : nI (msk p n) ||| nI (2 ^ c) = nI (msk (fun i => p i ∨ i = c) n) := by
  rw [m_one hc, m_ors]
theorem q_bind {I : sI} {J : sJ} {post : sI → sJ → Prop} {P x y : Nat} {D D2 : Nat → Nat → Prop} (hP : P ≤ 14) (e2 : I 224 2 = nI P) (hn : ∀ p, p < P → I 226 p = nI (msk (D p) 14)) (hx : x < P) (hy : y < P) (hd : ∀ p q, D2 p q ↔ (D p q ∨ (p = x ∧ q = y))) (h : ∀ I2 : sI, (∀ q, ¬ q = 226 → I2 q = I q) → (∀ p, p < P → I2 226 p = nI (msk (D2 p) 14)) → post I2 J) : w_X3_bind (nI x) (nI y) I J post := by
  unfold w_X3_bind
  rw [e2, pf_le (by omega) (by omega), pf_le (by omega) (by omega), pf_cl (by omega), sh1 y (by omega), hn x hx, m_or1 (by omega)]
  refine b2 (by omega) (b2 (by omega) ⟨vp_in_nI (by omega) (by omega), vp_in_nI (by omega) (by omega), ?_⟩)
  rintro _ rfl
  refine h _ (fun q hq => sUI_ne hq) (fun p hp => ?_)
  rw [pf_uis]
  by_cases z : p = x
  · rw [if_pos z]
    congr 1
    refine msk_congr (fun i _ => ?_)
    rw [hd, z]
    exact ⟨fun q => q.elim Or.inl (fun q => Or.inr ⟨rfl, q⟩), fun q => q.elim Or.inl (fun q => Or.inr q.2)⟩
  · rw [if_neg z, hn p hp]
    congr 1
    refine msk_congr (fun i _ => ?_)
    rw [hd]
    exact ⟨Or.inl, fun q => q.elim id (fun q => absurd q.1 z)⟩
theorem q_open {I : sI} {J : sJ} {post : sI → sJ → Prop} {P n : Nat} {ob oa : Nat → Nat} (hP : P ≤ 14) (ho : tWO P n ob oa) (hco : cO n ob oa 8 I) (h : ∀ I2 : sI, (∀ q, ¬ (q = 224 ∨ q = 226) → I2 q = I q) → I2 224 2 = nI P → (∀ p, p < P → I2 226 p = nI (msk (ndR n ob oa (fun _ _ => False) p) 14)) → post I2 J) : w_X3_open (nI P) 8 I J post := by
  obtain ⟨z0, z1⟩ := sRover 8 (by decide)
  have hn := ho.1
  unfold w_X3_open
  rw [show (14 : Int32) = nI 14 from rfl]
  refine q_min (by omega) (by omega) ?_
  rw [Nat.min_eq_left hP]
  rintro _ rfl
  have binds : ∀ m k (I3 : sI), k ≤ n → n - k < m → (∀ q, ¬ (q = 224 ∨ q = 226) → I3 q = I q) → I3 224 2 = nI P → (∀ p, p < P → I3 226 p = nI (msk (ndR k ob oa (fun _ _ => False) p) 14)) → w_X3_open_35_n 8 post m (nI k) I3 J := by
    intro m
    induction m with
    | zero => intro k _ _ h; omega
    | succ m ih =>
      intro k I3 hk hm r3 e2 hb
      show w_X3_open_35_s 8 post (w_X3_open_35_n 8 post m) (nI k) I3 J
      unfold w_X3_open_35_s
      rw [z0, z1, r3 8 (by omega), hco.1, pf_le (by omega) (by omega), nI_1, pf_cl (by omega), r3 (8 + 1) (by omega), r3 (8 + 2) (by omega)]
      refine ⟨fun e => ?_, fun e => ⟨vp_in_nI (by omega) (by omega), vp_in_nI (by omega) (by omega), ?_⟩⟩
      · rw [show k = n by omega] at hb
        exact h I3 r3 e2 hb
      · obtain ⟨f1, f2⟩ := hco.2 k (by omega)
        rw [f1, f2]
        obtain ⟨g1, g2, -⟩ := ho.2.1 k (by omega)
        refine q_bind (D2 := ndR (k + 1) ob oa (fun _ _ => False)) hP e2 hb g1 g2 (fun p q => ?_) (fun I4 r4 hb4 => ?_)
        · constructor
          · rintro (⟨j, hj, a, b⟩ | x)
            · rcases Nat.lt_or_ge j k with w | w
              · exact Or.inl (Or.inl ⟨j, w, a, b⟩)
              · have : j = k := by omega
                subst this
                exact Or.inr ⟨a.symm, b.symm⟩
            · exact x.elim
          · rintro ((⟨j, hj, a, b⟩ | x) | ⟨a, b⟩)
            · exact Or.inl ⟨j, by omega, a, b⟩
            · exact x.elim
            · exact Or.inl ⟨k, by omega, a.symm, b.symm⟩
        · rintro _ rfl
          exact ih (k + 1) I4 (by omega) (by omega) (fun q hq => by rw [r4 q (by omega), r3 q hq]) (by rw [r4 224 (by omega)]; exact e2) hb4
  have clr : ∀ m p (I3 : sI), p ≤ P → P - p < m → (∀ q, ¬ (q = 224 ∨ q = 226) → I3 q = I q) → I3 224 2 = nI P → (∀ k, k < p → I3 226 k = 0) → w_X3_open_12_n 8 post m (nI p) I3 J := by
    intro m
    induction m with
    | zero => intro k _ _ h; omega
    | succ m ih =>
      intro p I3 hp hm r3 e2 hb
      show w_X3_open_12_s 8 post (w_X3_open_12_n 8 post m) (nI p) I3 J
      unfold w_X3_open_12_s
      rw [e2, pf_le (by omega) (by omega), nI_1, pf_cl (by omega)]
      refine ⟨fun e => ?_, fun e => ⟨vp_in_nI (by omega) (by omega), ?_⟩⟩
      · refine ⟨n + 1, binds (n + 1) 0 I3 (by omega) (by omega) r3 e2 (fun k hk => ?_)⟩
        rw [hb k (by omega), msk_zero.mpr (fun i _ q => q.elim (fun ⟨j, hj, _⟩ => by omega) id)]
        rfl
      · rintro _ rfl _ rfl
        refine ih (p + 1) _ (by omega) (by omega) (fun q hq => by rw [sUI_ne (by omega), r3 q hq]) (by rw [sUI_ne (by omega)]; exact e2) (fun k hk => ?_)
        rw [pf_uis]
        by_cases z : k = p
        · rw [if_pos z]
        · rw [if_neg z, hb k (by omega)]
  exact ⟨P + 1, clr (P + 1) 0 _ (by omega) (by omega) (fun q hq => sUI_ne (by omega)) (by rw [pf_uis, if_pos rfl]) (fun k hk => by omega)⟩
theorem q_hasB {I : sI} {J : sJ} {post : Int32 → sI → sJ → Prop} {b k : Nat} (hb : b < 2147483648) (hk : k < 31) (h1 : b.testBit k = true → post 1 I J) (h0 : b.testBit k = false → post 0 I J) : w_X12_has (nI b) (nI k) I J post := by
  unfold w_X12_has
  rw [m_shr hb hk]
  cases tb : b.testBit k with
  | true => exact b4 (by decide) (h1 tb)
  | false => exact b3 (by decide) (h0 tb)
/-- the extra bond of ahead -/
def exB (a4 a5 : Int32) (P : Nat) (E : Nat → Nat → Prop) : Prop := (a4 = -1 ∧ a5 = -1 ∧ ∀ p q, ¬ E p q) ∨ ∃ x y, x < P ∧ y < P ∧ a4 = nI x ∧ a5 = nI y ∧ ∀ p q, E p q ↔ (p = y ∧ q = x)
theorem q_mayCome {I : sI} {J : sJ} {post : Int32 → sI → sJ → Prop} {P n b p : Nat} {ob oa : Nat → Nat} {E : Nat → Nat → Prop} {a4 a5 : Int32} (hP : P ≤ 14) (ho : tWO P n ob oa) (hmo : mO n ob oa I) (hE : exB a4 a5 P E) (hb : b < 2147483648) (hp : p < P) (h1 : oOk (ndR n ob oa E) p b → post 1 I J) (h0 : ¬ oOk (ndR n ob oa E) p b → post 0 I J) : w_X12_mayCome (nI b) (nI p) 0 a4 a5 I J post := by
  have hn := ho.1
  have loop : ∀ m k (x6 : Int32), k ≤ n → n - k < m → ((x6 = 1 ∧ oOk (ndR k ob oa E) p b) ∨ (x6 = 0 ∧ ¬ oOk (ndR n ob oa E) p b)) → w_X12_mayCome_25_n post m (nI b) (nI p) 0 x6 (nI k) I J := by
    intro m
    induction m with
    | zero => intro k _ _ h; omega
    | succ m ih =>
      intro k x6 hk hm hx
      show w_X12_mayCome_25_s post (w_X12_mayCome_25_n post m) (nI b) (nI p) 0 x6 (nI k) I J
      unfold w_X12_mayCome_25_s w_X12_mayCome_73 w_X12_mayCome_78
      rw [hmo.1, pf_le (by omega) (by omega), nI_1]
      rcases hx with ⟨rfl, hx⟩ | ⟨rfl, hx⟩
      · refine ⟨fun e => ⟨Or.inr rfl, ?_⟩, fun e => b2 (by decide) ?_⟩
        · rw [show k = n by omega] at hx
          exact h1 hx
        · refine q_hasB (b := 0) (by omega) (by omega) (fun q => by rw [Nat.zero_testBit] at q; exact absurd q (by decide)) (fun _ => b4 rfl ?_)
          obtain ⟨f1, f2⟩ := hmo.2 k (by omega)
          obtain ⟨g1, g2, -⟩ := ho.2.1 k (by omega)
          rw [pf_cl (by omega), f1, f2, pf_eq (by omega) (by omega)]
          have nx : (ob k = p → b.testBit (oa k) = true) → ∀ v : Int32, v = nI (k + 1) → w_X12_mayCome_25_n post m (nI b) (nI p) 0 1 v I J := by
            rintro y _ rfl
            refine ih (k + 1) 1 (by omega) (by omega) (Or.inl ⟨rfl, fun q hq => ?_⟩)
            rcases hq with ⟨j, hj, a, c⟩ | x
            · rcases Nat.lt_or_ge j k with w | w
              · exact hx q (Or.inl ⟨j, w, a, c⟩)
              · have : j = k := by omega
                subst this
                rw [← c]; exact y a
            · exact hx q (Or.inr x)
          refine ⟨vp_in_nI (by omega) (by omega), fun q => nx (fun z => absurd z q), fun q => ⟨vp_in_nI (by omega) (by omega), ?_⟩⟩
          refine q_hasB hb (by omega) (fun z => b2 (by decide) (nx (fun _ => z))) (fun z => b1 rfl ?_)
          rintro _ rfl
          refine ih (k + 1) 0 (by omega) (by omega) (Or.inr ⟨rfl, fun y => ?_⟩)
          rw [y (oa k) (Or.inl ⟨k, by omega, q, rfl⟩)] at z
          exact absurd z (by decide)
      · exact ⟨fun _ => ⟨Or.inl rfl, h0 hx⟩, fun _ => b1 rfl ⟨Or.inl rfl, h0 hx⟩⟩
  have st1 : (∀ q, E p q → b.testBit q = true) → w_X12_mayCome_25 post (nI b) (nI p) 0 1 0 I J := fun y => ⟨n + 1, loop (n + 1) 0 1 (by omega) (by omega) (Or.inl ⟨rfl, fun q hq => hq.elim (fun ⟨j, hj, _⟩ => by omega) (y q)⟩)⟩
  have st0 : (¬ oOk (ndR n ob oa E) p b) → w_X12_mayCome_25 post (nI b) (nI p) 0 0 0 I J := fun y => ⟨n + 1, loop (n + 1) 0 0 (by omega) (by omega) (Or.inr ⟨rfl, y⟩)⟩
  unfold w_X12_mayCome w_X12_mayCome_15 w_X12_mayCome_20
  rcases hE with ⟨rfl, rfl, hE⟩ | ⟨x, y, hx, hy, rfl, rfl, hE⟩
  · exact b3 (pf_ne_m1 (by omega)) (st1 (fun q z => absurd z (hE p q)))
  · rw [pf_eq (by omega) (by omega)]
    refine ⟨fun z => st1 (fun q w => absurd ((hE p q).mp w).1 z), fun z => ?_⟩
    refine q_hasB hb (by omega) (fun w => b2 (by decide) (st1 (fun q v => ?_))) (fun w => b1 rfl (st0 (fun v => ?_)))
    · rw [((hE p q).mp v).2]; exact w
    · rw [v x (Or.inr ((hE p x).mpr ⟨z, rfl⟩))] at w
      exact absurd w (by decide)
theorem q_ordersOf {I : sI} {J : sJ} {post : Int64 → sI → sJ → Prop} {P n : Nat} {ob oa : Nat → Nat} {E : Nat → Nat → Prop} {a4 a5 : Int32} (hP : P ≤ 14) (eP : I 248 12 = nI P) (ho : tWO P n ob oa) (hmo : mO n ob oa I) (hE : exB a4 a5 P E) (h : ∀ J2 : sJ, (∀ q, ¬ q = 270 → J2 q = J q) → post (lN (oW (ndR n ob oa E) P (2 ^ P - 1))) I J2) : w_X12_ordersOf 0 a4 a5 I J post := by
  have h14 : 2 ^ P ≤ 16384 := Nat.pow_le_pow_right (n := 2) (by omega) hP
  have h1 : 1 ≤ 2 ^ P := Nat.one_le_two_pow
  obtain ⟨D, eD⟩ : ∃ D, D = ndR n ob oa E := ⟨_, rfl⟩
  have inner : ∀ (k20 : Int32 → Int32 → Int32 → Int32 → Int32 → sI → sJ → Prop) b (J3 : sJ), b ≠ 0 → b < 2 ^ P → (∀ c, c < b → J3 270 c = lN (oW D P c)) → k20 0 a4 a5 (nI (2 ^ P - 1)) (nI (b + 1)) I (sUJ J3 270 b (lN (oW D P b))) → ∀ m p, p ≤ P → P - p < m → w_X12_ordersOf_33_n post k20 m 0 a4 a5 (nI (2 ^ P - 1)) (nI b) (lN (sumN (fun p => i1 (b.testBit p = true ∧ oOk D p (b ^^^ 2 ^ p)) * oW D P (b ^^^ 2 ^ p)) p)) (nI p) I J3 := by
    intro k20 b J3 b0 hb hj hk m
    induction m with
    | zero => intro k _ h; omega
    | succ m ih =>
      intro p hp hm
      show w_X12_ordersOf_33_s post k20 (w_X12_ordersOf_33_n post k20 m) _ _ _ _ _ _ _ I J3
      unfold w_X12_ordersOf_33_s w_X12_ordersOf_92
      rw [eP, pf_le (by omega) (by omega), nI_1, nI_1, pf_cl (by omega)]
      refine ⟨fun e => ⟨vp_in_nI (by omega) (by omega), ?_⟩, fun e => ?_⟩
      · rw [show p = P by omega, ← oW_eq b0]
        rintro _ rfl _ rfl
        exact hk
      · have nx := ih (p + 1) (by omega) (by omega)
        rw [sumN] at nx
        have no : ¬ (b.testBit p = true ∧ oOk D p (b ^^^ 2 ^ p)) → ∀ v : Int32, v = nI (p + 1) → w_X12_ordersOf_33_n post k20 m 0 a4 a5 (nI (2 ^ P - 1)) (nI b) (lN (sumN (fun p => i1 (b.testBit p = true ∧ oOk D p (b ^^^ 2 ^ p)) * oW D P (b ^^^ 2 ^ p)) p)) v I J3 := by
          rintro y _ rfl
          rw [i1_n y, Nat.zero_mul] at nx
          exact nx
        refine q_hasB (by omega) (by omega) (fun tb => b2 (by decide) ?_) (fun tb => b1 rfl (no (fun q => by rw [tb] at q; exact absurd q.1 (by decide))))
        have xl := xo_lt tb
        rw [sh1 p (by omega), xo_rm hb tb]
        refine q_mayCome hP ho hmo hE (by omega) (by omega) (fun z => b2 (by decide) ⟨vp_in_nI (by omega) (by omega), ?_⟩) (fun z => b1 rfl (no (fun q => z (by rw [← eD]; exact q.2))))
        rw [pf_cl (by omega), hj _ xl, lN_add]
        rintro _ rfl _ rfl
        rw [i1_y ⟨tb, by rw [eD]; exact z⟩, Nat.one_mul] at nx
        exact nx
  have outer : ∀ m b (J3 : sJ), 1 ≤ b → b ≤ 2 ^ P → 2 ^ P - b < m → (∀ q, ¬ q = 270 → J3 q = J q) → (∀ c, c < b → J3 270 c = lN (oW D P c)) → w_X12_ordersOf_20_n post m 0 a4 a5 (nI (2 ^ P - 1)) (nI b) I J3 := by
    intro m
    induction m with
    | zero => intro k _ _ _ h; omega
    | succ m ih =>
      intro b J3 b1' hb hm r3 hj
      show w_X12_ordersOf_20_s post (w_X12_ordersOf_20_n post m) _ _ _ _ _ I J3
      unfold w_X12_ordersOf_20_s
      rw [pf_lt (by omega) (by omega), pf_cl (by omega)]
      refine ⟨fun e => ⟨vp_in_nI (by omega) (by omega), ?_⟩, fun e => ?_⟩
      · rw [hj (2 ^ P - 1) (by omega), eD]
        exact h J3 r3
      · refine ⟨P + 1, inner _ b J3 (by omega) (by omega) hj ?_ (P + 1) 0 (by omega) (by omega)⟩
        refine ih (b + 1) _ (by omega) (by omega) (by omega) (fun q hq => ?_) (fun c hc => ?_)
        · funext k; rw [pf_uj, if_neg (by omega), r3 q hq]
        · rw [pf_ujs]
          by_cases z : c = b
          · rw [if_pos z, z]
          · rw [if_neg z, hj c (by omega)]
  unfold w_X12_ordersOf
  rw [eP, sh1 P (by omega), nI_p h1, c_z]
  rintro _ rfl
  refine ⟨vp_in_nI (n := 0) (by omega) (by omega), ?_⟩
  rintro _ rfl
  refine ⟨2 ^ P + 1, outer (2 ^ P + 1) 1 _ (by omega) (by omega) (by omega) (fun q hq => ?_) (fun c hc => ?_)⟩
  · funext k; rw [pf_uj, if_neg (by omega)]
  · rw [pf_ujs, if_pos (by omega), show c = 0 by omega, oW_0]; rfl
theorem q_cannot {I : sI} {J : sJ} {post : Int32 → sI → sJ → Prop} {P : Nat} (hP : P ≤ 60) (e : I 4 4 = nI P) (h1 : ¬ (1 ≤ P ∧ P ≤ 14) → post 1 I J) (h0 : 1 ≤ P ∧ P ≤ 14 → post 0 I J) : w_X11_cannotOrder I J post := by
  unfold w_X11_cannotOrder w_X11_cannotOrder_28
  rw [e, pf_eq0 (by omega), show (14 : Int32) = nI 14 from rfl, pf_le (by omega) (by omega)]
  exact ⟨fun z => h1 (by omega), fun z => ⟨fun y => h0 (by omega), fun y => h1 (by omega)⟩⟩
theorem q_ordered {I : sI} {J : sJ} {post : Int32 → sI → sJ → Prop} {P : Nat} (hP : P ≤ 60) (e : I 248 12 = nI P) (h1 : 1 ≤ P ∧ P ≤ 14 → post 1 I J) (h0 : ¬ (1 ≤ P ∧ P ≤ 14) → post 0 I J) : w_X12_isOrdered I J post := by
  unfold w_X12_isOrdered
  rw [e]
  refine q_in (lo := 1) (hi := 14) (by decide) (by decide) (fun q => ⟨Or.inr rfl, h1 ?_⟩) (fun q => ⟨Or.inl rfl, h0 ?_⟩)
  · rw [show (14 : Int32) = nI 14 from rfl, show (1 : Int32) = nI 1 from rfl, pf_le (by omega) (by omega), pf_le (by omega) (by omega)] at q
    exact q
  · rw [show (14 : Int32) = nI 14 from rfl, show (1 : Int32) = nI 1 from rfl, pf_le (by omega) (by omega), pf_le (by omega) (by omega)] at q
    exact q
theorem ndR_14 {P n : Nat} {ob oa : Nat → Nat} {E : Nat → Nat → Prop} (hP : P ≤ 14) (ho : tWO P n ob oa) (hE : ∀ p q, E p q → q < 14) : ∀ p q, ndR n ob oa E p q → q < 14 := by
  rintro p q (⟨k, hk, a, b⟩ | x)
  · have := ho.2.1 k hk; omega
  · exact hE p q x
theorem S_orders {I : sI} {J : sJ} (hR : RR0 I J) : St w_X11_orders w_X12_orders I J := by
  obtain ⟨hT, hD, hK, hW, hC, hQ, hX⟩ := hR
  obtain ⟨G, P, n, s, κ, ob, oa, hw, ho, hc, hm, hco, hmo⟩ := o_get hD
  have hP := hw.2.1
  show w_X11_orders I J _
  unfold w_X11_orders
  refine q_cannot hP hc.2.1 (fun z => b2 (by decide) ?_) (fun z => b1 rfl ?_)
  · unfold w_X12_orders
    rintro _ rfl
    refine q_ordered hP hm.2.1 (fun q => absurd q z) (fun _ => b4 rfl ?_)
    exact ⟨rfl, (RT_congr hT rfl rfl rfl rfl), (RD_congr hD (fun q h1 h2 => by repeat rw [sUI_ne (by omega)]) rfl rfl rfl rfl rfl rfl rfl rfl rfl rfl rfl), (RK_congr hK (fun q h1 h2 => by repeat rw [sUI_ne (by omega)]) rfl rfl), (RW_congr hW (fun q h1 h2 => by repeat rw [sUI_ne (by omega)]) rfl rfl rfl), (RC_congr hC (fun q h1 h2 => by repeat rw [sUI_ne (by omega)]) rfl rfl rfl), (RR_congr hQ rfl rfl rfl rfl), (RX_congr hX rfl rfl rfl rfl rfl)⟩
  · rw [hc.2.1]
    refine q_open z.2 ho hco (fun I1 ra e2 hb => ?_)
    refine q_number z.2 e2 (ndR_14 z.2 ho (fun _ _ q => q.elim)) hb (fun J1 ja => ?_)
    obtain ⟨w, ew⟩ : ∃ w, w = oW (ndR n ob oa (fun _ _ => False)) P (2 ^ P - 1) := ⟨_, rfl⟩
    have lt := oW_lt (D := ndR n ob oa (fun _ _ => False)) (P := P) (b := 2 ^ P - 1) z.2
    rw [← ew] at lt ⊢
    rw [lgc_0 (by omega)]
    have model : ∀ (I2 : sI) (J2 : sJ) (r : Int32), (∀ q, ¬ (q = 224 ∨ q = 226 ∨ q = 134) → I2 q = I q) → (∀ q, ¬ (q = 225 ∨ q = 135) → J2 q = J q) → ((w = 0 ∧ r = -2 ∧ I2 134 1 = I 134 1 ∧ J2 135 = J 135) ∨ (w ≠ 0 ∧ r = 0 ∧ I2 134 1 = nI 1 ∧ J2 135 0 = lN w)) → w_X12_orders I2 J2 (fun r2 I2 J2 => r = r2 ∧ RR0 I2 J2) := by
      intro I2 J2 r rb jb hr
      unfold w_X12_orders
      rintro _ rfl
      have e12 : (sUI I2 248 0 0) 248 12 = nI P := by rw [pf_uis, if_neg (by omega), rb 248 (by omega)]; exact hm.2.1
      have hmo2 : mO n ob oa (sUI I2 248 0 0) := by
        unfold mO at *
        rw [pf_uis, if_neg (by omega), rb 248 (by omega), sUI_ne (by omega), sUI_ne (by omega), rb 255 (by omega), rb 256 (by omega)]
        exact hmo
      refine q_ordered hP e12 (fun _ => b3 (by decide) ?_) (fun q => absurd z q)
      refine q_ordersOf (E := fun _ _ => False) z.2 e12 ho hmo2 (Or.inl ⟨rfl, rfl, fun _ _ q => q⟩) (fun J3 jc => ?_)
      rw [← ew, lgc_0 (by omega)]
      rcases hr with ⟨w0, hr, h1, h2⟩ | ⟨w0, hr, h1, h2⟩
      · refine b4 w0 ⟨hr, ?_⟩
        have r1 : ∀ q, ¬ (q = 224 ∨ q = 226 ∨ q = 134 ∨ q = 248) → (sUI I2 248 0 0) q = I q := fun q hq => by rw [sUI_ne (by omega), rb q (by omega)]
        have s1 : ∀ k, ¬ (k = 0) → (sUI I2 248 0 0) 248 k = I 248 k := fun k hk => by rw [pf_uis, if_neg (by omega), rb 248 (by omega)]
        exact ⟨(RT_congr hT (by rw [r1 1 (by omega)]) (r1 2 (by omega)) (s1 4 (by omega)) (r1 250 (by omega))), (RD_congr hD (fun q h1 h2 => r1 q (by omega)) (r1 253 (by omega)) (r1 254 (by omega)) (r1 255 (by omega)) (r1 256 (by omega)) (r1 276 (by omega)) (s1 11 (by omega)) (s1 12 (by omega)) (s1 15 (by omega)) (s1 21 (by omega)) (s1 22 (by omega)) (s1 23 (by omega))), (RK_congr hK (fun q h1 h2 => r1 q (by omega)) (r1 279 (by omega)) (r1 280 (by omega))), (RW_congr hW (fun q h1 h2 => r1 q (by omega)) (r1 257 (by omega)) (r1 258 (by omega)) (r1 259 (by omega))), (RC_congr hC (fun q h1 h2 => r1 q (by omega)) (by rw [r1 227 (by omega)]) (s1 46 (by omega)) (r1 275 (by omega))), RR_congr hQ (by rw [sUI_ne (by omega)]; exact h1) (s1 1 (by omega)) (by rw [jc 135 (by omega)]; exact h2) (by rw [jc 249 (by omega), jb 249 (by omega)]), (RX_congr hX (by rw [r1 0 (by omega)]) (s1 37 (by omega)) (by rw [r1 0 (by omega)]) (s1 33 (by omega)) (by rw [r1 141 (by omega)]))⟩
      · refine b3 w0 ?_
        rintro _ rfl
        refine q_enters (k := 0) rfl (by omega) ⟨hr, ?_⟩
        have r1 : ∀ q, ¬ (q = 224 ∨ q = 226 ∨ q = 134 ∨ q = 248) → (sUI (sUI (sUI I2 248 0 0) 248 1 0) 248 1 (nI (0 + 1))) q = I q := fun q hq => by rw [sUI_ne (by omega), sUI_ne (by omega), sUI_ne (by omega), rb q (by omega)]
        have s1 : ∀ k, ¬ (k = 0 ∨ k = 1) → (sUI (sUI (sUI I2 248 0 0) 248 1 0) 248 1 (nI (0 + 1))) 248 k = I 248 k := fun k hk => by rw [pf_uis, if_neg (by omega), pf_uis, if_neg (by omega), pf_uis, if_neg (by omega), rb 248 (by omega)]
        refine ⟨(RT_congr hT (by rw [r1 1 (by omega)]) (r1 2 (by omega)) (s1 4 (by omega)) (r1 250 (by omega))), (RD_congr hD (fun q h1 h2 => r1 q (by omega)) (r1 253 (by omega)) (r1 254 (by omega)) (r1 255 (by omega)) (r1 256 (by omega)) (r1 276 (by omega)) (s1 11 (by omega)) (s1 12 (by omega)) (s1 15 (by omega)) (s1 21 (by omega)) (s1 22 (by omega)) (s1 23 (by omega))), (RK_congr hK (fun q h1 h2 => r1 q (by omega)) (r1 279 (by omega)) (r1 280 (by omega))), (RW_congr hW (fun q h1 h2 => r1 q (by omega)) (r1 257 (by omega)) (r1 258 (by omega)) (r1 259 (by omega))), (RC_congr hC (fun q h1 h2 => r1 q (by omega)) (by rw [r1 227 (by omega)]) (s1 46 (by omega)) (r1 275 (by omega))), ?_, (RX_congr hX (by rw [r1 0 (by omega)]) (s1 37 (by omega)) (by rw [r1 0 (by omega)]) (s1 33 (by omega)) (by rw [r1 141 (by omega)]))⟩
        refine RR_1 (x := lN w) ?_ ?_ ?_ ?_
        · rw [sUI_ne (by omega), sUI_ne (by omega), sUI_ne (by omega)]; exact h1
        · rw [pf_uis, if_pos rfl]
        · rw [pf_uj, if_neg (by omega), jc 135 (by omega)]; exact h2
        · rw [pf_ujs, if_pos rfl]
    refine ⟨fun y => ?_, fun y => ?_⟩
    · refine q_X6_tell ?_
      refine model _ _ 0 (fun q hq => ?_) (fun q hq => ?_) (Or.inr ⟨y, rfl, by rw [pf_uis, if_pos rfl], by rw [pf_ujs, if_pos rfl]⟩)
      · rw [sUI_ne (by omega), sUI_ne (by omega), ra q (by omega)]
      · funext k; rw [pf_uj, if_neg (by omega), ja q (by omega)]
    · exact model _ _ (-2) (fun q hq => ra q (by omega)) (fun q hq => ja q (by omega)) (Or.inl ⟨y, rfl, by rw [ra 134 (by omega)], ja 135 (by omega)⟩)
theorem S_ahead {I : sI} {J : sJ} (a1 a2 : Int32) (hR : RR0 I J) : St (w_X11_ahead a1 a2) (w_X12_ahead a1 a2) I J := by
  obtain ⟨hT, hD, hK, hW, hC, hQ, hX⟩ := hR
  obtain ⟨G, P, n, s, κ, ob, oa, hw, ho, hc, hm, hco, hmo⟩ := o_get hD
  have hP := hw.2.1
  have big : ∀ x : Int32, (0 ≤ x ∧ x ≤ nI P - 1) ↔ ∃ k, k < P ∧ x = nI k := by
    intro x
    cases P with
    | zero =>
      constructor
      · rintro ⟨q1, q2⟩
        rw [pf_leInt] at q1 q2
        have : (nI 0 - 1 : Int32).toInt = -1 := by decide
        have : (0 : Int32).toInt = 0 := by decide
        omega
      · rintro ⟨k, hk, _⟩; omega
    | succ P =>
      rw [nI_p (by omega), Nat.add_sub_cancel]
      constructor
      · rintro ⟨q1, q2⟩
        obtain ⟨k, hk, e⟩ := ix_of (by omega) q1 q2
        exact ⟨k, by omega, e⟩
      · rintro ⟨k, hk, rfl⟩
        exact ⟨pf_ge0 (by omega), (pf_le (by omega) (by omega)).mpr (by omega)⟩
  have refuse : ¬ ((1 ≤ P ∧ P ≤ 14) ∧ ∃ x y, x < P ∧ y < P ∧ a1 = nI x ∧ a2 = nI y ∧ x ≠ y) → w_X12_ahead a1 a2 I J (fun r2 I2 J2 => -1 = r2 ∧ RR0 I2 J2) := by
    intro g
    have fin : RR0 (sUI I 248 0 0) J := ⟨(RT_congr hT rfl rfl rfl rfl), (RD_congr hD (fun q h1 h2 => by repeat rw [sUI_ne (by omega)]) rfl rfl rfl rfl rfl rfl rfl rfl rfl rfl rfl), (RK_congr hK (fun q h1 h2 => by repeat rw [sUI_ne (by omega)]) rfl rfl), (RW_congr hW (fun q h1 h2 => by repeat rw [sUI_ne (by omega)]) rfl rfl rfl), (RC_congr hC (fun q h1 h2 => by repeat rw [sUI_ne (by omega)]) rfl rfl rfl), (RR_congr hQ rfl rfl rfl rfl), (RX_congr hX rfl rfl rfl rfl rfl)⟩
    unfold w_X12_ahead
    rintro _ rfl
    have e12 : (sUI I 248 0 0) 248 12 = nI P := hm.2.1
    refine q_ordered hP e12 (fun z => b2 (by decide) ?_) (fun z => b1 rfl ⟨rfl, fin⟩)
    refine q_in (lo := 0) (hi := nI P - 1) (by decide) (by rw [e12]) (fun p1 => b2 (by decide) ?_) (fun p1 => b1 rfl ⟨rfl, fin⟩)
    refine q_in (lo := 0) (hi := nI P - 1) (by decide) (by rw [e12]) (fun p2 => b2 (by decide) ?_) (fun p2 => b1 rfl ⟨rfl, fin⟩)
    obtain ⟨x, hx, rfl⟩ := (big a1).mp p1
    obtain ⟨y, hy, rfl⟩ := (big a2).mp p2
    rw [pf_eq (by omega) (by omega)]
    by_cases e : x = y
    · exact b4 e ⟨rfl, fin⟩
    · exact absurd ⟨z, x, y, hx, hy, rfl, rfl, e⟩ g
  have isP : ∀ {x : Int32} {post : Int32 → sI → sJ → Prop}, (∀ k, k < P → x = nI k → post 1 I J) → ((¬ ∃ k, k < P ∧ x = nI k) → post 0 I J) → w_X11_isPlace x I J post := by
    intro x post h1 h0
    unfold w_X11_isPlace
    rw [hc.2.1]
    rcases pf_split x (N := P) (by omega) with ⟨k, hk, rfl⟩ | q | q
    · exact b2 (pf_lt0 (by omega)) (b2 (by rw [pf_le (by omega) (by omega)]; omega) (h1 k hk rfl))
    · refine b1 q (h0 ?_)
      rintro ⟨k, hk, rfl⟩
      exact absurd q (pf_lt0 (by omega))
    · have nx : ¬ ∃ k, k < P ∧ x = nI k := by
        rintro ⟨k, hk, rfl⟩
        rw [pf_le (by omega) (by omega)] at q
        omega
      exact ⟨fun _ => h0 nx, fun _ => b1 q (h0 nx)⟩
  show w_X11_ahead a1 a2 I J _
  unfold w_X11_ahead
  refine q_cannot hP hc.2.1 (fun z => b3 (by decide) (refuse (fun q => z q.1))) (fun z => b4 rfl ?_)
  refine isP (fun x hx e1 => b2 (by decide) ?_) (fun g => b1 rfl (refuse (fun ⟨_, x, y, hx, hy, e1, e2, _⟩ => g ⟨x, hx, e1⟩)))
  refine isP (fun y hy e2 => b2 (by decide) ?_) (fun g => b1 rfl (refuse (fun ⟨_, x, y, hx, hy, e1, e2, _⟩ => g ⟨y, hy, e2⟩)))
  subst e1 e2
  rw [pf_eq (by omega) (by omega)]
  refine ⟨fun ne => ?_, fun e => refuse (fun ⟨_, x', y', hx', hy', e1, e2, ne⟩ => ?_)⟩
  rotate_left
  · rw [pf_eq (by omega) (by omega)] at e1 e2
    omega
  rw [hc.2.1]
  refine q_open z.2 ho hco (fun I1 ra e2 hb => ?_)
  refine q_number z.2 e2 (ndR_14 z.2 ho (fun _ _ q => q.elim)) hb (fun J1 ja => ?_)
  obtain ⟨w, ew⟩ : ∃ w, w = oW (ndR n ob oa (fun _ _ => False)) P (2 ^ P - 1) := ⟨_, rfl⟩
  have lt := oW_lt (D := ndR n ob oa (fun _ _ => False)) (P := P) (b := 2 ^ P - 1) z.2
  rw [← ew] at lt ⊢
  rw [lgc_0 (by omega)]
  obtain ⟨w2, ew2⟩ : ∃ w2, w2 = oW (ndR n ob oa (fun p q => p = y ∧ q = x)) P (2 ^ P - 1) := ⟨_, rfl⟩
  have lt2 := oW_lt (D := ndR n ob oa (fun p q => p = y ∧ q = x)) (P := P) (b := 2 ^ P - 1) z.2
  rw [← ew2] at lt2
  have model : ∀ (I2 : sI) (J2 : sJ) (r : Int32), (∀ q, ¬ (q = 224 ∨ q = 226 ∨ q = 134) → I2 q = I q) → (∀ q, ¬ (q = 225 ∨ q = 135) → J2 q = J q) → ((w = 0 ∧ r = -2 ∧ I2 134 1 = I 134 1 ∧ J2 135 = J 135) ∨ (w ≠ 0 ∧ r = 0 ∧ I2 134 1 = nI 2 ∧ J2 135 0 = lN (w2 / Nat.gcd w2 w) ∧ J2 135 1 = lN (w / Nat.gcd w2 w))) → w_X12_ahead (nI x) (nI y) I2 J2 (fun r2 I2 J2 => r = r2 ∧ RR0 I2 J2) := by
    intro I2 J2 r rb jb hr
    unfold w_X12_ahead
    rintro _ rfl
    have e12 : (sUI I2 248 0 0) 248 12 = nI P := by rw [pf_uis, if_neg (by omega), rb 248 (by omega)]; exact hm.2.1
    have hmo2 : mO n ob oa (sUI I2 248 0 0) := by
      unfold mO at *
      rw [pf_uis, if_neg (by omega), rb 248 (by omega), sUI_ne (by omega), sUI_ne (by omega), rb 255 (by omega), rb 256 (by omega)]
      exact hmo
    refine q_ordered hP e12 (fun _ => b2 (by decide) ?_) (fun q => absurd z q)
    refine q_in (lo := 0) (hi := nI P - 1) (by decide) (by rw [e12]) (fun p1 => b2 (by decide) ?_) (fun p1 => absurd ((big _).mpr ⟨x, hx, rfl⟩) p1)
    refine q_in (lo := 0) (hi := nI P - 1) (by decide) (by rw [e12]) (fun p2 => b2 (by decide) ?_) (fun p2 => absurd ((big _).mpr ⟨y, hy, rfl⟩) p2)
    rw [pf_eq (by omega) (by omega)]
    refine b3 ne ?_
    refine q_ordersOf (E := fun _ _ => False) z.2 e12 ho hmo2 (Or.inl ⟨rfl, rfl, fun _ _ q => q⟩) (fun J3 jc => ?_)
    rw [← ew, lgc_0 (by omega)]
    rcases hr with ⟨w0, hr, h1, h2⟩ | ⟨w0, hr, h1, h2, h3⟩
    · refine b4 w0 ⟨hr, ?_⟩
      have r1 : ∀ q, ¬ (q = 224 ∨ q = 226 ∨ q = 134 ∨ q = 248) → (sUI I2 248 0 0) q = I q := fun q hq => by rw [sUI_ne (by omega), rb q (by omega)]
      have s1 : ∀ k, ¬ (k = 0) → (sUI I2 248 0 0) 248 k = I 248 k := fun k hk => by rw [pf_uis, if_neg (by omega), rb 248 (by omega)]
      exact ⟨(RT_congr hT (by rw [r1 1 (by omega)]) (r1 2 (by omega)) (s1 4 (by omega)) (r1 250 (by omega))), (RD_congr hD (fun q h1 h2 => r1 q (by omega)) (r1 253 (by omega)) (r1 254 (by omega)) (r1 255 (by omega)) (r1 256 (by omega)) (r1 276 (by omega)) (s1 11 (by omega)) (s1 12 (by omega)) (s1 15 (by omega)) (s1 21 (by omega)) (s1 22 (by omega)) (s1 23 (by omega))), (RK_congr hK (fun q h1 h2 => r1 q (by omega)) (r1 279 (by omega)) (r1 280 (by omega))), (RW_congr hW (fun q h1 h2 => r1 q (by omega)) (r1 257 (by omega)) (r1 258 (by omega)) (r1 259 (by omega))), (RC_congr hC (fun q h1 h2 => r1 q (by omega)) (by rw [r1 227 (by omega)]) (s1 46 (by omega)) (r1 275 (by omega))), RR_congr hQ (by rw [sUI_ne (by omega)]; exact h1) (s1 1 (by omega)) (by rw [jc 135 (by omega)]; exact h2) (by rw [jc 249 (by omega), jb 249 (by omega)]), (RX_congr hX (by rw [r1 0 (by omega)]) (s1 37 (by omega)) (by rw [r1 0 (by omega)]) (s1 33 (by omega)) (by rw [r1 141 (by omega)]))⟩
    · refine b3 w0 ?_
      rintro _ rfl
      have e12b : (sUI (sUI I2 248 0 0) 248 1 0) 248 12 = nI P := by rw [pf_uis, if_neg (by omega)]; exact e12
      have hmo3 : mO n ob oa (sUI (sUI I2 248 0 0) 248 1 0) := hmo2
      refine q_ordersOf (E := fun p q => p = y ∧ q = x) z.2 e12b ho hmo3 (Or.inr ⟨x, y, hx, hy, rfl, rfl, fun _ _ => Iff.rfl⟩) (fun J4 jd => ?_)
      rw [← ew2]
      refine q_entersFraction rfl (by omega) (by omega) (by omega) ⟨hr, ?_⟩
      have r1 : ∀ q, ¬ (q = 224 ∨ q = 226 ∨ q = 134 ∨ q = 248) → (sUI (sUI (sUI (sUI I2 248 0 0) 248 1 0) 248 1 (nI 1)) 248 1 (nI 2)) q = I q := fun q hq => by rw [sUI_ne (by omega), sUI_ne (by omega), sUI_ne (by omega), sUI_ne (by omega), rb q (by omega)]
      have s1 : ∀ k, ¬ (k = 0 ∨ k = 1) → (sUI (sUI (sUI (sUI I2 248 0 0) 248 1 0) 248 1 (nI 1)) 248 1 (nI 2)) 248 k = I 248 k := fun k hk => by rw [pf_uis, if_neg (by omega), pf_uis, if_neg (by omega), pf_uis, if_neg (by omega), pf_uis, if_neg (by omega), rb 248 (by omega)]
      refine ⟨(RT_congr hT (by rw [r1 1 (by omega)]) (r1 2 (by omega)) (s1 4 (by omega)) (r1 250 (by omega))), (RD_congr hD (fun q h1 h2 => r1 q (by omega)) (r1 253 (by omega)) (r1 254 (by omega)) (r1 255 (by omega)) (r1 256 (by omega)) (r1 276 (by omega)) (s1 11 (by omega)) (s1 12 (by omega)) (s1 15 (by omega)) (s1 21 (by omega)) (s1 22 (by omega)) (s1 23 (by omega))), (RK_congr hK (fun q h1 h2 => r1 q (by omega)) (r1 279 (by omega)) (r1 280 (by omega))), (RW_congr hW (fun q h1 h2 => r1 q (by omega)) (r1 257 (by omega)) (r1 258 (by omega)) (r1 259 (by omega))), (RC_congr hC (fun q h1 h2 => r1 q (by omega)) (by rw [r1 227 (by omega)]) (s1 46 (by omega)) (r1 275 (by omega))), ?_, (RX_congr hX (by rw [r1 0 (by omega)]) (s1 37 (by omega)) (by rw [r1 0 (by omega)]) (s1 33 (by omega)) (by rw [r1 141 (by omega)]))⟩
      refine RR_2 (x := lN (w2 / Nat.gcd w2 w)) (y := lN (w / Nat.gcd w2 w)) ?_ ?_ ?_ ?_ ?_ ?_
      · rw [sUI_ne (by omega), sUI_ne (by omega), sUI_ne (by omega), sUI_ne (by omega)]; exact h1
      · rw [pf_uis, if_pos rfl]
      · rw [pf_uj, if_neg (by omega), pf_uj, if_neg (by omega), jd 135 (by omega), jc 135 (by omega)]; exact h2
      · rw [pf_ujs, if_neg (by omega), pf_ujs, if_pos rfl]
      · rw [pf_uj, if_neg (by omega), pf_uj, if_neg (by omega), jd 135 (by omega), jc 135 (by omega)]; exact h3
      · rw [pf_ujs, if_pos rfl]
  refine ⟨fun v => ?_, fun v => ?_⟩
  · refine q_bind (D2 := ndR n ob oa (fun p q => p = y ∧ q = x)) z.2 e2 hb hy hx (fun p q => ?_) (fun I3 rc hb3 => ?_)
    · unfold ndR
      exact ⟨fun k => k.elim (fun k => Or.inl (Or.inl k)) Or.inr, fun k => k.elim (fun k => k.elim Or.inl (fun k => k.elim)) Or.inr⟩
    · refine q_number z.2 (by rw [rc 224 (by omega)]; exact e2) (ndR_14 z.2 ho (fun _ _ q => by omega)) hb3 (fun J3 jb => ?_)
      rw [← ew2]
      refine q_tellFraction (by omega) (by omega) (by omega) ?_
      refine model _ _ 0 (fun q hq => ?_) (fun q hq => ?_) (Or.inr ⟨v, rfl, by rw [pf_uis, if_pos rfl], by rw [pf_ujs, if_neg (by omega), pf_ujs, if_pos rfl], by rw [pf_ujs, if_pos rfl]⟩)
      · rw [sUI_ne (by omega), sUI_ne (by omega), sUI_ne (by omega), rc q (by omega), ra q (by omega)]
      · funext k; rw [pf_uj, if_neg (by omega), pf_uj, if_neg (by omega), jb q (by omega), ja q (by omega)]
  · exact model _ _ (-2) (fun q hq => ra q (by omega)) (fun q hq => ja q (by omega)) (Or.inl ⟨v, rfl, by rw [ra 134 (by omega)], ja 135 (by omega)⟩)
