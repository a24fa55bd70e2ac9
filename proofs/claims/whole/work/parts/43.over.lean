def isO (n : Nat) (ob oa : Nat → Nat) (x y : Nat) : Prop := ∃ i, i < n ∧ ob i = x ∧ oa i = y
theorem q_X4_has {I : sI} {J : sJ} {post : Int32 → sI → sJ → Prop} {n x y : Nat} {ob oa : Nat → Nat} (hc : cO n ob oa 8 I) (hn : n ≤ 12) (hx : x < 100) (hy : y < 100) (hob : ∀ i, i < n → ob i < 100 ∧ oa i < 100) (h1 : isO n ob oa x y → post 1 I J) (h0 : ¬ isO n ob oa x y → post 0 I J) : w_X4_has 8 (nI x) (nI y) I J post := by
  obtain ⟨c1, c2⟩ := hc
  obtain ⟨z0, z1⟩ := sRover 8 (by decide)
  have loop : ∀ m i, i ≤ n → n - i < m → (∀ k, k < i → ¬ (ob k = x ∧ oa k = y)) → w_X4_has_2_n 8 post m (nI x) (nI y) (nI i) I J := by
    intro m
    induction m with
    | zero => intro i _ h; omega
    | succ m ih =>
      intro i hi hm hk
      show w_X4_has_2_s 8 post _ _ _ _ I J
      unfold w_X4_has_2_s
      rw [z0, z1, c1, pf_le (by omega) (by omega)]
      refine ⟨fun e => h0 (fun ⟨k, a, c⟩ => hk k (by omega) c), fun e => ⟨vp_in_nI (by omega) (by omega), ?_⟩⟩
      obtain ⟨d1, d2⟩ := c2 i (by omega)
      obtain ⟨o1, o2⟩ := hob i (by omega)
      have next : ¬ (ob i = x ∧ oa i = y) → w_X4_has_32 8 post (w_X4_has_2_n 8 post m) (nI x) (nI y) (nI i) I J := by
        intro z
        unfold w_X4_has_32
        rintro _ rfl
        rw [nI_1]
        refine ih (i + 1) (by omega) (by omega) (fun k hk2 => ?_)
        rcases Nat.lt_or_ge k i with q | q
        · exact hk k q
        · rw [show k = i by omega]; exact z
      rw [pf_cl (by omega), d1, d2, pf_eq (by omega) (by omega), pf_eq (by omega) (by omega)]
      exact ⟨fun a => next (fun z => a z.1), fun a => ⟨vp_in_nI (by omega) (by omega), fun c => next (fun z => c z.2), fun c => h1 ⟨i, by omega, a, c⟩⟩⟩
  exact ⟨n + 1, loop (n + 1) 0 (by omega) (by omega) (fun k hk => by omega)⟩
theorem q_X4_add {I : sI} {J : sJ} {post : Int32 → sI → sJ → Prop} {n : Nat} {x y : Int32} (hc : I 8 2 = nI n) (hn : n < 12) (h : post (nI (n + 1)) (sUI (sUI (sUI I 9 n x) 10 n y) 8 2 (nI (n + 1))) J) : w_X4_add 8 x y I J post := by
  obtain ⟨z0, z1⟩ := sRover 8 (by decide)
  unfold w_X4_add w_X4_add_39
  rw [z0, z1, hc, show (12 : Int32) = nI 12 from rfl]
  refine b2 (by rw [pf_le (by omega) (by omega)]; omega) ⟨vp_in_nI (by omega) (by omega), ?_⟩
  rw [pf_cl (by omega)]
  rintro _ rfl
  rw [show (sUI I (8 + 1) n x) 8 2 = nI n from hc, pf_cl (by omega)]
  refine ⟨vp_in_nI (by omega) (by omega), ?_⟩
  rintro _ rfl
  rw [show (sUI (sUI I (8 + 1) n x) (8 + 2) n y) 8 2 = nI n from hc, nI_1]
  rintro _ rfl
  exact h
theorem q_X11_over {I : sI} {J : sJ} {post : Int32 → sI → sJ → Prop} {a1 a2 : Int32} {P n : Nat} {ob oa : Nat → Nat} (hP : I 4 4 = nI P) (hP60 : P ≤ 60) (hc : cO n ob oa 8 I) (hw : tWO P n ob oa) (h1 : ∀ x y, x < P → y < P → a1 = nI x → a2 = nI y → x ≠ y → n < 12 → ¬ isO n ob oa x y → post (nI (n + 1)) (sUI (sUI (sUI I 9 n (nI x)) 10 n (nI y)) 8 2 (nI (n + 1))) J) (h0 : (¬ ∃ x y, x < P ∧ y < P ∧ a1 = nI x ∧ a2 = nI y ∧ x ≠ y ∧ n < 12 ∧ ¬ isO n ob oa x y) → post (-1) I J) : w_X11_over a1 a2 I J post := by
  obtain ⟨w1, w2, w3⟩ := hw
  unfold w_X11_over
  refine q_X11_isPlace hP hP60 (fun g1 => b2 (by decide) ?_) (fun z => b1 rfl (h0 (fun ⟨x, y, a, b, c, d, e⟩ => z ⟨x, a, c⟩)))
  refine q_X11_isPlace hP hP60 (fun g2 => b2 (by decide) ?_) (fun z => b1 rfl (h0 (fun ⟨x, y, a, b, c, d, e⟩ => z ⟨y, b, d⟩)))
  obtain ⟨x, hx, rfl⟩ := g1
  obtain ⟨y, hy, rfl⟩ := g2
  have eqx : ∀ x', nI x = nI x' → x' < P → x = x' := fun x' e h => (pf_eq (by omega) (by omega)).mp e
  have eqy : ∀ x', nI y = nI x' → x' < P → y = x' := fun x' e h => (pf_eq (by omega) (by omega)).mp e
  rw [pf_eq (by omega) (by omega), hc.1, show (12 : Int32) = nI 12 from rfl, pf_le (by omega) (by omega)]
  refine ⟨fun e => ⟨fun e2 => h0 (fun ⟨x', y', a, b, c, d, e, f, g⟩ => by omega), fun e2 => ?_⟩, fun e => h0 (fun ⟨x', y', a, b, c, d, f, g⟩ => f (by rw [← eqx x' c a, ← eqy y' d b, e]))⟩
  refine q_X4_has hc w1 (by omega) (by omega) (fun i hi => by have := w2 i hi; omega) (fun z => b2 (by decide) (h0 (fun ⟨x', y', a, b, c, d, e, f, g⟩ => g (by rw [← eqx x' c a, ← eqy y' d b]; exact z)))) (fun z => b1 rfl ?_)
  exact q_X4_add hc.1 (by omega) (h1 x y hx hy rfl rfl e (by omega) z)
theorem q_X12_over {I : sI} {J : sJ} {post : Int32 → sI → sJ → Prop} {a1 a2 : Int32} {P n : Nat} {ob oa : Nat → Nat} (hP : I 248 12 = nI P) (hP60 : P ≤ 60) (hm : mO n ob oa I) (hw : tWO P n ob oa) (h1 : ∀ x y, x < P → y < P → a1 = nI x → a2 = nI y → x ≠ y → n < 12 → ¬ isO n ob oa x y → post (nI (n + 1)) (sUI (sUI (sUI (sUI I 248 0 0) 255 n (nI x)) 256 n (nI y)) 248 15 (nI (n + 1))) J) (h0 : (¬ ∃ x y, x < P ∧ y < P ∧ a1 = nI x ∧ a2 = nI y ∧ x ≠ y ∧ n < 12 ∧ ¬ isO n ob oa x y) → post (-1) (sUI I 248 0 0) J) : w_X12_over a1 a2 I J post := by
  obtain ⟨w1, w2, w3⟩ := hw
  obtain ⟨m1, m2⟩ := hm
  have none : (¬ ∃ x y, x < P ∧ y < P ∧ a1 = nI x ∧ a2 = nI y ∧ x ≠ y ∧ n < 12 ∧ ¬ isO n ob oa x y) → w_X12_over_55 post a1 a2 (sUI I 248 0 0) J := by
    intro z
    unfold w_X12_over_55 w_X12_over_56
    refine ⟨1, ?_⟩
    show w_X12_over_60_s post _ _ _ _ _ _ J
    unfold w_X12_over_60_s w_X12_over_107
    exact ⟨fun _ => b4 rfl (h0 z), fun _ => b1 rfl (b4 rfl (h0 z))⟩
  unfold w_X12_over
  rintro _ rfl
  rw [show (sUI I 248 0 0) 248 12 = nI P from hP]
  refine q_inx P (by omega) (hi := nI P - 1) rfl rfl (fun g1 => b2 (by decide) ?_) (fun z => b1 rfl (none (fun ⟨x, y, a, b, c, d, e⟩ => z ⟨x, a, c⟩)))
  rw [show (sUI I 248 0 0) 248 12 = nI P from hP]
  refine q_inx P (by omega) (hi := nI P - 1) rfl rfl (fun g2 => b2 (by decide) ?_) (fun z => b1 rfl (none (fun ⟨x, y, a, b, c, d, e⟩ => z ⟨y, b, d⟩)))
  obtain ⟨x, hx, rfl⟩ := g1
  obtain ⟨y, hy, rfl⟩ := g2
  have eqx : ∀ x', nI x = nI x' → x' < P → x = x' := fun x' e h => (pf_eq (by omega) (by omega)).mp e
  have eqy : ∀ x', nI y = nI x' → x' < P → y = x' := fun x' e h => (pf_eq (by omega) (by omega)).mp e
  rw [pf_eq (by omega) (by omega), show (sUI I 248 0 0) 248 15 = nI n from m1, show (12 : Int32) = nI 12 from rfl, pf_le (by omega) (by omega)]
  refine ⟨fun e => none (fun ⟨x', y', a, b, c, d, f, g⟩ => f (by rw [← eqx x' c a, ← eqy y' d b, e])), fun e => ⟨fun e2 => none (fun ⟨x', y', a, b, c, d, e, f, g⟩ => by omega), fun e2 => ?_⟩⟩
  have loop : ∀ m i (x3 : Int32), i ≤ n → n - i < m → (x3 = 0 ∨ x3 = 1) → (x3 = 1 → ∀ k, k < i → ¬ (ob k = x ∧ oa k = y)) → (x3 = 0 → isO n ob oa x y) → w_X12_over_60_n post m (nI x) (nI y) x3 (nI i) (sUI I 248 0 0) J := by
    intro m
    induction m with
    | zero => intro i x3 _ h; omega
    | succ m ih =>
      intro i x3 hi hm hz g1 g0
      show w_X12_over_60_s post _ _ _ _ _ _ J
      have fin : (w_X12_over_107 post (nI x) (nI y) x3 (sUI I 248 0 0) J ∧ (x3 = 0 ∨ n ≤ i)) ∨ (x3 = 1 ∧ i < n) := by
        rcases hz with rfl | rfl
        · left
          unfold w_X12_over_107
          exact ⟨b4 rfl (h0 (fun ⟨x', y', a, b, c, d, e, f, g⟩ => g (by rw [← eqx x' c a, ← eqy y' d b]; exact g0 rfl))), Or.inl rfl⟩
        · rcases Nat.lt_or_ge i n with q | q
          · exact Or.inr ⟨rfl, q⟩
          · left
            unfold w_X12_over_107
            refine ⟨b3 (by decide) ?_, Or.inr q⟩
            rw [show (sUI I 248 0 0) 248 15 = nI n from m1]
            refine ⟨vp_in_nI (by omega) (by omega), ?_⟩
            rw [pf_cl (by omega)]
            rintro _ rfl
            rw [show (sUI (sUI I 248 0 0) 255 n (nI x)) 248 15 = nI n from m1, pf_cl (by omega)]
            refine ⟨vp_in_nI (by omega) (by omega), ?_⟩
            rintro _ rfl
            rw [show (sUI (sUI (sUI I 248 0 0) 255 n (nI x)) 256 n (nI y)) 248 15 = nI n from m1, nI_1]
            rintro _ rfl
            exact h1 x y hx hy rfl rfl e (by omega) (fun ⟨k, a, c⟩ => g1 rfl k (by omega) c)
      unfold w_X12_over_60_s
      rw [show (sUI I 248 0 0) 248 15 = nI n from m1, pf_le (by omega) (by omega)]
      rcases fin with ⟨fin, hh⟩ | ⟨rfl, q⟩
      · exact ⟨fun _ => fin, fun x => ⟨fun _ => fin, fun y => by rcases hh with hh | hh; exact absurd hh y; exact absurd hh x⟩⟩
      · refine b2 (by omega) (b2 (by decide) ⟨vp_in_nI (by omega) (by omega), ?_⟩)
        obtain ⟨d1, d2⟩ := m2 i q
        have := w2 i q
        rw [pf_cl (by omega), show (sUI I 248 0 0) 255 i = nI (ob i) from d1, show (sUI I 248 0 0) 256 i = nI (oa i) from d2, pf_eq (by omega) (by omega), pf_eq (by omega) (by omega)]
        have go : ¬ (ob i = x ∧ oa i = y) → w_X12_over_95 post (w_X12_over_60_n post m) (nI x) (nI y) (nI i) (sUI I 248 0 0) J := by
          intro z
          unfold w_X12_over_95 w_X12_over_100
          rintro _ rfl
          rw [nI_1]
          refine ih (i + 1) 1 (by omega) (by omega) (Or.inr rfl) (fun _ k hk => ?_) (fun z => absurd z (by decide))
          rcases Nat.lt_or_ge k i with w | w
          · exact g1 rfl k w
          · rw [show k = i by omega]; exact z
        refine ⟨fun a => go (fun z => a z.1), fun a => ⟨vp_in_nI (by omega) (by omega), fun c => ?_, fun c => go (fun z => c z.2)⟩⟩
        unfold w_X12_over_100
        rintro _ rfl
        rw [nI_1]
        exact ih (i + 1) 0 (by omega) (by omega) (Or.inl rfl) (fun z => absurd z (by decide)) (fun _ => ⟨i, q, a, c⟩)
  unfold w_X12_over_56
  exact ⟨n + 1, loop (n + 1) 0 1 (by omega) (by omega) (Or.inr rfl) (fun _ k hk => by omega) (fun z => absurd z (by decide))⟩
theorem S_over {I : sI} {J : sJ} (a1 a2 : Int32) (hR : RR0 I J) : St (w_X11_over a1 a2) (w_X12_over a1 a2) I J := by
  obtain ⟨hT, hD, hK, hW, hC, hQ, hX⟩ := hR
  obtain ⟨⟨G, P, s, κ, n, ob, oa, h, d, bk, fi⟩, hw, hc, hm⟩ := id hD
  obtain ⟨w1, w2, w3, w4, w5, w6, w7⟩ := hw
  refine q_X11_over hc.1.2.1 w1.2.1 hc.2.1 w2 (fun x y g1 g2 e1 e2 g3 g4 g5 => ?_) (fun z => ?_)
  · have hh : ∃ x y, x < P ∧ y < P ∧ a1 = nI x ∧ a2 = nI y ∧ x ≠ y ∧ n < 12 ∧ ¬ isO n ob oa x y := ⟨x, y, g1, g2, e1, e2, g3, g4, g5⟩
    have hP60 := w1.2.1
    refine q_X12_over (I := sUI (sUI (sUI I 9 n (nI x)) 10 n (nI y)) 8 2 (nI (n + 1))) hm.1.2.1 w1.2.1 hm.2.1 w2 (fun x' y' g1' g2' e1' e2' g3' g4' g5' => ?_) (fun z => absurd hh z)
    have z1 : x = x' := (pf_eq (by omega) (by omega)).mp (by rw [← e1, e1'])
    have z2 : y = y' := (pf_eq (by omega) (by omega)).mp (by rw [← e2, e2'])
    subst z1 z2
    have r1 : ∀ q, ¬ (q = 8 ∨ q = 9 ∨ q = 10 ∨ q = 248 ∨ q = 255 ∨ q = 256) → (sUI (sUI (sUI (sUI (sUI (sUI (sUI I 9 n (nI x)) 10 n (nI y)) 8 2 (nI (n + 1))) 248 0 0) 255 n (nI x)) 256 n (nI y)) 248 15 (nI (n + 1))) q = I q := fun q hq => by rw [sUI_ne (by omega), sUI_ne (by omega), sUI_ne (by omega), sUI_ne (by omega), sUI_ne (by omega), sUI_ne (by omega), sUI_ne (by omega)]
    refine ⟨rfl, (RT_congr hT rfl rfl rfl rfl), ?_, RK_congr hK (fun q h1 h2 => r1 q (by omega)) rfl rfl, RW_congr hW (fun q h1 h2 => r1 q (by omega)) rfl rfl rfl, RC_congr hC (fun q h1 h2 => r1 q (by omega)) rfl rfl rfl, (RR_congr hQ rfl rfl rfl rfl), (RX_congr hX rfl rfl rfl rfl rfl)⟩
    refine ⟨(G, P, s, κ, n + 1, fun i => if i = n then x else ob i, fun i => if i = n then y else oa i, h, d, bk, fi), ⟨w1, ⟨by omega, fun i hi => ?_, fun i j hi hj => ?_⟩, w3, w4, w5, w6, w7⟩, ⟨hc.1, ⟨rfl, fun i hi => ?_⟩, hc.2.2⟩, ⟨hm.1, ⟨rfl, fun i hi => ?_⟩, hm.2.2⟩⟩
    · show (if i = n then x else ob i) < P ∧ (if i = n then y else oa i) < P ∧ (if i = n then x else ob i) ≠ (if i = n then y else oa i)
      split
      · exact ⟨g1, g2, g3⟩
      · exact w2.2.1 i (by omega)
    · show (if i = n then x else ob i) = (if j = n then x else ob j) → (if i = n then y else oa i) = (if j = n then y else oa j) → i = j
      by_cases ei : i = n <;> by_cases ej : j = n
      · intro _ _; omega
      · rw [if_pos ei, if_neg ej, if_pos ei, if_neg ej]
        intro a c
        exact absurd ⟨j, by omega, a.symm, c.symm⟩ g5
      · rw [if_neg ei, if_pos ej, if_neg ei, if_pos ej]
        intro a c
        exact absurd ⟨i, by omega, a, c⟩ g5
      · rw [if_neg ei, if_neg ej, if_neg ei, if_neg ej]
        exact w2.2.2 i j (by omega) (by omega)
    · have c2 := hc.2.1.2
      show (if 9 = 9 ∧ i = n then nI x else I 9 i) = nI (if i = n then x else ob i) ∧ (if 10 = 10 ∧ i = n then nI y else I 10 i) = nI (if i = n then y else oa i)
      by_cases ei : i = n
      · rw [if_pos ⟨rfl, ei⟩, if_pos ei, if_pos ⟨rfl, ei⟩, if_pos ei]; exact ⟨rfl, rfl⟩
      · rw [if_neg (fun z => ei z.2), if_neg ei, if_neg (fun z => ei z.2), if_neg ei]; exact c2 i (by omega)
    · have c2 := hm.2.1.2
      show (if 255 = 255 ∧ i = n then nI x else I 255 i) = nI (if i = n then x else ob i) ∧ (if 256 = 256 ∧ i = n then nI y else I 256 i) = nI (if i = n then y else oa i)
      by_cases ei : i = n
      · rw [if_pos ⟨rfl, ei⟩, if_pos ei, if_pos ⟨rfl, ei⟩, if_pos ei]; exact ⟨rfl, rfl⟩
      · rw [if_neg (fun z => ei z.2), if_neg ei, if_neg (fun z => ei z.2), if_neg ei]; exact c2 i (by omega)
  · refine q_X12_over hm.1.2.1 w1.2.1 hm.2.1 w2 (fun x' y' g1' g2' e1' e2' g3' g4' g5' => absurd ⟨x', y', g1', g2', e1', e2', g3', g4', g5'⟩ z) (fun _ => ?_)
    exact ⟨rfl, (RT_congr hT rfl rfl rfl rfl), (RD_congr hD (fun q h1 h2 => by repeat rw [sUI_ne (by omega)]) rfl rfl rfl rfl rfl rfl rfl rfl rfl rfl rfl), (RK_congr hK (fun q h1 h2 => by repeat rw [sUI_ne (by omega)]) rfl rfl), (RW_congr hW (fun q h1 h2 => by repeat rw [sUI_ne (by omega)]) rfl rfl rfl), (RC_congr hC (fun q h1 h2 => by repeat rw [sUI_ne (by omega)]) rfl rfl rfl), (RR_congr hQ rfl rfl rfl rfl), (RX_congr hX rfl rfl rfl rfl rfl)⟩
