/-- two places of one group; neighbours -/
def sgP (G : Nat) (s : Nat → Nat) (p q : Nat) : Prop := ∃ g, g < G ∧ s g ≤ p ∧ p < s (g + 1) ∧ s g ≤ q ∧ q < s (g + 1)
def nbP (G : Nat) (s ob oa : Nat → Nat) (w i : Nat) : Prop := ((w = 1 ∧ ob i = oa i + 1) ∨ (w = 0 ∧ oa i = ob i + 1)) ∧ sgP G s (ob i) (oa i)
theorem s_mono {G P : Nat} {s κ : Nat → Nat} (hw : tWD G P s κ) : ∀ {b a}, a ≤ b → b ≤ G → s a ≤ s b := by
  intro b
  induction b with
  | zero => intro a h _; rw [show a = 0 by omega]; exact Nat.le_refl _
  | succ b ih =>
    intro a h hb
    rcases Nat.lt_or_ge a (b + 1) with x | x
    · have := ih (show a ≤ b by omega) (by omega)
      have := (hw.2.2.2.2.1 b (by omega)).1
      omega
    · rw [show a = b + 1 by omega]; exact Nat.le_refl _
theorem gof_ex {G P : Nat} {s κ : Nat → Nat} (hw : tWD G P s κ) {p : Nat} (hp : p < P) : ∃ g, g < G ∧ s g ≤ p ∧ p < s (g + 1) := by
  have : ∀ n, n ≤ G → p < s n → ∃ g, g < n ∧ s g ≤ p ∧ p < s (g + 1) := by
    intro n
    induction n with
    | zero => intro _ h; rw [hw.2.2.1] at h; omega
    | succ n ih =>
      intro hn h
      rcases Nat.lt_or_ge p (s n) with x | x
      · obtain ⟨g, a, b, c⟩ := ih (by omega) x
        exact ⟨g, by omega, b, c⟩
      · exact ⟨n, by omega, x, h⟩
  exact this G (Nat.le_refl _) (by rw [hw.2.2.2.1]; exact hp)
theorem gof_un {G P : Nat} {s κ : Nat → Nat} (hw : tWD G P s κ) {p g g2 : Nat} (h1 : g < G) (h2 : g2 < G) (a : s g ≤ p) (b : p < s (g + 1)) (c : s g2 ≤ p) (d : p < s (g2 + 1)) : g = g2 := by
  rcases Nat.lt_or_ge g g2 with x | x
  · have := s_mono hw (show g + 1 ≤ g2 by omega) (by omega); omega
  · rcases Nat.lt_or_ge g2 g with y | y
    · have := s_mono hw (show g2 + 1 ≤ g by omega) (by omega); omega
    · omega
theorem sg_iff {G P : Nat} {s κ : Nat → Nat} (hw : tWD G P s κ) {p q g g2 : Nat} (h1 : g < G) (h2 : g2 < G) (a : s g ≤ p) (b : p < s (g + 1)) (c : s g2 ≤ q) (d : q < s (g2 + 1)) : g = g2 ↔ sgP G s p q := by
  constructor
  · rintro rfl; exact ⟨g, h1, a, b, c, d⟩
  · rintro ⟨k, k1, k2, k3, k4, k5⟩
    rw [gof_un hw h1 k1 a b k2 k3, gof_un hw h2 k1 c d k4 k5]
theorem d_1 {a b : Nat} (ha : a < 1000) (hb : b < 1000) : nI a - nI b = 1 ↔ a = b + 1 := by
  rw [fa_eq, pk_sub_toInt (by omega) (by omega), show (1 : Int32).toInt = 1 by decide]
  omega
theorem d_m1 {a b : Nat} (ha : a < 1000) (hb : b < 1000) : nI a - nI b = -1 ↔ b = a + 1 := by
  rw [fa_eq, pk_sub_toInt (by omega) (by omega), show (-1 : Int32).toInt = -1 by decide]
  omega
theorem q_nbC {I : sI} {J : sJ} {post : Int32 → sI → sJ → Prop} {G P n w : Nat} {s κ ob oa : Nat → Nat} (hw : tWD G P s κ) (ho : tWO P n ob oa) (hc : cD G P s κ 4 I) (hco : cO n ob oa 8 I) (hww : w ≤ 1) (h : post (nI (cnt (nbP G s ob oa w) n)) I J) : w_X11_neighbours (nI w) I J post := by
  obtain ⟨o1, o2, o3⟩ := ho
  have hP := hw.2.1
  have hG := hw.1
  have loop : ∀ m i, i ≤ n → n - i < m → w_X11_neighbours_4_n post m (nI w) (nI (cnt (nbP G s ob oa w) i)) (nI i) I J := by
    intro m
    induction m with
    | zero => intro i _ h; omega
    | succ m ih =>
      intro i hi hm
      show w_X11_neighbours_4_s post _ _ _ _ I J
      unfold w_X11_neighbours_4_s w_X11_neighbours_63 w_X11_neighbours_103
      rw [hco.1, pf_le (by omega) (by omega), pf_cl (by omega)]
      refine ⟨fun e => ?_, fun e => ⟨vp_in_nI (by omega) (by omega), ?_⟩⟩
      · rw [show i = n by omega]; exact h
      · obtain ⟨c1, c2⟩ := hco.2 i (by omega)
        obtain ⟨p1, p2, p3⟩ := o2 i (by omega)
        rw [show I 9 i = nI (ob i) from c1, show I 10 i = nI (oa i) from c2]
        rintro _ rfl
        refine ⟨vp_in_nI (by omega) (by omega), ?_⟩
        rintro _ rfl
        obtain ⟨g, g1, g2, g3⟩ := gof_ex hw p1
        obtain ⟨k, k1, k2, k3⟩ := gof_ex hw p2
        rw [pf_cl (by omega), pf_cl (by omega), show I 6 (ob i) = nI g from hc.2.2.2.2 g _ g1 g2 g3, show I 6 (oa i) = nI k from hc.2.2.2.2 k _ k1 k2 k3, pf_eq (by omega) (by omega), sg_iff hw g1 k1 g2 g3 k2 k3, d_1 (by omega) (by omega), d_1 (by omega) (by omega), nI_1, pf_eq0 (by omega)]
        have no : ¬ nbP G s ob oa w i → ∀ v3_103 : Int32, v3_103 = nI (i + 1) → w_X11_neighbours_4_n post m (nI w) (nI (cnt (nbP G s ob oa w) i)) v3_103 I J := by
          rintro y _ rfl
          rw [c_n y]
          exact ih (i + 1) (by omega) (by omega)
        have yes : nbP G s ob oa w i → ∀ v2_100 : Int32, v2_100 = nI (cnt (nbP G s ob oa w) i) + 1 → ∀ v3_103 : Int32, v3_103 = nI (i + 1) → w_X11_neighbours_4_n post m (nI w) v2_100 v3_103 I J := by
          rintro y _ rfl _ rfl
          rw [c_s y]
          exact ih (i + 1) (by omega) (by omega)
        have two : ∀ A : Prop, (A ↔ ((w = 1 ∧ ob i = oa i + 1) ∨ (w = 0 ∧ oa i = ob i + 1))) → (¬A → ∀ v3_103 : Int32, v3_103 = nI (i + 1) → w_X11_neighbours_4_n post m (nI w) (nI (cnt (nbP G s ob oa w) i)) v3_103 I J) ∧ (A → vp_in (nI (ob i)) 60 ∧ vp_in (nI (oa i)) 60 ∧ (¬sgP G s (ob i) (oa i) → ∀ v3_103 : Int32, v3_103 = nI (i + 1) → w_X11_neighbours_4_n post m (nI w) (nI (cnt (nbP G s ob oa w) i)) v3_103 I J) ∧ (sgP G s (ob i) (oa i) → ∀ v2_100 : Int32, v2_100 = nI (cnt (nbP G s ob oa w) i) + 1 → ∀ v3_103 : Int32, v3_103 = nI (i + 1) → w_X11_neighbours_4_n post m (nI w) v2_100 v3_103 I J)) := by
          intro A hA
          exact ⟨fun y => no (fun q => y (hA.mpr q.1)), fun y => ⟨vp_in_nI (by omega) (by omega), vp_in_nI (by omega) (by omega), fun z => no (fun q => z q.2), fun z => yes ⟨hA.mp y, z⟩⟩⟩
        exact ⟨fun y => two _ (by omega), fun y => two _ (by omega)⟩
  exact ⟨n + 1, loop (n + 1) 0 (by omega) (by omega)⟩
theorem q_groupOf {I : sI} {J : sJ} {post : Int32 → sI → sJ → Prop} {G P p : Nat} {s κ : Nat → Nat} (hw : tWD G P s κ) (hm : mD G P s κ I) (hp : p < P) (h : ∀ g, g < G → s g ≤ p → p < s (g + 1) → post (nI g) I J) : w_X12_groupOf (nI p) I J post := by
  have hP := hw.2.1
  have hG := hw.1
  have lt : ∀ g, g < G → s (g + 1) ≤ P := fun g hg => by rw [← hw.2.2.2.1]; exact s_mono hw (by omega) (Nat.le_refl _)
  have loop : ∀ m g, g < G → G - g < m → s g ≤ p → w_X12_groupOf_9_n post m (nI p) (nI g) (nI (s (g + 1))) I J := by
    intro m
    induction m with
    | zero => intro i _ h; omega
    | succ m ih =>
      intro g hg hm2 hs
      have l1 := lt g hg
      show w_X12_groupOf_9_s post _ _ _ _ I J
      unfold w_X12_groupOf_9_s
      rw [pf_lt (by omega) (by omega), nI_1]
      refine ⟨fun e => h g hg hs e, fun e => ?_⟩
      have hg2 : g + 1 < G := by
        rcases Nat.lt_or_ge (g + 1) G with x | x
        · exact x
        · have := hw.2.2.2.1
          rw [show g + 1 = G by omega] at e
          omega
      rintro _ rfl
      refine ⟨vp_in_nI (by omega) (by omega), ?_⟩
      have l3 := (hw.2.2.2.2.1 (g + 1) hg2).1
      rw [pf_cl (by omega), hm.2.2.1 (g + 1) hg2, nI_add, show s (g + 1) + (s (g + 1 + 1) - s (g + 1)) = s (g + 1 + 1) by omega]
      rintro _ rfl
      exact ih (g + 1) hg2 (by omega) (by omega)
  have hG0 : 0 < G := by
    rcases Nat.eq_zero_or_pos G with x | x
    · have a := hw.2.2.1
      have b := hw.2.2.2.1
      rw [x] at b
      omega
    · exact x
  unfold w_X12_groupOf
  refine ⟨vp_in_nI (n := 0) (by omega) (by omega), ?_⟩
  rw [show Int32.toNatClampNeg 0 = 0 from rfl, hm.2.2.1 0 hG0, hw.2.2.1]
  rintro _ rfl
  exact ⟨G + 1, loop (G + 1) 0 hG0 (by omega) (by rw [hw.2.2.1]; omega)⟩
theorem q_nbM {I : sI} {J : sJ} {post : Int32 → sI → sJ → Prop} {G P n w : Nat} {s κ ob oa : Nat → Nat} {a : Int32} (hw : tWD G P s κ) (ho : tWO P n ob oa) (hm : mD G P s κ I) (hmo : mO n ob oa I) (hww : (w = 1 ∧ a = 1) ∨ (w = 0 ∧ a = -1)) (h : post (nI (cnt (nbP G s ob oa w) n)) I J) : w_X12_neighbours a I J post := by
  obtain ⟨o1, o2, o3⟩ := ho
  have hP := hw.2.1
  have hG := hw.1
  have loop : ∀ m i, i ≤ n → n - i < m → w_X12_neighbours_4_n post m a (nI (cnt (nbP G s ob oa w) i)) (nI i) I J := by
    intro m
    induction m with
    | zero => intro i _ h; omega
    | succ m ih =>
      intro i hi hm2
      show w_X12_neighbours_4_s post _ _ _ _ I J
      unfold w_X12_neighbours_4_s w_X12_neighbours_57 w_X12_neighbours_58 w_X12_flag
      rw [hmo.1, pf_le (by omega) (by omega), pf_cl (by omega)]
      refine ⟨fun e => ?_, fun e => ⟨vp_in_nI (by omega) (by omega), vp_in_nI (by omega) (by omega), ?_⟩⟩
      · rw [show i = n by omega]; exact h
      · obtain ⟨c1, c2⟩ := hmo.2 i (by omega)
        obtain ⟨p1, p2, p3⟩ := o2 i (by omega)
        rw [c1, c2, nI_1]
        have hA : nI (ob i) - nI (oa i) = a ↔ ((w = 1 ∧ ob i = oa i + 1) ∨ (w = 0 ∧ oa i = ob i + 1)) := by
          rcases hww with ⟨x, rfl⟩ | ⟨x, rfl⟩
          · rw [d_1 (by omega) (by omega)]; omega
          · rw [d_m1 (by omega) (by omega)]; omega
        have no : ¬ nbP G s ob oa w i → ∀ v2_62 : Int32, v2_62 = nI (cnt (nbP G s ob oa w) i) + 0 → ∀ v3_103 : Int32, v3_103 = nI (i + 1) → w_X12_neighbours_4_n post m a v2_62 v3_103 I J := by
          rintro y _ rfl _ rfl
          rw [show ∀ x : Int32, x + 0 = x from fun x => Int32.add_zero x, c_n y]
          exact ih (i + 1) (by omega) (by omega)
        have yes : nbP G s ob oa w i → ∀ v2_100 : Int32, v2_100 = nI (cnt (nbP G s ob oa w) i) + 1 → ∀ v3_103 : Int32, v3_103 = nI (i + 1) → w_X12_neighbours_4_n post m a v2_100 v3_103 I J := by
          rintro y _ rfl _ rfl
          rw [c_s y]
          exact ih (i + 1) (by omega) (by omega)
        refine ⟨fun y => b1 rfl (no (fun q => y (hA.mpr q.1))), fun y => ⟨vp_in_nI (by omega) (by omega), ?_⟩⟩
        refine q_groupOf hw hm p1 (fun g g1 g2 g3 => ⟨vp_in_nI (by omega) (by omega), ?_⟩)
        rw [c2]
        refine q_groupOf hw hm p2 (fun k k1 k2 k3 => ?_)
        rw [pf_eq (by omega) (by omega), sg_iff hw g1 k1 g2 g3 k2 k3]
        exact ⟨fun z => b1 rfl (no (fun q => z q.2)), fun z => b2 (by decide) (yes ⟨hA.mp y, z⟩)⟩
  exact ⟨n + 1, loop (n + 1) 0 (by omega) (by omega)⟩
/-- the told disc with its overs -/
theorem o_get {I : sI} (hD : RD I) : ∃ (G P n : Nat) (s κ ob oa : Nat → Nat), tWD G P s κ ∧ tWO P n ob oa ∧ cD G P s κ 4 I ∧ mD G P s κ I ∧ cO n ob oa 8 I ∧ mO n ob oa I := by
  obtain ⟨⟨G, P, s, κ, n, ob, oa, h, d, bk, fi⟩, hw, hc, hm⟩ := hD
  exact ⟨G, P, n, s, κ, ob, oa, hw.1, hw.2.1, hc.1, hm.1, hc.2.1, hm.2.1⟩
theorem S_way {I : sI} {J : sJ} (hR : RR0 I J) : St w_X11_way w_X12_way I J := by
  obtain ⟨hT, hD, hK, hW, hC, hQ, hX⟩ := hR
  obtain ⟨G, P, n, s, κ, ob, oa, hw, ho, hc, hm, hco, hmo⟩ := o_get hD
  have n1 := cnt_le (nbP G s ob oa 1) n
  have n0 := cnt_le (nbP G s ob oa 0) n
  have hn := ho.1
  refine q_nbC (w := 1) hw ho hc hco (by omega) ?_
  refine q_nbC (w := 0) hw ho hc hco (by omega) ?_
  have key : ∀ r : Int32, (r = if cnt (nbP G s ob oa 1) n = cnt (nbP G s ob oa 0) n then 0 else if cnt (nbP G s ob oa 1) n ≤ cnt (nbP G s ob oa 0) n then 2 else 1) → w_X12_way (sUI (sUI (sUI I 134 1 0) 134 1 (nI 1)) 134 1 (nI 2)) (sUJ (sUJ J 135 0 (nI (cnt (nbP G s ob oa 1) n)).toInt64) 135 1 (nI (cnt (nbP G s ob oa 0) n)).toInt64) (fun r2 I2 J2 => r = r2 ∧ RR0 I2 J2) := by
    intro r hr
    unfold w_X12_way
    rintro _ rfl
    refine q_nbM (w := 1) hw ho hm hmo (Or.inl ⟨rfl, rfl⟩) ?_
    refine q_nbM (w := 0) hw ho hm hmo (Or.inr ⟨rfl, rfl⟩) ?_
    rintro _ rfl
    refine q_enters (k := 0) rfl (by omega) ?_
    refine q_enters (k := 1) rfl (by omega) ?_
    rw [pf_le (by omega) (by omega), pf_le (by omega) (by omega)]
    refine ⟨fun y => ⟨fun z => ⟨?_, ?_⟩, fun z => ⟨?_, ?_⟩⟩, fun y => ⟨?_, ?_⟩⟩
    · rw [hr, if_pos (by omega)]
    · exact ⟨(RT_congr hT rfl rfl rfl rfl), (RD_congr hD (fun q h1 h2 => by repeat rw [sUI_ne (by omega)]) rfl rfl rfl rfl rfl rfl rfl rfl rfl rfl rfl), (RK_congr hK (fun q h1 h2 => by repeat rw [sUI_ne (by omega)]) rfl rfl), (RW_congr hW (fun q h1 h2 => by repeat rw [sUI_ne (by omega)]) rfl rfl rfl), (RC_congr hC (fun q h1 h2 => by repeat rw [sUI_ne (by omega)]) rfl rfl rfl), RR_2 rfl rfl rfl rfl rfl rfl, (RX_congr hX rfl rfl rfl rfl rfl)⟩
    · rw [hr, if_neg (by omega), if_pos y]
    · exact ⟨(RT_congr hT rfl rfl rfl rfl), (RD_congr hD (fun q h1 h2 => by repeat rw [sUI_ne (by omega)]) rfl rfl rfl rfl rfl rfl rfl rfl rfl rfl rfl), (RK_congr hK (fun q h1 h2 => by repeat rw [sUI_ne (by omega)]) rfl rfl), (RW_congr hW (fun q h1 h2 => by repeat rw [sUI_ne (by omega)]) rfl rfl rfl), (RC_congr hC (fun q h1 h2 => by repeat rw [sUI_ne (by omega)]) rfl rfl rfl), RR_2 rfl rfl rfl rfl rfl rfl, (RX_congr hX rfl rfl rfl rfl rfl)⟩
    · rw [hr, if_neg (by omega), if_neg y]
    · exact ⟨(RT_congr hT rfl rfl rfl rfl), (RD_congr hD (fun q h1 h2 => by repeat rw [sUI_ne (by omega)]) rfl rfl rfl rfl rfl rfl rfl rfl rfl rfl rfl), (RK_congr hK (fun q h1 h2 => by repeat rw [sUI_ne (by omega)]) rfl rfl), (RW_congr hW (fun q h1 h2 => by repeat rw [sUI_ne (by omega)]) rfl rfl rfl), (RC_congr hC (fun q h1 h2 => by repeat rw [sUI_ne (by omega)]) rfl rfl rfl), RR_2 rfl rfl rfl rfl rfl rfl, (RX_congr hX rfl rfl rfl rfl rfl)⟩
  refine q_X6_tell2 ?_
  rw [pf_eq (by omega) (by omega), pf_le (by omega) (by omega)]
  refine ⟨fun y => ⟨fun z => key 2 ?_, fun z => key 1 ?_⟩, fun y => key 0 ?_⟩
  · rw [if_neg y, if_pos z]
  · rw [if_neg y, if_neg z]
  · rw [if_pos y]
