def alk (κ : Nat → Nat) (x y n : Nat) : Prop := ∀ i, i < n → κ (x + i) ≠ 12 ∧ κ (x + i) = κ (y + i)
theorem alk_s {κ : Nat → Nat} {x y n : Nat} : alk κ x y (n + 1) ↔ alk κ x y n ∧ (κ (x + n) ≠ 12 ∧ κ (x + n) = κ (y + n)) := by
  constructor
  · intro h; exact ⟨fun g hg => h g (by omega), h n (by omega)⟩
  · intro ⟨a, b⟩ g hg
    rcases Nat.lt_or_ge g n with z | z
    · exact a g z
    · rw [show g = n by omega]; exact b
theorem q_same {I : sI} {J : sJ} {post : Int32 → sI → sJ → Prop} {G P x y n : Nat} {s κ : Nat → Nat} (hw : tWD G P s κ) (hc : cD G P s κ 4 I) (hx : x + n ≤ P) (hy : y + n ≤ P) (h1 : alk κ x y n → post 1 I J) (h0 : ¬ alk κ x y n → post 0 I J) : w_X2_sameSigns 4 (nI x) (nI y) (nI n) I J post := by
  have hP := hw.2.1
  have hκ := hw.2.2.2.2.2
  have e5 := (sRdisc 4 (by decide)).1
  have loop : ∀ m i, i ≤ n → n - i < m → alk κ x y i → w_X2_sameSigns_3_n 4 post m (nI x) (nI y) (nI n) (nI i) I J := by
    intro m
    induction m with
    | zero => intro i _ h; omega
    | succ m ih =>
      intro i hi hm ha
      show w_X2_sameSigns_3_s 4 post _ _ _ _ _ I J
      unfold w_X2_sameSigns_3_s
      rw [e5, pf_le (by omega) (by omega), nI_add, nI_add, pf_cl (by omega), pf_cl (by omega)]
      refine ⟨fun e => ?_, fun e => ⟨vp_in_nI (by omega) (by omega), ?_⟩⟩
      · rw [show i = n by omega] at ha
        exact h1 ha
      · have k1 := hκ (x + i) (by omega)
        have k2 := hκ (y + i) (by omega)
        rw [hc.2.2.2.1 _ (show x + i < P by omega), hc.2.2.2.1 _ (show y + i < P by omega), show (12 : Int32) = nI 12 from rfl, pf_eq (by omega) (by omega), pf_eq (by omega) (by omega), nI_1]
        refine ⟨fun z => h0 (fun q => (q i (by omega)).1 z), fun z => ⟨vp_in_nI (by omega) (by omega), vp_in_nI (by omega) (by omega), fun z2 => ?_, fun z2 => h0 (fun q => z2 (q i (by omega)).2)⟩⟩
        rintro _ rfl
        exact ih (i + 1) (by omega) (by omega) (alk_s.mpr ⟨ha, z, z2⟩)
  exact ⟨n + 1, loop (n + 1) 0 (by omega) (by omega) (fun i hi => by omega)⟩
theorem q_alike {I : sI} {J : sJ} {post : Int32 → sI → sJ → Prop} {G P x y n : Nat} {s κ : Nat → Nat} (hw : tWD G P s κ) (hm : mD G P s κ I) (hx : x + n ≤ P) (hy : y + n ≤ P) (h1 : alk κ x y n → post 1 I J) (h0 : ¬ alk κ x y n → post 0 I J) : w_X12_areAlike (nI x) (nI y) (nI n) I J post := by
  have hP := hw.2.1
  have hκ := hw.2.2.2.2.2
  have loop : ∀ m i (x4 : Int32), i ≤ n → n - i < m → ((x4 = 1 ∧ alk κ x y i) ∨ (x4 = 0 ∧ ¬ alk κ x y n)) → w_X12_areAlike_6_n post m (nI x) (nI y) (nI n) x4 (nI i) I J := by
    intro m
    induction m with
    | zero => intro i _ _ h; omega
    | succ m ih =>
      intro i x4 hi hm2 ha
      show w_X12_areAlike_6_s post _ _ _ _ _ _ I J
      unfold w_X12_areAlike_6_s w_X12_areAlike_56 w_X12_areAlike_57
      rw [pf_le (by omega) (by omega), nI_add, nI_add, pf_cl (by omega), pf_cl (by omega), nI_1]
      refine ⟨fun e => ?_, fun e => ?_⟩
      · have e : i = n := by omega
        subst e
        rcases ha with ⟨rfl, a⟩ | ⟨rfl, a⟩
        · exact ⟨Or.inr rfl, h1 a⟩
        · exact ⟨Or.inl rfl, h0 a⟩
      · rcases ha with ⟨rfl, a⟩ | ⟨rfl, a⟩
        · have k1 := hκ (x + i) (by omega)
          have k2 := hκ (y + i) (by omega)
          rw [hm.2.2.2 _ (show x + i < P by omega), hm.2.2.2 _ (show y + i < P by omega), show (12 : Int32) = nI 12 from rfl, pf_eq (by omega) (by omega), pf_eq (by omega) (by omega)]
          refine b2 (by decide) ⟨vp_in_nI (by omega) (by omega), fun z => ?_, fun z => ⟨vp_in_nI (by omega) (by omega), vp_in_nI (by omega) (by omega), fun z2 => ?_, fun z2 => ?_⟩⟩
          · rintro _ rfl
            exact ih (i + 1) 0 (by omega) (by omega) (Or.inr ⟨rfl, fun q => (q i (by omega)).1 z⟩)
          · rintro _ rfl
            exact ih (i + 1) 0 (by omega) (by omega) (Or.inr ⟨rfl, fun q => z2 (q i (by omega)).2⟩)
          · rintro _ rfl
            exact ih (i + 1) 1 (by omega) (by omega) (Or.inl ⟨rfl, alk_s.mpr ⟨a, z, z2⟩⟩)
        · refine b1 rfl ?_
          rintro _ rfl
          exact ih (i + 1) 0 (by omega) (by omega) (Or.inr ⟨rfl, a⟩)
  exact ⟨n + 1, loop (n + 1) 0 1 (by omega) (by omega) (Or.inl ⟨rfl, fun i hi => by omega⟩)⟩
theorem s_le {G P : Nat} {s κ : Nat → Nat} (hw : tWD G P s κ) {g : Nat} (h : g ≤ G) : s g ≤ P := by
  rw [← hw.2.2.2.1]; exact s_mono hw h (Nat.le_refl _)
theorem q_groupBegin {I : sI} {J : sJ} {post : Int32 → sI → sJ → Prop} {G P g : Nat} {s κ : Nat → Nat} (hw : tWD G P s κ) (hm : mD G P s κ I) (hg : g ≤ G) (h : post (nI (s g)) I J) : w_X12_groupBegin (nI g) I J post := by
  have hP := hw.2.1
  have hG := hw.1
  have loop : ∀ m i, i ≤ g → g - i < m → w_X12_groupBegin_4_n post m (nI g) (nI (s i)) (nI i) I J := by
    intro m
    induction m with
    | zero => intro i _ h; omega
    | succ m ih =>
      intro i hi hm2
      show w_X12_groupBegin_4_s post _ _ _ _ I J
      unfold w_X12_groupBegin_4_s
      rw [pf_le (by omega) (by omega), pf_cl (by omega), nI_1]
      refine ⟨fun e => ?_, fun e => ⟨vp_in_nI (by omega) (by omega), ?_⟩⟩
      · rw [show i = g by omega]; exact h
      · have := (hw.2.2.2.2.1 i (by omega)).1
        rw [hm.2.2.1 i (by omega), nI_add, show s i + (s (i + 1) - s i) = s (i + 1) by omega]
        rintro _ rfl _ rfl
        exact ih (i + 1) (by omega) (by omega)
  have := loop (g + 1) 0 (by omega) (by omega)
  rw [hw.2.2.1] at this
  exact ⟨g + 1, this⟩
theorem q_lengthOf {I : sI} {J : sJ} {post : Int32 → sI → sJ → Prop} {G P g : Nat} {s κ : Nat → Nat} (hw : tWD G P s κ) (hc : cD G P s κ 4 I) (hg : g < G) (h : post (nI (s (g + 1) - s g)) I J) : w_X2_lengthOf 4 (nI g) I J post := by
  have hP := hw.2.1
  have hG := hw.1
  have e7 := (sRdisc 4 (by decide)).2.2
  unfold w_X2_lengthOf
  have := (hw.2.2.2.2.1 g hg).1
  rw [e7, nI_1, pf_cl (by omega), pf_cl (by omega), hc.2.2.1 (g + 1) (by omega), hc.2.2.1 g (by omega), pk_sub (by omega)]
  exact ⟨vp_in_nI (by omega) (by omega), vp_in_nI (by omega) (by omega), h⟩
/-- pairs of groups, one by one: how many, which -/
noncomputable def rI (R : Nat → Nat → Prop) (a : Nat) : Nat → Int32 × Int32 → Int32 × Int32
  | 0, st => st
  | n + 1, st => if bp (R a (a + 1 + n)) = true then ((rI R a n st).1 + 1, (rI R a n st).2 ||| (nI (2 ^ a) ||| nI (2 ^ (a + 1 + n)))) else rI R a n st
noncomputable def rO (R : Nat → Nat → Prop) (G : Nat) : Nat → Int32 × Int32
  | 0 => (0, 0)
  | a + 1 => rI R a (G - (a + 1)) (rO R G a)
theorem rI_y {R : Nat → Nat → Prop} {a n : Nat} {st : Int32 × Int32} (h : R a (a + 1 + n)) : rI R a (n + 1) st = ((rI R a n st).1 + 1, (rI R a n st).2 ||| (nI (2 ^ a) ||| nI (2 ^ (a + 1 + n)))) := by rw [rI, if_pos (bp_t.mpr h)]
theorem rI_n {R : Nat → Nat → Prop} {a n : Nat} {st : Int32 × Int32} (h : ¬ R a (a + 1 + n)) : rI R a (n + 1) st = rI R a n st := by rw [rI, if_neg (fun z => h (bp_t.mp z))]
def rhX (s : Nat → Nat) (w n g : Nat) : Nat := if w = 0 then s (g + 1) - n else s g
def rhP (s κ : Nat → Nat) (w n a b : Nat) : Prop := n ≤ s (a + 1) - s a ∧ n ≤ s (b + 1) - s b ∧ alk κ (rhX s w n a) (rhX s w n b) n
theorem q_rhymes {I : sI} {J : sJ} {post : Int32 → sI → sJ → Prop} {G P w n a b : Nat} {s κ : Nat → Nat} (hw : tWD G P s κ) (hc : cD G P s κ 4 I) (hw1 : w ≤ 1) (ha : a < G) (hb : b < G) (la : n ≤ s (a + 1) - s a) (lb : n ≤ s (b + 1) - s b) (h1 : alk κ (rhX s w n a) (rhX s w n b) n → post 1 I J) (h0 : ¬ alk κ (rhX s w n a) (rhX s w n b) n → post 0 I J) : w_X11_rhymes (nI a) (nI b) (nI w) (nI n) I J post := by
  have hP := hw.2.1
  have hG := hw.1
  have a1 := (hw.2.2.2.2.1 a ha)
  have a2 := s_le hw (show a + 1 ≤ G by omega)
  have b1' := (hw.2.2.2.2.1 b hb)
  have b2' := s_le hw (show b + 1 ≤ G by omega)
  unfold w_X11_rhymes w_X11_rhymes_35 w_X11_rhymes_63
  rw [pf_eq0 (by omega), nI_1, nI_1, pf_cl (by omega), pf_cl (by omega), pf_cl (by omega), pf_cl (by omega), show I 7 a = _ from hc.2.2.1 a (by omega), show I 7 (a + 1) = _ from hc.2.2.1 (a + 1) (by omega), show I 7 b = _ from hc.2.2.1 b (by omega), show I 7 (b + 1) = _ from hc.2.2.1 (b + 1) (by omega), pk_sub (by omega), pk_sub (by omega)]
  unfold rhX at h1 h0
  refine ⟨fun z => ⟨vp_in_nI (by omega) (by omega), b3 z ⟨vp_in_nI (by omega) (by omega), ?_⟩⟩, fun z => ⟨vp_in_nI (by omega) (by omega), b4 z ⟨vp_in_nI (by omega) (by omega), ?_⟩⟩⟩
  · rw [if_neg z, if_neg z] at h1 h0
    exact q_same hw hc (by omega) (by omega) (fun q => ⟨Or.inr rfl, h1 q⟩) (fun q => ⟨Or.inl rfl, h0 q⟩)
  · rw [if_pos z, if_pos z] at h1 h0
    exact q_same hw hc (by omega) (by omega) (fun q => ⟨Or.inr rfl, h1 q⟩) (fun q => ⟨Or.inl rfl, h0 q⟩)
def rhG (a1 a2 : Int32) : Prop := (0 ≤ a1 ∧ a1 ≤ 1) ∧ (1 ≤ a2 ∧ a2 ≤ 3)
theorem rhG_get {a1 a2 : Int32} (h : rhG a1 a2) : ∃ w n, w ≤ 1 ∧ n ≤ 3 ∧ a1 = nI w ∧ a2 = nI n := by
  obtain ⟨⟨p1, p2⟩, p3, p4⟩ := h
  have p0 : (0 : Int32) ≤ a2 := by
    rw [pf_leInt] at *
    have : (1 : Int32).toInt = 1 := by decide
    have : (0 : Int32).toInt = 0 := by decide
    omega
  obtain ⟨w, x1, rfl⟩ := ix_of (N := 1) (by omega) p1 p2
  obtain ⟨n, x2, rfl⟩ := ix_of (N := 3) (by omega) p0 p4
  exact ⟨w, n, x1, x2, rfl, rfl⟩
theorem q_rhymeC {I : sI} {J : sJ} {post : Int32 → sI → sJ → Prop} {G P : Nat} {s κ : Nat → Nat} {a1 a2 : Int32} (hw : tWD G P s κ) (hc : cD G P s κ 4 I) (h0 : ¬ rhG a1 a2 → post (-1) I J) (h : ∀ w n, rhG a1 a2 → w ≤ 1 → n ≤ 3 → a1 = nI w → a2 = nI n → post (rO (rhP s κ w n) G G).1 (sUI (sUI I 134 1 0) 134 1 (nI 1)) (sUJ J 135 0 (rO (rhP s κ w n) G G).2.toInt64)) : w_X11_rhyme a1 a2 I J post := by
  have hP := hw.2.1
  have hG := hw.1
  unfold w_X11_rhyme
  by_cases g : rhG a1 a2
  · have g2 := g
    obtain ⟨⟨p1, p2⟩, p3, p4⟩ := g
    refine b2 (Int32.not_lt.mpr p1) (b2 (Int32.not_lt.mpr p2) (b2 (Int32.not_lt.mpr p3) (b1 p4 ?_)))
    obtain ⟨w, n, x1, x2, rfl, rfl⟩ := rhG_get g2
    have fin := h w n g2 x1 x2 rfl rfl
    have inner : ∀ (k38 : Int32 → Int32 → Int32 → Int32 → Int32 → sI → sJ → Prop) a (st : Int32 × Int32), a < G → k38 (nI w) (nI n) (rI (rhP s κ w n) a (G - (a + 1)) st).1 (rI (rhP s κ w n) a (G - (a + 1)) st).2 (nI (a + 1)) I J → ∀ m i, i ≤ G - (a + 1) → G - (a + 1) - i < m → w_X11_rhyme_53_n post k38 m (nI w) (nI n) (rI (rhP s κ w n) a i st).1 (rI (rhP s κ w n) a i st).2 (nI a) (nI (a + 1 + i)) I J := by
      intro k38 a st ha hk m
      induction m with
      | zero => intro i _ h; omega
      | succ m ih =>
        intro i hi hm
        show w_X11_rhyme_53_s post k38 _ _ _ _ _ _ _ I J
        unfold w_X11_rhyme_53_s w_X11_rhyme_112
        rw [hc.1, pf_le (by omega) (by omega)]
        refine ⟨fun e => ?_, fun e => ?_⟩
        · rw [show i = G - (a + 1) by omega, nI_1]
          rintro _ rfl
          exact hk
        · have l1 := hw.2.2.2.2.1 a ha
          have l2 := hw.2.2.2.2.1 (a + 1 + i) (by omega)
          have no : ¬ rhP s κ w n a (a + 1 + i) → ∀ v7 : Int32, v7 = nI (a + 1 + i) + 1 → w_X11_rhyme_53_n post k38 m (nI w) (nI n) (rI (rhP s κ w n) a i st).1 (rI (rhP s κ w n) a i st).2 (nI a) v7 I J := by
            rintro y _ rfl
            rw [nI_1, ← rI_n y]
            exact ih (i + 1) (by omega) (by omega)
          refine q_lengthOf hw hc ha ?_
          rw [pf_lt (by omega) (by omega)]
          refine ⟨fun y => no (fun q => by have := q.1; omega), fun y => ?_⟩
          refine q_lengthOf hw hc (by omega) ?_
          rw [pf_lt (by omega) (by omega)]
          refine ⟨fun y2 => no (fun q => by have := q.2.1; omega), fun y2 => ?_⟩
          refine q_rhymes hw hc x1 ha (by omega) (by omega) (by omega) (fun z => b2 (by decide) ?_) (fun z => b1 rfl (no (fun q => z q.2.2)))
          rw [sh1 a (by omega), sh1 (a + 1 + i) (by omega), nI_1]
          rintro _ rfl _ rfl _ rfl
          have y3 : rhP s κ w n a (a + 1 + i) := ⟨by omega, by omega, z⟩
          have := ih (i + 1) (by omega) (by omega)
          rw [rI_y y3] at this
          exact this
    have loop : ∀ m a, a ≤ G → G - a < m → w_X11_rhyme_38_n post m (nI w) (nI n) (rO (rhP s κ w n) G a).1 (rO (rhP s κ w n) G a).2 (nI a) I J := by
      intro m
      induction m with
      | zero => intro i _ h; omega
      | succ m ih =>
        intro a ha hm
        show w_X11_rhyme_38_s post _ _ _ _ _ _ I J
        unfold w_X11_rhyme_38_s
        rw [hc.1, pf_le (by omega) (by omega)]
        refine ⟨fun e => ?_, fun e => ?_⟩
        · rw [show a = G by omega]
          exact q_X6_tell fin
        · rw [nI_1]
          rintro _ rfl
          exact ⟨G + 1, inner _ a _ (by omega) (ih (a + 1) (by omega) (by omega)) (G + 1) 0 (by omega) (by omega)⟩
    exact ⟨G + 1, loop (G + 1) 0 (by omega) (by omega)⟩
  · have f := h0 g
    refine ⟨fun _ => f, fun p1 => ⟨fun _ => f, fun p2 => ⟨fun _ => f, fun p3 => ⟨fun p4 => ?_, fun _ => f⟩⟩⟩⟩
    rw [Int32.not_lt] at *
    exact absurd ⟨⟨p1, p2⟩, p3, p4⟩ g
theorem q_rhymeM {I : sI} {J : sJ} {post : Int32 → sI → sJ → Prop} {G P : Nat} {s κ : Nat → Nat} {a1 a2 : Int32} (hw : tWD G P s κ) (hm : mD G P s κ I) (h0 : ¬ rhG a1 a2 → post (-1) (sUI I 248 0 0) J) (h : ∀ w n, rhG a1 a2 → w ≤ 1 → n ≤ 3 → a1 = nI w → a2 = nI n → post (rO (rhP s κ w n) G G).1 (sUI (sUI (sUI I 248 0 0) 248 1 0) 248 1 (nI 1)) (sUJ J 249 0 (rO (rhP s κ w n) G G).2.toInt64)) : w_X12_rhyme a1 a2 I J post := by
  have hP := hw.2.1
  have hG := hw.1
  unfold w_X12_rhyme
  rintro _ rfl
  have hm' : mD G P s κ (sUI I 248 0 0) := hm
  generalize sUI I 248 0 0 = I1 at *
  refine q_in (lo := 0) (hi := 1) (by decide) (by decide) (fun p1 => b2 (by decide) ?_) (fun p1 => b1 rfl (h0 (fun q => p1 q.1)))
  refine q_in (lo := 1) (hi := 3) (by decide) (by decide) (fun p2 => b3 (by decide) ?_) (fun p2 => b4 rfl (h0 (fun q => p2 q.2)))
  obtain ⟨w, n, x1, x2, rfl, rfl⟩ := rhG_get ⟨p1, p2⟩
  have fin := h w n ⟨p1, p2⟩ x1 x2 rfl rfl
  have inner : ∀ (k37 : Int32 → Int32 → Int32 → Int32 → Int32 → sI → sJ → Prop) a (st : Int32 × Int32), a < G → k37 (nI w) (nI n) (rI (rhP s κ w n) a (G - (a + 1)) st).1 (rI (rhP s κ w n) a (G - (a + 1)) st).2 (nI (a + 1)) I1 J → ∀ m i, i ≤ G - (a + 1) → G - (a + 1) - i < m → w_X12_rhyme_52_n post k37 m (nI w) (nI n) (rI (rhP s κ w n) a i st).1 (rI (rhP s κ w n) a i st).2 (nI a) (nI (a + 1 + i)) I1 J := by
    intro k37 a st ha hk m
    induction m with
    | zero => intro i _ h; omega
    | succ m ih =>
      intro i hi hm2
      have l1 := hw.2.2.2.2.1 a ha
      have l3 := s_le hw (show a + 1 ≤ G by omega)
      show w_X12_rhyme_52_s post k37 _ _ _ _ _ _ _ I1 J
      unfold w_X12_rhyme_52_s w_X12_rhyme_180
      rw [hm'.1, pf_le (by omega) (by omega), pf_cl (by omega), pf_cl (by omega), hm'.2.2.1 a ha]
      refine ⟨fun e => ?_, fun e => ⟨vp_in_nI (by omega) (by omega), ?_⟩⟩
      · rw [show i = G - (a + 1) by omega, nI_1]
        rintro _ rfl
        exact hk
      · have l2 := hw.2.2.2.2.1 (a + 1 + i) (by omega)
        have l4 := s_le hw (show a + 1 + i + 1 ≤ G by omega)
        have no : ¬ rhP s κ w n a (a + 1 + i) → ∀ v7 : Int32, v7 = nI (a + 1 + i) + 1 → w_X12_rhyme_52_n post k37 m (nI w) (nI n) (rI (rhP s κ w n) a i st).1 (rI (rhP s κ w n) a i st).2 (nI a) v7 I1 J := by
          rintro y _ rfl
          rw [nI_1, ← rI_n y]
          exact ih (i + 1) (by omega) (by omega)
        rw [hm'.2.2.1 (a + 1 + i) (by omega), pf_lt (by omega) (by omega), pf_le (by omega) (by omega)]
        refine ⟨fun y => no (fun q => by have := q.1; omega), fun y => ⟨vp_in_nI (by omega) (by omega), fun y2 => ?_, fun y2 => no (fun q => by have := q.2.1; omega)⟩⟩
        have join : w_X12_rhyme_135 post k37 (w_X12_rhyme_52_n post k37 m) (nI w) (nI n) (rI (rhP s κ w n) a i st).1 (rI (rhP s κ w n) a i st).2 (nI a) (nI (a + 1 + i)) (nI (rhX s w n a)) (nI (rhX s w n (a + 1 + i))) 0 I1 J := by
          unfold w_X12_rhyme_135 w_X12_rhyme_177 w_X12_rhyme_180 w_X12_flag
          rintro _ rfl
          rw [show (0 : Int32) + nI (rhX s w n (a + 1 + i)) = nI (rhX s w n (a + 1 + i)) by rw [Int32.zero_add]]
          refine q_alike hw hm' ?_ ?_ (fun z => b2 (by decide) ?_) (fun z => b1 rfl ?_)
          · unfold rhX; split <;> omega
          · unfold rhX; split <;> omega
          · rintro _ rfl
            refine b2 (by decide) ?_
            rw [sh1 a (by omega), sh1 (a + 1 + i) (by omega), nI_1]
            rintro _ rfl _ rfl
            have := ih (i + 1) (by omega) (by omega)
            rw [rI_y (show rhP s κ w n a (a + 1 + i) from ⟨by omega, by omega, z⟩)] at this
            exact this
          · rintro _ rfl
            refine b1 rfl ?_
            rintro _ rfl
            rw [show ∀ x : Int32, x + 0 = x from fun x => Int32.add_zero x, show ∀ x : Int32, x ||| 0 = x from fun x => Int32.or_zero]
            exact no (fun q => z q.2.2)
        refine q_groupBegin hw hm' (by omega) ?_
        unfold w_X12_rhyme_109
        rw [hm'.2.2.1 a ha, pf_eq0 (by omega), pk_sub (by omega), pf_cl (by omega)]
        have fin2 : ∀ y7 s0 s1, y7 = rhX s w n a → s0 + s1 = rhX s w n (a + 1 + i) → w_X12_rhyme_135 post k37 (w_X12_rhyme_52_n post k37 m) (nI w) (nI n) (rI (rhP s κ w n) a i st).1 (rI (rhP s κ w n) a i st).2 (nI a) (nI (a + 1 + i)) (nI y7) (nI s0) (nI s1) I1 J := by
          rintro y7 s0 s1 rfl e2
          unfold w_X12_rhyme_135 at *
          rw [nI_add, show s1 + s0 = rhX s w n (a + 1 + i) by omega]
          have e3 : (0 : Int32) + nI (rhX s w n (a + 1 + i)) = nI (rhX s w n (a + 1 + i)) := by rw [Int32.zero_add]
          rw [e3] at join
          exact join
        refine ⟨fun z => ?_, fun z => ⟨vp_in_nI (by omega) (by omega), ?_⟩⟩
        · rw [show nI (s a) + 0 = nI (s a) by rw [Int32.add_zero]]
          rintro _ rfl
          refine q_groupBegin hw hm' (by omega) ?_
          refine b3 z ?_
          exact fin2 (s a) 0 (s (a + 1 + i)) (by rw [rhX, if_neg z]) (by rw [rhX, if_neg z]; omega)
        · rw [nI_add]
          rintro _ rfl
          refine q_groupBegin hw hm' (by omega) ?_
          refine b4 z ⟨vp_in_nI (by omega) (by omega), ?_⟩
          rw [hm'.2.2.1 (a + 1 + i) (by omega), pk_sub (by omega)]
          exact fin2 _ _ _ (by rw [rhX, if_pos z]; omega) (by rw [rhX, if_pos z]; omega)
  have loop : ∀ m a, a ≤ G → G - a < m → w_X12_rhyme_37_n post m (nI w) (nI n) (rO (rhP s κ w n) G a).1 (rO (rhP s κ w n) G a).2 (nI a) I1 J := by
    intro m
    induction m with
    | zero => intro i _ h; omega
    | succ m ih =>
      intro a ha hm2
      show w_X12_rhyme_37_s post _ _ _ _ _ _ I1 J
      unfold w_X12_rhyme_37_s
      rw [hm'.1, pf_le (by omega) (by omega)]
      refine ⟨fun e => ?_, fun e => ?_⟩
      · rw [show a = G by omega]
        rintro _ rfl
        exact q_enters (k := 0) rfl (by omega) fin
      · rw [nI_1]
        rintro _ rfl
        exact ⟨G + 1, inner _ a _ (by omega) (ih (a + 1) (by omega) (by omega)) (G + 1) 0 (by omega) (by omega)⟩
  exact ⟨G + 1, loop (G + 1) 0 (by omega) (by omega)⟩
theorem S_rhyme {I : sI} {J : sJ} (a1 a2 : Int32) (hR : RR0 I J) : St (w_X11_rhyme a1 a2) (w_X12_rhyme a1 a2) I J := by
  obtain ⟨hT, hD, hK, hW, hC, hQ, hX⟩ := hR
  obtain ⟨G, P, s, κ, hw, hc, hm⟩ := d_get hD
  refine q_rhymeC hw hc (fun g => ?_) (fun w n g x1 x2 e1 e2 => ?_)
  · refine q_rhymeM hw hm (fun _ => ?_) (fun w n g2 => absurd g2 g)
    exact ⟨rfl, (RT_congr hT rfl rfl rfl rfl), (RD_congr hD (fun q h1 h2 => by repeat rw [sUI_ne (by omega)]) rfl rfl rfl rfl rfl rfl rfl rfl rfl rfl rfl), (RK_congr hK (fun q h1 h2 => by repeat rw [sUI_ne (by omega)]) rfl rfl), (RW_congr hW (fun q h1 h2 => by repeat rw [sUI_ne (by omega)]) rfl rfl rfl), (RC_congr hC (fun q h1 h2 => by repeat rw [sUI_ne (by omega)]) rfl rfl rfl), (RR_congr hQ rfl rfl rfl rfl), (RX_congr hX rfl rfl rfl rfl rfl)⟩
  · refine q_rhymeM hw hm (fun g2 => absurd g g2) (fun w2 n2 g y1 y2 f1 f2 => ?_)
    rw [e1, pf_eq (by omega) (by omega)] at f1
    rw [e2, pf_eq (by omega) (by omega)] at f2
    subst f1 f2
    exact ⟨rfl, (RT_congr hT rfl rfl rfl rfl), (RD_congr hD (fun q h1 h2 => by repeat rw [sUI_ne (by omega)]) rfl rfl rfl rfl rfl rfl rfl rfl rfl rfl rfl), (RK_congr hK (fun q h1 h2 => by repeat rw [sUI_ne (by omega)]) rfl rfl), (RW_congr hW (fun q h1 h2 => by repeat rw [sUI_ne (by omega)]) rfl rfl rfl), (RC_congr hC (fun q h1 h2 => by repeat rw [sUI_ne (by omega)]) rfl rfl rfl), RR_1 rfl rfl rfl rfl, (RX_congr hX rfl rfl rfl rfl rfl)⟩
