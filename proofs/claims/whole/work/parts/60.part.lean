/-- finds that part two claims; pairs of claims parted -/
def ptP (v : Nat → Nat → Nat) (p : Nat → Prop) (a c : Nat) : Prop := ∃ f, f < 12 ∧ p f ∧ v a f + v c f = 3
def prA (v : Nat → Nat → Nat) (C : Nat) (st p : Nat → Prop) : Prop := ∀ a c, a < c → c < C → st a → st c → ptP v p a c
def prE (v : Nat → Nat → Nat) (C : Nat) (st p : Nat → Prop) : Prop := ∃ a c, a < c ∧ c < C ∧ st a ∧ st c ∧ ptP v p a c
theorem q_unkC {I : sI} {J : sJ} {post : Int32 → sI → sJ → Prop} {fi : Nat → Nat} (hfi : ∀ f, f < 12 → fi f ≤ 2 ∧ I 11 f = nI (fi f)) (h : post (nI (msk (fun f => fi f = 0) 12)) I J) : w_X11_unknownFinds I J post := by
  have loop : ∀ m f, f ≤ 12 → 12 - f < m → w_X11_unknownFinds_4_n post m (nI (msk (fun f => fi f = 0) f)) (nI f) I J := by
    intro m
    induction m with
    | zero => intro i _ h; omega
    | succ m ih =>
      intro f hf hm
      show w_X11_unknownFinds_4_s post _ _ _ I J
      unfold w_X11_unknownFinds_4_s w_X11_unknownFinds_30
      rw [show (12 : Int32) = nI 12 from rfl, pf_le (by omega) (by omega), pf_cl (by omega), sh1 f (by omega), nI_1]
      refine ⟨fun e => ?_, fun e => ⟨vp_in_nI (by omega) (by omega), ?_⟩⟩
      · rw [show f = 12 by omega]; exact h
      · obtain ⟨f1, f2⟩ := hfi f (by omega)
        rw [f2, pf_eq0 (by omega)]
        refine ⟨fun z => ?_, fun z => ?_⟩
        · rintro _ rfl _ rfl
          rw [m_or0 (p := fun f => fi f = 0) z]
          exact ih (f + 1) (by omega) (by omega)
        · rintro _ rfl _ rfl
          rw [m_or (p := fun f => fi f = 0) z]
          exact ih (f + 1) (by omega) (by omega)
  exact ⟨13, loop 13 0 (by omega) (by omega)⟩
theorem q_unkM {I : sI} {J : sJ} {post : Int32 → sI → sJ → Prop} {fi : Nat → Nat} (hfi : ∀ f, f < 12 → fi f ≤ 2 ∧ I 276 f = nI (fi f)) (h : post (nI (msk (fun f => fi f = 0) 12)) I J) : w_X12_unknown I J post := by
  have loop : ∀ m f, f ≤ 12 → 12 - f < m → w_X12_unknown_4_n post m (nI (msk (fun f => fi f = 0) f)) (nI f) I J := by
    intro m
    induction m with
    | zero => intro i _ h; omega
    | succ m ih =>
      intro f hf hm
      show w_X12_unknown_4_s post _ _ _ I J
      unfold w_X12_unknown_4_s w_X12_unknown_27
      rw [show (12 : Int32) = nI 12 from rfl, pf_le (by omega) (by omega), pf_cl (by omega), sh1 f (by omega), nI_1]
      refine ⟨fun e => ?_, fun e => ⟨vp_in_nI (by omega) (by omega), ?_⟩⟩
      · rw [show f = 12 by omega]; exact h
      · obtain ⟨f1, f2⟩ := hfi f (by omega)
        rw [f2, pf_eq0 (by omega)]
        refine ⟨fun z => ?_, fun z => ?_⟩
        · rintro _ rfl _ rfl
          rw [m_or0 (p := fun f => fi f = 0) z]
          exact ih (f + 1) (by omega) (by omega)
        · rintro _ rfl _ rfl
          rw [m_or (p := fun f => fi f = 0) z]
          exact ih (f + 1) (by omega) (by omega)
  exact ⟨13, loop 13 0 (by omega) (by omega)⟩
theorem q_parting {I : sI} {J : sJ} {post : Int32 → sI → sJ → Prop} {C a c : Nat} {v : Nat → Nat → Nat} (hw : tWC C v) (hc : cC C v I) (ha : a < 10) (hcc : c < 10) (h : post (nI (msk (fun f => v a f + v c f = 3) 12)) I J) : w_X1_parting (nI a) (nI c) I J post := by
  have loop : ∀ m f, f ≤ 12 → 12 - f < m → w_X1_parting_5_n post m (nI a) (nI c) (nI (msk (fun f => v a f + v c f = 3) f)) (nI f) I J := by
    intro m
    induction m with
    | zero => intro i _ h; omega
    | succ m ih =>
      intro f hf hm
      show w_X1_parting_5_s post _ _ _ _ _ I J
      unfold w_X1_parting_5_s w_X1_parting_44
      rw [show (12 : Int32) = nI 12 from rfl, pf_le (by omega) (by omega), pf_cl (by omega), pf_cl (by omega), pf_cl (by omega), sh1 f (by omega), nI_1, sR228 a ha, sR228 c hcc]
      refine ⟨fun e => ?_, fun e => ⟨vp_in_nI (by omega) (by omega), vp_in_nI (by omega) (by omega), vp_in_nI (by omega) (by omega), vp_in_nI (by omega) (by omega), ?_⟩⟩
      · rw [show f = 12 by omega]; exact h
      · have x := hw.2.1 a f ha (by omega)
        have y := hw.2.1 c f hcc (by omega)
        rw [hc.2 a f ha (by omega), hc.2 c f hcc (by omega), nI_add, show (3 : Int32) = nI 3 from rfl, pf_eq (by omega) (by omega)]
        refine ⟨fun z => ?_, fun z => ?_⟩
        · rintro _ rfl _ rfl
          rw [m_or0 (p := fun f => v a f + v c f = 3) z]
          exact ih (f + 1) (by omega) (by omega)
        · rintro _ rfl _ rfl
          rw [m_or (p := fun f => v a f + v c f = 3) z]
          exact ih (f + 1) (by omega) (by omega)
  exact ⟨13, loop 13 0 (by omega) (by omega)⟩
theorem q_listPairs {I : sI} {J : sJ} {post : sI → sJ → Prop} {C : Nat} {v : Nat → Nat → Nat} {st u : Nat → Prop} (hw : tWC C v) (hc : cC C v I) (h : ∀ (I2 : sI) (N : Nat), N ≤ 100 → (∀ q, ¬ (q = 227 ∨ q = 239) → I2 q = I q) → (∀ k, ¬ k = 6 → I2 227 k = I 227 k) → I2 227 6 = nI N → (∀ i, i < N → ∃ a c, a < c ∧ c < C ∧ st a ∧ st c ∧ I2 239 i = nI (msk (fun f => v a f + v c f = 3 ∧ u f) 12)) → (∀ a c, a < c → c < C → st a → st c → ∃ i, i < N ∧ I2 239 i = nI (msk (fun f => v a f + v c f = 3 ∧ u f) 12)) → post I2 J) : w_X1_listPairs (nI (msk st C)) (nI (msk u 12)) I J post := by
  have hC := hw.1
  have inner : ∀ (k7 : Int32 → Int32 → Int32 → sI → sJ → Prop) a, a < C → (∀ (I2 : sI) (N : Nat), N ≤ 10 * (a + 1) → (∀ q, ¬ (q = 227 ∨ q = 239) → I2 q = I q) → (∀ k, ¬ k = 6 → I2 227 k = I 227 k) → I2 227 6 = nI N → (∀ i, i < N → ∃ a c, a < c ∧ c < C ∧ st a ∧ st c ∧ I2 239 i = nI (msk (fun f => v a f + v c f = 3 ∧ u f) 12)) → (∀ a2 c, a2 < c → c < C → a2 < a + 1 → st a2 → st c → ∃ i, i < N ∧ I2 239 i = nI (msk (fun f => v a2 f + v c f = 3 ∧ u f) 12)) → k7 (nI (msk st C)) (nI (msk u 12)) (nI (a + 1)) I2 J) → ∀ m c (I1 : sI) (N : Nat), c ≤ C → a < c → C - c < m → N ≤ 10 * a + (c - (a + 1)) → (∀ q, ¬ (q = 227 ∨ q = 239) → I1 q = I q) → (∀ k, ¬ k = 6 → I1 227 k = I 227 k) → I1 227 6 = nI N → (∀ i, i < N → ∃ a c, a < c ∧ c < C ∧ st a ∧ st c ∧ I1 239 i = nI (msk (fun f => v a f + v c f = 3 ∧ u f) 12)) → (∀ a2 c2, a2 < c2 → c2 < C → a2 < a ∨ (a2 = a ∧ c2 < c) → st a2 → st c2 → ∃ i, i < N ∧ I1 239 i = nI (msk (fun f => v a2 f + v c2 f = 3 ∧ u f) 12)) → w_X1_listPairs_20_n post k7 m (nI (msk st C)) (nI (msk u 12)) (nI a) (nI c) I1 J := by
    intro k7 a ha hk m
    induction m with
    | zero => intro c I1 N _ _ h; omega
    | succ m ih =>
      intro c I1 N hcC hac hm hN r1 s1 e1 l1 l2
      show w_X1_listPairs_20_s post k7 _ _ _ _ _ I1 J
      unfold w_X1_listPairs_20_s w_X1_listPairs_74
      rw [s1 1 (by omega), hc.1, pf_le (by omega) (by omega), nI_1]
      refine ⟨fun e => ?_, fun e => ?_⟩
      · rintro _ rfl
        refine hk I1 N (by omega) r1 s1 e1 l1 (fun a2 c2 x1 x2 x3 x4 x5 => l2 a2 c2 x1 x2 ?_ x4 x5)
        omega
      · rw [m_has0 (by omega) (by omega), m_has0 (by omega) (by omega), nI_1]
        have no : ¬ (st a ∧ st c) → ∀ v4 : Int32, v4 = nI (c + 1) → w_X1_listPairs_20_n post k7 m (nI (msk st C)) (nI (msk u 12)) (nI a) v4 I1 J := by
          rintro y _ rfl
          refine ih (c + 1) I1 N (by omega) (by omega) (by omega) (by omega) r1 s1 e1 l1 (fun a2 c2 x1 x2 x3 x4 x5 => ?_)
          by_cases z : a2 = a ∧ c2 = c
          · exact absurd ⟨z.1 ▸ x4, z.2 ▸ x5⟩ y
          · exact l2 a2 c2 x1 x2 (by omega) x4 x5
        refine ⟨fun y => no (fun q => y ⟨by omega, q.1⟩), fun y => ⟨fun y2 => no (fun q => y2 ⟨by omega, q.2⟩), fun y2 => ?_⟩⟩
        have y' := (Classical.not_not.mp y).2
        have y2' := (Classical.not_not.mp y2).2
        refine q_parting hw ⟨by rw [s1 1 (by omega), hc.1], fun c f x y => by rw [r1 _ (by omega), hc.2 c f x y]⟩ (by omega) (by omega) ⟨by rw [e1]; exact vp_in_nI (by omega) (by omega), ?_⟩
        rw [m_and, e1, pf_cl (by omega)]
        rintro _ rfl _ rfl _ rfl
        rw [sUI_ne (show 227 ≠ 239 by omega), e1, nI_1]
        have g1 : ∀ i, sUI (sUI I1 239 N (nI (msk (fun f => v a f + v c f = 3 ∧ u f) 12))) 227 6 (nI (N + 1)) 239 i = if i = N then nI (msk (fun f => v a f + v c f = 3 ∧ u f) 12) else I1 239 i := by
          intro i
          rw [sUI_ne (by omega), pf_uis]
        refine ih (c + 1) _ (N + 1) (by omega) (by omega) (by omega) (by omega) (fun q hq => by rw [sUI_ne (by omega), sUI_ne (by omega), r1 q hq]) (fun k hk => by rw [pf_uis, if_neg hk, sUI_ne (by omega), s1 k hk]) (by rw [pf_uis, if_pos rfl]) (fun i hi => ?_) (fun a2 c2 x1 x2 x3 x4 x5 => ?_)
        · rw [g1]
          by_cases z : i = N
          · rw [if_pos z]; exact ⟨a, c, by omega, by omega, y', y2', rfl⟩
          · rw [if_neg z]; exact l1 i (by omega)
        · by_cases z : a2 = a ∧ c2 = c
          · refine ⟨N, by omega, ?_⟩
            rw [g1, if_pos rfl, z.1, z.2]
          · obtain ⟨i, i1, i2⟩ := l2 a2 c2 x1 x2 (by omega) x4 x5
            refine ⟨i, by omega, ?_⟩
            rw [g1, if_neg (by omega), i2]
  have loop : ∀ m a (I1 : sI) (N : Nat), a ≤ C → C - a < m → N ≤ 10 * a → (∀ q, ¬ (q = 227 ∨ q = 239) → I1 q = I q) → (∀ k, ¬ k = 6 → I1 227 k = I 227 k) → I1 227 6 = nI N → (∀ i, i < N → ∃ a c, a < c ∧ c < C ∧ st a ∧ st c ∧ I1 239 i = nI (msk (fun f => v a f + v c f = 3 ∧ u f) 12)) → (∀ a2 c, a2 < c → c < C → a2 < a → st a2 → st c → ∃ i, i < N ∧ I1 239 i = nI (msk (fun f => v a2 f + v c f = 3 ∧ u f) 12)) → w_X1_listPairs_7_n post m (nI (msk st C)) (nI (msk u 12)) (nI a) I1 J := by
    intro m
    induction m with
    | zero => intro a I1 N _ h; omega
    | succ m ih =>
      intro a I1 N haC hm hN r1 s1 e1 l1 l2
      show w_X1_listPairs_7_s post _ _ _ _ I1 J
      unfold w_X1_listPairs_7_s
      rw [s1 1 (by omega), hc.1, pf_le (by omega) (by omega), nI_1]
      refine ⟨fun e => ?_, fun e => ?_⟩
      · exact h I1 N (by omega) r1 s1 e1 l1 (fun a2 c x1 x2 x4 x5 => l2 a2 c x1 x2 (by omega) x4 x5)
      · rintro _ rfl
        refine ⟨C + 1, inner _ a (by omega) (fun I2 N2 z1 z2 z3 z4 z5 z6 => ih (a + 1) I2 N2 (by omega) (by omega) z1 z2 z3 z4 z5 z6) (C + 1) (a + 1) I1 N (by omega) (by omega) (by omega) (by omega) r1 s1 e1 l1 (fun a2 c2 x1 x2 x3 x4 x5 => l2 a2 c2 x1 x2 (by omega) x4 x5)⟩
  unfold w_X1_listPairs
  rintro _ rfl
  exact ⟨C + 1, loop (C + 1) 0 _ 0 (by omega) (by omega) (by omega) (fun q hq => by rw [sUI_ne (by omega)]) (fun k hk => by rw [pf_uis, if_neg hk]) rfl (fun i hi => by omega) (fun a2 c _ _ h => by omega)⟩
theorem q_partedBy {I : sI} {J : sJ} {post : Int32 → sI → sJ → Prop} {C N : Nat} {v : Nat → Nat → Nat} {st u p : Nat → Prop} (hN : N ≤ 100) (e1 : I 227 6 = nI N) (l1 : ∀ i, i < N → ∃ a c, a < c ∧ c < C ∧ st a ∧ st c ∧ I 239 i = nI (msk (fun f => v a f + v c f = 3 ∧ u f) 12)) (l2 : ∀ a c, a < c → c < C → st a → st c → ∃ i, i < N ∧ I 239 i = nI (msk (fun f => v a f + v c f = 3 ∧ u f) 12)) (hp : ∀ f, f < 12 → p f → u f) (h1 : prA v C st p → post 1 I J) (h0 : ¬ prA v C st p → post 0 I J) : w_X1_partedBy (nI (msk p 12)) I J post := by
  have loop : ∀ m i, i ≤ N → N - i < m → (∀ j, j < i → ¬ (I 239 j &&& nI (msk p 12)) = 0) → w_X1_partedBy_2_n post m (nI (msk p 12)) (nI i) I J := by
    intro m
    induction m with
    | zero => intro i _ h; omega
    | succ m ih =>
      intro i hi hm hj
      show w_X1_partedBy_2_s post _ _ _ I J
      unfold w_X1_partedBy_2_s
      rw [e1, pf_le (by omega) (by omega), pf_cl (by omega), nI_1]
      refine ⟨fun e => h1 (fun a c x1 x2 x3 x4 => ?_), fun e => ⟨vp_in_nI (by omega) (by omega), fun z => ?_, fun z => h0 (fun q => ?_)⟩⟩
      · obtain ⟨k, k1, k2⟩ := l2 a c x1 x2 x3 x4
        have := hj k (by omega)
        rw [k2, m_and, m_eq0 (by omega)] at this
        refine Classical.byContradiction (fun w => this (fun f hf y => w ⟨f, hf, y.2, y.1.1⟩))
      · rintro _ rfl
        refine ih (i + 1) (by omega) (by omega) (fun j hj2 => ?_)
        rcases Nat.lt_or_ge j i with x | x
        · exact hj j x
        · rw [show j = i by omega]; exact z
      · obtain ⟨a, c, x1, x2, x3, x4, x5⟩ := l1 i (by omega)
        rw [x5, m_and, m_eq0 (by omega)] at z
        obtain ⟨f, f1, f2, f3⟩ := q a c x1 x2 x3 x4
        exact z f f1 ⟨⟨f3, hp f f1 f2⟩, f2⟩
  exact ⟨N + 1, loop (N + 1) 0 (by omega) (by omega) (fun j hj => by omega)⟩
theorem q_parts {I : sI} {J : sJ} {post : Int32 → sI → sJ → Prop} {C a c : Nat} {v : Nat → Nat → Nat} {p : Nat → Prop} (hw : tWC C v) (hm : mC C v I) (ha : a < 10) (hcc : c < 10) (h1 : ptP v p a c → post 1 I J) (h0 : ¬ ptP v p a c → post 0 I J) : w_X12_parts (nI (msk p 12)) (nI a) (nI c) I J post := by
  have loop : ∀ m f (x4 : Int32), f ≤ 12 → 12 - f < m → ((x4 = 0 ∧ ∀ g, g < f → ¬ (p g ∧ v a g + v c g = 3)) ∨ (x4 = 1 ∧ ptP v p a c)) → w_X12_parts_6_n post m (nI (msk p 12)) (nI a) (nI c) x4 (nI f) I J := by
    intro m
    induction m with
    | zero => intro i _ _ h; omega
    | succ m ih =>
      intro f x4 hf hm2 hz
      show w_X12_parts_6_s post _ _ _ _ _ _ I J
      unfold w_X12_parts_6_s w_X12_parts_85 w_X12_parts_89 w_X12_parts_90
      rw [show (12 : Int32) = nI 12 from rfl, pf_le (by omega) (by omega), nI_1]
      refine ⟨fun e => ?_, fun e => ?_⟩
      · rcases hz with ⟨rfl, z⟩ | ⟨rfl, z⟩
        · exact ⟨Or.inl rfl, h0 (fun ⟨g, g1, g2, g3⟩ => z g (by omega) ⟨g2, g3⟩)⟩
        · exact ⟨Or.inr rfl, h1 z⟩
      · rcases hz with ⟨rfl, z⟩ | ⟨rfl, z⟩
        · have no : ¬ (p f ∧ v a f + v c f = 3) → ∀ v5 : Int32, v5 = nI (f + 1) → w_X12_parts_6_n post m (nI (msk p 12)) (nI a) (nI c) 0 v5 I J := by
            rintro y _ rfl
            refine ih (f + 1) 0 (by omega) (by omega) (Or.inl ⟨rfl, fun g hg => ?_⟩)
            rcases Nat.lt_or_ge g f with x | x
            · exact z g x
            · rw [show g = f by omega]; exact y
          refine b4 rfl (q_X12_has (by omega) (by omega) (fun q => b2 (by decide) ?_) (fun q => b1 rfl (no (fun y => q ⟨by omega, y.1⟩))))
          have x := hw.2.1 a f ha (by omega)
          have y := hw.2.1 c f hcc (by omega)
          rw [show nI 12 * nI a + nI f = nI (12 * a + f) by rw [pk_mul, nI_add], show nI 12 * nI c + nI f = nI (12 * c + f) by rw [pk_mul, nI_add], pf_cl (by omega), pf_cl (by omega), hm.2 a f ha (by omega), hm.2 c f hcc (by omega), nI_add, show (3 : Int32) = nI 3 from rfl, pf_eq (by omega) (by omega), pk_mul]
          refine ⟨vp_in_nI (by omega) (by omega), vp_in_nI (by omega) (by omega), fun w => no (fun r => w r.2), fun w => ⟨vp_in_nI (by omega) (by omega), vp_in_nI (by omega) (by omega), ?_⟩⟩
          have e2 : v a f * v c f = 2 := by
            rcases (show (v a f = 1 ∧ v c f = 2) ∨ (v a f = 2 ∧ v c f = 1) by omega) with ⟨r1, r2⟩ | ⟨r1, r2⟩ <;> rw [r1, r2]
          rw [e2]
          refine b4 rfl ?_
          rintro _ rfl
          exact ih (f + 1) 1 (by omega) (by omega) (Or.inr ⟨rfl, f, by omega, q.2, w⟩)
        · refine b3 (by decide) ?_
          rintro _ rfl
          exact ih (f + 1) 1 (by omega) (by omega) (Or.inr ⟨rfl, z⟩)
  exact ⟨13, loop 13 0 0 (by omega) (by omega) (Or.inl ⟨rfl, fun g hg => by omega⟩)⟩
/-- whether every pair is parted (e = 1), whether some pair is (e = 0) -/
theorem q_partsPairs {I : sI} {J : sJ} {post : Int32 → sI → sJ → Prop} {C : Nat} {e : Int32} {v : Nat → Nat → Nat} {st p : Nat → Prop} (hw : tWC C v) (hm : mC C v I) (he : e = 0 ∨ e = 1) (h1 : e = 1 → (prA v C st p → post 1 I J) ∧ (¬ prA v C st p → post 0 I J)) (h0 : e = 0 → (prE v C st p → post 1 I J) ∧ (¬ prE v C st p → post 0 I J)) : w_X12_partsPairs (nI (msk p 12)) (nI (msk st C)) e I J post := by
  have hC := hw.1
  have inner : ∀ (k3 : Int32 → Int32 → Int32 → Int32 → sI → sJ → Prop) a, a < C → (∀ b, (∀ a2 c, a2 < c → c < C → a2 < a ∨ (a2 = a ∧ c < b) → st a2 → st c → (ptP v p a2 c ↔ e = 1)) → b = C → k3 (nI (msk p 12)) (nI (msk st C)) e (nI (a + 1)) I J) → ∀ m b, b ≤ C → a < b → C - b < m → (∀ a2 c, a2 < c → c < C → a2 < a ∨ (a2 = a ∧ c < b) → st a2 → st c → (ptP v p a2 c ↔ e = 1)) → w_X12_partsPairs_18_n post k3 m (nI (msk p 12)) (nI (msk st C)) e (nI a) (nI b) I J := by
    intro k3 a ha hk m
    induction m with
    | zero => intro i _ _ h; omega
    | succ m ih =>
      intro b hb hab hm2 hz
      show w_X12_partsPairs_18_s post k3 _ _ _ _ _ _ I J
      unfold w_X12_partsPairs_18_s w_X12_partsPairs_68
      rw [hm.1, pf_le (by omega) (by omega), nI_1, nI_1]
      refine ⟨fun y => ?_, fun y => ?_⟩
      · rintro _ rfl
        exact hk b hz (by omega)
      · have on : (st a → st b → (ptP v p a b ↔ e = 1)) → ∀ v5 : Int32, v5 = nI (b + 1) → w_X12_partsPairs_18_n post k3 m (nI (msk p 12)) (nI (msk st C)) e (nI a) v5 I J := by
          rintro y2 _ rfl
          refine ih (b + 1) (by omega) (by omega) (by omega) (fun a2 c x1 x2 x3 x4 x5 => ?_)
          by_cases z : a2 = a ∧ c = b
          · obtain ⟨z1, z2⟩ := z
            subst z1 z2
            exact y2 x4 x5
          · exact hz a2 c x1 x2 (by omega) x4 x5
        refine q_X12_has (by omega) (by omega) (fun q => b2 (by decide) ?_) (fun q => b1 rfl (on (fun z => absurd ⟨by omega, z⟩ q)))
        refine q_X12_has (by omega) (by omega) (fun q2 => b2 (by decide) ?_) (fun q2 => b1 rfl (on (fun _ z => absurd ⟨by omega, z⟩ q2)))
        refine q_parts hw hm (by omega) (by omega) (fun w => ?_) (fun w => ?_)
        · refine ⟨fun z => on (fun _ _ => ⟨fun _ => z.symm, fun _ => w⟩), fun z => ?_⟩
          have z0 : e = 0 := by rcases he with x | x; exact x; exact absurd x.symm z
          exact b4 z0 ((h0 z0).1 ⟨a, b, by omega, by omega, q.2, q2.2, w⟩)
        · refine ⟨fun z => on (fun _ _ => ⟨fun r => absurd r w, fun r => by rw [r] at z; exact absurd z (by decide)⟩), fun z => ?_⟩
          have z1 : e = 1 := by rcases he with x | x; exact absurd x.symm z; exact x
          refine b3 (by rw [z1]; decide) ((h1 z1).2 (fun r => w (r a b (by omega) (by omega) q.2 q2.2)))
  have loop : ∀ m a, a ≤ C → C - a < m → (∀ a2 c, a2 < c → c < C → a2 < a → st a2 → st c → (ptP v p a2 c ↔ e = 1)) → w_X12_partsPairs_3_n post m (nI (msk p 12)) (nI (msk st C)) e (nI a) I J := by
    intro m
    induction m with
    | zero => intro i _ h; omega
    | succ m ih =>
      intro a ha hm2 hz
      show w_X12_partsPairs_3_s post _ _ _ _ _ I J
      unfold w_X12_partsPairs_3_s
      rw [hm.1, pf_le (by omega) (by omega), nI_1]
      refine ⟨fun y => ?_, fun y => ?_⟩
      · rcases he with x | x
        · subst x
          refine ⟨Or.inl rfl, (h0 rfl).2 (fun ⟨a2, c, x1, x2, x3, x4, x5⟩ => ?_)⟩
          have := (hz a2 c x1 x2 (by omega) x3 x4).mp x5
          exact absurd this (by decide)
        · subst x
          exact ⟨Or.inr rfl, (h1 rfl).1 (fun a2 c x1 x2 x3 x4 => (hz a2 c x1 x2 (by omega) x3 x4).mpr rfl)⟩
      · rintro _ rfl
        refine ⟨C + 1, inner _ a (by omega) (fun b w eb => ih (a + 1) (by omega) (by omega) (fun a2 c x1 x2 x3 x4 x5 => w a2 c x1 x2 (by omega) x4 x5)) (C + 1) (a + 1) (by omega) (by omega) (by omega) (fun a2 c x1 x2 x3 x4 x5 => hz a2 c x1 x2 (by omega) x4 x5)⟩
  exact ⟨C + 1, loop (C + 1) 0 (by omega) (by omega) (fun a2 c _ _ h => by omega)⟩
/-- the least set of finds, and one: first by number, then by order -/
noncomputable def ptF (ok : Nat → Prop) : Nat → Nat
  | 0 => 0
  | b + 1 => if bp (ok b ∧ (ptF ok b = 0 ∨ pcB b < pcB (ptF ok b - 1))) = true then b + 1 else ptF ok b
theorem ptF_y {ok : Nat → Prop} {b : Nat} (h : ok b ∧ (ptF ok b = 0 ∨ pcB b < pcB (ptF ok b - 1))) : ptF ok (b + 1) = b + 1 := by rw [ptF, if_pos (bp_t.mpr h)]
theorem ptF_n {ok : Nat → Prop} {b : Nat} (h : ¬ (ok b ∧ (ptF ok b = 0 ∨ pcB b < pcB (ptF ok b - 1)))) : ptF ok (b + 1) = ptF ok b := by rw [ptF, if_neg (fun z => h (bp_t.mp z))]
theorem ptF_le (ok : Nat → Prop) : ∀ b, ptF ok b ≤ b
  | 0 => Nat.le_refl _
  | b + 1 => by
    have := ptF_le ok b
    rw [ptF]
    split
    · exact Nat.le_refl _
    · omega
noncomputable def ptW (t : Nat) : Nat := if t = 0 then 13 else pcB (t - 1)
theorem ptW_0 {t : Nat} (h : t = 0) : ptW t = 13 := by rw [ptW, if_pos h]
theorem ptW_1 {t : Nat} (h : ¬ t = 0) : ptW t = pcB (t - 1) := by rw [ptW, if_neg h]
theorem pt_iff {t b : Nat} : (t = 0 ∨ pcB b < pcB (t - 1)) ↔ ¬ ptW t ≤ pcB b := by
  have := pcB_le b
  by_cases e : t = 0
  · rw [ptW_0 e]; omega
  · rw [ptW_1 e]; omega
def okP (v : Nat → Nat → Nat) (fi : Nat → Nat) (C b : Nat) : Prop := (∀ f, f < 12 → ¬ (b.testBit f = true ∧ ¬ fi f = 0)) ∧ prA v C (stP v fi) (fun f => b.testBit f = true)
theorem q_sub {b : Nat} {u : Nat → Prop} (hb : b < 4096) : (nI b &&& (nI (msk u 12) ^^^ (-1))) = 0 ↔ ∀ f, f < 12 → ¬ (b.testBit f = true ∧ ¬ u f) := by
  have : nI b &&& (nI (msk u 12) ^^^ (-1)) = nI (msk (fun f => b.testBit f = true ∧ ¬ u f) 12) := by
    rw [← m_andnot, msk_self (n := 12) hb]
  rw [this, m_eq0 (by omega)]
theorem q_partC {I : sI} {J : sJ} {post : Int32 → sI → sJ → Prop} {C : Nat} {v : Nat → Nat → Nat} {fi : Nat → Nat} (hw : tWC C v) (hc : cC C v I) (hfi : ∀ f, f < 12 → fi f ≤ 2 ∧ I 11 f = nI (fi f)) (h : ∀ I2 : sI, (∀ q, ¬ (q = 227 ∨ q = 239) → I2 q = I q) → (∀ k, ¬ k = 6 → I2 227 k = I 227 k) → (ptF (okP v fi C) 4096 = 0 → post (-2) I2 J) ∧ (¬ ptF (okP v fi C) 4096 = 0 → post (nI (pcB (ptF (okP v fi C) 4096 - 1))) (sUI (sUI I2 134 1 0) 134 1 (nI 1)) (sUJ J 135 0 (nI (ptF (okP v fi C) 4096 - 1)).toInt64))) : w_X11_part I J post := by
  unfold w_X11_part
  refine q_unkC hfi (q_standingC hw hc hfi (q_listPairs hw hc (fun I2 N hN r1 s1 e1 l1 l2 => ?_)))
  obtain ⟨f0, f1⟩ := h I2 r1 s1
  have loop : ∀ m b, b ≤ 4096 → 4096 - b < m → w_X11_part_35_n post m (nI (msk (fun f => fi f = 0) 12)) (nI (ptW (ptF (okP v fi C) b))) (nI (ptF (okP v fi C) b - 1)) (nI b) I2 J := by
    intro m
    induction m with
    | zero => intro i _ h; omega
    | succ m ih =>
      intro b hb hm
      have lw : ptW (ptF (okP v fi C) b) ≤ 13 := by
        unfold ptW; split
        · omega
        · have := pcB_le (ptF (okP v fi C) b - 1); omega
      have lp := pcB_le b
      show w_X11_part_35_s post _ _ _ _ _ I2 J
      unfold w_X11_part_35_s w_X11_part_82
      rw [show (4096 : Int32) = nI 4096 from rfl, pf_le (by omega) (by omega), show (12 : Int32) = nI 12 from rfl, pf_le (by omega) (by omega), nI_1]
      refine ⟨fun e => ?_, fun e => ?_⟩
      · have e : b = 4096 := by omega
        subst e
        by_cases z : ptF (okP v fi C) 4096 = 0
        · refine b2 ?_ (f0 z)
          rw [ptW_0 z]; omega
        · have := pcB_le (ptF (okP v fi C) 4096 - 1)
          refine b1 ?_ ?_
          · rw [ptW_1 z]; omega
          · rw [ptW_1 z]
            exact q_X6_tell (f1 z)
      · have no : ¬ (okP v fi C b ∧ ¬ ptW (ptF (okP v fi C) b) ≤ pcB b) → ∀ v4 : Int32, v4 = nI (b + 1) → w_X11_part_35_n post m (nI (msk (fun f => fi f = 0) 12)) (nI (ptW (ptF (okP v fi C) b))) (nI (ptF (okP v fi C) b - 1)) v4 I2 J := by
          rintro y _ rfl
          rw [← pt_iff] at y
          rw [← ptF_n y]
          exact ih (b + 1) (by omega) (by omega)
        rw [q_sub (by omega)]
        refine ⟨fun y => no (fun q => y q.1.1), fun y => ?_⟩
        refine q_bitN (by omega) ?_
        rw [pf_le (by omega) (by omega)]
        refine ⟨fun y2 => no (fun q => q.2 y2), fun y2 => ?_⟩
        have pb := q_partedBy (I := I2) (J := J) (C := C) (v := v) (st := stP v fi) (u := fun f => fi f = 0) (p := fun f => b.testBit f = true) (post := fun r_67 I_67 J_67 => (r_67 = 0 → ∀ v4_82 : Int32, v4_82 = nI (b + 1) → w_X11_part_35_n post m (nI (msk (fun f => fi f = 0) 12)) (nI (ptW (ptF (okP v fi C) b))) (nI (ptF (okP v fi C) b - 1)) v4_82 I_67 J_67) ∧ (¬ r_67 = 0 → w_J6_bitCount_0f7a4 (nI b) I_67 J_67 (fun r_75 I_75 J_75 => ∀ v4_82 : Int32, v4_82 = nI (b + 1) → w_X11_part_35_n post m (nI (msk (fun f => fi f = 0) 12)) r_75 (nI b) v4_82 I_75 J_75))) hN e1 l1 l2 (fun f hf w => Classical.byContradiction (fun w2 => y f hf ⟨w, w2⟩)) (fun z => b2 (by decide) ?_) (fun z => b1 rfl (no (fun q => z q.1.2)))
        · rw [msk_self (n := 12) (by omega)] at pb
          exact pb
        · refine q_bitN (by omega) ?_
          rintro _ rfl
          have := ih (b + 1) (by omega) (by omega)
          rw [ptF_y ⟨⟨y, z⟩, pt_iff.mpr y2⟩, ptW_1 (by omega), show b + 1 - 1 = b by omega] at this
          exact this
  have := loop 4097 0 (by omega) (by omega)
  rw [ptW_0 (t := ptF (okP v fi C) 0) rfl] at this
  exact ⟨4097, this⟩
theorem enN_lt {b : Nat} (hb : b ≤ 5000) : (if b = 0 then (-1 : Int32) else nI (b - 1)) < 0 ↔ b = 0 := by
  by_cases e : b = 0
  · rw [if_pos e]; exact ⟨fun _ => e, fun _ => by decide⟩
  · rw [if_neg e]; exact ⟨fun q => absurd q (pf_lt0 (by omega)), fun q => absurd q e⟩
theorem q_partM {I : sI} {J : sJ} {post : Int32 → sI → sJ → Prop} {C : Nat} {v : Nat → Nat → Nat} {fi : Nat → Nat} (hw : tWC C v) (hm : mC C v I) (hfi : ∀ f, f < 12 → fi f ≤ 2 ∧ I 276 f = nI (fi f)) (f0 : ptF (okP v fi C) 4096 = 0 → post (-2) (sUI I 248 0 0) J) (f1 : ¬ ptF (okP v fi C) 4096 = 0 → post (nI (pcB (ptF (okP v fi C) 4096 - 1))) (sUI (sUI (sUI I 248 0 0) 248 1 0) 248 1 (nI 1)) (sUJ J 249 0 (nI (ptF (okP v fi C) 4096 - 1)).toInt64)) : w_X12_part I J post := by
  unfold w_X12_part
  have hm' : mC C v (sUI I 248 0 0) := hm
  have hfi' : ∀ f, f < 12 → fi f ≤ 2 ∧ (sUI I 248 0 0) 276 f = nI (fi f) := hfi
  rintro _ rfl
  generalize sUI I 248 0 0 = I1 at *
  refine q_standingM hw hm' hfi' (q_unkM hfi' ?_)
  have loop : ∀ m b, b ≤ 4096 → 4096 - b < m → w_X12_part_20_n post m (nI (msk (stP v fi) C)) (nI (msk (fun f => fi f = 0) 12)) (if ptF (okP v fi C) b = 0 then (-1 : Int32) else nI (ptF (okP v fi C) b - 1)) (nI b) I1 J := by
    intro m
    induction m with
    | zero => intro i _ h; omega
    | succ m ih =>
      intro b hb hm2
      have lt := ptF_le (okP v fi C) b
      have lp := pcB_le b
      show w_X12_part_20_s post _ _ _ _ _ I1 J
      unfold w_X12_part_20_s w_X12_part_44 w_X12_part_49 w_X12_part_81 w_X12_part_82
      rw [show (4096 : Int32) = nI 4096 from rfl, pf_le (by omega) (by omega), enN_lt (by omega), nI_1, ← Int32.not_lt, enN_lt (by omega)]
      refine ⟨fun e => ?_, fun e => ?_⟩
      · have e : b = 4096 := by omega
        subst e
        refine ⟨fun z => ?_, fun z => f0 (Classical.not_not.mp z)⟩
        rw [if_neg z]
        rintro _ rfl
        refine q_enters (k := 0) rfl (by omega) (q_bitN (by omega) (f1 z))
      · have no : ¬ (okP v fi C b ∧ (ptF (okP v fi C) b = 0 ∨ pcB b < pcB (ptF (okP v fi C) b - 1))) → ∀ v4 : Int32, v4 = nI (b + 1) → w_X12_part_20_n post m (nI (msk (stP v fi) C)) (nI (msk (fun f => fi f = 0) 12)) (if ptF (okP v fi C) b = 0 then (-1 : Int32) else nI (ptF (okP v fi C) b - 1)) v4 I1 J := by
          rintro y _ rfl
          rw [← ptF_n y]
          exact ih (b + 1) (by omega) (by omega)
        rw [q_sub (by omega)]
        have fewer : (ptF (okP v fi C) b = 0 ∨ pcB b < pcB (ptF (okP v fi C) b - 1)) → ((¬ ∀ f, f < 12 → ¬ (b.testBit f = true ∧ ¬ fi f = 0)) → ∀ v4 : Int32, v4 = nI (b + 1) → w_X12_part_20_n post m (nI (msk (stP v fi) C)) (nI (msk (fun f => fi f = 0) 12)) (if ptF (okP v fi C) b = 0 then (-1 : Int32) else nI (ptF (okP v fi C) b - 1)) v4 I1 J) ∧ ((∀ f, f < 12 → ¬ (b.testBit f = true ∧ ¬ fi f = 0)) → w_X12_partsPairs (nI b) (nI (msk (stP v fi) C)) 1 I1 J (fun r_70 I_70 J_70 => (r_70 = 0 → ∀ v4 : Int32, v4 = nI (b + 1) → w_X12_part_20_n post m (nI (msk (stP v fi) C)) (nI (msk (fun f => fi f = 0) 12)) (if ptF (okP v fi C) b = 0 then (-1 : Int32) else nI (ptF (okP v fi C) b - 1)) v4 I_70 J_70) ∧ (¬ r_70 = 0 → ∀ v4 : Int32, v4 = nI (b + 1) → w_X12_part_20_n post m (nI (msk (stP v fi) C)) (nI (msk (fun f => fi f = 0) 12)) (nI b) v4 I_70 J_70))) := by
          intro fw
          refine ⟨fun y => no (fun q => y q.1.1), fun y => ?_⟩
          have := q_partsPairs (I := I1) (J := J) (C := C) (e := 1) (v := v) (st := stP v fi) (p := fun f => b.testBit f = true) (post := fun r_70 I_70 J_70 => (r_70 = 0 → ∀ v4 : Int32, v4 = nI (b + 1) → w_X12_part_20_n post m (nI (msk (stP v fi) C)) (nI (msk (fun f => fi f = 0) 12)) (if ptF (okP v fi C) b = 0 then (-1 : Int32) else nI (ptF (okP v fi C) b - 1)) v4 I_70 J_70) ∧ (¬ r_70 = 0 → ∀ v4 : Int32, v4 = nI (b + 1) → w_X12_part_20_n post m (nI (msk (stP v fi) C)) (nI (msk (fun f => fi f = 0) 12)) (nI b) v4 I_70 J_70)) hw hm' (Or.inr rfl) (fun _ => ⟨fun z => b2 (by decide) ?_, fun z => b1 rfl (no (fun q => z q.1.2))⟩) (fun q => absurd q (by decide))
          · rw [msk_self (n := 12) (by omega)] at this
            exact this
          · rintro _ rfl
            have := ih (b + 1) (by omega) (by omega)
            rw [ptF_y ⟨⟨y, z⟩, fw⟩, if_neg (by omega), show b + 1 - 1 = b by omega] at this
            exact this
        refine ⟨fun z => b2 (by decide) (fewer (Or.inl z)), fun z => ?_⟩
        refine q_bitN (by omega) ?_
        have z2 : (if ptF (okP v fi C) b = 0 then (-1 : Int32) else nI (ptF (okP v fi C) b - 1)) = nI (ptF (okP v fi C) b - 1) := by rw [if_neg z]
        rw [z2]
        rw [z2] at fewer no
        have lq := pcB_le (ptF (okP v fi C) b - 1)
        refine q_bitN (by omega) ?_
        rw [pf_le (by omega) (by omega)]
        exact ⟨fun w => b1 rfl (no (fun q => by have := q.2; omega)), fun w => b2 (by decide) (fewer (Or.inr (by omega)))⟩
  exact ⟨4097, loop 4097 0 (by omega) (by omega)⟩
theorem S_part {I : sI} {J : sJ} (hR : RR0 I J) : St w_X11_part w_X12_part I J := by
  obtain ⟨hT, hD, hK, hW, hC, hQ, hX⟩ := hR
  obtain ⟨C, v, fi, hw, hc, hm, h1, h2⟩ := cl_get hD hC
  refine q_partC hw hc h1 (fun I1 ra sa => ?_)
  refine ⟨fun z => ?_, fun z => ?_⟩
  · refine q_partM hw ⟨by rw [ra 248 (by omega)]; exact hm.1, fun c f x y => by rw [ra 275 (by omega)]; exact hm.2 c f x y⟩ (fun f hf => by rw [ra 276 (by omega)]; exact h2 f hf) (fun _ => ?_) (fun q => absurd z q)
    have r1 : ∀ q, ¬ (q = 227 ∨ q = 239 ∨ q = 248) → sUI I1 248 0 0 q = I q := fun q hq => by rw [sUI_ne (by omega), ra q (by omega)]
    have s1 : ∀ k, ¬ k = 0 → sUI I1 248 0 0 248 k = I 248 k := fun k hk => by rw [pf_uis, if_neg hk, ra 248 (by omega)]
    refine ⟨rfl, (RT_congr hT (by rw [r1 1 (by omega)]) (r1 2 (by omega)) (s1 4 (by omega)) (r1 250 (by omega))), (RD_congr hD (fun q h1 h2 => r1 q (by omega)) (r1 253 (by omega)) (r1 254 (by omega)) (r1 255 (by omega)) (r1 256 (by omega)) (r1 276 (by omega)) (s1 11 (by omega)) (s1 12 (by omega)) (s1 15 (by omega)) (s1 21 (by omega)) (s1 22 (by omega)) (s1 23 (by omega))), (RK_congr hK (fun q h1 h2 => r1 q (by omega)) (r1 279 (by omega)) (r1 280 (by omega))), (RW_congr hW (fun q h1 h2 => r1 q (by omega)) (r1 257 (by omega)) (r1 258 (by omega)) (r1 259 (by omega))), (RC_congr hC (fun q h1 h2 => r1 q (by omega)) ?_ (s1 46 (by omega)) (r1 275 (by omega))), (RR_congr hQ (by rw [r1 134 (by omega)]) (s1 1 (by omega)) rfl rfl), (RX_congr hX (by rw [r1 0 (by omega)]) (s1 37 (by omega)) (by rw [r1 0 (by omega)]) (s1 33 (by omega)) (by rw [r1 141 (by omega)]))⟩
    rw [sUI_ne (by omega), sa 1 (by omega)]
  · have ra' : ∀ q, ¬ (q = 227 ∨ q = 239 ∨ q = 134) → sUI (sUI I1 134 1 0) 134 1 (nI 1) q = I q := fun q hq => by rw [sUI_ne (by omega), sUI_ne (by omega), ra q (by omega)]
    have sa' : ∀ k, ¬ k = 6 → sUI (sUI I1 134 1 0) 134 1 (nI 1) 227 k = I 227 k := fun k hk => by rw [sUI_ne (by omega), sUI_ne (by omega), sa k hk]
    have e134 : sUI (sUI I1 134 1 0) 134 1 (nI 1) 134 1 = nI 1 := rfl
    generalize sUI (sUI I1 134 1 0) 134 1 (nI 1) = I3 at *
    refine q_partM hw ⟨by rw [ra' 248 (by omega)]; exact hm.1, fun c f x y => by rw [ra' 275 (by omega)]; exact hm.2 c f x y⟩ (fun f hf => by rw [ra' 276 (by omega)]; exact h2 f hf) (fun q => absurd q z) (fun _ => ?_)
    have r1 : ∀ q, ¬ (q = 227 ∨ q = 239 ∨ q = 134 ∨ q = 248) → sUI (sUI (sUI I3 248 0 0) 248 1 0) 248 1 (nI 1) q = I q := fun q hq => by rw [sUI_ne (by omega), sUI_ne (by omega), sUI_ne (by omega), ra' q (by omega)]
    have s1 : ∀ k, ¬ (k = 0 ∨ k = 1) → sUI (sUI (sUI I3 248 0 0) 248 1 0) 248 1 (nI 1) 248 k = I 248 k := fun k hk => by rw [pf_uis, pf_uis, pf_uis, if_neg (by omega), if_neg (by omega), if_neg (by omega), ra' 248 (by omega)]
    refine ⟨rfl, (RT_congr hT (by rw [r1 1 (by omega)]) (r1 2 (by omega)) (s1 4 (by omega)) (r1 250 (by omega))), (RD_congr hD (fun q h1 h2 => r1 q (by omega)) (r1 253 (by omega)) (r1 254 (by omega)) (r1 255 (by omega)) (r1 256 (by omega)) (r1 276 (by omega)) (s1 11 (by omega)) (s1 12 (by omega)) (s1 15 (by omega)) (s1 21 (by omega)) (s1 22 (by omega)) (s1 23 (by omega))), (RK_congr hK (fun q h1 h2 => r1 q (by omega)) (r1 279 (by omega)) (r1 280 (by omega))), (RW_congr hW (fun q h1 h2 => r1 q (by omega)) (r1 257 (by omega)) (r1 258 (by omega)) (r1 259 (by omega))), (RC_congr hC (fun q h1 h2 => r1 q (by omega)) ?_ (s1 46 (by omega)) (r1 275 (by omega))), RR_1 ?_ rfl rfl rfl, (RX_congr hX (by rw [r1 0 (by omega)]) (s1 37 (by omega)) (by rw [r1 0 (by omega)]) (s1 33 (by omega)) (by rw [r1 141 (by omega)]))⟩
    · rw [sUI_ne (by omega), sUI_ne (by omega), sUI_ne (by omega), sa' 1 (by omega)]
    · rw [sUI_ne (by omega), sUI_ne (by omega), sUI_ne (by omega), e134]
