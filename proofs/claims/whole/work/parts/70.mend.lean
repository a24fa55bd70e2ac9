-- mend: peeling places one by one
noncomputable def wtV (n : Nat) (ob : Nat → Nat) (A R D : Nat → Prop) (p : Nat) : Int32 := if bp (R p) = true then -1 else nI (cnt (fun k => A k ∧ ob k = p ∧ ¬ D k) n)
theorem wtV_y {n : Nat} {ob : Nat → Nat} {A R D : Nat → Prop} {p : Nat} (h : R p) : wtV n ob A R D p = -1 := by rw [wtV, if_pos (bp_t.mpr h)]
theorem wtV_n {n : Nat} {ob : Nat → Nat} {A R D : Nat → Prop} {p : Nat} (h : ¬ R p) : wtV n ob A R D p = nI (cnt (fun k => A k ∧ ob k = p ∧ ¬ D k) n) := by rw [wtV, if_neg (fun z => h (bp_t.mp z))]
theorem wtV_congr {n : Nat} {ob : Nat → Nat} {A R R2 D D2 : Nat → Prop} {p : Nat} (h : R p ↔ R2 p) (h2 : ∀ k, k < n → A k → ob k = p → (D k ↔ D2 k)) : wtV n ob A R D p = wtV n ob A R2 D2 p := by
  by_cases z : R p
  · rw [wtV_y z, wtV_y (h.mp z)]
  · rw [wtV_n z, wtV_n (fun q => z (h.mpr q))]
    congr 1
    exact cnt_congr (fun k hk => ⟨fun q => ⟨q.1, q.2.1, fun d => q.2.2 ((h2 k hk q.1 q.2.1).mpr d)⟩, fun q => ⟨q.1, q.2.1, fun d => q.2.2 ((h2 k hk q.1 q.2.1).mp d)⟩⟩)
theorem cnt_all : ∀ n, cnt (fun _ => True) n = n
  | 0 => rfl
  | n + 1 => by rw [cnt_s trivial, cnt_all n]
/-- places taken away so far: none that waits, and in an order -/
def clI (n P : Nat) (ob oa : Nat → Nat) (A R : Nat → Prop) : Prop := (∀ p, R p → p < P) ∧ (∀ k, k < n → A k → R (ob k) → R (oa k)) ∧ ∃ r : Nat → Nat, (∀ p, R p → r p < cnt R P) ∧ ∀ k, k < n → A k → R (ob k) → r (oa k) < r (ob k)
theorem clI_s {n P p : Nat} {ob oa : Nat → Nat} {A R : Nat → Prop} (h : clI n P ob oa A R) (hp : p < P) (hR : ¬ R p) (hz : ∀ k, k < n → A k → ob k = p → R (oa k)) : clI n P ob oa A (fun q => R q ∨ q = p) ∧ cnt (fun q => R q ∨ q = p) P = cnt R P + 1 := by
  obtain ⟨h1, h2, r, h3, h4⟩ := h
  have c : cnt (fun q => R q ∨ q = p) P = cnt R P + 1 := cnt_one (n := p) (Or.inr rfl) hR (fun i hi => ⟨fun q => q.elim id (fun q => absurd q hi), Or.inl⟩) hp
  refine ⟨⟨fun q hq => hq.elim (h1 q) (fun e => by omega), fun k hk ak hb => ?_, fun q => if q = p then cnt R P else r q, fun q hq => ?_, fun k hk ak hb => ?_⟩, c⟩
  · rcases hb with x | x
    · exact Or.inl (h2 k hk ak x)
    · exact Or.inl (hz k hk ak x)
  · rw [c]
    show (if q = p then cnt R P else r q) < cnt R P + 1
    by_cases e : q = p
    · rw [if_pos e]; omega
    · rw [if_neg e]
      have := h3 q (hq.elim id (fun x => absurd x e))
      omega
  · show (if oa k = p then cnt R P else r (oa k)) < (if ob k = p then cnt R P else r (ob k))
    have ra : R (oa k) := hb.elim (h2 k hk ak) (hz k hk ak)
    have na : oa k ≠ p := fun e => hR (by rw [← e]; exact ra)
    rw [if_neg na]
    by_cases e : ob k = p
    · rw [if_pos e]; exact h3 _ ra
    · rw [if_neg e]
      exact h4 k hk ak (hb.elim id (fun x => absurd x e))
theorem q_isClear {I : sI} {J : sJ} {post : Int32 → sI → sJ → Prop} {P n b : Nat} {ob oa : Nat → Nat} (hP : P ≤ 60) (e12 : I 248 12 = nI P) (ho : tWO P n ob oa) (hmo : mO n ob oa I) (hb : b < 2147483648) (h1 : ∀ I2 : sI, (∀ q, ¬ q = 271 → I2 q = I q) → acy n ob oa (fun k => b.testBit k = false) → post 1 I2 J) (h0 : ∀ I2 : sI, (∀ q, ¬ q = 271 → I2 q = I q) → ¬ acy n ob oa (fun k => b.testBit k = false) → post 0 I2 J) : w_X12_isClear (nI b) I J post := by
  have hn := ho.1
  obtain ⟨A, eA⟩ : ∃ A : Nat → Prop, A = fun k => b.testBit k = false := ⟨_, rfl⟩
  rw [← eA] at h1 h0
  have hA : ∀ k, A k ↔ b.testBit k = false := fun k => by rw [eA]
  -- one place is taken away
  have inner : ∀ (k73 : Int32 → Int32 → Int32 → sI → sJ → Prop) (k82 : Int32 → Int32 → Int32 → Int32 → sI → sJ → Prop) (x2 x3 : Int32) (R : Nat → Prop) p, p < P → ¬ R p → (∀ k, k < n → A k → R (ob k) → R (oa k)) → (∀ I3 : sI, (∀ q, ¬ q = 271 → I3 q = I q) → (∀ q, q < P → I3 271 q = wtV n ob A (fun q => R q ∨ q = p) (fun k => R (oa k) ∨ oa k = p) q) → k82 (nI b) x2 x3 (nI (p + 1)) I3 J) → ∀ m j (I3 : sI), j ≤ n → n - j < m → (∀ q, ¬ q = 271 → I3 q = I q) → (∀ q, q < P → I3 271 q = wtV n ob A (fun q => R q ∨ q = p) (fun k => R (oa k) ∨ (oa k = p ∧ k < j)) q) → w_X12_isClear_120_n post k73 k82 m (nI b) x2 x3 (nI p) (nI j) I3 J := by
    intro k73 k82 x2 x3 R p hp hR hcl hk m
    induction m with
    | zero => intro j _ _ h; omega
    | succ m ih =>
      intro j I3 hj hm r3 w3
      show w_X12_isClear_120_s post k73 k82 (w_X12_isClear_120_n post k73 k82 m) _ _ _ _ _ I3 J
      unfold w_X12_isClear_120_s w_X12_isClear_167 w_X12_isClear_168 w_X12_isClear_176
      rw [r3 248 (by omega), hmo.1, pf_le (by omega) (by omega), nI_1, nI_1, pf_cl (n := j) (by omega), r3 255 (by omega)]
      refine ⟨fun e => ?_, fun e => ⟨vp_in_nI (by omega) (by omega), ?_⟩⟩
      · rintro _ rfl
        refine hk I3 r3 (fun q hq => ?_)
        rw [w3 q hq]
        exact wtV_congr Iff.rfl (fun k hk _ _ => ⟨fun x => x.elim Or.inl (fun y => Or.inr y.1), fun x => x.elim Or.inl (fun y => Or.inr ⟨y, by omega⟩)⟩)
      · obtain ⟨f1, f2⟩ := hmo.2 j (by omega)
        obtain ⟨g1, g2, g3⟩ := ho.2.1 j (by omega)
        rw [f1, pf_cl (n := ob j) (by omega)]
        have same : ¬ (A j ∧ oa j = p) → vp_in (nI (ob j)) 80 ∧ ∀ I4 : sI, I4 = sUI I3 271 (ob j) (I3 271 (ob j) - 0) → ∀ v : Int32, v = nI (j + 1) → w_X12_isClear_120_n post k73 k82 m (nI b) x2 x3 (nI p) v I4 J := by
          intro y
          refine ⟨vp_in_nI (by omega) (by omega), ?_⟩
          rintro _ rfl _ rfl
          refine ih (j + 1) _ (by omega) (by omega) (fun q hq => by rw [sUI_ne hq, r3 q hq]) (fun q hq => ?_)
          have e2 : sUI I3 271 (ob j) (I3 271 (ob j) - 0) 271 q = I3 271 q := by
            rw [pf_uis]
            by_cases z : q = ob j
            · rw [if_pos z, Int32.sub_zero, z]
            · rw [if_neg z]
          rw [e2, w3 q hq]
          refine wtV_congr Iff.rfl (fun k hk ak _ => ⟨fun x => x.elim Or.inl (fun y => Or.inr ⟨y.1, by omega⟩), fun x => x.elim Or.inl (fun z => ?_)⟩)
          by_cases e : k = j
          · subst e; exact absurd ⟨ak, z.1⟩ y
          · exact Or.inr ⟨z.1, by omega⟩
        refine ⟨vp_in_nI (by omega) (by omega), ?_⟩
        refine q_hasB hb (by omega) (fun tb => b3 (by decide) (same (fun y => by rw [hA, tb] at y; exact absurd y.1 (by decide)))) (fun tb => b4 rfl ?_)
        rw [r3 256 (by omega), f2, pf_eq (by omega) (by omega)]
        refine ⟨vp_in_nI (by omega) (by omega), fun y => same (fun z => y z.2), fun y => ⟨vp_in_nI (by omega) (by omega), ?_⟩⟩
        have aj : A j := (hA j).mpr tb
        have nR : ¬ (R (ob j) ∨ ob j = p) := by
          rintro (x | x)
          · exact hR (by rw [← y]; exact hcl j (by omega) aj x)
          · omega
        rintro _ rfl _ rfl
        refine ih (j + 1) _ (by omega) (by omega) (fun q hq => by rw [sUI_ne hq, r3 q hq]) (fun q hq => ?_)
        rw [pf_uis]
        by_cases z : q = ob j
        · rw [if_pos z, w3 _ g1, z, wtV_n nR, wtV_n nR]
          rw [cnt_one (p := fun k => A k ∧ ob k = ob j ∧ ¬ (R (oa k) ∨ (oa k = p ∧ k < j))) (q := fun k => A k ∧ ob k = ob j ∧ ¬ (R (oa k) ∨ (oa k = p ∧ k < j + 1))) (n := j) ⟨aj, rfl, fun x => x.elim (fun x => hR (by rw [← y]; exact x)) (fun x => by omega)⟩ (fun x => x.2.2 (Or.inr ⟨y, by omega⟩)) (fun i hi => ?_) (by omega), nI_p (by omega), Nat.add_sub_cancel]
          refine ⟨fun x => ⟨x.1, x.2.1, fun d => x.2.2 (d.elim Or.inl (fun d => Or.inr ⟨d.1, by omega⟩))⟩, fun x => ⟨x.1, x.2.1, fun d => x.2.2 (d.elim Or.inl (fun d => Or.inr ⟨d.1, by omega⟩))⟩⟩
        · rw [if_neg z, w3 q hq]
          refine wtV_congr Iff.rfl (fun k hk ak ek => ⟨fun x => x.elim Or.inl (fun y => Or.inr ⟨y.1, by omega⟩), fun x => x.elim Or.inl (fun w => Or.inr ⟨w.1, ?_⟩)⟩)
          by_cases e : k = j
          · subst e; exact absurd ek.symm z
          · omega
  -- a pass over the places
  have pass : ∀ (k73 : Int32 → Int32 → Int32 → sI → sJ → Prop) (R0 : Nat → Prop), (∀ (I3 : sI) (R : Nat → Prop) (x3 : Int32), (∀ q, ¬ q = 271 → I3 q = I q) → clI n P ob oa A R → (∀ q, q < P → I3 271 q = wtV n ob A R (fun k => R (oa k)) q) → ((x3 = 1 ∧ cnt R0 P < cnt R P) ∨ (x3 = 0 ∧ ∀ q, q < P → ¬ R q → ∃ k, k < n ∧ A k ∧ ob k = q ∧ ¬ R (oa k))) → k73 (nI b) (nI (P - cnt R P)) x3 I3 J) → ∀ m p (R : Nat → Prop) (x3 : Int32) (I3 : sI), p ≤ P → P - p < m → (∀ q, ¬ q = 271 → I3 q = I q) → clI n P ob oa A R → (∀ q, q < P → I3 271 q = wtV n ob A R (fun k => R (oa k)) q) → ((x3 = 1 ∧ cnt R0 P < cnt R P) ∨ (x3 = 0 ∧ cnt R0 P ≤ cnt R P ∧ ∀ q, q < p → ¬ R q → ∃ k, k < n ∧ A k ∧ ob k = q ∧ ¬ R (oa k))) → w_X12_isClear_82_n post k73 m (nI b) (nI (P - cnt R P)) x3 (nI p) I3 J := by
    intro k73 R0 hk m
    induction m with
    | zero => intro p _ _ _ _ h; omega
    | succ m ih =>
      intro p R x3 I3 hp hm r3 hcl w3 hx
      show w_X12_isClear_82_s post k73 (w_X12_isClear_82_n post k73 m) _ _ _ _ I3 J
      unfold w_X12_isClear_82_s w_X12_isClear_176
      rw [r3 248 (by omega), e12, pf_le (by omega) (by omega), nI_1, pf_cl (by omega)]
      refine ⟨fun e => ?_, fun e => ⟨vp_in_nI (by omega) (by omega), ?_⟩⟩
      · refine hk I3 R x3 r3 hcl w3 (hx.elim Or.inl (fun x => Or.inr ⟨x.1, fun q hq => x.2.2 q (by omega)⟩))
      · rw [w3 p (by omega)]
        by_cases hR : R p
        · rw [wtV_y hR]
          refine b2 (by decide) ?_
          rintro _ rfl
          refine ih (p + 1) R x3 I3 (by omega) (by omega) r3 hcl w3 (hx.elim Or.inl (fun x => Or.inr ⟨x.1, x.2.1, fun q hq nq => ?_⟩))
          by_cases e2 : q = p
          · subst e2; exact absurd hR nq
          · exact x.2.2 q (by omega) nq
        · rw [wtV_n hR]
          have cl := cnt_le (fun k => A k ∧ ob k = p ∧ ¬ R (oa k)) n
          rw [pf_eq0 (by omega)]
          refine ⟨fun z => ⟨vp_in_nI (by omega) (by omega), ?_⟩, fun z => ?_⟩
          · have hz : ∀ k, k < n → A k → ob k = p → R (oa k) := by
              intro k hk ak ek
              by_cases y : R (oa k)
              · exact y
              · have := cnt_lt (p := fun _ => False) (q := fun k => A k ∧ ob k = p ∧ ¬ R (oa k)) (k := k) ⟨ak, ek, y⟩ (fun x => x) hk (fun _ _ x => x.elim)
                omega
            obtain ⟨c1, c2⟩ := clI_s hcl (by omega) hR hz
            have le := cnt_le (fun q => R q ∨ q = p) P
            rintro _ rfl _ rfl
            rw [show nI (P - cnt R P) + (-1) = nI (P - cnt (fun q => R q ∨ q = p) P) by
              rw [c2, show P - cnt R P = P - (cnt R P + 1) + 1 by omega, ← nI_1, Int32.add_assoc, show (1 : Int32) + -1 = 0 by decide, Int32.add_zero]]
            refine ⟨n + 1, inner _ _ _ _ R p (by omega) hR hcl.2.1 (fun I4 r4 w4 => ?_) (n + 1) 0 _ (by omega) (by omega) (fun q hq => by rw [sUI_ne hq, r3 q hq]) (fun q hq => ?_)⟩
            · exact ih (p + 1) _ 1 I4 (by omega) (by omega) r4 c1 w4 (Or.inl ⟨rfl, by rcases hx with x | x <;> omega⟩)
            · rw [pf_uis]
              by_cases e2 : q = p
              · rw [if_pos e2, wtV_y (Or.inr e2)]
              · rw [if_neg e2, w3 q hq]
                exact wtV_congr ⟨Or.inl, fun x => x.elim id (fun x => absurd x e2)⟩ (fun k _ _ _ => ⟨Or.inl, fun x => x.elim id (fun x => by omega)⟩)
          · rintro _ rfl
            refine ih (p + 1) R x3 I3 (by omega) (by omega) r3 hcl w3 (hx.elim Or.inl (fun x => Or.inr ⟨x.1, x.2.1, fun q hq nq => ?_⟩))
            by_cases e2 : q = p
            · subst e2
              by_cases v : ∃ k, k < n ∧ A k ∧ ob k = q ∧ ¬ R (oa k)
              · exact v
              · exact absurd (cnt_0 (fun i hi x => v ⟨i, hi, x⟩)) z
            · exact x.2.2 q (by omega) nq
  have outer : ∀ m (R : Nat → Prop) (x3 : Int32) (I3 : sI), P - cnt R P + 1 < m → (∀ q, ¬ q = 271 → I3 q = I q) → clI n P ob oa A R → (∀ q, q < P → I3 271 q = wtV n ob A R (fun k => R (oa k)) q) → ((x3 = 1) ∨ (x3 = 0 ∧ ∀ q, q < P → ¬ R q → ∃ k, k < n ∧ A k ∧ ob k = q ∧ ¬ R (oa k))) → w_X12_isClear_73_n post m (nI b) (nI (P - cnt R P)) x3 I3 J := by
    intro m
    induction m with
    | zero => intro R _ _ h; omega
    | succ m ih =>
      intro R x3 I3 hm r3 hcl w3 hx
      show w_X12_isClear_73_s post (w_X12_isClear_73_n post m) _ _ _ I3 J
      unfold w_X12_isClear_73_s
      have le := cnt_le R P
      rcases hx with rfl | ⟨rfl, hx⟩
      · refine b2 (by decide) ⟨P + 1, pass _ R (fun I4 R4 x4 r4 c4 w4 h4 => ?_) (P + 1) 0 R 0 I3 (by omega) (by omega) r3 hcl w3 (Or.inr ⟨rfl, Nat.le_refl _, fun q hq => by omega⟩)⟩
        have le4 := cnt_le R4 P
        rcases h4 with ⟨y1, y2⟩ | ⟨y1, y2⟩
        · exact ih R4 x4 I4 (by omega) r4 c4 w4 (Or.inl y1)
        · cases m with
          | zero => omega
          | succ m =>
            show w_X12_isClear_73_s post (w_X12_isClear_73_n post m) _ _ _ I4 J
            unfold w_X12_isClear_73_s
            rw [y1, pf_eq0 (by omega)]
            refine b1 rfl ⟨fun z => h0 I4 r4 (fun a => ?_), fun z => h1 I4 r4 ?_⟩
            · obtain ⟨r, hr⟩ := a
              have ex : ∃ q, q < P ∧ ¬ R4 q := by
                by_cases v : ∃ q, q < P ∧ ¬ R4 q
                · exact v
                · have : cnt R4 P = cnt (fun _ => True) P := cnt_congr (fun i hi => ⟨fun _ => trivial, fun _ => by
                    by_cases w : R4 i
                    · exact w
                    · exact absurd ⟨i, hi, w⟩ v⟩)
                  rw [cnt_all] at this
                  omega
              obtain ⟨q, hq, nq, mn⟩ := lst (f := r) ex
              obtain ⟨k, hk, ak, ek, nk⟩ := y2 q hq nq
              have a := hr k hk ak
              have c := mn (oa k) (ho.2.1 k hk).2.1 nk
              rw [ek] at a
              omega
            · obtain ⟨c1, c2, r, c3, c5⟩ := c4
              refine ⟨r, fun k hk ak => c5 k hk ak ?_⟩
              by_cases w : R4 (ob k)
              · exact w
              · have := cnt_lt (p := R4) (q := fun _ => True) (k := ob k) trivial w (ho.2.1 k hk).1 (fun _ _ _ => trivial)
                rw [cnt_all] at this
                omega
      · rw [pf_eq0 (by omega)]
        refine b1 rfl ⟨fun z => h0 I3 r3 (fun a => ?_), fun z => h1 I3 r3 ?_⟩
        · obtain ⟨r, hr⟩ := a
          have ex : ∃ q, q < P ∧ ¬ R q := by
            by_cases v : ∃ q, q < P ∧ ¬ R q
            · exact v
            · have : cnt R P = cnt (fun _ => True) P := cnt_congr (fun i hi => ⟨fun _ => trivial, fun _ => by
                by_cases w : R i
                · exact w
                · exact absurd ⟨i, hi, w⟩ v⟩)
              rw [cnt_all] at this
              omega
          obtain ⟨q, hq, nq, mn⟩ := lst (f := r) ex
          obtain ⟨k, hk, ak, ek, nk⟩ := hx q hq nq
          have a := hr k hk ak
          have c := mn (oa k) (ho.2.1 k hk).2.1 nk
          rw [ek] at a
          omega
        · obtain ⟨c1, c2, r, c3, c5⟩ := hcl
          refine ⟨r, fun k hk ak => c5 k hk ak ?_⟩
          by_cases w : R (ob k)
          · exact w
          · have := cnt_lt (p := R) (q := fun _ => True) (k := ob k) trivial w (ho.2.1 k hk).1 (fun _ _ _ => trivial)
            rw [cnt_all] at this
            omega
  have count : ∀ m j (I3 : sI), j ≤ n → n - j < m → (∀ q, ¬ q = 271 → I3 q = I q) → (∀ q, q < P → I3 271 q = nI (cnt (fun k => A k ∧ ob k = q) j)) → w_X12_isClear_30_n post m (nI b) (nI P) (nI j) I3 J := by
    intro m
    induction m with
    | zero => intro j _ _ h; omega
    | succ m ih =>
      intro j I3 hj hm r3 w3
      show w_X12_isClear_30_s post (w_X12_isClear_30_n post m) _ _ _ I3 J
      unfold w_X12_isClear_30_s w_X12_isClear_63
      rw [r3 248 (by omega), hmo.1, pf_le (by omega) (by omega), nI_1, pf_cl (n := j) (by omega), r3 255 (by omega)]
      refine ⟨fun e => ?_, fun e => ⟨vp_in_nI (by omega) (by omega), ?_⟩⟩
      · have c0 : cnt (fun _ => False) P = 0 := cnt_0 (fun _ _ x => x)
        have := outer (P + 2) (fun _ => False) 1 I3 (by omega) r3 ⟨fun _ x => x.elim, fun _ _ _ x => x.elim, fun _ => 0, fun _ x => x.elim, fun _ _ _ x => x.elim⟩ (fun q hq => ?_) (Or.inl rfl)
        · rw [c0] at this
          exact ⟨P + 2, this⟩
        · rw [w3 q hq, wtV_n (fun x => x), show j = n by omega]
          congr 1
          exact cnt_congr (fun k _ => ⟨fun x => ⟨x.1, x.2, fun y => y⟩, fun x => ⟨x.1, x.2.1⟩⟩)
      · obtain ⟨f1, f2⟩ := hmo.2 j (by omega)
        obtain ⟨g1, g2, g3⟩ := ho.2.1 j (by omega)
        rw [f1, pf_cl (n := ob j) (by omega)]
        refine ⟨vp_in_nI (by omega) (by omega), ?_⟩
        refine q_hasB hb (by omega) (fun tb => b2 (by decide) ⟨vp_in_nI (by omega) (by omega), ?_⟩) (fun tb => b1 rfl ⟨vp_in_nI (by omega) (by omega), ?_⟩)
        · have aj : ¬ A j := fun x => by rw [hA, tb] at x; exact absurd x (by decide)
          rintro _ rfl _ rfl
          refine ih (j + 1) _ (by omega) (by omega) (fun q hq => by rw [sUI_ne hq, r3 q hq]) (fun q hq => ?_)
          rw [pf_uis, cnt_n (fun x => aj x.1)]
          by_cases z : q = ob j
          · rw [if_pos z, Int32.add_zero, z, w3 _ g1]
          · rw [if_neg z, w3 q hq]
        · have aj : A j := (hA j).mpr tb
          rintro _ rfl _ rfl
          refine ih (j + 1) _ (by omega) (by omega) (fun q hq => by rw [sUI_ne hq, r3 q hq]) (fun q hq => ?_)
          rw [pf_uis]
          by_cases z : q = ob j
          · rw [if_pos z, z, w3 _ g1, nI_1, cnt_s ⟨aj, rfl⟩]
          · rw [if_neg z, w3 q hq, cnt_n (fun x => z x.2.symm)]
  have clr : ∀ m p (I3 : sI), p ≤ P → P - p < m → (∀ q, ¬ q = 271 → I3 q = I q) → (∀ q, q < p → I3 271 q = 0) → w_X12_isClear_7_n post m (nI b) (nI P) (nI p) I3 J := by
    intro m
    induction m with
    | zero => intro j _ _ h; omega
    | succ m ih =>
      intro p I3 hp hm r3 w3
      show w_X12_isClear_7_s post (w_X12_isClear_7_n post m) _ _ _ I3 J
      unfold w_X12_isClear_7_s
      rw [r3 248 (by omega), e12, pf_le (by omega) (by omega), nI_1, pf_cl (by omega)]
      refine ⟨fun e => ⟨n + 1, count (n + 1) 0 I3 (by omega) (by omega) r3 (fun q hq => by rw [w3 q (by omega)]; rfl)⟩, fun e => ⟨vp_in_nI (by omega) (by omega), ?_⟩⟩
      rintro _ rfl _ rfl
      refine ih (p + 1) _ (by omega) (by omega) (fun q hq => by rw [sUI_ne hq, r3 q hq]) (fun q hq => ?_)
      rw [pf_uis]
      by_cases z : q = p
      · rw [if_pos z]
      · rw [if_neg z, w3 q (by omega)]
  unfold w_X12_isClear
  rw [e12]
  rintro _ rfl
  exact ⟨P + 1, clr (P + 1) 0 I (by omega) (by omega) (fun _ _ => rfl) (fun q hq => by omega)⟩
/-- the fewest, the first of these -/
noncomputable def mdS (Q : Nat → Prop) : Nat → Nat × Nat
  | 0 => (13, 0)
  | b + 1 => if bp (pcB b < (mdS Q b).1 ∧ Q b) = true then (pcB b, b) else mdS Q b
theorem mdS_y {Q : Nat → Prop} {b : Nat} (h : pcB b < (mdS Q b).1 ∧ Q b) : mdS Q (b + 1) = (pcB b, b) := by rw [mdS, if_pos (bp_t.mpr h)]
theorem mdS_n {Q : Nat → Prop} {b : Nat} (h : ¬ (pcB b < (mdS Q b).1 ∧ Q b)) : mdS Q (b + 1) = mdS Q b := by rw [mdS, if_neg (fun z => h (bp_t.mp z))]
theorem mdS_ok {Q : Nat → Prop} : ∀ b, mdS Q b = (13, 0) ∨ ((mdS Q b).1 = pcB (mdS Q b).2 ∧ (mdS Q b).2 < b)
  | 0 => Or.inl rfl
  | b + 1 => by
    by_cases h : pcB b < (mdS Q b).1 ∧ Q b
    · rw [mdS_y h]; exact Or.inr ⟨rfl, by show b < b + 1; omega⟩
    · rw [mdS_n h]
      rcases mdS_ok b with x | x
      · exact Or.inl x
      · exact Or.inr ⟨x.1, by omega⟩
theorem S_mend {I : sI} {J : sJ} (hR : RR0 I J) : St w_X11_mend w_X12_mend I J := by
  obtain ⟨hT, hD, hK, hW, hC, hQ, hX⟩ := hR
  obtain ⟨G, P, n, s, κ, ob, oa, hw, ho, hc, hm, hco, hmo⟩ := o_get hD
  have hP := hw.2.1
  have hn := ho.1
  have h12 : 2 ^ n ≤ 4096 := Nat.pow_le_pow_right (n := 2) (by omega) hn
  have h1 : 1 ≤ 2 ^ n := Nat.one_le_two_pow
  obtain ⟨Q, eQ⟩ : ∃ Q : Nat → Prop, Q = fun b => acy n ob oa (fun k => b.testBit k = false) := ⟨_, rfl⟩
  have last : Q (2 ^ n - 1) := by
    rw [eQ]
    refine ⟨fun _ => 0, fun k hk x => ?_⟩
    have x : (2 ^ n - 1).testBit k = false := x
    rw [Nat.testBit_two_pow_sub_one, decide_eq_true hk] at x
    exact absurd x (by decide)
  have found : (mdS Q (2 ^ n)).1 ≠ 13 := by
    rw [show 2 ^ n = 2 ^ n - 1 + 1 by omega]
    have pl := pcB_le (2 ^ n - 1)
    by_cases h : pcB (2 ^ n - 1) < (mdS Q (2 ^ n - 1)).1 ∧ Q (2 ^ n - 1)
    · rw [mdS_y h]; show pcB (2 ^ n - 1) ≠ 13; omega
    · rw [mdS_n h]
      intro e
      exact h ⟨by omega, last⟩
  obtain ⟨mo1, mo2⟩ : (mdS Q (2 ^ n)).1 = pcB (mdS Q (2 ^ n)).2 ∧ (mdS Q (2 ^ n)).2 < 2 ^ n := by
    rcases mdS_ok (Q := Q) (2 ^ n) with x | x
    · rw [x] at found; exact absurd rfl found
    · exact x
  have model : ∀ (I1 : sI) (J1 : sJ), I1 = sUI (sUI I 134 1 0) 134 1 (nI 1) → J1 = sUJ J 135 0 (nI (mdS Q (2 ^ n)).2).toInt64 → w_X12_mend I1 J1 (fun r2 I2 J2 => nI (mdS Q (2 ^ n)).1 = r2 ∧ RR0 I2 J2) := by
    rintro I1 J1 rfl rfl
    unfold w_X12_mend
    rintro _ rfl
    obtain ⟨I0, e0⟩ : ∃ I0, I0 = sUI (sUI (sUI I 134 1 0) 134 1 (nI 1)) 248 0 0 := ⟨_, rfl⟩
    have e12 : I0 248 12 = nI P := by rw [e0]; exact hm.2.1
    have hmo2 : mO n ob oa I0 := by rw [e0]; exact hmo
    rw [← e0]
    obtain ⟨post, ep⟩ : ∃ post : Int32 → sI → sJ → Prop, post = fun r2 I2 J2 => nI (mdS Q (2 ^ n)).1 = r2 ∧ RR0 I2 J2 := ⟨_, rfl⟩
    rw [← ep]
    have loop : ∀ m b (x1 : Int32) (I3 : sI), b ≤ 2 ^ n → 2 ^ n - b < m → (∀ q, ¬ q = 271 → I3 q = I0 q) → ((mdS Q b = (13, 0) ∧ x1 = -1) ∨ ((mdS Q b).1 = pcB (mdS Q b).2 ∧ (mdS Q b).2 < b ∧ x1 = nI (mdS Q b).2)) → w_X12_mend_9_n post m x1 (nI b) I3 (sUJ J 135 0 (nI (mdS Q (2 ^ n)).2).toInt64) := by
      intro m
      induction m with
      | zero => intro b _ _ _ h; omega
      | succ m ih =>
        intro b x1 I3 hb hm2 r3 hx
        show w_X12_mend_9_s post (w_X12_mend_9_n post m) _ _ I3 _
        unfold w_X12_mend_9_s
        rw [r3 248 (by omega), hmo2.1, sh1 n (by omega), pf_le (by omega) (by omega)]
        refine ⟨fun e => ?_, fun e => ?_⟩
        · rintro _ rfl
          have e : b = 2 ^ n := by omega
          subst e
          have hx : x1 = nI (mdS Q (2 ^ n)).2 := by
            rcases hx with x | x
            · rw [x.1] at found; exact absurd rfl found
            · exact x.2.2
          rw [hx]
          refine q_enters (k := 0) rfl (by omega) ?_
          refine q_bitN (by omega) ?_
          rw [ep, ← mo1]
          refine ⟨rfl, ?_⟩
          have r1 : ∀ q, ¬ (q = 134 ∨ q = 248 ∨ q = 271) → (sUI (sUI I3 248 1 0) 248 1 (nI (0 + 1))) q = I q := fun q hq => by rw [sUI_ne (by omega), sUI_ne (by omega), r3 q (by omega), e0, sUI_ne (by omega), sUI_ne (by omega), sUI_ne (by omega)]
          have s1 : ∀ k, ¬ (k = 0 ∨ k = 1) → (sUI (sUI I3 248 1 0) 248 1 (nI (0 + 1))) 248 k = I 248 k := fun k hk => by rw [pf_uis, if_neg (by omega), pf_uis, if_neg (by omega), r3 248 (by omega), e0, pf_uis, if_neg (by omega), sUI_ne (by omega), sUI_ne (by omega)]
          refine ⟨(RT_congr hT (by rw [r1 1 (by omega)]) (r1 2 (by omega)) (s1 4 (by omega)) (r1 250 (by omega))), (RD_congr hD (fun q h1 h2 => r1 q (by omega)) (r1 253 (by omega)) (r1 254 (by omega)) (r1 255 (by omega)) (r1 256 (by omega)) (r1 276 (by omega)) (s1 11 (by omega)) (s1 12 (by omega)) (s1 15 (by omega)) (s1 21 (by omega)) (s1 22 (by omega)) (s1 23 (by omega))), (RK_congr hK (fun q h1 h2 => r1 q (by omega)) (r1 279 (by omega)) (r1 280 (by omega))), (RW_congr hW (fun q h1 h2 => r1 q (by omega)) (r1 257 (by omega)) (r1 258 (by omega)) (r1 259 (by omega))), (RC_congr hC (fun q h1 h2 => r1 q (by omega)) (by rw [r1 227 (by omega)]) (s1 46 (by omega)) (r1 275 (by omega))), ?_, (RX_congr hX (by rw [r1 0 (by omega)]) (s1 37 (by omega)) (by rw [r1 0 (by omega)]) (s1 33 (by omega)) (by rw [r1 141 (by omega)]))⟩
          refine RR_1 (x := (nI (mdS Q (2 ^ n)).2).toInt64) ?_ ?_ ?_ ?_
          · rw [sUI_ne (by omega), sUI_ne (by omega), r3 134 (by omega), e0, sUI_ne (by omega), pf_uis, if_pos rfl]
          · rw [pf_uis, if_pos rfl]
          · rw [pf_uj, if_neg (by omega), pf_ujs, if_pos rfl]
          · rw [pf_ujs, if_pos rfl]
        · have pl := pcB_le b
          have no : ¬ (pcB b < (mdS Q b).1 ∧ Q b) → ∀ (I4 : sI), (∀ q, ¬ q = 271 → I4 q = I0 q) → w_X12_mend_57 post (w_X12_mend_9_n post m) (nI b) x1 I4 (sUJ J 135 0 (nI (mdS Q (2 ^ n)).2).toInt64) := by
            intro y I4 r4
            unfold w_X12_mend_57
            rintro _ rfl
            rw [nI_1]
            refine ih (b + 1) x1 I4 (by omega) (by omega) r4 ?_
            rw [mdS_n y]
            rcases hx with x | x
            · exact Or.inl x
            · exact Or.inr ⟨x.1, by omega, x.2.2⟩
          have yes : pcB b < (mdS Q b).1 → w_X12_mend_34 post (w_X12_mend_9_n post m) x1 (nI b) I3 (sUJ J 135 0 (nI (mdS Q (2 ^ n)).2).toInt64) := by
            intro lt
            unfold w_X12_mend_34 w_X12_mend_39 w_X12_mend_56
            refine b2 (by decide) ?_
            refine q_isClear hP (by rw [r3 248 (by omega)]; exact e12) ho (by unfold mO at *; rw [r3 248 (by omega), r3 255 (by omega), r3 256 (by omega)]; exact hmo2) (by omega) (fun I4 r4 a => b2 (by decide) ?_) (fun I4 r4 a => b1 rfl (no (fun q => a (by have := q.2; rw [eQ] at this; exact this)) I4 (fun q hq => by rw [r4 q hq, r3 q hq])))
            unfold w_X12_mend_57
            rintro _ rfl
            rw [nI_1]
            refine ih (b + 1) (nI b) I4 (by omega) (by omega) (fun q hq => by rw [r4 q hq, r3 q hq]) (Or.inr ?_)
            rw [mdS_y ⟨lt, by rw [eQ]; exact a⟩]
            exact ⟨rfl, by show b < b + 1; omega, rfl⟩
          rcases hx with ⟨x1', x2⟩ | ⟨x1', x2, x3⟩
          · rw [x2]
            rw [x2] at yes no
            refine b1 (by decide) (yes (by rw [x1']; show pcB b < 13; omega))
          · have bl := pcB_le (mdS Q b).2
            rw [x3] at yes no ⊢
            refine b2 (pf_lt0 (by omega)) ?_
            refine q_bitN (by omega) (q_bitN (by omega) ?_)
            rw [pf_le (by omega) (by omega)]
            refine ⟨fun z => ?_, fun z => yes (by omega)⟩
            unfold w_X12_mend_39 w_X12_mend_56
            exact b1 rfl (no (fun q => by have := q.1; omega) I3 r3)
    exact ⟨2 ^ n + 1, loop (2 ^ n + 1) 0 (-1) I0 (by omega) (by omega) (fun _ _ => rfl) (Or.inl ⟨rfl, rfl⟩)⟩
  show w_X11_mend I J _
  unfold w_X11_mend w_X4_all
  rw [hco.1, sh1 n (by omega), nI_p h1]
  obtain ⟨post, ep⟩ : ∃ post : Int32 → sI → sJ → Prop, post = fun r I1 J1 => w_X12_mend I1 J1 (fun r2 I2 J2 => r = r2 ∧ RR0 I2 J2) := ⟨_, rfl⟩
  rw [← ep]
  have loop : ∀ m b, b ≤ 2 ^ n → 2 ^ n - b < m → w_X11_mend_22_n post m (nI (2 ^ n - 1)) (nI (mdS Q b).1) (nI (mdS Q b).2) (nI b) I J := by
    intro m
    induction m with
    | zero => intro b _ h; omega
    | succ m ih =>
      intro b hb hm2
      show w_X11_mend_22_s post (w_X11_mend_22_n post m) _ _ _ _ I J
      unfold w_X11_mend_22_s w_X11_mend_60
      rw [pf_lt (by omega) (by omega), nI_1]
      refine ⟨fun e => ?_, fun e => ?_⟩
      · rw [show b = 2 ^ n by omega]
        refine q_X6_tell ?_
        rw [ep]
        exact model _ _ rfl rfl
      · have pl := pcB_le b
        have ml : (mdS Q b).1 ≤ 13 := by
          rcases mdS_ok (Q := Q) b with x | x
          · rw [x]; exact Nat.le_refl _
          · rw [x.1]; have := pcB_le (mdS Q b).2; omega
        have no : ¬ (pcB b < (mdS Q b).1 ∧ Q b) → ∀ v : Int32, v = nI (b + 1) → w_X11_mend_22_n post m (nI (2 ^ n - 1)) (nI (mdS Q b).1) (nI (mdS Q b).2) v I J := by
          rintro y _ rfl
          have := ih (b + 1) (by omega) (by omega)
          rw [mdS_n y] at this
          exact this
        refine q_bitN (by omega) ?_
        rw [pf_le (by omega) (by omega)]
        refine ⟨fun z => no (fun q => by have := q.1; omega), fun z => ?_⟩
        rw [show nI (2 ^ n - 1) &&& (nI b ^^^ (-1)) = nI (msk (fun i => b.testBit i = false) n) by
          rw [show 2 ^ n - 1 = msk (fun _ => True) n from ?_, m_not]
          · congr 1
            exact msk_congr (fun i _ => ⟨fun x => x.2, fun x => ⟨trivial, x⟩⟩)
          · apply Nat.eq_of_testBit_eq
            intro i
            rw [Nat.testBit_two_pow_sub_one, Bool.eq_iff_iff, msk_in, decide_eq_true_iff]
            exact ⟨fun x => ⟨x, trivial⟩, fun x => x.1⟩]
        refine q_ringFree hP ho hco (fun a => b2 (by decide) ?_) (fun a => b1 rfl (no (fun q => a (by have := q.2; rw [eQ] at this; exact this))))
        refine q_bitN (by omega) ?_
        rintro _ rfl
        have := ih (b + 1) (by omega) (by omega)
        rw [mdS_y ⟨by omega, by rw [eQ]; exact a⟩] at this
        exact this
  exact ⟨2 ^ n + 1, loop (2 ^ n + 1) 0 (by omega) (by omega)⟩
