/-- how deep: a fold that looks for the least; sets of claims as numbers -/
noncomputable def dF (ok : Nat → Prop) (val : Nat → Nat) : Nat → Nat
  | 0 => 13
  | f + 1 => if bp (ok f) = true then min (dF ok val f) (1 + val f) else dF ok val f
theorem dF_y {ok : Nat → Prop} {val : Nat → Nat} {f : Nat} (h : ok f) : dF ok val (f + 1) = min (dF ok val f) (1 + val f) := by rw [dF, if_pos (bp_t.mpr h)]
theorem dF_n {ok : Nat → Prop} {val : Nat → Nat} {f : Nat} (h : ¬ ok f) : dF ok val (f + 1) = dF ok val f := by rw [dF, if_neg (fun z => h (bp_t.mp z))]
theorem dF_congr {ok : Nat → Prop} {val val2 : Nat → Nat} : ∀ {n : Nat}, (∀ f, f < n → ok f → val f = val2 f) → dF ok val n = dF ok val2 n
  | 0, _ => rfl
  | n + 1, h => by
    have ih := dF_congr (n := n) (fun f hf => h f (by omega))
    by_cases e : ok n
    · rw [dF_y e, dF_y e, ih, h n (by omega) e]
    · rw [dF_n e, dF_n e, ih]
theorem dF_le {ok : Nat → Prop} {val : Nat → Nat} : ∀ {n f : Nat}, f < n → ok f → dF ok val n ≤ 1 + val f
  | 0, f, h, _ => by omega
  | n + 1, f, h, o => by
    by_cases e : f = n
    · subst e
      rw [dF_y o]; exact Nat.min_le_right _ _
    · have ih := dF_le (n := n) (val := val) (show f < n by omega) o
      by_cases e2 : ok n
      · rw [dF_y e2]; omega
      · rw [dF_n e2]; exact ih
theorem dF_at {ok : Nat → Prop} {val : Nat → Nat} : ∀ {n : Nat}, dF ok val n = 13 ∨ ∃ f, f < n ∧ ok f ∧ dF ok val n = 1 + val f
  | 0 => Or.inl rfl
  | n + 1 => by
    have ih := dF_at (n := n) (ok := ok) (val := val)
    by_cases e2 : ok n
    · rw [dF_y e2]
      rcases Nat.le_total (dF ok val n) (1 + val n) with x | x
      · rw [Nat.min_eq_left x]
        rcases ih with a | ⟨f, f1, f2, f3⟩
        · exact Or.inl a
        · exact Or.inr ⟨f, by omega, f2, f3⟩
      · rw [Nat.min_eq_right x]
        exact Or.inr ⟨n, by omega, e2, rfl⟩
    · rw [dF_n e2]
      rcases ih with a | ⟨f, f1, f2, f3⟩
      · exact Or.inl a
      · exact Or.inr ⟨f, by omega, f2, f3⟩
theorem dF_13 {ok : Nat → Prop} {val : Nat → Nat} : ∀ {n : Nat}, dF ok val n ≤ 13
  | 0 => Nat.le_refl _
  | n + 1 => by
    have ih := dF_13 (n := n) (ok := ok) (val := val)
    by_cases e2 : ok n
    · rw [dF_y e2]; omega
    · rw [dF_n e2]; exact ih
theorem dF_none {ok : Nat → Prop} {val : Nat → Nat} : ∀ {n : Nat}, (∀ f, f < n → ¬ ok f) → dF ok val n = 13
  | 0, _ => rfl
  | n + 1, h => by rw [dF_n (h n (by omega)), dF_none (fun f hf => h f (by omega))]
def spl (v : Nat → Nat → Nat) (fi : Nat → Nat) (C S f : Nat) : Prop := fi f = 0 ∧ (∃ a, a < C ∧ S.testBit a = true ∧ v a f = 1) ∧ ∃ c, c < C ∧ S.testBit c = true ∧ v c f = 2
noncomputable def lf (v : Nat → Nat → Nat) (C S f x : Nat) : Nat := msk (fun i => S.testBit i = true ∧ ¬ v i f = 3 - x) C
noncomputable def dp (v : Nat → Nat → Nat) (fi : Nat → Nat) (C : Nat) : Nat → Nat → Nat
  | 0, _ => 0
  | n + 1, S => if dF (spl v fi C S) (fun f => max (dp v fi C n (lf v C S f 1)) (dp v fi C n (lf v C S f 2))) 12 ≤ 12 then dF (spl v fi C S) (fun f => max (dp v fi C n (lf v C S f 1)) (dp v fi C n (lf v C S f 2))) 12 else 0
noncomputable def dD (v : Nat → Nat → Nat) (fi : Nat → Nat) (C S : Nat) : Nat := dp v fi C (S + 1) S
noncomputable def dV (v : Nat → Nat → Nat) (fi : Nat → Nat) (C S f : Nat) : Nat := max (dD v fi C (lf v C S f 1)) (dD v fi C (lf v C S f 2))
theorem lf_in {v : Nat → Nat → Nat} {C S f x i : Nat} : (lf v C S f x).testBit i = true ↔ i < C ∧ S.testBit i = true ∧ ¬ v i f = 3 - x := msk_in
theorem lf_le (v : Nat → Nat → Nat) (C S f x : Nat) : lf v C S f x ≤ S := by
  have : lf v C S f x &&& S = lf v C S f x := by
    apply Nat.eq_of_testBit_eq
    intro i
    rw [Nat.testBit_and, Bool.eq_iff_iff, Bool.and_eq_true, lf_in]
    exact ⟨fun h => h.1, fun h => ⟨h, h.2.1⟩⟩
  rw [← this]
  exact Nat.and_le_right
theorem lf_lt {v : Nat → Nat → Nat} {C S f x i : Nat} (h : S.testBit i = true) (h2 : v i f = 3 - x) : lf v C S f x < S := by
  have := lf_le v C S f x
  rcases Nat.lt_or_ge (lf v C S f x) S with a | a
  · exact a
  · have e : lf v C S f x = S := by omega
    rw [← e, lf_in] at h
    exact absurd h2 h.2.2
theorem spl_lt {v : Nat → Nat → Nat} {fi : Nat → Nat} {C S f : Nat} (h : spl v fi C S f) : lf v C S f 1 < S ∧ lf v C S f 2 < S := by
  obtain ⟨_, ⟨a, a1, a2, a3⟩, c, c1, c2, c3⟩ := h
  exact ⟨lf_lt c2 c3, lf_lt a2 a3⟩
theorem dp_irr {v : Nat → Nat → Nat} {fi : Nat → Nat} {C : Nat} : ∀ n m S, S < n → S < m → dp v fi C n S = dp v fi C m S := by
  intro n
  induction n with
  | zero => intro m S h; omega
  | succ n ih =>
    intro m S h1 h2
    obtain ⟨m, rfl⟩ : ∃ k, m = k + 1 := ⟨m - 1, by omega⟩
    rw [dp, dp]
    have : dF (spl v fi C S) (fun f => max (dp v fi C n (lf v C S f 1)) (dp v fi C n (lf v C S f 2))) 12 = dF (spl v fi C S) (fun f => max (dp v fi C m (lf v C S f 1)) (dp v fi C m (lf v C S f 2))) 12 := by
      refine dF_congr (fun f hf o => ?_)
      obtain ⟨x, y⟩ := spl_lt o
      show max _ _ = max _ _
      rw [ih m _ (by omega) (by omega), ih m (lf v C S f 2) (by omega) (by omega)]
    rw [this]
theorem dD_eq (v : Nat → Nat → Nat) (fi : Nat → Nat) (C S : Nat) : dD v fi C S = if dF (spl v fi C S) (dV v fi C S) 12 ≤ 12 then dF (spl v fi C S) (dV v fi C S) 12 else 0 := by
  have : dF (spl v fi C S) (fun f => max (dp v fi C S (lf v C S f 1)) (dp v fi C S (lf v C S f 2))) 12 = dF (spl v fi C S) (dV v fi C S) 12 := by
    refine dF_congr (fun f hf o => ?_)
    obtain ⟨x, y⟩ := spl_lt o
    show max _ _ = max _ _
    rw [dp_irr S (lf v C S f 1 + 1) _ (by omega) (by omega), dp_irr S (lf v C S f 2 + 1) _ (by omega) (by omega)]
    rfl
  rw [dD, dp, this]
theorem cnt_mono {p q : Nat → Prop} : ∀ {n : Nat}, (∀ i, i < n → p i → q i) → cnt p n ≤ cnt q n
  | 0, _ => Nat.le_refl _
  | n + 1, h => by
    have ih := cnt_mono (n := n) (fun i hi => h i (by omega))
    by_cases a : p n
    · rw [cnt_s a, cnt_s (h n (by omega) a)]; omega
    · rw [cnt_n a]
      by_cases b : q n
      · rw [cnt_s b]; omega
      · rw [cnt_n b]; exact ih
theorem cnt_lt {p q : Nat → Prop} {k : Nat} (hq : q k) (hp : ¬ p k) : ∀ {n : Nat}, k < n → (∀ i, i < n → p i → q i) → cnt p n < cnt q n
  | 0, h, _ => by omega
  | n + 1, h, m => by
    by_cases e : k = n
    · subst e
      have := cnt_mono (n := k) (fun i hi => m i (by omega))
      rw [cnt_n hp, cnt_s hq]; omega
    · have ih := cnt_lt hq hp (n := n) (by omega) (fun i hi => m i (by omega))
      by_cases a : p n
      · rw [cnt_s a, cnt_s (m n (by omega) a)]; omega
      · rw [cnt_n a]
        by_cases b : q n
        · rw [cnt_s b]; omega
        · rw [cnt_n b]; exact ih
theorem dD_le {v : Nat → Nat → Nat} {fi : Nat → Nat} {C : Nat} : ∀ n S, cnt (fun i => S.testBit i = true) C ≤ n → dD v fi C S ≤ n := by
  intro n
  induction n with
  | zero =>
    intro S h
    rw [dD_eq]
    split
    · rcases dF_at (ok := spl v fi C S) (val := dV v fi C S) (n := 12) with a | ⟨f, f1, f2, f3⟩
      · omega
      · obtain ⟨_, ⟨a, a1, a2, a3⟩, _⟩ := f2
        have := cnt_lt (p := fun _ => False) (q := fun i => S.testBit i = true) (k := a) a2 (fun x => x) a1 (fun i _ x => x.elim)
        omega
    · exact Nat.le_refl _
  | succ n ih =>
    intro S h
    rw [dD_eq]
    split
    · rcases dF_at (ok := spl v fi C S) (val := dV v fi C S) (n := 12) with a | ⟨f, f1, f2, f3⟩
      · omega
      · rw [f3]
        obtain ⟨_, ⟨a, a1, a2, a3⟩, c, c1, c2, c3⟩ := f2
        have x := ih (lf v C S f 1) (by
          have := cnt_lt (p := fun i => (lf v C S f 1).testBit i = true) (q := fun i => S.testBit i = true) (k := c) c2 (fun x => (lf_in.mp x).2.2 c3) c1 (fun i _ x => (lf_in.mp x).2.1)
          omega)
        have y := ih (lf v C S f 2) (by
          have := cnt_lt (p := fun i => (lf v C S f 2).testBit i = true) (q := fun i => S.testBit i = true) (k := a) a2 (fun x => (lf_in.mp x).2.2 a3) a1 (fun i _ x => (lf_in.mp x).2.1)
          omega)
        show 1 + max _ _ ≤ _
        omega
    · omega
theorem dD_10 {v : Nat → Nat → Nat} {fi : Nat → Nat} {C : Nat} (hC : C ≤ 10) (S : Nat) : dD v fi C S ≤ 10 := by
  have := cnt_le (fun i => S.testBit i = true) C
  exact Nat.le_trans (dD_le C S this) hC
theorem dD_0 {v : Nat → Nat → Nat} {fi : Nat → Nat} {C S : Nat} (h : ∀ f, f < 12 → ¬ spl v fi C S f) : dD v fi C S = 0 := by
  rw [dD_eq, dF_none h, if_neg (by omega)]
theorem dD_1 {v : Nat → Nat → Nat} {fi : Nat → Nat} {C S f : Nat} (hC : C ≤ 10) (hf : f < 12) (h : spl v fi C S f) : dD v fi C S ≤ 1 + dV v fi C S f ∧ ∃ g, g < 12 ∧ spl v fi C S g ∧ dD v fi C S = 1 + dV v fi C S g := by
  have l := dF_le (val := dV v fi C S) hf h
  have l2 : dV v fi C S f ≤ 10 := by
    have x := dD_10 (v := v) (fi := fi) hC (lf v C S f 1)
    have y := dD_10 (v := v) (fi := fi) hC (lf v C S f 2)
    show max _ _ ≤ _
    omega
  have e := dD_eq v fi C S
  rw [if_pos (by omega)] at e
  rw [e]
  refine ⟨l, ?_⟩
  rcases dF_at (ok := spl v fi C S) (val := dV v fi C S) (n := 12) with a | b
  · omega
  · exact b
/-- what the class reckons -/
def cY (v : Nat → Nat → Nat) (fi : Nat → Nat) (C : Nat) (I : sI) : Prop := (∀ f, f < 12 → I 241 f = nI (msk (fun c => fi f = 0 ∧ v c f = 1) C)) ∧ ∀ f, f < 12 → I 242 f = nI (msk (fun c => fi f = 0 ∧ v c f = 2) C)
theorem q_depthOf {I : sI} {J : sJ} {post : Int32 → sI → sJ → Prop} {C S : Nat} {v : Nat → Nat → Nat} {fi : Nat → Nat} (hC : C ≤ 10) (hS : S < 2 ^ C) (hy : cY v fi C I) (hd : ∀ T, T < S → (∀ i, T.testBit i = true → S.testBit i = true) → I 240 T = nI (dD v fi C T)) (h : post (nI (dD v fi C S)) I J) : w_X1_depthOf (nI S) I J post := by
  have h10 : 2 ^ C ≤ 2 ^ 10 := Nat.pow_le_pow_right (by omega) hC
  have h10 : 2 ^ C ≤ 1024 := h10
  have sC : nI S = nI (msk (fun i => S.testBit i = true) C) := by rw [msk_self hS]
  have loop : ∀ m f, f ≤ 12 → 12 - f < m → w_X1_depthOf_5_n post m (nI S) (nI (dF (spl v fi C S) (dV v fi C S) f)) (nI f) I J := by
    intro m
    induction m with
    | zero => intro i _ h; omega
    | succ m ih =>
      intro f hf hm
      have l13 := dF_13 (ok := spl v fi C S) (val := dV v fi C S) (n := f)
      show w_X1_depthOf_5_s post _ _ _ _ I J
      unfold w_X1_depthOf_5_s w_X1_depthOf_77
      rw [show (12 : Int32) = nI 12 from rfl, pf_le (by omega) (by omega), pf_le (by omega) (by omega), pf_cl (by omega), nI_1]
      refine ⟨fun e => ?_, fun e => ⟨vp_in_nI (by omega) (by omega), ?_⟩⟩
      · have e : f = 12 := by omega
        subst e
        rw [dD_eq] at h
        refine ⟨fun z => ?_, fun z => ?_⟩
        · rw [if_pos z] at h; exact h
        · rw [if_neg z] at h; exact h
      · have no : ¬ spl v fi C S f → ∀ v3 : Int32, v3 = nI (f + 1) → w_X1_depthOf_5_n post m (nI S) (nI (dF (spl v fi C S) (dV v fi C S) f)) v3 I J := by
          rintro y _ rfl
          rw [← dF_n y]
          exact ih (f + 1) (by omega) (by omega)
        have z1 : (I 241 f &&& nI S) = 0 ↔ ∀ i, i < C → ¬ ((fi f = 0 ∧ v i f = 1) ∧ S.testBit i = true) := by
          rw [hy.1 f (by omega), sC, m_and, m_eq0 (by omega)]
        have z2 : (I 242 f &&& nI S) = 0 ↔ ∀ i, i < C → ¬ ((fi f = 0 ∧ v i f = 2) ∧ S.testBit i = true) := by
          rw [hy.2 f (by omega), sC, m_and, m_eq0 (by omega)]
        rw [z1, z2]
        refine ⟨fun y => no (fun ⟨q0, ⟨a, a1, a2, a3⟩, _⟩ => y a a1 ⟨⟨q0, a3⟩, a2⟩), fun y => ⟨vp_in_nI (by omega) (by omega), fun y2 => no (fun ⟨q0, _, c, c1, c2, c3⟩ => y2 c c1 ⟨⟨q0, c3⟩, c2⟩), fun y2 => ?_⟩⟩
        obtain ⟨a, ha⟩ := Classical.not_forall.mp y
        obtain ⟨a1, ha⟩ := Classical.not_imp.mp ha
        have ha := Classical.not_not.mp ha
        obtain ⟨c, hc⟩ := Classical.not_forall.mp y2
        obtain ⟨c1, hc⟩ := Classical.not_imp.mp hc
        have hc := Classical.not_not.mp hc
        have f0 := ha.1.1
        have sp : spl v fi C S f := ⟨f0, ⟨a, a1, ha.2, ha.1.2⟩, c, c1, hc.2, hc.1.2⟩
        obtain ⟨t1, t2⟩ := spl_lt sp
        have w1 : nI S &&& (I 242 f ^^^ (-1)) = nI (lf v C S f 1) := by
          rw [hy.2 f (by omega), sC, m_andnot]
          congr 1
          exact msk_congr (fun i hi => ⟨fun q => ⟨q.1, fun r => q.2 ⟨f0, r⟩⟩, fun q => ⟨q.1, fun r => q.2 r.2⟩⟩)
        have w2 : nI S &&& (I 241 f ^^^ (-1)) = nI (lf v C S f 2) := by
          rw [hy.1 f (by omega), sC, m_andnot]
          congr 1
          exact msk_congr (fun i hi => ⟨fun q => ⟨q.1, fun r => q.2 ⟨f0, r⟩⟩, fun q => ⟨q.1, fun r => q.2 r.2⟩⟩)
        have d1 := dD_10 (v := v) (fi := fi) hC (lf v C S f 1)
        have d2 := dD_10 (v := v) (fi := fi) hC (lf v C S f 2)
        rw [w1, w2, pf_cl (by omega), pf_cl (by omega), hd _ t1 (fun i q => (lf_in.mp q).2.1), hd _ t2 (fun i q => (lf_in.mp q).2.1)]
        refine ⟨vp_in_nI (by omega) (by omega), vp_in_nI (by omega) (by omega), vp_in_nI (by omega) (by omega), vp_in_nI (by omega) (by omega), ?_⟩
        refine q_max (by omega) (by omega) ?_
        rw [show (1 : Int32) = nI 1 from rfl, nI_add]
        refine q_min (by omega) (by omega) ?_
        rintro _ rfl
        have := ih (f + 1) (by omega) (by omega)
        rw [dF_y sp] at this
        exact this
  exact ⟨13, loop 13 0 (by omega) (by omega)⟩
theorem q_depth {I : sI} {J : sJ} {post : Int32 → sI → sJ → Prop} {C : Nat} {v : Nat → Nat → Nat} {fi : Nat → Nat} {st : Nat → Prop} (hw : tWC C v) (hc : cC C v I) (h : ∀ I2 : sI, (∀ q, ¬ (q = 240 ∨ q = 241 ∨ q = 242) → I2 q = I q) → post (nI (dD v fi C (msk st C))) I2 J) : w_X1_depth (nI (msk st C)) (nI (msk (fun f => fi f = 0) 12)) I J post := by
  have hC := hw.1
  have h10 : 2 ^ C ≤ 2 ^ 10 := Nat.pow_le_pow_right (by omega) hC
  have h10 : 2 ^ C ≤ 1024 := h10
  obtain ⟨E, eE⟩ : ∃ E, E = msk st C := ⟨_, rfl⟩
  have hE : E < 2 ^ C := by rw [eE]; exact msk_lt _ _
  rw [← eE] at h ⊢
  have loop2 : ∀ m S (I1 : sI), S ≤ E + 1 → E + 1 - S < m → (∀ q, ¬ (q = 240 ∨ q = 241 ∨ q = 242) → I1 q = I q) → cY v fi C I1 → (∀ T, T < S → (∀ i, T.testBit i = true → E.testBit i = true) → I1 240 T = nI (dD v fi C T)) → w_X1_depth_73_n post m (nI E) (nI S) I1 J := by
    intro m
    induction m with
    | zero => intro i _ _ h; omega
    | succ m ih =>
      intro S I1 hS hm r1 hy hd
      show w_X1_depth_73_s post _ _ _ I1 J
      unfold w_X1_depth_73_s w_X1_depth_97
      rw [pf_lt (by omega) (by omega), pf_cl (by omega), nI_1]
      refine ⟨fun e => ⟨vp_in_nI (by omega) (by omega), ?_⟩, fun e => ?_⟩
      · rw [hd E (by omega) (fun i q => q)]
        exact h I1 r1
      · have sb : (nI S &&& (nI E ^^^ (-1))) = 0 ↔ ∀ i, i < C → ¬ (S.testBit i = true ∧ E.testBit i = false) := by
          have : nI S = nI (msk (fun i => S.testBit i = true) C) := by rw [msk_self (by omega)]
          rw [this, m_not, m_eq0 (by omega)]
        rw [sb]
        refine ⟨fun y => ?_, fun y => ?_⟩
        · rintro _ rfl
          refine ih (S + 1) I1 (by omega) (by omega) r1 hy (fun T hT hs => ?_)
          rcases Nat.lt_or_ge T S with x | x
          · exact hd T x hs
          · have x : T = S := by omega
            subst x
            refine absurd (fun i _ q => ?_) y
            rw [hs i q.1] at q
            exact absurd q.2 (by decide)
        · have sub : ∀ i, S.testBit i = true → E.testBit i = true := by
            intro i q
            rcases Nat.lt_or_ge i C with x | x
            · refine Classical.byContradiction (fun z => y i x ⟨q, ?_⟩)
              rw [Bool.not_eq_true] at z; exact z
            · have := Nat.pow_le_pow_right (show 0 < 2 by omega) x
              rw [Nat.testBit_lt_two_pow (by omega)] at q
              exact absurd q (by decide)
          refine q_depthOf hC (by omega) hy (fun T hT hs => hd T hT (fun i q => sub i (hs i q))) ⟨vp_in_nI (by omega) (by omega), ?_⟩
          rw [pf_cl (by omega)]
          rintro _ rfl _ rfl
          refine ih (S + 1) _ (by omega) (by omega) (fun q hq => by rw [sUI_ne (by omega), r1 q hq]) ⟨fun f hf => by rw [sUI_ne (by omega), hy.1 f hf], fun f hf => by rw [sUI_ne (by omega), hy.2 f hf]⟩ (fun T hT hs => ?_)
          rw [pf_uis]
          by_cases x : T = S
          · rw [if_pos x, x]
          · rw [if_neg x]; exact hd T (by omega) hs
  have loop1 : ∀ m f (I1 : sI), f ≤ 12 → 12 - f < m → (∀ q, ¬ (q = 240 ∨ q = 241 ∨ q = 242) → I1 q = I q) → (∀ g, g < f → I1 241 g = nI (msk (fun c => fi g = 0 ∧ v c g = 1) C)) → (∀ g, g < f → I1 242 g = nI (msk (fun c => fi g = 0 ∧ v c g = 2) C)) → w_X1_depth_2_n post m (nI E) (nI (msk (fun f => fi f = 0) 12)) (nI f) I1 J := by
    intro m
    induction m with
    | zero => intro i _ _ h; omega
    | succ m ih =>
      intro f I1 hf hm r1 y1 y2
      show w_X1_depth_2_s post _ _ _ _ I1 J
      unfold w_X1_depth_2_s w_X1_depth_21 w_X1_depth_43 w_X1_depth_64
      rw [show (12 : Int32) = nI 12 from rfl, pf_le (by omega) (by omega), m_has0 (by omega) (by omega)]
      refine ⟨fun e => ?_, fun e => ?_⟩
      · exact ⟨E + 2, loop2 (E + 2) 0 I1 (by omega) (by omega) r1 ⟨fun g hg => y1 g (by omega), fun g hg => y2 g (by omega)⟩ (fun T hT => by omega)⟩
      · have hc1 : cC C v I1 := ⟨by rw [r1 227 (by omega), hc.1], fun c f x y => by rw [r1 _ (by omega), hc.2 c f x y]⟩
        have st : ∀ x y : Int32, x = nI (msk (fun c => fi f = 0 ∧ v c f = 1) C) → y = nI (msk (fun c => fi f = 0 ∧ v c f = 2) C) → ∀ v3 : Int32, v3 = nI f + 1 → w_X1_depth_2_n post m (nI E) (nI (msk (fun f => fi f = 0) 12)) v3 (sUI (sUI I1 241 f x) 242 f y) J := by
          rintro x y ex ey _ rfl
          rw [nI_1]
          refine ih (f + 1) _ (by omega) (by omega) (fun q hq => by rw [sUI_ne (by omega), sUI_ne (by omega), r1 q hq]) (fun g hg => ?_) (fun g hg => ?_)
          · rw [sUI_ne (by omega), pf_uis]
            by_cases z : g = f
            · rw [if_pos z, z, ex]
            · rw [if_neg z, y1 g (by omega)]
          · rw [pf_uis]
            by_cases z : g = f
            · rw [if_pos z, z, ey]
            · rw [if_neg z, sUI_ne (by omega), y2 g (by omega)]
        refine ⟨fun z => b1 rfl ⟨vp_in_nI (by omega) (by omega), ?_⟩, fun z => b2 (by decide) ?_⟩
        · have z : ¬ fi f = 0 := fun q => z ⟨by omega, q⟩
          have e0 : ∀ x, (0 : Int32) = nI (msk (fun c => fi f = 0 ∧ v c f = x) C) := by
            intro x
            rw [show msk (fun c => fi f = 0 ∧ v c f = x) C = 0 from msk_zero.mpr (fun i _ q => z q.1)]
            rfl
          rw [pf_cl (by omega)]
          rintro _ rfl
          refine b1 rfl ⟨vp_in_nI (by omega) (by omega), ?_⟩
          rintro _ rfl
          exact st 0 0 (e0 1) (e0 2)
        · have z : fi f = 0 := (Classical.not_not.mp z).2
          have e0 : ∀ x, nI (msk (fun c => v c f = x) C) = nI (msk (fun c => fi f = 0 ∧ v c f = x) C) := by
            intro x
            congr 1
            exact msk_congr (fun i _ => ⟨fun q => ⟨z, q⟩, fun q => q.2⟩)
          refine q_saying (x := 1) hw hc1 (by omega) (by omega) ⟨vp_in_nI (by omega) (by omega), ?_⟩
          rw [pf_cl (by omega)]
          rintro _ rfl
          refine b2 (by decide) (q_saying (x := 2) hw ?_ (by omega) (by omega) ⟨vp_in_nI (by omega) (by omega), ?_⟩)
          · exact ⟨by rw [sUI_ne (by omega), hc1.1], fun c f x y => by rw [sUI_ne (by omega), hc1.2 c f x y]⟩
          · rintro _ rfl
            exact st _ _ (e0 1) (e0 2)
  exact ⟨13, loop1 13 0 I (by omega) (by omega) (fun _ _ => rfl) (fun g hg => by omega) (fun g hg => by omega)⟩
def spk (v : Nat → Nat → Nat) (fi : Nat → Nat) (C f : Nat) : Prop := fi f = 0 ∧ ∃ c, c < C ∧ stP v fi c ∧ (v c f = 1 ∨ v c f = 2)
theorem q_planC {I : sI} {J : sJ} {post : Int32 → sI → sJ → Prop} {C : Nat} {v : Nat → Nat → Nat} {fi : Nat → Nat} (hw : tWC C v) (hc : cC C v I) (hfi : ∀ f, f < 12 → fi f ≤ 2 ∧ I 11 f = nI (fi f)) (h0 : ¬ cnt (spk v fi C) 12 ≤ 8 → post (-3) I J) (h : cnt (spk v fi C) 12 ≤ 8 → ∀ I2 : sI, (∀ q, ¬ (q = 240 ∨ q = 241 ∨ q = 242) → I2 q = I q) → post (nI (dD v fi C (msk (stP v fi) C))) I2 J) : w_X11_plan I J post := by
  have hC := hw.1
  unfold w_X11_plan
  refine q_standingC hw hc hfi (q_unkC hfi ?_)
  have loop : ∀ m f, f ≤ 12 → 12 - f < m → w_X11_plan_25_n post m (nI (msk (stP v fi) C)) (nI (msk (fun f => fi f = 0) 12)) (nI (cnt (spk v fi C) f)) (nI f) I J := by
    intro m
    induction m with
    | zero => intro i _ h; omega
    | succ m ih =>
      intro f hf hm
      have l := cnt_le (spk v fi C) f
      show w_X11_plan_25_s post _ _ _ _ _ I J
      unfold w_X11_plan_25_s w_X11_plan_76 w_X11_plan_77
      rw [show (12 : Int32) = nI 12 from rfl, pf_le (by omega) (by omega), show (8 : Int32) = nI 8 from rfl, pf_le (by omega) (by omega), m_has0 (by omega) (by omega), nI_1]
      refine ⟨fun e => ?_, fun e => ?_⟩
      · have e : f = 12 := by omega
        subst e
        exact ⟨fun y => q_depth hw hc (fun I2 r1 => h y I2 r1), fun y => h0 y⟩
      · refine q_saying (x := 1) hw hc (by omega) (by omega) (q_saying (x := 2) hw hc (by omega) (by omega) ?_)
        rw [m_ors]
        rintro _ rfl
        rw [m_and, m_eq0 (by omega)]
        have no : ¬ spk v fi C f → ∀ v3 : Int32, v3 = nI (cnt (spk v fi C) f) + 0 → ∀ v4 : Int32, v4 = nI (f + 1) → w_X11_plan_25_n post m (nI (msk (stP v fi) C)) (nI (msk (fun f => fi f = 0) 12)) v3 v4 I J := by
          rintro y _ rfl _ rfl
          rw [Int32.add_zero, c_n y]
          exact ih (f + 1) (by omega) (by omega)
        refine ⟨fun y => no (fun q => y ⟨by omega, q.1⟩), fun y => ⟨fun y2 => no (fun ⟨_, c, c1, c2, c3⟩ => y2 c c1 ⟨c3, c2⟩), fun y2 => ?_⟩⟩
        have y : fi f = 0 := (Classical.not_not.mp y).2
        obtain ⟨c, hc⟩ := Classical.not_forall.mp y2
        obtain ⟨c1, hc⟩ := Classical.not_imp.mp hc
        have hc := Classical.not_not.mp hc
        rintro _ rfl _ rfl
        rw [c_s (show spk v fi C f from ⟨y, c, c1, hc.2, hc.1⟩)]
        exact ih (f + 1) (by omega) (by omega)
  exact ⟨13, loop 13 0 (by omega) (by omega)⟩
