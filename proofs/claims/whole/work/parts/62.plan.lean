/-- what is known of the finds asked: digits of base 3 -/
def kd (K k : Nat) : Nat := K / 3 ^ k % 3
theorem kd_lt (K k : Nat) : kd K k < 3 := Nat.mod_lt _ (by omega)
theorem p3_pos (k : Nat) : 0 < 3 ^ k := Nat.pow_pos (by omega)
theorem kd_same {K k x : Nat} (h : kd K k = 0) (hx : x ≤ 2) : kd (K + x * 3 ^ k) k = x := by
  unfold kd at *
  rw [Nat.add_mul_div_right _ _ (p3_pos k)]
  omega
theorem kd_hi {K k x : Nat} (h : kd K k = 0) (hx : x ≤ 2) {j : Nat} (hj : k < j) : (K + x * 3 ^ k) / 3 ^ j = K / 3 ^ j := by
  obtain ⟨d, rfl⟩ : ∃ d, j = k + 1 + d := ⟨j - (k + 1), by omega⟩
  unfold kd at h
  rw [Nat.pow_add, ← Nat.div_div_eq_div_mul, ← Nat.div_div_eq_div_mul, Nat.pow_succ, ← Nat.div_div_eq_div_mul, ← Nat.div_div_eq_div_mul, Nat.add_mul_div_right _ _ (p3_pos k)]
  congr 1
  omega
theorem kd_lo {K k x j : Nat} (hj : j < k) : kd (K + x * 3 ^ k) j = kd K j := by
  obtain ⟨d, rfl⟩ : ∃ d, k = j + 1 + d := ⟨k - (j + 1), by omega⟩
  unfold kd
  rw [show x * 3 ^ (j + 1 + d) = (x * 3 ^ d * 3) * 3 ^ j by rw [Nat.pow_add, Nat.pow_succ]; simp [Nat.mul_comm, Nat.mul_left_comm, Nat.mul_assoc], Nat.add_mul_div_right _ _ (p3_pos j)]
  omega
theorem kd_ne {K k x j : Nat} (h : kd K k = 0) (hx : x ≤ 2) (hj : j ≠ k) : kd (K + x * 3 ^ k) j = kd K j := by
  rcases Nat.lt_or_ge j k with a | a
  · exact kd_lo a
  · unfold kd
    rw [kd_hi h hx (by omega)]
theorem kd_bd {K k x A : Nat} (h : kd K k = 0) (hx : x ≤ 2) (hk : k < A) (hK : K < 3 ^ A) : K + x * 3 ^ k < 3 ^ A := by
  have := kd_hi h hx hk
  rw [Nat.div_eq_of_lt hK] at this
  exact (Nat.div_eq_zero_iff_lt (p3_pos A)).mp this
def kP (v : Nat → Nat → Nat) (fi af : Nat → Nat) (K n c : Nat) : Prop := stP v fi c ∧ ∀ k, k < n → kd K k = 0 ∨ v c (af k) = 0 ∨ v c (af k) = kd K k
noncomputable def kS (v : Nat → Nat → Nat) (fi af : Nat → Nat) (C A K : Nat) : Nat := msk (kP v fi af K A) C
def kM (af : Nat → Nat) (K n f : Nat) : Prop := ∃ j, j < n ∧ kd K j = 0 ∧ af j = f
theorem kS_in {v : Nat → Nat → Nat} {fi af : Nat → Nat} {C A K c : Nat} : (kS v fi af C A K).testBit c = true ↔ c < C ∧ kP v fi af K A c := msk_in
theorem kS_step {v : Nat → Nat → Nat} {fi af : Nat → Nat} {C A K k x : Nat} (hw : tWC C v) (haf : ∀ k, k < A → af k < 12) (hk : k < A) (h : kd K k = 0) (hx : 1 ≤ x ∧ x ≤ 2) : kS v fi af C A (K + x * 3 ^ k) = lf v C (kS v fi af C A K) (af k) x := by
  refine msk_congr (fun c hc => ?_)
  have h10 := hw.1
  have vv := hw.2.1 c (af k) (by omega) (haf k hk)
  rw [kS_in]
  unfold kP
  constructor
  · rintro ⟨a, b⟩
    have b1 := b k hk
    rw [kd_same h hx.2] at b1
    refine ⟨⟨hc, a, fun j hj => ?_⟩, by omega⟩
    by_cases e : j = k
    · rw [e]; exact Or.inl h
    · have := b j hj
      rw [kd_ne h hx.2 e] at this
      exact this
  · rintro ⟨⟨_, a, b⟩, e⟩
    refine ⟨a, fun j hj => ?_⟩
    by_cases e2 : j = k
    · subst e2
      rw [kd_same h hx.2]
      omega
    · rw [kd_ne h hx.2 e2]
      exact b j hj
/-- the list of finds asked -/
def askL (v : Nat → Nat → Nat) (fi af : Nat → Nat) (C A n : Nat) : Prop := (∀ k, k < A → af k < n ∧ spk v fi C (af k)) ∧ (∀ g, g < n → spk v fi C g → ∃ k, k < A ∧ af k = g) ∧ ∀ j k, j < A → k < A → af j = af k → j = k
noncomputable def dGm (ok : Nat → Prop) (val : Nat → Nat) : Nat → Nat
  | 0 => 12
  | k + 1 => if bp (ok k) = true then min (dGm ok val k) (1 + val k) else dGm ok val k
theorem dGm_y {ok : Nat → Prop} {val : Nat → Nat} {f : Nat} (h : ok f) : dGm ok val (f + 1) = min (dGm ok val f) (1 + val f) := by rw [dGm, if_pos (bp_t.mpr h)]
theorem dGm_n {ok : Nat → Prop} {val : Nat → Nat} {f : Nat} (h : ¬ ok f) : dGm ok val (f + 1) = dGm ok val f := by rw [dGm, if_neg (fun z => h (bp_t.mp z))]
theorem dGm_ge {ok : Nat → Prop} {val : Nat → Nat} {d : Nat} (hd : d ≤ 12) : ∀ {n : Nat}, (∀ k, k < n → ok k → d ≤ 1 + val k) → d ≤ dGm ok val n
  | 0, _ => hd
  | n + 1, h => by
    have ih := dGm_ge hd (n := n) (fun k hk => h k (by omega))
    by_cases e : ok n
    · have := h n (by omega) e
      rw [dGm_y e]; omega
    · rw [dGm_n e]; exact ih
theorem dGm_le {ok : Nat → Prop} {val : Nat → Nat} : ∀ {n f : Nat}, f < n → ok f → dGm ok val n ≤ 1 + val f
  | 0, f, h, _ => by omega
  | n + 1, f, h, o => by
    by_cases e : f = n
    · subst e
      rw [dGm_y o]; exact Nat.min_le_right _ _
    · have ih := dGm_le (n := n) (val := val) (show f < n by omega) o
      by_cases e2 : ok n
      · rw [dGm_y e2]; omega
      · rw [dGm_n e2]; exact ih
theorem dGm_12 {ok : Nat → Prop} {val : Nat → Nat} : ∀ {n : Nat}, dGm ok val n ≤ 12
  | 0 => Nat.le_refl _
  | n + 1 => by
    have ih := dGm_12 (n := n) (ok := ok) (val := val)
    by_cases e2 : ok n
    · rw [dGm_y e2]; omega
    · rw [dGm_n e2]; exact ih
theorem spl_may {v : Nat → Nat → Nat} {fi af : Nat → Nat} {C A K f : Nat} (hw : tWC C v) (hL : askL v fi af C A 12) (hf : f < 12) (h : spl v fi C (kS v fi af C A K) f) : ∃ k, k < A ∧ kd K k = 0 ∧ af k = f := by
  obtain ⟨f0, ⟨a, a1, a2, a3⟩, c, c1, c2, c3⟩ := h
  have ha := (kS_in.mp a2).2
  have hc := (kS_in.mp c2).2
  obtain ⟨k, k1, k2⟩ := hL.2.1 f hf ⟨f0, a, a1, ha.1, Or.inl a3⟩
  refine ⟨k, k1, ?_, k2⟩
  have x := ha.2 k k1
  have y := hc.2 k k1
  rw [k2] at x y
  omega
theorem prE_spl {v : Nat → Nat → Nat} {fi af : Nat → Nat} {C A K : Nat} (hw : tWC C v) (hL : askL v fi af C A 12) : prE v C (kP v fi af K A) (kM af K A) ↔ ∃ f, f < 12 ∧ spl v fi C (kS v fi af C A K) f := by
  have h10 := hw.1
  constructor
  · rintro ⟨a, c, x1, x2, x3, x4, f, f1, ⟨k, k1, k2, k3⟩, f3⟩
    have va := hw.2.1 a f (by omega) f1
    have vc := hw.2.1 c f (by omega) f1
    have f0 : fi f = 0 := by rw [← k3]; exact (hL.1 k k1).2.1
    rcases (show (v a f = 1 ∧ v c f = 2) ∨ (v a f = 2 ∧ v c f = 1) by omega) with ⟨r1, r2⟩ | ⟨r1, r2⟩
    · exact ⟨f, f1, f0, ⟨a, by omega, kS_in.mpr ⟨by omega, x3⟩, r1⟩, c, x2, kS_in.mpr ⟨x2, x4⟩, r2⟩
    · exact ⟨f, f1, f0, ⟨c, x2, kS_in.mpr ⟨x2, x4⟩, r2⟩, a, by omega, kS_in.mpr ⟨by omega, x3⟩, r1⟩
  · rintro ⟨f, f1, sp⟩
    have sp2 := sp
    obtain ⟨k, k1, k2, k3⟩ := spl_may hw hL f1 sp
    obtain ⟨f0, ⟨a, a1, a2, a3⟩, c, c1, c2, c3⟩ := sp2
    have ha := (kS_in.mp a2).2
    have hc := (kS_in.mp c2).2
    rcases Nat.lt_or_ge a c with x | x
    · exact ⟨a, c, x, c1, ha, hc, f, f1, ⟨k, k1, k2, k3⟩, by omega⟩
    · rcases Nat.lt_or_ge c a with y | y
      · exact ⟨c, a, y, a1, hc, ha, f, f1, ⟨k, k1, k2, k3⟩, by omega⟩
      · rw [show a = c by omega] at a3; omega
theorem lf_full {v : Nat → Nat → Nat} {C S f x : Nat} (hS : S < 2 ^ C) (h : ∀ i, i < C → S.testBit i = true → ¬ v i f = 3 - x) : lf v C S f x = S := by
  rw [lf, msk_congr (q := fun i => S.testBit i = true) (fun i hi => ⟨fun q => q.1, fun q => ⟨q, h i hi q⟩⟩), msk_self hS]
theorem dGm_eq {v : Nat → Nat → Nat} {fi af : Nat → Nat} {C A K : Nat} (hw : tWC C v) (hL : askL v fi af C A 12) (h : prE v C (kP v fi af K A) (kM af K A)) : dGm (fun k => kd K k = 0) (fun k => dV v fi C (kS v fi af C A K) (af k)) A = dD v fi C (kS v fi af C A K) := by
  have hC := hw.1
  obtain ⟨f, f1, sp⟩ := (prE_spl hw hL).mp h
  obtain ⟨e1, g, g1, g2, g3⟩ := dD_1 hC f1 sp
  have d10 := dD_10 (v := v) (fi := fi) hC (kS v fi af C A K)
  apply Nat.le_antisymm
  · obtain ⟨k, k1, k2, k3⟩ := spl_may hw hL g1 g2
    have := dGm_le (ok := fun k => kd K k = 0) (val := fun k => dV v fi C (kS v fi af C A K) (af k)) k1 k2
    rw [g3, ← k3]
    exact this
  · refine dGm_ge (by omega) (fun k hk h0 => ?_)
    obtain ⟨a1, a2⟩ := hL.1 k hk
    by_cases s2 : spl v fi C (kS v fi af C A K) (af k)
    · exact (dD_1 hC a1 s2).1
    · have hS : kS v fi af C A K < 2 ^ C := msk_lt _ _
      have : (∀ i, i < C → (kS v fi af C A K).testBit i = true → ¬ v i (af k) = 1) ∨ (∀ i, i < C → (kS v fi af C A K).testBit i = true → ¬ v i (af k) = 2) := by
        refine Classical.byContradiction (fun z => s2 ?_)
        rw [not_or] at z
        obtain ⟨z1, z2⟩ := z
        refine ⟨a2.1, ?_, ?_⟩
        · refine Classical.byContradiction (fun w => z1 (fun i hi b c => w ⟨i, hi, b, c⟩))
        · refine Classical.byContradiction (fun w => z2 (fun i hi b c => w ⟨i, hi, b, c⟩))
      show _ ≤ 1 + max _ _
      rcases this with x | x
      · rw [lf_full (x := 2) hS x]; omega
      · rw [lf_full (x := 1) hS x]; omega
theorem m_one {f n : Nat} (hf : f < n) : 2 ^ f = msk (fun i => i = f) n := by
  apply Nat.eq_of_testBit_eq
  intro i
  rw [Bool.eq_iff_iff, msk_in, Nat.testBit_two_pow, decide_eq_true_iff]
  omega
/-- what the model reckons -/
def nOK (v : Nat → Nat → Nat) (fi af : Nat → Nat) (C A : Nat) (I : sI) : Prop := ∀ K, K < 3 ^ A → I 278 K = -1 ∨ I 278 K = nI (dD v fi C (kS v fi af C A K))
theorem q_plans {I : sI} {J : sJ} {C A : Nat} {v : Nat → Nat → Nat} {fi af : Nat → Nat} (hw : tWC C v) (hm : mC C v I) (hA : A ≤ 8) (hL : askL v fi af C A 12) (e49 : I 248 49 = nI A) (e52 : I 248 52 = nI (msk (stP v fi) C)) (e277 : ∀ k, k < A → I 277 k = nI (af k)) : ∀ n K (I1 : sI) (post : Int32 → sI → sJ → Prop), K < 3 ^ A → cnt (fun k => kd K k = 0) A < n → (∀ q, ¬ q = 278 → I1 q = I q) → nOK v fi af C A I1 → (∀ I2 : sI, (∀ q, ¬ q = 278 → I2 q = I q) → nOK v fi af C A I2 → post (nI (dD v fi C (kS v fi af C A K))) I2 J) → w_X12_plans_d n (nI K) I1 J post := by
  have hC := hw.1
  have p8 : 3 ^ A ≤ 3 ^ 8 := Nat.pow_le_pow_right (by omega) hA
  have p8 : 3 ^ A ≤ 6561 := p8
  intro n
  induction n with
  | zero => intro K I1 post _ h; omega
  | succ n ihn =>
    intro K I1 post hK hz r1 hn hpost
    show w_X12_plans_b (w_X12_plans_d n) (nI K) I1 J post
    unfold w_X12_plans_b
    have hm1 : mC C v I1 := ⟨by rw [r1 248 (by omega)]; exact hm.1, fun c f x y => by rw [r1 275 (by omega)]; exact hm.2 c f x y⟩
    have d10 := dD_10 (v := v) (fi := fi) hC (kS v fi af C A K)
    rw [pf_cl (by omega)]
    refine ⟨vp_in_nI (by omega) (by omega), ?_⟩
    refine ⟨fun neg => ?_, fun pos => ⟨vp_in_nI (by omega) (by omega), ?_⟩⟩
    · -- the end: put it into the row
      have fin : ∀ (I2 : sI), (∀ q, ¬ q = 278 → I2 q = I q) → nOK v fi af C A I2 → w_X12_plans_189 (w_X12_plans_d n) post (nI K) (nI (dD v fi C (kS v fi af C A K))) I2 J := by
        intro I2 r2 n2
        unfold w_X12_plans_189
        refine ⟨vp_in_nI (by omega) (by omega), ?_⟩
        rw [pf_cl (by omega)]
        rintro _ rfl
        refine hpost _ (fun q hq => by rw [sUI_ne hq, r2 q hq]) (fun L hL2 => ?_)
        rw [pf_uis]
        by_cases e : L = K
        · rw [if_pos e, e]; exact Or.inr rfl
        · rw [if_neg e]; exact n2 L hL2
      have loopB : prE v C (kP v fi af K A) (kM af K A) → ∀ m k (I2 : sI), k ≤ A → A - k < m → (∀ q, ¬ q = 278 → I2 q = I q) → nOK v fi af C A I2 → w_X12_plans_124_n (w_X12_plans_d n) post m (nI K) (nI (msk (kM af K A) 12)) (nI (dGm (fun k => kd K k = 0) (fun k => dV v fi C (kS v fi af C A K) (af k)) k)) (nI (3 ^ k)) (nI k) I2 J := by
        intro hE m
        induction m with
        | zero => intro k I2 _ h; omega
        | succ m ih =>
          intro k I2 hk hm2 r2 n2
          have l12 := dGm_12 (ok := fun k => kd K k = 0) (val := fun k => dV v fi C (kS v fi af C A K) (af k)) (n := k)
          show w_X12_plans_124_s (w_X12_plans_d n) post _ _ _ _ _ _ I2 J
          unfold w_X12_plans_124_s w_X12_plans_177
          rw [r2 248 (by omega), e49, pf_le (by omega) (by omega), pf_cl (by omega), r2 277 (by omega), nI_1, show (3 : Int32) = nI 3 from rfl, pk_mul, show 3 ^ k * 3 = 3 ^ (k + 1) from rfl]
          refine ⟨fun e => ?_, fun e => ⟨vp_in_nI (by omega) (by omega), ?_⟩⟩
          · rw [show k = A by omega, dGm_eq hw hL hE]
            exact fin I2 r2 n2
          · obtain ⟨a1, a2⟩ := hL.1 k (by omega)
            rw [e277 k (by omega)]
            have skip : ¬ kd K k = 0 → ∀ v6 : Int32, v6 = nI (3 ^ (k + 1)) → ∀ v7 : Int32, v7 = nI (k + 1) → w_X12_plans_124_n (w_X12_plans_d n) post m (nI K) (nI (msk (kM af K A) 12)) (nI (dGm (fun k => kd K k = 0) (fun k => dV v fi C (kS v fi af C A K) (af k)) k)) v6 v7 I2 J := by
              rintro y _ rfl _ rfl
              have := ih (k + 1) I2 (by omega) (by omega) r2 n2
              rw [dGm_n (ok := fun k => kd K k = 0) y] at this
              exact this
            by_cases y : kd K k = 0
            · refine q_X12_has (by omega) (by omega) (fun _ => b2 (by decide) ?_) (fun q => absurd ⟨by omega, ⟨k, by omega, y, rfl⟩⟩ q)
              have zs : ∀ x, 1 ≤ x ∧ x ≤ 2 → cnt (fun j => kd (K + x * 3 ^ k) j = 0) A < n := by
                intro x hx
                have := cnt_one (p := fun j => kd K j = 0) (q := fun j => kd (K + x * 3 ^ k) j = 0) (n := k) y (by show ¬ kd _ _ = 0; rw [kd_same y hx.2]; omega) (fun i hi => by rw [kd_ne y hx.2 hi]) (N := A) (by omega)
                omega
              rw [nI_add, show (2 : Int32) = nI 2 from rfl, pk_mul, nI_add]
              have e1 : K + 3 ^ k = K + 1 * 3 ^ k := by omega
              rw [e1]
              refine ihn (K + 1 * 3 ^ k) I2 _ (kd_bd y (by omega) (by omega) hK) (zs 1 (by omega)) r2 n2 (fun I3 r3 n3 => ?_)
              refine ihn (K + 2 * 3 ^ k) I3 _ (kd_bd y (by omega) (by omega) hK) (zs 2 (by omega)) r3 n3 (fun I4 r4 n4 => ?_)
              rw [kS_step hw (fun k hk => (hL.1 k hk).1) (by omega) y (by omega), kS_step hw (fun k hk => (hL.1 k hk).1) (by omega) y (by omega)]
              have d1 := dD_10 (v := v) (fi := fi) hC (lf v C (kS v fi af C A K) (af k) 1)
              have d2 := dD_10 (v := v) (fi := fi) hC (lf v C (kS v fi af C A K) (af k) 2)
              refine q_max (by omega) (by omega) ?_
              rw [show (1 : Int32) = nI 1 from rfl, nI_add]
              refine q_min (by omega) (by omega) ?_
              rintro _ rfl _ rfl
              have := ih (k + 1) I4 (by omega) (by omega) r4 n4
              rw [dGm_y (ok := fun k => kd K k = 0) y] at this
              exact this
            · refine q_X12_has (by omega) (by omega) (fun q => ?_) (fun q => b1 rfl (skip y))
              obtain ⟨j, j1, j2, j3⟩ := q.2
              rw [hL.2.2 j k j1 (by omega) j3] at j2
              exact absurd j2 y
      have loopA : ∀ m k, k ≤ A → A - k < m → w_X12_plans_29_n (w_X12_plans_d n) post m (nI K) (nI (msk (kM af K k) 12)) (nI (msk (kP v fi af K k) C)) (nI (K / 3 ^ k)) (nI k) I1 J := by
        intro m
        induction m with
        | zero => intro k _ h; omega
        | succ m ih =>
          intro k hk hm2
          have kk := kd_lt K k
          have kb : K / 3 ^ k ≤ K := Nat.div_le_self _ _
          show w_X12_plans_29_s (w_X12_plans_d n) post _ _ _ _ _ _ I1 J
          unfold w_X12_plans_29_s w_X12_plans_59 w_X12_plans_88
          rw [r1 248 (by omega), e49, pf_le (by omega) (by omega), pf_cl (by omega), r1 277 (by omega), nI_1, show (3 : Int32) = nI 3 from rfl, pk_rem (by omega) (by omega) (by omega), pk_div (by omega) (by omega) (by omega), Nat.div_div_eq_div_mul, show 3 ^ k * 3 = 3 ^ (k + 1) from rfl, show K / 3 ^ k % 3 = kd K k from rfl, pf_eq0 (by omega)]
          refine ⟨fun e => ?_, fun e => ?_⟩
          · rw [show k = A by omega]
            refine q_partsPairs hw hm1 (Or.inl rfl) (fun q => absurd q (by decide)) (fun _ => ⟨fun hE => b2 (by decide) ?_, fun hE => b1 rfl ?_⟩)
            · exact ⟨A + 1, loopB hE (A + 1) 0 I1 (by omega) (by omega) r1 hn⟩
            · have := fin I1 r1 hn
              rw [dD_0 (fun f hf sp => hE ((prE_spl hw hL).mpr ⟨f, hf, sp⟩))] at this
              exact this
          · obtain ⟨a1, a2⟩ := hL.1 k (by omega)
            rw [e277 k (by omega), sh1 (af k) (by omega)]
            have go : ∀ x y : Int32, x = nI (msk (kM af K (k + 1)) 12) → y = nI (msk (kP v fi af K (k + 1)) C) → ∀ v4 : Int32, v4 = nI (K / 3 ^ (k + 1)) → ∀ v5 : Int32, v5 = nI (k + 1) → w_X12_plans_29_n (w_X12_plans_d n) post m (nI K) x y v4 v5 I1 J := by
              rintro _ _ rfl rfl _ rfl _ rfl
              exact ih (k + 1) (by omega) (by omega)
            refine ⟨fun y => ?_, fun y => ⟨vp_in_nI (by omega) (by omega), ?_⟩⟩
            · rintro _ rfl
              refine b3 y ⟨vp_in_nI (by omega) (by omega), ?_⟩
              refine q_leftOf hw hm1 a1 (by omega) ?_
              refine go _ _ ?_ ?_
              · rw [Int32.or_zero]
                congr 1
                refine msk_congr (fun f _ => ⟨fun ⟨j, j1, j2, j3⟩ => ⟨j, by omega, j2, j3⟩, fun ⟨j, j1, j2, j3⟩ => ⟨j, ?_, j2, j3⟩⟩)
                rcases Nat.lt_or_ge j k with z | z
                · exact z
                · rw [show j = k by omega] at j2; exact absurd j2 y
              · congr 1
                refine msk_congr (fun c hc => ?_)
                have vv := hw.2.1 c (af k) (by omega) a1
                unfold kP
                constructor
                · rintro ⟨⟨q1, q2⟩, q3⟩
                  refine ⟨q1, fun j hj => ?_⟩
                  rcases Nat.lt_or_ge j k with z | z
                  · exact q2 j z
                  · rw [show j = k by omega]; omega
                · rintro ⟨q1, q2⟩
                  have := q2 k (by omega)
                  exact ⟨⟨q1, fun j hj => q2 j (by omega)⟩, by omega⟩
            · rintro _ rfl
              refine b4 y ?_
              refine go _ _ ?_ ?_
              · rw [m_one a1, m_ors]
                congr 1
                refine msk_congr (fun f _ => ⟨fun q => ?_, fun ⟨j, j1, j2, j3⟩ => ?_⟩)
                · rcases q with ⟨j, j1, j2, j3⟩ | q
                  · exact ⟨j, by omega, j2, j3⟩
                  · exact ⟨k, by omega, y, q.symm⟩
                · rcases Nat.lt_or_ge j k with z | z
                  · exact Or.inl ⟨j, z, j2, j3⟩
                  · rw [show j = k by omega] at j3; exact Or.inr j3.symm
              · congr 1
                refine msk_congr (fun c hc => ?_)
                unfold kP
                constructor
                · rintro ⟨q1, q2⟩
                  refine ⟨q1, fun j hj => ?_⟩
                  rcases Nat.lt_or_ge j k with z | z
                  · exact q2 j z
                  · rw [show j = k by omega]; exact Or.inl y
                · rintro ⟨q1, q2⟩
                  exact ⟨q1, fun j hj => q2 j (by omega)⟩
      have := loopA (A + 1) 0 (by omega) (by omega)
      rw [show msk (kM af K 0) 12 = 0 from msk_zero.mpr (fun i _ ⟨j, j1, _⟩ => by omega), msk_congr (p := kP v fi af K 0) (q := stP v fi) (fun c _ => ⟨fun q => q.1, fun q => ⟨q, fun k hk => by omega⟩⟩), Nat.pow_zero, Nat.div_one] at this
      rw [r1 248 (by omega), e52]
      rintro _ rfl
      exact ⟨A + 1, this⟩
    · rcases hn K hK with x | x
      · rw [x] at pos; exact absurd (by decide) pos
      · rw [x]; exact hpost I1 r1 hn
theorem q_planM {I : sI} {J : sJ} {post : Int32 → sI → sJ → Prop} {C : Nat} {v : Nat → Nat → Nat} {fi : Nat → Nat} (hw : tWC C v) (hm : mC C v I) (hfi : ∀ f, f < 12 → fi f ≤ 2 ∧ I 276 f = nI (fi f)) (h : ∀ I2 : sI, (∀ q, ¬ (q = 248 ∨ q = 277 ∨ q = 278) → I2 q = I q) → (∀ k, ¬ (k = 0 ∨ k = 49 ∨ k = 52) → I2 248 k = I 248 k) → (¬ cnt (spk v fi C) 12 ≤ 8 → post (-3) I2 J) ∧ (cnt (spk v fi C) 12 ≤ 8 → post (nI (dD v fi C (msk (stP v fi) C))) I2 J)) : w_X12_plan I J post := by
  have hC := hw.1
  unfold w_X12_plan
  rintro _ rfl
  refine q_standingM (I := sUI I 248 0 0) hw hm hfi ?_
  rintro _ rfl _ rfl
  -- fill the row of what is needed
  have fill : ∀ A (af : Nat → Nat) (I1 : sI), A = cnt (spk v fi C) 12 → A ≤ 8 → askL v fi af C A 12 → (∀ q, ¬ (q = 248 ∨ q = 277 ∨ q = 278) → I1 q = I q) → (∀ k, ¬ (k = 0 ∨ k = 49 ∨ k = 52) → I1 248 k = I 248 k) → I1 248 49 = nI A → I1 248 52 = nI (msk (stP v fi) C) → (∀ k, k < A → I1 277 k = nI (af k)) → ∀ m i, i ≤ 6561 → 6561 - i < m → (∀ K, K < i → I1 278 K = -1) → w_X12_plan_136_n post m (nI i) I1 J := by
    intro A af I1 eA hA hL r1 s1 e49 e52 e277 m
    induction m generalizing I1 with
    | zero => intro k _ h; omega
    | succ m ih =>
      intro i hi hm2 hN
      show w_X12_plan_136_s post _ _ I1 J
      unfold w_X12_plan_136_s
      rw [show (6561 : Int32) = nI 6561 from rfl, pf_le (by omega) (by omega), pf_cl (by omega), nI_1]
      refine ⟨fun e => ?_, fun e => ⟨vp_in_nI (by omega) (by omega), ?_⟩⟩
      · have p8 : 3 ^ A ≤ 3 ^ 8 := Nat.pow_le_pow_right (by omega) hA
        have p8 : 3 ^ A ≤ 6561 := p8
        unfold w_X12_plans
        refine q_plans (I := I1) (A := A) (af := af) hw ⟨by rw [s1 46 (by omega)]; exact hm.1, fun c f x y => by rw [r1 275 (by omega)]; exact hm.2 c f x y⟩ hA hL e49 e52 e277 10 0 I1 _ (p3_pos A) ?_ (fun _ _ => rfl) (fun K hK => Or.inl (hN K (by omega))) (fun I2 r2 n2 => ?_)
        · have := cnt_le (fun k => kd 0 k = 0) A
          omega
        · have e0 : kS v fi af C A 0 = msk (stP v fi) C := msk_congr (fun c _ => ⟨fun q => q.1, fun q => ⟨q, fun k hk => Or.inl (by unfold kd; rw [Nat.zero_div])⟩⟩)
          rw [e0]
          exact (h I2 (fun q hq => by rw [r2 q (by omega), r1 q hq]) (fun k hk => by rw [r2 248 (by omega), s1 k hk])).2 (by omega)
      · rintro _ rfl _ rfl
        refine ih _ (fun q hq => by rw [sUI_ne (by omega), r1 q hq]) (fun k hk => by rw [sUI_ne (by omega), s1 k hk]) (by rw [sUI_ne (by omega), e49]) (by rw [sUI_ne (by omega), e52]) (fun k hk => by rw [sUI_ne (by omega), e277 k hk]) (i + 1) (by omega) (by omega) (fun K hK => ?_)
        rw [pf_uis]
        by_cases z : K = i
        · rw [if_pos z]
        · rw [if_neg z, hN K (by omega)]
  -- whether a find is spoken of
  have inner : ∀ (k20 : Int32 → sI → sJ → Prop) A f (I1 : sI), f < 12 → A ≤ 8 → (∀ q, ¬ (q = 248 ∨ q = 277 ∨ q = 278) → I1 q = I q) → (∀ k, ¬ (k = 0 ∨ k = 49 ∨ k = 52) → I1 248 k = I 248 k) → I1 248 49 = nI A → I1 248 52 = nI (msk (stP v fi) C) → (¬ spk v fi C f → k20 (nI (f + 1)) I1 J) → (spk v fi C f → (A = 8 → post (-3) I1 J) ∧ (A < 8 → k20 (nI (f + 1)) (sUI (sUI I1 277 A (nI f)) 248 49 (nI (A + 1))) J)) → ∀ m c (x2 : Int32), c ≤ C → C - c < m → ((x2 = 0 ∧ ∀ d, d < c → ¬ (fi f = 0 ∧ stP v fi d ∧ (v d f = 1 ∨ v d f = 2))) ∨ (x2 = 1 ∧ spk v fi C f)) → w_X12_plan_30_n post k20 m (nI f) x2 (nI c) I1 J := by
    intro k20 A f I1 hf hA r1 s1 e49 e52 hno hyes m
    induction m with
    | zero => intro c x2 _ h; omega
    | succ m ih =>
      intro c x2 hc hm2 hz
      show w_X12_plan_30_s post k20 _ _ _ _ I1 J
      unfold w_X12_plan_30_s w_X12_plan_104 w_X12_plan_128 w_X12_plan_76 w_X12_plan_80 w_X12_plan_81
      rw [s1 46 (by omega), hm.1, pf_le (by omega) (by omega), e49, show (8 : Int32) = nI 8 from rfl, pf_eq (by omega) (by omega), pf_cl (by omega), nI_1, nI_1]
      refine ⟨fun e => ?_, fun e => ?_⟩
      · rcases hz with ⟨rfl, z⟩ | ⟨rfl, z⟩
        · refine b1 rfl (b1 rfl ?_)
          rintro _ rfl
          exact hno (fun ⟨q0, d, d1, d2, d3⟩ => z d (by omega) ⟨q0, d2, d3⟩)
        · obtain ⟨y1, y2⟩ := hyes z
          refine b2 (by decide) ⟨fun w => b2 (by decide) ⟨vp_in_nI (by omega) (by omega), ?_⟩, fun w => y1 w⟩
          rintro _ rfl
          rw [sUI_ne (show 248 ≠ 277 by omega), e49, nI_1]
          rintro _ rfl _ rfl
          exact y2 (by omega)
      · rcases hz with ⟨rfl, z⟩ | ⟨rfl, z⟩
        · have no : ¬ (fi f = 0 ∧ stP v fi c ∧ (v c f = 1 ∨ v c f = 2)) → ∀ v3 : Int32, v3 = nI (c + 1) → w_X12_plan_30_n post k20 m (nI f) 0 v3 I1 J := by
            rintro y _ rfl
            refine ih (c + 1) 0 (by omega) (by omega) (Or.inl ⟨rfl, fun d hd => ?_⟩)
            rcases Nat.lt_or_ge d c with x | x
            · exact z d x
            · rw [show d = c by omega]; exact y
          obtain ⟨f1, f2⟩ := hfi f hf
          refine b4 rfl ⟨vp_in_nI (by omega) (by omega), ?_⟩
          rw [pf_cl (by omega), r1 276 (by omega), f2, pf_eq0 (by omega)]
          refine ⟨fun y => no (fun q => y q.1), fun y => ?_⟩
          rw [e52]
          refine q_X12_has (by omega) (by omega) (fun q => b2 (by decide) ?_) (fun q => b1 rfl (no (fun w => q ⟨by omega, w.2.1⟩)))
          have vv := hw.2.1 c f (by omega) hf
          rw [show (12 : Int32) = nI 12 from rfl, show nI 12 * nI c + nI f = nI (12 * c + f) by rw [pk_mul, nI_add], pf_cl (by omega), r1 275 (by omega), hm.2 c f (by omega) hf, pf_le0 (by omega)]
          refine ⟨vp_in_nI (by omega) (by omega), fun w => no (fun r => by omega), fun w => ?_⟩
          rintro _ rfl
          exact ih (c + 1) 1 (by omega) (by omega) (Or.inr ⟨rfl, y, c, by omega, q.2, by omega⟩)
        · refine b3 (by decide) ?_
          rintro _ rfl
          exact ih (c + 1) 1 (by omega) (by omega) (Or.inr ⟨rfl, z⟩)
  have cm : ∀ f, f ≤ 12 → cnt (spk v fi C) f ≤ cnt (spk v fi C) 12 := by
    intro f hf
    have : ∀ k, cnt (spk v fi C) f ≤ cnt (spk v fi C) (f + k) := by
      intro k
      induction k with
      | zero => exact Nat.le_refl _
      | succ k ih =>
        by_cases e : spk v fi C (f + k)
        · rw [show f + (k + 1) = f + k + 1 by omega, cnt_s e]; omega
        · rw [show f + (k + 1) = f + k + 1 by omega, cnt_n e]; exact ih
    have := this (12 - f)
    rw [show f + (12 - f) = 12 by omega] at this
    exact this
  have loop : ∀ m f (af : Nat → Nat) (I1 : sI), f ≤ 12 → 12 - f < m → cnt (spk v fi C) f ≤ 8 → askL v fi af C (cnt (spk v fi C) f) f → (∀ q, ¬ (q = 248 ∨ q = 277 ∨ q = 278) → I1 q = I q) → (∀ k, ¬ (k = 0 ∨ k = 49 ∨ k = 52) → I1 248 k = I 248 k) → I1 248 49 = nI (cnt (spk v fi C) f) → I1 248 52 = nI (msk (stP v fi) C) → (∀ k, k < cnt (spk v fi C) f → I1 277 k = nI (af k)) → w_X12_plan_20_n post m (nI f) I1 J := by
    intro m
    induction m with
    | zero => intro f af I1 _ h; omega
    | succ m ih =>
      intro f af I1 hf hm2 hA hL r1 s1 e49 e52 e277
      show w_X12_plan_20_s post _ _ I1 J
      unfold w_X12_plan_20_s
      rw [show (12 : Int32) = nI 12 from rfl, pf_le (by omega) (by omega)]
      refine ⟨fun e => ?_, fun e => ?_⟩
      · have e : f = 12 := by omega
        subst e
        exact ⟨6562, fill _ af I1 rfl hA hL r1 s1 e49 e52 e277 6562 0 (by omega) (by omega) (fun K hK => by omega)⟩
      · refine ⟨C + 1, inner _ (cnt (spk v fi C) f) f I1 (by omega) hA r1 s1 e49 e52 (fun no => ?_) (fun yes => ⟨fun e8 => ?_, fun l8 => ?_⟩) (C + 1) 0 0 (by omega) (by omega) (Or.inl ⟨rfl, fun d hd => by omega⟩)⟩
        · refine ih (f + 1) af I1 (by omega) (by omega) (by rw [cnt_n no]; exact hA) ?_ r1 s1 (by rw [cnt_n no]; exact e49) e52 (by rw [cnt_n no]; exact e277)
          rw [cnt_n no]
          refine ⟨fun k hk => ⟨by have := (hL.1 k hk).1; omega, (hL.1 k hk).2⟩, fun g hg hs => ?_, hL.2.2⟩
          rcases Nat.lt_or_ge g f with x | x
          · exact hL.2.1 g x hs
          · rw [show g = f by omega] at hs; exact absurd hs no
        · have := cm (f + 1) (by omega)
          rw [cnt_s yes] at this
          exact (h I1 r1 s1).1 (by omega)
        · have cs := cnt_s yes
          obtain ⟨af2, g1, g2⟩ : ∃ af2 : Nat → Nat, af2 (cnt (spk v fi C) f) = f ∧ ∀ k, k ≠ cnt (spk v fi C) f → af2 k = af k := ⟨fun k => if k = cnt (spk v fi C) f then f else af k, if_pos rfl, fun k hk => if_neg hk⟩
          refine ih (f + 1) af2 _ (by omega) (by omega) (by omega) ?_ (fun q hq => by rw [sUI_ne (by omega), sUI_ne (by omega), r1 q hq]) (fun k hk => by rw [pf_uis, if_neg (by omega), sUI_ne (by omega), s1 k hk]) (by rw [cs, pf_uis, if_pos rfl]) (by rw [pf_uis, if_neg (by omega), sUI_ne (by omega), e52]) (fun k hk => ?_)
          · rw [cs]
            refine ⟨fun k hk => ?_, fun g hg hs => ?_, fun j k hj hk e2 => ?_⟩
            · by_cases z : k = cnt (spk v fi C) f
              · rw [z, g1]; exact ⟨by omega, yes⟩
              · rw [g2 k z]
                have := hL.1 k (by omega)
                exact ⟨by omega, this.2⟩
            · rcases Nat.lt_or_ge g f with x | x
              · obtain ⟨k, k1, k2⟩ := hL.2.1 g x hs
                exact ⟨k, by omega, by rw [g2 k (by omega)]; exact k2⟩
              · exact ⟨cnt (spk v fi C) f, by omega, by rw [g1]; omega⟩
            · by_cases z : j = cnt (spk v fi C) f
              · by_cases z2 : k = cnt (spk v fi C) f
                · omega
                · rw [z, g1, g2 k z2] at e2
                  have := (hL.1 k (by omega)).1
                  omega
              · by_cases z2 : k = cnt (spk v fi C) f
                · rw [g2 j z, z2, g1] at e2
                  have := (hL.1 j (by omega)).1
                  omega
                · rw [g2 j z, g2 k z2] at e2
                  exact hL.2.2 j k (by omega) (by omega) e2
          · rw [cs] at hk
            rw [sUI_ne (by omega), pf_uis]
            by_cases z : k = cnt (spk v fi C) f
            · rw [if_pos z, z, g1]
            · rw [if_neg z, g2 k z, e277 k (by omega)]
  refine ⟨13, loop 13 0 (fun _ => 0) _ (by omega) (by omega) (Nat.zero_le _) ⟨fun k hk => absurd hk (Nat.not_lt_zero _), fun g hg => by omega, fun j k hj => absurd hj (Nat.not_lt_zero _)⟩ (fun q hq => by rw [sUI_ne (by omega), sUI_ne (by omega), sUI_ne (by omega)]) (fun k hk => by rw [pf_uis, if_neg (by omega), pf_uis, if_neg (by omega), pf_uis, if_neg (by omega)]) rfl rfl (fun k hk => absurd hk (Nat.not_lt_zero _))⟩
theorem S_plan {I : sI} {J : sJ} (hR : RR0 I J) : St w_X11_plan w_X12_plan I J := by
  obtain ⟨hT, hD, hK, hW, hC, hQ, hX⟩ := hR
  obtain ⟨C, v, fi, hw, hc, hm, h1, h2⟩ := cl_get hD hC
  refine q_planC hw hc h1 (fun e => ?_) (fun e I1 ra => ?_)
  · refine q_planM hw hm h2 (fun I2 r1 s1 => ⟨fun _ => ?_, fun q => absurd q e⟩)
    exact ⟨rfl, (RT_congr hT (by rw [r1 1 (by omega)]) (r1 2 (by omega)) (s1 4 (by omega)) (r1 250 (by omega))), (RD_congr hD (fun q h1 h2 => r1 q (by omega)) (r1 253 (by omega)) (r1 254 (by omega)) (r1 255 (by omega)) (r1 256 (by omega)) (r1 276 (by omega)) (s1 11 (by omega)) (s1 12 (by omega)) (s1 15 (by omega)) (s1 21 (by omega)) (s1 22 (by omega)) (s1 23 (by omega))), (RK_congr hK (fun q h1 h2 => r1 q (by omega)) (r1 279 (by omega)) (r1 280 (by omega))), (RW_congr hW (fun q h1 h2 => r1 q (by omega)) (r1 257 (by omega)) (r1 258 (by omega)) (r1 259 (by omega))), (RC_congr hC (fun q h1 h2 => r1 q (by omega)) (by rw [r1 227 (by omega)]) (s1 46 (by omega)) (r1 275 (by omega))), (RR_congr hQ (by rw [r1 134 (by omega)]) (s1 1 (by omega)) rfl rfl), (RX_congr hX (by rw [r1 0 (by omega)]) (s1 37 (by omega)) (by rw [r1 0 (by omega)]) (s1 33 (by omega)) (by rw [r1 141 (by omega)]))⟩
  · refine q_planM hw ⟨by rw [ra 248 (by omega)]; exact hm.1, fun c f x y => by rw [ra 275 (by omega)]; exact hm.2 c f x y⟩ (fun f hf => by rw [ra 276 (by omega)]; exact h2 f hf) (fun I2 rb sb => ⟨fun q => absurd e q, fun _ => ?_⟩)
    have r1 : ∀ q, ¬ (q = 240 ∨ q = 241 ∨ q = 242 ∨ q = 248 ∨ q = 277 ∨ q = 278) → I2 q = I q := fun q hq => by rw [rb q (by omega), ra q (by omega)]
    have s1 : ∀ k, ¬ (k = 0 ∨ k = 49 ∨ k = 52) → I2 248 k = I 248 k := fun k hk => by rw [sb k hk, ra 248 (by omega)]
    exact ⟨rfl, (RT_congr hT (by rw [r1 1 (by omega)]) (r1 2 (by omega)) (s1 4 (by omega)) (r1 250 (by omega))), (RD_congr hD (fun q h1 h2 => r1 q (by omega)) (r1 253 (by omega)) (r1 254 (by omega)) (r1 255 (by omega)) (r1 256 (by omega)) (r1 276 (by omega)) (s1 11 (by omega)) (s1 12 (by omega)) (s1 15 (by omega)) (s1 21 (by omega)) (s1 22 (by omega)) (s1 23 (by omega))), (RK_congr hK (fun q h1 h2 => r1 q (by omega)) (r1 279 (by omega)) (r1 280 (by omega))), (RW_congr hW (fun q h1 h2 => r1 q (by omega)) (r1 257 (by omega)) (r1 258 (by omega)) (r1 259 (by omega))), (RC_congr hC (fun q h1 h2 => r1 q (by omega)) (by rw [r1 227 (by omega)]) (s1 46 (by omega)) (r1 275 (by omega))), (RR_congr hQ (by rw [r1 134 (by omega)]) (s1 1 (by omega)) rfl rfl), (RX_congr hX (by rw [r1 0 (by omega)]) (s1 37 (by omega)) (by rw [r1 0 (by omega)]) (s1 33 (by omega)) (by rw [r1 141 (by omega)]))⟩
