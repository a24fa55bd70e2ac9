def fmV (x : Int32) : Int32 := if 0 ≤ (x ^^^ 3) then x - x / 3 * 3 else if x - x / 3 * 3 = 0 then x - x / 3 * 3 else x - x / 3 * 3 + 3
theorem x3_sign (x : Int32) : 0 ≤ (x ^^^ 3) ↔ 0 ≤ x := by
  have key : ∀ y : Int32, 0 ≤ y ↔ bt y 31 = false := by
    intro y
    rw [pf_leInt]
    have e : y.toInt = y.toBitVec.toInt := rfl
    have z : (0 : Int32).toInt = 0 := by decide
    rw [z, e]
    unfold bt
    rw [← BitVec.msb_eq_getLsbD_last (x := y.toBitVec)]
    constructor
    · intro h
      rcases hm : y.toBitVec.msb with _ | _
      · rfl
      · have := BitVec.toInt_neg_of_msb_true hm
        omega
    · intro h
      exact BitVec.toInt_nonneg_of_msb_false h
  rw [key, key, b_xor]
  have : bt 3 31 = false := by decide
  rw [this, Bool.xor_false]
theorem div3 (x : Int32) : (x / 3).toInt = x.toInt.tdiv 3 := by
  rw [Int32.toInt_div_of_ne_right]
  · rfl
  · decide
theorem tm3 (x : Int) : (0 ≤ x → 0 ≤ x.tmod 3) ∧ (x ≤ 0 → x.tmod 3 ≤ 0) := by
  refine ⟨fun h => Int.tmod_nonneg 3 h, fun h => ?_⟩
  have : 0 ≤ (-x).tmod 3 := Int.tmod_nonneg 3 (by omega)
  rw [Int.neg_tmod] at this
  omega
theorem rem3 (x : Int32) : (x - x / 3 * 3).toInt = x.toInt.tmod 3 := by
  have h3 : (3 : Int32).toInt = 3 := by decide
  have b1 := Int32.toInt_lt x
  have b2 := Int32.le_toInt x
  have e1 : x.toInt = 3 * x.toInt.tdiv 3 + x.toInt.tmod 3 := (Int.mul_tdiv_add_tmod x.toInt 3).symm
  have t3 := tm3 x.toInt
  have r1 : (x / 3 * 3).toInt = x.toInt.tdiv 3 * 3 := by
    rw [Int32.toInt_mul, div3, h3]
    have : x.toInt.tmod 3 < 3 := by
      exact Int.tmod_lt_of_pos _ (by decide)
    have : -3 < x.toInt.tmod 3 := by
      have := Int.lt_tmod_of_pos x.toInt (show (0 : Int) < 3 by decide)
      omega
    exact Int.bmod_eq_of_le (by omega) (by omega)
  rw [Int32.toInt_sub, r1]
  have : x.toInt.tmod 3 < 3 := Int.tmod_lt_of_pos _ (by decide)
  have : -3 < x.toInt.tmod 3 := by
    have := Int.lt_tmod_of_pos x.toInt (show (0 : Int) < 3 by decide)
    omega
  rw [show x.toInt - x.toInt.tdiv 3 * 3 = x.toInt.tmod 3 by omega]
  exact Int.bmod_eq_of_le (by omega) (by omega)
theorem fm_small (x : Int32) : ∃ n : Nat, n < 3 ∧ fmV x = nI n := by
  have h0 : (0 : Int32).toInt = 0 := by decide
  have h3 : (3 : Int32).toInt = 3 := by decide
  have u : x.toInt.tmod 3 < 3 := Int.tmod_lt_of_pos _ (by decide)
  have l : -3 < x.toInt.tmod 3 := by
    have := Int.lt_tmod_of_pos x.toInt (show (0 : Int) < 3 by decide)
    omega
  have mk : ∀ y : Int32, 0 ≤ y.toInt → y.toInt < 3 → ∃ n : Nat, n < 3 ∧ y = nI n := by
    intro y a c
    refine ⟨y.toInt.toNat, by omega, Int32.toInt_inj.mp ?_⟩
    rw [pf_toInt (by omega)]
    omega
  unfold fmV
  by_cases hs : 0 ≤ (x ^^^ 3)
  · rw [if_pos hs]
    rw [x3_sign, pf_leInt, h0] at hs
    refine mk _ ?_ (by rw [rem3]; exact u)
    rw [rem3]
    exact Int.tmod_nonneg 3 hs
  · rw [if_neg hs]
    rw [x3_sign, pf_leInt, h0] at hs
    by_cases hz : x - x / 3 * 3 = 0
    · rw [if_pos hz, hz]
      exact ⟨0, by omega, rfl⟩
    · rw [if_neg hz]
      have hz2 : x.toInt.tmod 3 ≠ 0 := fun e => hz (Int32.toInt_inj.mp (by rw [rem3, e, h0]))
      have neg : x.toInt.tmod 3 ≤ 0 := by
        have : 0 ≤ (-x.toInt).tmod 3 := Int.tmod_nonneg 3 (by omega)
        rw [Int.neg_tmod] at this
        omega
      have e : (x - x / 3 * 3 + 3).toInt = x.toInt.tmod 3 + 3 := by
        rw [Int32.toInt_add, rem3, h3]
        exact Int.bmod_eq_of_le (by omega) (by omega)
      refine mk _ (by rw [e]; omega) (by rw [e]; omega)
theorem q_floorMod {I : sI} {J : sJ} {post : Int32 → sI → sJ → Prop} {x : Int32} (h : post (fmV x) I J) : w_J9_floorMod_7cf53 x 3 I J post := by
  unfold w_J9_floorMod_7cf53
  refine ⟨by decide, ?_⟩
  rintro _ rfl
  unfold fmV at h
  refine ⟨fun e => ?_, fun e => ⟨fun e2 => ?_, fun e2 => ?_⟩⟩
  · rw [if_pos e] at h; exact h
  · rw [if_neg e, if_pos e2] at h; exact h
  · rw [if_neg e, if_neg e2] at h; exact h
def shE (a s : Int32) : Nat → Int32
  | 0 => a
  | f + 1 => shE a s f + s
def shN (k : Nat) (x : Int32) : Int32 := if k = 0 then x.toInt8.toInt32 else if k = 1 then x.toInt16.toInt32 else x
noncomputable def shV (k N : Nat) (a s : Int32) (f : Nat) : Nat := if f < N then (fm_small (shN k (shE a s f))).choose else 0
noncomputable def shC (k N : Nat) (a s : Int32) : Nat → Nat
  | 0 => 0
  | f + 1 => shC k N a s f + (if shV k N a s f = 0 then 0 else 1)
theorem shV_lt (k N : Nat) (a s : Int32) (f : Nat) : shV k N a s f < 3 := by
  unfold shV
  split
  · exact (fm_small _).choose_spec.1
  · omega
theorem shC_le (k N : Nat) (a s : Int32) : ∀ f, shC k N a s f ≤ f
  | 0 => Nat.le_refl _
  | f + 1 => by
    have := shC_le k N a s f
    show shC k N a s f + (if shV k N a s f = 0 then 0 else 1) ≤ f + 1
    split <;> omega
theorem q_narrowed {I : sI} {J : sJ} {post : Int32 → sI → sJ → Prop} {k : Nat} {x : Int32} (hk : k < 4) (h : post (shN k x) I J) : w_X11_narrowed (nI k) x I J post := by
  unfold w_X11_narrowed
  rw [pf_eq0 (by omega), show (1 : Int32) = nI 1 from rfl, pf_eq (by omega) (by omega)]
  unfold shN at h
  refine ⟨fun e => ⟨fun e2 => ?_, fun e2 => ?_⟩, fun e => ?_⟩
  · rw [if_neg e, if_neg e2] at h; exact h
  · rw [if_neg e, if_pos e2] at h; exact h
  · rw [if_pos e] at h; exact h
theorem ix4 {a : Int32} : (¬ a < 0 ∧ ¬ 3 < a) ↔ Ix a 4 := by
  constructor
  · intro ⟨h1, h2⟩
    refine ix_lt (by omega) h1 (fun q => h2 ?_)
    rw [pf_leInt] at q
    rw [pf_ltInt]
    have e3 : (3 : Int32).toInt = 3 := by decide
    have e4 : (nI 4).toInt = 4 := by decide
    omega
  · rintro ⟨c, hc, rfl⟩
    refine ⟨pf_lt0 (by omega), ?_⟩
    rw [show (3 : Int32) = nI 3 from rfl, pf_lt (by omega) (by omega)]
    omega
theorem q_X11_sheet {I : sI} {J : sJ} {post : Int32 → sI → sJ → Prop} {a1 a2 a3 a4 a5 : Int32} {C : Nat} (hc1 : I 227 1 = nI C) (hC1 : C ≤ 10)
    (h1 : ¬ (Ix a1 C ∧ Ix a2 4 ∧ a3 ≤ 12) → post (-1) I J)
    (h2 : Ix a1 C ∧ Ix a2 4 ∧ a3 ≤ 12 → ¬ a2 = 3 → ¬ 0 ≤ a3 → post (-2) I J)
    (h3 : ∀ c k N, c < C → k < 4 → N ≤ 12 → a1 = nI c → a2 = nI k → a3 ≤ 12 → (k = 3 → N = 0) → (k ≠ 3 → a3 = nI N) → ∀ I2 : sI, (∀ q, ¬ q = 229 + c → I2 q = I q) → (∀ f, f < 12 → I2 (229 + c) f = nI (shV k N a4 a5 f)) → post (if k = 3 then -3 else nI (shC k N a4 a5 12)) I2 J) : w_X11_sheet a1 a2 a3 a4 a5 I J post := by
  unfold w_X11_sheet
  refine q_X1_has hc1 hC1 (fun g1 => b2 (by decide) ?_) (fun z => b1 rfl (h1 fun y => z y.1))
  refine ⟨fun e => h1 fun y => (ix4.mpr y.2.1).1 e, fun e => ⟨fun e2 => h1 fun y => (ix4.mpr y.2.1).2 e2, fun e2 => ⟨fun e3 => ?_, fun e3 => h1 fun y => e3 y.2.2⟩⟩⟩
  have g2 := ix4.mp ⟨e, e2⟩
  have hh : Ix a1 C ∧ Ix a2 4 ∧ a3 ≤ 12 := ⟨g1, g2, e3⟩
  obtain ⟨c, hc, rfl⟩ := g1
  obtain ⟨k, hk, rfl⟩ := g2
  have go : ∀ N, N ≤ 12 → (k = 3 → N = 0) → (k ≠ 3 → a3 = nI N) → w_X11_sheet_50 post (nI c) (nI k) a4 a5 (nI N) I J := by
    intro N hN hk3 hk4
    have loop : ∀ m f (I1 : sI), f ≤ 12 → 12 - f < m → (∀ q, ¬ q = 229 + c → I1 q = I q) → (∀ j, j < f → I1 (229 + c) j = nI (shV k N a4 a5 j)) → w_X11_sheet_62_n post m (nI c) (nI k) a5 (nI N) (nI (shC k N a4 a5 f)) (shE a4 a5 f) (nI f) I1 J := by
      intro m
      induction m with
      | zero => intro f I1 _ hm; omega
      | succ m ih =>
        intro f I1 hf hm fr f1
        have hcle := shC_le k N a4 a5 f
        show w_X11_sheet_62_s post _ _ _ _ _ _ _ _ I1 J
        unfold w_X11_sheet_62_s
        rw [show (12 : Int32) = nI 12 from rfl, pf_le (by omega) (by omega), show (3 : Int32) = nI 3 from rfl, pf_eq (by omega) (by omega), pf_le (by omega) (by omega)]
        have fin := h3 c k N hc hk hN rfl rfl e3 hk3 hk4
        have put : f < 12 → w_X11_sheet_90 post (w_X11_sheet_62_n post m) (nI c) (nI k) a5 (nI N) (nI (shC k N a4 a5 f)) (shE a4 a5 f) (nI f) (nI (shV k N a4 a5 f)) I1 J := by
          intro hf2
          have hv := shV_lt k N a4 a5 f
          unfold w_X11_sheet_90 w_X11_sheet_118
          refine ⟨vp_in_nI (by omega) (by omega), vp_in_nI (by omega) (by omega), ?_⟩
          rw [pf_cl (by omega), pf_cl (by omega), sR228 c (by omega), pf_eq0 (by omega)]
          rintro _ rfl
          have next := ih (f + 1) (sUI I1 (229 + c) f (nI (shV k N a4 a5 f))) (by omega) (by omega) (fun q hq => by rw [sUI_ne hq]; exact fr q hq) (fun j hj => by
            rw [pf_uis]
            split
            · rename_i e; rw [e]
            · exact f1 j (by omega))
          refine ⟨fun y => ?_, fun y => ?_⟩
          · rintro _ rfl _ rfl _ rfl
            rw [show shC k N a4 a5 (f + 1) = shC k N a4 a5 f + 0 by show shC k N a4 a5 f + _ = _; rw [if_pos y]] at next
            rw [nI_1, show (0 : Int32) = nI 0 from rfl, nI_add]
            exact next
          · rintro _ rfl _ rfl _ rfl
            rw [show shC k N a4 a5 (f + 1) = shC k N a4 a5 f + 1 by show shC k N a4 a5 f + _ = _; rw [if_neg y]] at next
            rw [nI_1, show (1 : Int32) = nI 1 from rfl, nI_add]
            exact next
        refine ⟨fun y => ?_, fun y => ⟨fun y2 => ?_, fun y2 => ?_⟩⟩
        · have e12 : f = 12 := by omega
          subst e12
          have fin := fin I1 fr f1
          refine ⟨fun y2 => ?_, fun y2 => ?_⟩
          · rw [if_neg y2] at fin; exact fin
          · rw [if_pos y2] at fin; exact fin
        · have := put (by omega)
          rw [show shV k N a4 a5 f = 0 by unfold shV; rw [if_neg (by omega)]] at this
          exact this
        · refine q_narrowed hk (q_floorMod ?_)
          have := put (by omega)
          rw [show nI (shV k N a4 a5 f) = fmV (shN k (shE a4 a5 f)) by unfold shV; rw [if_pos (by omega)]; exact (fm_small _).choose_spec.2.symm] at this
          exact this
    unfold w_X11_sheet_50
    exact ⟨13, loop 13 0 I (by omega) (by omega) (fun _ _ => rfl) (fun j hj => by omega)⟩
  unfold w_X11_sheet_40
  rw [show (3 : Int32) = nI 3 from rfl, pf_eq (by omega) (by omega)]
  refine ⟨fun y => b4 y (go 0 (by omega) (fun _ => rfl) (fun z => absurd y z)), fun y => ⟨fun y2 => b3 y ?_, fun y2 => h2 hh (by rw [show (3 : Int32) = nI 3 from rfl, pf_eq (by omega) (by omega)]; exact y) y2⟩⟩
  have hN : ∃ N, N ≤ 12 ∧ a3 = nI N := by
    obtain ⟨N, hN, e⟩ := ix_lt (a := a3) (N := 13) (by omega) (Int32.not_lt.mpr y2) (fun q => by
      rw [pf_leInt] at q e3
      have e12 : (12 : Int32).toInt = 12 := by decide
      have e13 : (nI 13).toInt = 13 := by decide
      omega)
    exact ⟨N, by omega, e⟩
  obtain ⟨N, hN, e⟩ := hN
  have := go N hN (fun z => absurd z y) (fun _ => e)
  rw [← e] at this
  exact this
theorem q_X12_sheet {I : sI} {J : sJ} {post : Int32 → sI → sJ → Prop} {a1 a2 a3 a4 a5 : Int32} {C : Nat} (hm1 : I 248 46 = nI C) (hC1 : C ≤ 10)
    (h1 : ¬ (Ix a1 C ∧ Ix a2 4 ∧ a3 ≤ 12) → post (-1) (sUI I 248 0 0) J)
    (h2 : Ix a1 C ∧ Ix a2 4 ∧ a3 ≤ 12 → ¬ a2 = 3 → ¬ 0 ≤ a3 → post (-2) (sUI I 248 0 0) J)
    (h3 : ∀ c k N, c < C → k < 4 → N ≤ 12 → a1 = nI c → a2 = nI k → a3 ≤ 12 → (k = 3 → N = 0) → (k ≠ 3 → a3 = nI N) → ∀ I2 : sI, (∀ q, ¬ (q = 248 ∨ q = 275) → I2 q = I q) → (∀ k, ¬ k = 0 → I2 248 k = I 248 k) → (∀ i, ¬ (12 * c ≤ i ∧ i < 12 * c + 12) → I2 275 i = I 275 i) → (∀ f, f < 12 → I2 275 (12 * c + f) = nI (shV k N a4 a5 f)) → post (if k = 3 then -3 else nI (shC k N a4 a5 12)) I2 J) : w_X12_sheet a1 a2 a3 a4 a5 I J post := by
  unfold w_X12_sheet
  rintro _ rfl
  refine q_X12_isClaim (C := C) hm1 hC1 (fun g1 => b2 (by decide) ?_) (fun z => b1 rfl (h1 fun y => z y.1))
  refine q_inx 4 (by omega) (hi := 3) rfl rfl (fun g2 => b2 (by decide) ?_) (fun z => b1 rfl (h1 fun y => z y.2.1))
  refine ⟨fun e3 => ?_, fun e3 => h1 fun y => e3 y.2.2⟩
  have hh : Ix a1 C ∧ Ix a2 4 ∧ a3 ≤ 12 := ⟨g1, g2, e3⟩
  obtain ⟨c, hc, rfl⟩ := g1
  obtain ⟨k, hk, rfl⟩ := g2
  have go : ∀ N, N ≤ 12 → (k = 3 → N = 0) → (k ≠ 3 → a3 = nI N) → w_X12_sheet_45 post (nI c) (nI k) a3 a4 a5 (sUI I 248 0 0) J := by
    intro N hN hk3 hk4
    have loop : ∀ m f (I1 : sI), f ≤ 12 → 12 - f < m → (∀ q, ¬ (q = 248 ∨ q = 275) → I1 q = I q) → (∀ k, ¬ k = 0 → I1 248 k = I 248 k) → (∀ i, ¬ (12 * c ≤ i ∧ i < 12 * c + 12) → I1 275 i = I 275 i) → (∀ j, j < f → I1 275 (12 * c + j) = nI (shV k N a4 a5 j)) → w_X12_sheet_55_n post m (nI c) (nI k) a3 a5 (shE a4 a5 f) (nI (shC k N a4 a5 f)) (nI f) I1 J := by
      intro m
      induction m with
      | zero => intro f I1 _ hm; omega
      | succ m ih =>
        intro f I1 hf hm fr fs f2 f1
        have hcle := shC_le k N a4 a5 f
        have hv := shV_lt k N a4 a5 f
        show w_X12_sheet_55_s post _ _ _ _ _ _ _ _ I1 J
        have fin := h3 c k N hc hk hN rfl rfl e3 hk3 hk4
        have put : f < 12 → w_X12_sheet_119 post (w_X12_sheet_55_n post m) (nI c) (nI k) a3 a5 (shE a4 a5 f) (nI (shC k N a4 a5 f)) (nI f) (nI (shV k N a4 a5 f)) (nI (12 * c + f)) I1 J := by
          intro hf2
          unfold w_X12_sheet_119 w_X12_sheet_142
          refine ⟨vp_in_nI (by omega) (by omega), ?_⟩
          rw [show (12 : Int32) * nI c + nI f = nI (12 * c + f) by rw [show (12 : Int32) = nI 12 from rfl, pk_mul, nI_add], pf_cl (by omega)]
          rintro _ rfl
          refine ⟨vp_in_nI (by omega) (by omega), ?_⟩
          rw [pf_uis, if_pos rfl, pf_le0 (by omega)]
          have next := ih (f + 1) (sUI I1 275 (12 * c + f) (nI (shV k N a4 a5 f))) (by omega) (by omega) (fun q hq => by rw [sUI_ne (by omega)]; exact fr q hq) (fun k hk => by rw [pf_ui, if_neg (by omega)]; exact fs k hk) (fun i hi => by rw [pf_uis, if_neg (by omega)]; exact f2 i hi) (fun j hj => by
            rw [pf_uis]
            split
            · rename_i e; rw [show j = f by omega]
            · exact f1 j (by omega))
          refine ⟨fun y => q_flag (fun _ => ?_) (fun z => absurd rfl z), fun y => q_flag (fun z => absurd z (by decide)) (fun _ => ?_)⟩
          · rintro _ rfl _ rfl _ rfl
            rw [show shC k N a4 a5 (f + 1) = shC k N a4 a5 f + 0 by show shC k N a4 a5 f + _ = _; rw [if_pos y]] at next
            rw [nI_1, show (0 : Int32) = nI 0 from rfl, nI_add]
            exact next
          · rintro _ rfl _ rfl _ rfl
            rw [show shC k N a4 a5 (f + 1) = shC k N a4 a5 f + 1 by show shC k N a4 a5 f + _ = _; rw [if_neg y]] at next
            rw [nI_1, show (1 : Int32) = nI 1 from rfl, nI_add]
            exact next
        have zero : f < 12 → ¬ f < N → w_X12_sheet_109 post (w_X12_sheet_55_n post m) (nI c) (nI k) a3 a5 (shE a4 a5 f) (nI (shC k N a4 a5 f)) (nI f) (nI (12 * c + f)) I1 J := by
          intro hf2 hfN
          have := put hf2
          rw [show shV k N a4 a5 f = 0 by unfold shV; rw [if_neg hfN]] at this
          exact this
        have body : f < 12 → w_X12_sheet_85 post (w_X12_sheet_55_n post m) (nI c) (nI k) a3 a5 (shE a4 a5 f) (nI (shC k N a4 a5 f)) (nI f) (shN k (shE a4 a5 f)) I1 J := by
          intro hf2
          unfold w_X12_sheet_85
          rw [show (12 : Int32) * nI c + nI f = nI (12 * c + f) by rw [show (12 : Int32) = nI 12 from rfl, pk_mul, nI_add], show (3 : Int32) = nI 3 from rfl, pf_eq (by omega) (by omega)]
          refine ⟨fun y => zero hf2 (by have := hk3 y; omega), fun y => ?_⟩
          rw [hk4 y, pf_lt (by omega) (by omega)]
          refine ⟨fun y2 => q_floorMod ?_, fun y2 => ?_⟩
          · have := put hf2
            rw [show nI (shV k N a4 a5 f) = fmV (shN k (shE a4 a5 f)) by unfold shV; rw [if_pos y2]; exact (fm_small _).choose_spec.2.symm, hk4 y] at this
            exact this
          · have := zero hf2 y2
            rw [hk4 y] at this
            exact this
        unfold w_X12_sheet_55_s
        rw [show (12 : Int32) = nI 12 from rfl, pf_le (by omega) (by omega), show (3 : Int32) = nI 3 from rfl, pf_eq (by omega) (by omega), pf_eq0 (by omega), show (1 : Int32) = nI 1 from rfl, pf_eq (by omega) (by omega)]
        unfold shN at body
        refine ⟨fun y => ?_, fun y => ⟨fun y2 => ⟨fun y3 => ?_, fun y3 => ?_⟩, fun y2 => ?_⟩⟩
        · have e12 : f = 12 := by omega
          subst e12
          have fin := fin I1 fr fs f2 f1
          refine ⟨fun y2 => ?_, fun y2 => ?_⟩
          · rw [if_neg y2] at fin; exact fin
          · rw [if_pos y2] at fin; exact fin
        · rw [if_neg y2, if_neg y3] at body; exact body (by omega)
        · rw [if_neg y2, if_pos y3] at body; exact body (by omega)
        · rw [if_pos y2] at body; exact body (by omega)
    unfold w_X12_sheet_45
    exact ⟨13, loop 13 0 (sUI I 248 0 0) (by omega) (by omega) (fun q hq => sUI_ne (by omega)) (fun k hk => by rw [pf_uis, if_neg hk]) (fun i _ => by rw [pf_ui, if_neg (by omega)]) (fun j hj => by omega)⟩
  rw [show (3 : Int32) = nI 3 from rfl, pf_eq (by omega) (by omega)]
  refine ⟨fun y => go 0 (by omega) (fun _ => rfl) (fun z => absurd y z), fun y => ⟨fun y2 => ?_, fun y2 => h2 hh (by rw [show (3 : Int32) = nI 3 from rfl, pf_eq (by omega) (by omega)]; exact y) y2⟩⟩
  have hN : ∃ N, N ≤ 12 ∧ a3 = nI N := by
    obtain ⟨N, hN, e⟩ := ix_lt (a := a3) (N := 13) (by omega) (Int32.not_lt.mpr y2) (fun q => by
      rw [pf_leInt] at q e3
      have e12 : (12 : Int32).toInt = 12 := by decide
      have e13 : (nI 13).toInt = 13 := by decide
      omega)
    exact ⟨N, by omega, e⟩
  obtain ⟨N, hN, e⟩ := hN
  exact go N hN (fun z => absurd z y) (fun _ => e)
theorem S_sheet {I : sI} {J : sJ} (a1 a2 a3 a4 a5 : Int32) (hR : RR0 I J) : St (w_X11_sheet a1 a2 a3 a4 a5) (w_X12_sheet a1 a2 a3 a4 a5) I J := by
  obtain ⟨hT, hD, hK, hW, hC, hQ, hX⟩ := hR
  obtain ⟨C, v, hwf, hc, hm⟩ := id hC
  have hC1 := hwf.1
  have fin : RR0 (sUI I 248 0 0) J := ⟨(RT_congr hT rfl rfl rfl rfl), (RD_congr hD (fun q h1 h2 => by repeat rw [sUI_ne (by omega)]) rfl rfl rfl rfl rfl rfl rfl rfl rfl rfl rfl), (RK_congr hK (fun q h1 h2 => by repeat rw [sUI_ne (by omega)]) rfl rfl), (RW_congr hW (fun q h1 h2 => by repeat rw [sUI_ne (by omega)]) rfl rfl rfl), (RC_congr hC (fun q h1 h2 => by repeat rw [sUI_ne (by omega)]) rfl rfl rfl), (RR_congr hQ rfl rfl rfl rfl), (RX_congr hX rfl rfl rfl rfl rfl)⟩
  refine q_X11_sheet hc.1 hC1 (fun z => ?_) (fun z z2 z3 => ?_) (fun c k N g1 g2 g3 e1 e2 e3 e4 e5 I1 fr f1 => ?_)
  · exact q_X12_sheet hm.1 hC1 (fun _ => ⟨rfl, fin⟩) (fun y => absurd y z) (fun c k N g1 g2 g3 e1 e2 e3 => absurd ⟨⟨c, g1, e1⟩, ⟨k, g2, e2⟩, e3⟩ z)
  · refine q_X12_sheet hm.1 hC1 (fun y => absurd z y) (fun _ _ _ => ⟨rfl, fin⟩) (fun c k N g1 g2 g3 e1 e2 e3 e4 e5 => ?_)
    exfalso
    by_cases hk : k = 3
    · exact z2 (by rw [e2, hk]; rfl)
    · exact z3 (by rw [e5 hk]; exact pf_ge0 (by omega))
  · have hh : Ix a1 C ∧ Ix a2 4 ∧ a3 ≤ 12 := ⟨⟨c, g1, e1⟩, ⟨k, g2, e2⟩, e3⟩
    refine q_X12_sheet (I := I1) (C := C) (by rw [fr 248 (by omega)]; exact hm.1) hC1 (fun z => absurd hh z) (fun _ z2 z3 => ?_) (fun c' k' N' g1' g2' g3' e1' e2' e3' e4' e5' I2 k1 k2 k3 k4 => ?_)
    · exfalso
      by_cases hk : k = 3
      · exact z2 (by rw [e2, hk]; rfl)
      · exact z3 (by rw [e5 hk]; exact pf_ge0 (by omega))
    · have x1 : c = c' := (pf_eq (by omega) (by omega)).mp (by rw [← e1, e1'])
      have x2 : k = k' := (pf_eq (by omega) (by omega)).mp (by rw [← e2, e2'])
      subst x1 x2
      have x3 : N = N' := by
        by_cases hk : k = 3
        · rw [e4 hk, e4' hk]
        · exact (pf_eq (by omega) (by omega)).mp (by rw [← e5 hk, e5' hk])
      subst x3
      have r1 : ∀ q, ¬ (q = 229 + c ∨ q = 248 ∨ q = 275) → I2 q = I q := fun q hq => by rw [k1 q (by omega), fr q (by omega)]
      have s1 : ∀ k, ¬ k = 0 → I2 248 k = I 248 k := fun k hk => by rw [k2 k hk, fr 248 (by omega)]
      refine ⟨rfl, (RT_congr hT (by rw [r1 1 (by omega)]) (r1 2 (by omega)) (s1 4 (by omega)) (r1 250 (by omega))), (RD_congr hD (fun q h1 h2 => r1 q (by omega)) (r1 253 (by omega)) (r1 254 (by omega)) (r1 255 (by omega)) (r1 256 (by omega)) (r1 276 (by omega)) (s1 11 (by omega)) (s1 12 (by omega)) (s1 15 (by omega)) (s1 21 (by omega)) (s1 22 (by omega)) (s1 23 (by omega))), (RK_congr hK (fun q h1 h2 => r1 q (by omega)) (r1 279 (by omega)) (r1 280 (by omega))), (RW_congr hW (fun q h1 h2 => r1 q (by omega)) (r1 257 (by omega)) (r1 258 (by omega)) (r1 259 (by omega))), ?_, (RR_congr hQ (by rw [r1 134 (by omega)]) (s1 1 (by omega)) rfl rfl), (RX_congr hX (by rw [r1 0 (by omega)]) (s1 37 (by omega)) (by rw [r1 0 (by omega)]) (s1 33 (by omega)) (by rw [r1 141 (by omega)]))⟩
      refine ⟨C, fun c2 f2 => if c2 = c then shV k N a4 a5 f2 else v c2 f2, ⟨hC1, fun c2 f2 a b => ?_, fun c2 f2 a b d => ?_⟩, ⟨by rw [r1 227 (by omega)]; exact hc.1, fun c2 f2 a b => ?_⟩, by rw [s1 46 (by omega)]; exact hm.1, fun c2 f2 a b => ?_⟩
      · show (if c2 = c then shV k N a4 a5 f2 else v c2 f2) ≤ 2
        split
        · have := shV_lt k N a4 a5 f2; omega
        · exact hwf.2.1 c2 f2 a b
      · show (if c2 = c then shV k N a4 a5 f2 else v c2 f2) = 0
        rw [if_neg (by omega)]
        exact hwf.2.2 c2 f2 a b d
      · show I2 (229 + c2) f2 = nI (if c2 = c then shV k N a4 a5 f2 else v c2 f2)
        split
        · rename_i e; subst e; rw [k1 _ (by omega)]; exact f1 f2 b
        · rw [r1 _ (by omega)]; exact hc.2 c2 f2 a b
      · show I2 275 (12 * c2 + f2) = nI (if c2 = c then shV k N a4 a5 f2 else v c2 f2)
        split
        · rename_i e; subst e; exact k4 f2 b
        · rw [k3 _ (by omega), fr 275 (by omega)]; exact hm.2 c2 f2 a b
