/-- what claim c risks: a find unknown of which it says something; alone: no other that stands says the same -/
def rkP (v : Nat → Nat → Nat) (fi : Nat → Nat) (c f : Nat) : Prop := fi f = 0 ∧ v c f ≠ 0
def smP (v : Nat → Nat → Nat) (fi : Nat → Nat) (c f i : Nat) : Prop := v i f = v c f ∧ stP v fi i ∧ i ≠ c
def alP (v : Nat → Nat → Nat) (fi : Nat → Nat) (C c f : Nat) : Prop := rkP v fi c f ∧ ∀ i, i < C → ¬ smP v fi c f i
theorem c_s {p : Nat → Prop} {n : Nat} (h : p n) : nI (cnt p n) + 1 = nI (cnt p (n + 1)) := by rw [nI_1, cnt_s h]
theorem c_n {p : Nat → Prop} {n : Nat} (h : ¬ p n) : nI (cnt p n) = nI (cnt p (n + 1)) := by rw [cnt_n h]
theorem q_risksC {I : sI} {J : sJ} {post : Int32 → sI → sJ → Prop} {C c : Nat} {v : Nat → Nat → Nat} {fi : Nat → Nat} (hw : tWC C v) (hc : cC C v I) (hfi : ∀ f, f < 12 → fi f ≤ 2 ∧ I 11 f = nI (fi f)) (hcC : c < C) (h : post (nI (cnt (rkP v fi c) 12)) (sUI (sUI I 134 1 0) 134 1 (nI 1)) (sUJ J 135 0 (nI (msk (alP v fi C c) 12)).toInt64)) : w_X11_risks (nI c) I J post := by
  have hC := hw.1
  have loop : ∀ m f, f ≤ 12 → 12 - f < m → w_X11_risks_42_n post m (nI c) (nI (msk (fun i => stP v fi i ∧ i ≠ c) C)) (nI (cnt (rkP v fi c) f)) (nI (msk (alP v fi C c) f)) (nI f) I J := by
    intro m
    induction m with
    | zero => intro c _ h; omega
    | succ m ih =>
      intro f hf hm
      show w_X11_risks_42_s post _ _ _ _ _ _ I J
      unfold w_X11_risks_42_s w_X11_risks_116 w_X11_risks_113 w_X11_risks_116
      rw [show (12 : Int32) = nI 12 from rfl, pf_le (by omega) (by omega)]
      refine ⟨fun e => ?_, fun e => ⟨vp_in_nI (by omega) (by omega), vp_in_nI (by omega) (by omega), ?_⟩⟩
      · rw [show f = 12 by omega]
        exact q_X6_tell h
      · have hv := hw.2.1 c f (by omega) (by omega)
        obtain ⟨f1, f2⟩ := hfi f (by omega)
        rw [pf_cl (by omega), pf_cl (by omega), sR228 c (by omega), hc.2 c f (by omega) (by omega), f2, pf_eq0 (by omega), sh1 f (by omega)]
        rintro _ rfl
        rw [pf_eq0 (by omega), nI_1]
        have nrk : ¬ rkP v fi c f → ∀ v5_116 : Int32, v5_116 = nI (f + 1) → w_X11_risks_42_n post m (nI c) (nI (msk (fun i => stP v fi i ∧ i ≠ c) C)) (nI (cnt (rkP v fi c) f)) (nI (msk (alP v fi C c) f)) v5_116 I J := by
          rintro y _ rfl
          rw [c_n y, ← msk_n (fun q : alP v fi C c f => y q.1)]
          exact ih (f + 1) (by omega) (by omega)
        refine ⟨vp_in_nI (by omega) (by omega), fun y => nrk (fun q => y q.1), fun y => ⟨fun z => ?_, fun z => nrk (fun q => q.2 z)⟩⟩
        rintro _ rfl
        have rk : rkP v fi c f := ⟨y, z⟩
        refine q_saying hw hc (by omega) (by omega) ?_
        rw [m_and, m_eq0 (by omega), c_s rk]
        refine ⟨fun q => ?_, fun q => ?_⟩
        · rintro _ rfl _ rfl
          rw [m_or0 (p := alP v fi C c) (fun x => q x.2)]
          exact ih (f + 1) (by omega) (by omega)
        · rintro _ rfl _ rfl
          rw [m_or (p := alP v fi C c) ⟨rk, q⟩]
          exact ih (f + 1) (by omega) (by omega)
  unfold w_X11_risks
  refine q_X1_has hc.1 hw.1 (fun _ => b3 (by decide) ?_) (fun q => absurd ⟨c, hcC, rfl⟩ q)
  refine q_standingC hw hc hfi ?_
  rw [sh1 c (by omega), m_rm]
  rintro _ rfl
  exact ⟨13, loop 13 0 (by omega) (by omega)⟩
theorem q_risksM {I : sI} {J : sJ} {post : Int32 → sI → sJ → Prop} {C c : Nat} {v : Nat → Nat → Nat} {fi : Nat → Nat} (hw : tWC C v) (hm : mC C v I) (hfi : ∀ f, f < 12 → fi f ≤ 2 ∧ I 276 f = nI (fi f)) (hcC : c < C) (h : post (nI (cnt (rkP v fi c) 12)) (sUI (sUI (sUI I 248 0 0) 248 1 0) 248 1 (nI 1)) (sUJ J 249 0 (nI (msk (alP v fi C c) 12)).toInt64)) : w_X12_risks (nI c) I J post := by
  have hC := hw.1
  obtain ⟨m1, m2⟩ := hm
  have m1' : (sUI I 248 0 0) 248 46 = nI C := m1
  have m2' : ∀ c f, c < 10 → f < 12 → (sUI I 248 0 0) 275 (12 * c + f) = nI (v c f) := m2
  have hfi' : ∀ f, f < 12 → fi f ≤ 2 ∧ (sUI I 248 0 0) 276 f = nI (fi f) := hfi
  have hJ : post (nI (cnt (rkP v fi c) 12)) (sUI (sUI (sUI I 248 0 0) 248 1 0) 248 1 (nI 1)) (sUJ J 249 0 (nI (msk (alP v fi C c) 12)).toInt64) := h
  unfold w_X12_risks
  rintro _ rfl
  generalize sUI I 248 0 0 = I1 at *
  have inner : ∀ (k28 : Int32 → Int32 → Int32 → Int32 → Int32 → sI → sJ → Prop) f, f < 12 → rkP v fi c f → k28 (nI c) (nI (msk (stP v fi) C)) (nI (cnt (rkP v fi c) (f + 1))) (nI (msk (alP v fi C c) (f + 1))) (nI (f + 1)) I1 J → ∀ m i (x7 : Int32), i ≤ C → C - i < m → ((x7 = 1 ∧ ∀ j, j < i → ¬ smP v fi c f j) ∨ (x7 = 0 ∧ ∃ j, j < C ∧ smP v fi c f j)) → w_X12_risks_76_n post k28 m (nI c) (nI (msk (stP v fi) C)) (nI (cnt (rkP v fi c) (f + 1))) (nI (msk (alP v fi C c) f)) (nI f) (nI (v c f)) x7 (nI i) I1 J := by
    intro k28 f hf rk hk m
    induction m with
    | zero => intro i x7 _ h; omega
    | succ m ih =>
      intro i x7 hi hm2 hz
      show w_X12_risks_76_s post k28 _ _ _ _ _ _ _ _ _ I1 J
      unfold w_X12_risks_76_s w_X12_risks_151 w_X12_risks_154 w_X12_risks_127 w_X12_risks_123 w_X12_risks_128
      rw [m1', pf_le (by omega) (by omega), sh1 f (by omega), pf_eq (by omega) (by omega), nI_1, nI_1]
      refine ⟨fun e => ?_, fun e => ?_⟩
      · have e : i = C := by omega
        subst e
        rcases hz with ⟨rfl, z⟩ | ⟨rfl, j, z1, z2⟩
        · refine b2 (by decide) ?_
          rintro _ rfl _ rfl
          rw [m_or (p := alP v fi i c) ⟨rk, z⟩]
          exact hk
        · refine b1 rfl ?_
          rintro _ rfl _ rfl
          rw [m_or0 (p := alP v fi i c) (fun q => q.2 j z1 z2)]
          exact hk
      · have hv := hw.2.1 c f (by omega) (by omega)
        have hv2 := hw.2.1 i f (by omega) (by omega)
        rcases hz with ⟨rfl, z⟩ | ⟨rfl, z⟩
        · have yes : ¬ smP v fi c f i → ∀ v8_130 : Int32, v8_130 = nI (i + 1) → w_X12_risks_76_n post k28 m (nI c) (nI (msk (stP v fi) C)) (nI (cnt (rkP v fi c) (f + 1))) (nI (msk (alP v fi C c) f)) (nI f) (nI (v c f)) 1 v8_130 I1 J := by
            rintro y _ rfl
            refine ih (i + 1) 1 (by omega) (by omega) (Or.inl ⟨rfl, fun j hj => ?_⟩)
            rcases Nat.lt_or_ge j i with a | a
            · exact z j a
            · rw [show j = i by omega]; exact y
          refine b2 (by decide) ⟨fun y => yes (fun q => q.2.2 y), fun y => ?_⟩
          refine q_X12_has (by omega) (by omega) (fun q => b2 (by decide) ?_) (fun q => b1 rfl (yes (fun x => q ⟨by omega, x.2.1⟩)))
          rw [show (12 : Int32) = nI 12 from rfl, show nI 12 * nI i + nI f = nI (12 * i + f) by rw [pk_mul, nI_add], pf_cl (by omega), m2' i f (by omega) (by omega), pf_eq (by omega) (by omega)]
          refine ⟨vp_in_nI (by omega) (by omega), fun x => ?_, fun x => yes (fun w => x w.1)⟩
          rintro _ rfl
          exact ih (i + 1) 0 (by omega) (by omega) (Or.inr ⟨rfl, i, by omega, x, q.2, y⟩)
        · refine b1 rfl ?_
          rintro _ rfl
          exact ih (i + 1) 0 (by omega) (by omega) (Or.inr ⟨rfl, z⟩)
  have loop : ∀ m f, f ≤ 12 → 12 - f < m → w_X12_risks_28_n post m (nI c) (nI (msk (stP v fi) C)) (nI (cnt (rkP v fi c) f)) (nI (msk (alP v fi C c) f)) (nI f) I1 J := by
    intro m
    induction m with
    | zero => intro c _ h; omega
    | succ m ih =>
      intro f hf hm
      show w_X12_risks_28_s post _ _ _ _ _ _ I1 J
      unfold w_X12_risks_28_s w_X12_risks_154
      rw [show (12 : Int32) = nI 12 from rfl, pf_le (by omega) (by omega)]
      refine ⟨fun e => ?_, fun e => ?_⟩
      · rw [show f = 12 by omega]
        rintro _ rfl
        exact q_enters (k := 0) rfl (by omega) hJ
      · have hv := hw.2.1 c f (by omega) (by omega)
        obtain ⟨f1, f2⟩ := hfi' f (by omega)
        rw [show nI 12 * nI c + nI f = nI (12 * c + f) by rw [pk_mul, nI_add], pf_cl (by omega), m2' c f (by omega) (by omega)]
        refine ⟨vp_in_nI (by omega) (by omega), ?_⟩
        rintro _ rfl
        rw [pf_cl (by omega), f2, pf_eq0 (by omega), pf_eq0 (by omega), nI_1]
        have nrk : ¬ rkP v fi c f → ∀ v5_116 : Int32, v5_116 = nI (f + 1) → w_X12_risks_28_n post m (nI c) (nI (msk (stP v fi) C)) (nI (cnt (rkP v fi c) f)) (nI (msk (alP v fi C c) f)) v5_116 I1 J := by
          rintro y _ rfl
          rw [c_n y, ← msk_n (fun q : alP v fi C c f => y q.1)]
          exact ih (f + 1) (by omega) (by omega)
        refine ⟨vp_in_nI (by omega) (by omega), fun y => nrk (fun q => y q.1), fun y => ⟨fun z => ?_, fun z => nrk (fun q => q.2 z)⟩⟩
        have rk : rkP v fi c f := ⟨y, z⟩
        rintro _ rfl
        rw [c_s rk]
        exact ⟨C + 1, inner _ f (by omega) rk (ih (f + 1) (by omega) (by omega)) (C + 1) 0 1 (by omega) (by omega) (Or.inl ⟨rfl, fun j hj => by omega⟩)⟩
  refine q_X12_isClaim m1' hw.1 (fun _ => b3 (by decide) ?_) (fun q => absurd ⟨c, hcC, rfl⟩ q)
  refine q_standingM hw ⟨m1', m2'⟩ hfi' ?_
  exact ⟨13, loop 13 0 (by omega) (by omega)⟩
theorem S_risks {I : sI} {J : sJ} (a : Int32) (hR : RR0 I J) : St (w_X11_risks a) (w_X12_risks a) I J := by
  obtain ⟨hT, hD, hK, hW, hC, hQ, hX⟩ := hR
  obtain ⟨C, v, fi, hw, hc, hm, h1, h2⟩ := cl_get hD hC
  by_cases e : Ix a C
  · obtain ⟨c, hcC, rfl⟩ := e
    refine q_risksC hw hc h1 hcC ?_
    refine q_risksM hw hm h2 hcC ?_
    exact ⟨rfl, (RT_congr hT rfl rfl rfl rfl), (RD_congr hD (fun q h1 h2 => by repeat rw [sUI_ne (by omega)]) rfl rfl rfl rfl rfl rfl rfl rfl rfl rfl rfl), (RK_congr hK (fun q h1 h2 => by repeat rw [sUI_ne (by omega)]) rfl rfl), (RW_congr hW (fun q h1 h2 => by repeat rw [sUI_ne (by omega)]) rfl rfl rfl), (RC_congr hC (fun q h1 h2 => by repeat rw [sUI_ne (by omega)]) rfl rfl rfl), RR_1 rfl rfl rfl rfl, (RX_congr hX rfl rfl rfl rfl rfl)⟩
  · show w_X11_risks a I J _
    unfold w_X11_risks
    refine q_X1_has hc.1 hw.1 (fun q => absurd q e) (fun q => b4 rfl ?_)
    unfold w_X12_risks
    rintro _ rfl
    refine q_X12_isClaim (I := sUI I 248 0 0) hm.1 hw.1 (fun q => absurd q e) (fun q => b4 rfl ?_)
    exact ⟨rfl, (RT_congr hT rfl rfl rfl rfl), (RD_congr hD (fun q h1 h2 => by repeat rw [sUI_ne (by omega)]) rfl rfl rfl rfl rfl rfl rfl rfl rfl rfl rfl), (RK_congr hK (fun q h1 h2 => by repeat rw [sUI_ne (by omega)]) rfl rfl), (RW_congr hW (fun q h1 h2 => by repeat rw [sUI_ne (by omega)]) rfl rfl rfl), (RC_congr hC (fun q h1 h2 => by repeat rw [sUI_ne (by omega)]) rfl rfl rfl), (RR_congr hQ rfl rfl rfl rfl), (RX_congr hX rfl rfl rfl rfl rfl)⟩
