/-- claim c has stood what was found in the first f finds -/
def pG (v : Nat → Nat → Nat) (fi : Nat → Nat) (f c : Nat) : Prop := ∀ g, g < f → v c g = 0 ∨ fi g = 0 ∨ v c g = fi g
def stP (v : Nat → Nat → Nat) (fi : Nat → Nat) : Nat → Prop := pG v fi 12
theorem pG_s {v : Nat → Nat → Nat} {fi : Nat → Nat} {f c : Nat} : pG v fi (f + 1) c ↔ pG v fi f c ∧ (v c f = 0 ∨ fi f = 0 ∨ v c f = fi f) := by
  constructor
  · intro h; exact ⟨fun g hg => h g (by omega), h f (by omega)⟩
  · intro ⟨a, b⟩ g hg
    rcases Nat.lt_or_ge g f with x | x
    · exact a g x
    · rw [show g = f by omega]; exact b
theorem q_saying {I : sI} {J : sJ} {post : Int32 → sI → sJ → Prop} {C f x : Nat} {v : Nat → Nat → Nat} (hw : tWC C v) (hc : cC C v I) (hf : f < 12) (hx : x ≤ 3) (h : post (nI (msk (fun c => v c f = x) C)) I J) : w_X1_saying (nI f) (nI x) I J post := by
  obtain ⟨w1, w2, w3⟩ := hw
  obtain ⟨c1, c2⟩ := hc
  have loop : ∀ m c, c ≤ C → C - c < m → w_X1_saying_5_n post m (nI f) (nI x) (nI (msk (fun c => v c f = x) c)) (nI c) I J := by
    intro m
    induction m with
    | zero => intro c _ h; omega
    | succ m ih =>
      intro c hcC hm
      show w_X1_saying_5_s post _ _ _ _ _ I J
      unfold w_X1_saying_5_s w_X1_saying_36
      rw [c1, pf_le (by omega) (by omega)]
      refine ⟨fun e => ?_, fun e => ⟨vp_in_nI (by omega) (by omega), vp_in_nI (by omega) (by omega), ?_⟩⟩
      · rw [show c = C by omega]; exact h
      · have := w2 c f (by omega) hf
        rw [pf_cl (by omega), pf_cl (by omega), sR228 c (by omega), c2 c f (by omega) hf, pf_eq (by omega) (by omega), sh1 c (by omega)]
        refine ⟨fun z => ?_, fun z => ?_⟩
        · rintro _ rfl _ rfl
          rw [nI_1, m_or0 (p := fun c => v c f = x) z]
          exact ih (c + 1) (by omega) (by omega)
        · rintro _ rfl _ rfl
          rw [nI_1, m_or (p := fun c => v c f = x) z]
          exact ih (c + 1) (by omega) (by omega)
  exact ⟨C + 1, loop (C + 1) 0 (by omega) (by omega)⟩
theorem q_standingC {I : sI} {J : sJ} {post : Int32 → sI → sJ → Prop} {C : Nat} {v : Nat → Nat → Nat} {fi : Nat → Nat} (hw : tWC C v) (hc : cC C v I) (hfi : ∀ f, f < 12 → fi f ≤ 2 ∧ I 11 f = nI (fi f)) (h : post (nI (msk (stP v fi) C)) I J) : w_X1_standing I J post := by
  have hC := hw.1
  have loop : ∀ m f, f ≤ 12 → 12 - f < m → w_X1_standing_11_n post m (nI (msk (pG v fi f) C)) (nI f) I J := by
    intro m
    induction m with
    | zero => intro c _ h; omega
    | succ m ih =>
      intro f hf hm
      show w_X1_standing_11_s post _ _ _ I J
      unfold w_X1_standing_11_s w_X1_standing_38
      rw [show (12 : Int32) = nI 12 from rfl, pf_le (by omega) (by omega)]
      refine ⟨fun e => ?_, fun e => ⟨vp_in_nI (by omega) (by omega), ?_⟩⟩
      · rw [show f = 12 by omega]; exact h
      · obtain ⟨f1, f2⟩ := hfi f (by omega)
        rw [pf_cl (by omega), f2, pf_eq0 (by omega)]
        refine ⟨fun z => ?_, fun z => ⟨vp_in_nI (by omega) (by omega), ?_⟩⟩
        · rintro _ rfl
          rw [nI_1]
          have := ih (f + 1) (by omega) (by omega)
          rw [msk_congr (q := pG v fi f) (fun c _ => by rw [pG_s]; exact ⟨fun a => a.1, fun a => ⟨a, Or.inr (Or.inl z)⟩⟩)] at this
          exact this
        · rw [show (3 : Int32) = nI 3 from rfl, pk_sub (by omega)]
          refine q_saying hw hc (by omega) (by omega) ?_
          rw [m_andnot]
          rintro _ rfl _ rfl
          rw [nI_1]
          have := ih (f + 1) (by omega) (by omega)
          rw [msk_congr (q := fun c => pG v fi f c ∧ ¬ v c f = 3 - fi f) (fun c hcC => by
            rw [pG_s]
            have := hw.2.1 c f (by omega) (by omega)
            constructor
            · intro ⟨a, b⟩; exact ⟨a, by omega⟩
            · intro ⟨a, b⟩; exact ⟨a, by omega⟩)] at this
          exact this
  unfold w_X1_standing
  rw [hc.1, sh1 C (by omega), m_all (by omega)]
  rintro _ rfl
  have := loop 13 0 (by omega) (by omega)
  rw [msk_congr (q := fun _ => True) (fun c _ => ⟨fun _ => trivial, fun _ g hg => by omega⟩)] at this
  exact ⟨13, this⟩
theorem q_standingM {I : sI} {J : sJ} {post : Int32 → sI → sJ → Prop} {C : Nat} {v : Nat → Nat → Nat} {fi : Nat → Nat} (hw : tWC C v) (hm : mC C v I) (hfi : ∀ f, f < 12 → fi f ≤ 2 ∧ I 276 f = nI (fi f)) (h : post (nI (msk (stP v fi) C)) I J) : w_X12_standing I J post := by
  obtain ⟨w1, w2, w3⟩ := hw
  obtain ⟨m1, m2⟩ := hm
  have inner : ∀ (k4 : Int32 → Int32 → sI → sJ → Prop) c, c < C → k4 (nI (msk (stP v fi) (c + 1))) (nI (c + 1)) I J → ∀ m f (x3 : Int32), f ≤ 12 → 12 - f < m → ((x3 = 1 ∧ pG v fi f c) ∨ (x3 = 0 ∧ ¬ stP v fi c)) → w_X12_standing_17_n post k4 m (nI (msk (stP v fi) c)) (nI c) x3 (nI f) I J := by
    intro k4 c hcC hk m
    induction m with
    | zero => intro f x3 _ h; omega
    | succ m ih =>
      intro f x3 hf hm hz
      show w_X12_standing_17_s post k4 _ _ _ _ _ I J
      unfold w_X12_standing_17_s w_X12_standing_93 w_X12_standing_73 w_X12_standing_69 w_X12_standing_74
      rw [show (12 : Int32) = nI 12 from rfl, pf_le (by omega) (by omega), sh1 c (by omega), show nI 12 * nI c + nI f = nI (12 * c + f) by rw [pk_mul, nI_add]]
      refine ⟨fun e => ?_, fun e => ⟨vp_in_nI (by omega) (by omega), ?_⟩⟩
      · have e : f = 12 := by omega
        subst e
        rcases hz with ⟨rfl, z⟩ | ⟨rfl, z⟩
        · refine b2 (by decide) ?_
          rintro _ rfl _ rfl
          rw [nI_1, m_or (p := stP v fi) z]
          exact hk
        · refine b1 rfl ?_
          rintro _ rfl _ rfl
          rw [nI_1, m_or0 (p := stP v fi) z]
          exact hk
      · have hv := w2 c f (by omega) (by omega)
        obtain ⟨f1, f2⟩ := hfi f (by omega)
        rw [pf_cl (by omega), m2 c f (by omega) (by omega)]
        rintro _ rfl
        rw [pf_cl (by omega), f2, pf_eq0 (by omega), pf_eq0 (by omega), pf_eq (by omega) (by omega), nI_1]
        rcases hz with ⟨rfl, z⟩ | ⟨rfl, z⟩
        · have yes : (v c f = 0 ∨ fi f = 0 ∨ v c f = fi f) → ∀ v4_75 : Int32, v4_75 = nI (f + 1) → w_X12_standing_17_n post k4 m (nI (msk (stP v fi) c)) (nI c) 1 v4_75 I J := by
            rintro y _ rfl
            exact ih (f + 1) 1 (by omega) (by omega) (Or.inl ⟨rfl, pG_s.mpr ⟨z, y⟩⟩)
          have no : ¬ (v c f = 0 ∨ fi f = 0 ∨ v c f = fi f) → ∀ v4_75 : Int32, v4_75 = nI (f + 1) → w_X12_standing_17_n post k4 m (nI (msk (stP v fi) c)) (nI c) 0 v4_75 I J := by
            rintro y _ rfl
            exact ih (f + 1) 0 (by omega) (by omega) (Or.inr ⟨rfl, fun q => y (q f (by omega))⟩)
          refine b2 (by decide) ⟨fun y => yes (Or.inl y), fun y => ⟨vp_in_nI (by omega) (by omega), fun y2 => yes (Or.inr (Or.inl y2)), fun y2 => ⟨vp_in_nI (by omega) (by omega), fun y3 => no (by omega), fun y3 => yes (Or.inr (Or.inr y3))⟩⟩⟩
        · refine b1 rfl ?_
          rintro _ rfl
          exact ih (f + 1) 0 (by omega) (by omega) (Or.inr ⟨rfl, z⟩)
  have loop : ∀ m c, c ≤ C → C - c < m → w_X12_standing_4_n post m (nI (msk (stP v fi) c)) (nI c) I J := by
    intro m
    induction m with
    | zero => intro c _ h; omega
    | succ m ih =>
      intro c hcC hm
      show w_X12_standing_4_s post _ _ _ I J
      unfold w_X12_standing_4_s
      rw [m1, pf_le (by omega) (by omega)]
      refine ⟨fun e => ?_, fun e => ⟨13, inner _ c (by omega) (ih (c + 1) (by omega) (by omega)) 13 0 1 (by omega) (by omega) (Or.inl ⟨rfl, fun g hg => by omega⟩)⟩⟩
      rw [show c = C by omega]; exact h
  exact ⟨C + 1, loop (C + 1) 0 (by omega) (by omega)⟩
/-- what the claims' steps start from -/
theorem cl_get {I : sI} (hD : RD I) (hC : RC I) : ∃ (C : Nat) (v : Nat → Nat → Nat) (fi : Nat → Nat), tWC C v ∧ cC C v I ∧ mC C v I ∧ (∀ f, f < 12 → fi f ≤ 2 ∧ I 11 f = nI (fi f)) ∧ ∀ f, f < 12 → fi f ≤ 2 ∧ I 276 f = nI (fi f) := by
  obtain ⟨C, v, a, b, c⟩ := hC
  obtain ⟨⟨G, P, s, κ, n, ob, oa, h, d, bk, fi⟩, hw, hc, hm⟩ := hD
  exact ⟨C, v, fi, a, b, c, fun f hf => ⟨hw.2.2.2.2.2.2 f hf, hc.2.2.2.2.2 f hf⟩, fun f hf => ⟨hw.2.2.2.2.2.2 f hf, hm.2.2.2.2.2 f hf⟩⟩
theorem S_stand {I : sI} {J : sJ} (hR : RR0 I J) : St w_X11_stand w_X12_stand I J := by
  obtain ⟨hT, hD, hK, hW, hC, hQ, hX⟩ := hR
  obtain ⟨C, v, fi, hw, hc, hm, h1, h2⟩ := cl_get hD hC
  refine q_standingC hw hc h1 ?_
  unfold w_X12_stand
  rintro _ rfl
  refine q_standingM (I := sUI I 248 0 0) hw hm h2 ?_
  exact ⟨rfl, (RT_congr hT rfl rfl rfl rfl), (RD_congr hD (fun q h1 h2 => by repeat rw [sUI_ne (by omega)]) rfl rfl rfl rfl rfl rfl rfl rfl rfl rfl rfl), (RK_congr hK (fun q h1 h2 => by repeat rw [sUI_ne (by omega)]) rfl rfl), (RW_congr hW (fun q h1 h2 => by repeat rw [sUI_ne (by omega)]) rfl rfl rfl), (RC_congr hC (fun q h1 h2 => by repeat rw [sUI_ne (by omega)]) rfl rfl rfl), (RR_congr hQ rfl rfl rfl rfl), (RX_congr hX rfl rfl rfl rfl rfl)⟩
/-- claims that stand and say nothing of the first f finds that is unknown -/
def idP (v : Nat → Nat → Nat) (fi : Nat → Nat) (f c : Nat) : Prop := stP v fi c ∧ ∀ g, g < f → fi g = 0 → v c g = 0
theorem S_idle {I : sI} {J : sJ} (hR : RR0 I J) : St w_X11_idle w_X12_idle I J := by
  obtain ⟨hT, hD, hK, hW, hC, hQ, hX⟩ := hR
  obtain ⟨C, v, fi, hw, hc, hm, h1, h2⟩ := cl_get hD hC
  have hC10 := hw.1
  have fin : RR0 (sUI I 248 0 0) J := ⟨(RT_congr hT rfl rfl rfl rfl), (RD_congr hD (fun q h1 h2 => by repeat rw [sUI_ne (by omega)]) rfl rfl rfl rfl rfl rfl rfl rfl rfl rfl rfl), (RK_congr hK (fun q h1 h2 => by repeat rw [sUI_ne (by omega)]) rfl rfl), (RW_congr hW (fun q h1 h2 => by repeat rw [sUI_ne (by omega)]) rfl rfl rfl), (RC_congr hC (fun q h1 h2 => by repeat rw [sUI_ne (by omega)]) rfl rfl rfl), (RR_congr hQ rfl rfl rfl rfl), (RX_congr hX rfl rfl rfl rfl rfl)⟩
  have model : ∀ post : Int32 → sI → sJ → Prop, post (nI (msk (idP v fi 12) C)) (sUI I 248 0 0) J → w_X12_idle I J post := by
    intro post hpost
    unfold w_X12_idle
    rintro _ rfl
    refine q_standingM (I := sUI I 248 0 0) hw hm h2 ?_
    -- behind the first c claims
    have inner : ∀ (k12 : Int32 → Int32 → sI → sJ → Prop) c, c < C → (k12 (nI (msk (fun i => if i < c + 1 then idP v fi 12 i else stP v fi i) C)) (nI (c + 1)) (sUI I 248 0 0) J) → ∀ m f, f ≤ 12 → 12 - f < m → w_X12_idle_22_n post k12 m (nI (msk (fun i => if i < c then idP v fi 12 i else if i = c then idP v fi f i else stP v fi i) C)) (nI c) (nI f) (sUI I 248 0 0) J := by
      intro k12 c hcC hk m
      induction m with
      | zero => intro f _ h; omega
      | succ m ih =>
        intro f hf hm2
        show w_X12_idle_22_s _ k12 _ _ _ _ _ J
        unfold w_X12_idle_22_s w_X12_idle_60 w_X12_idle_61
        rw [show (12 : Int32) = nI 12 from rfl, pf_le (by omega) (by omega), sh1 c (by omega), show nI 12 * nI c + nI f = nI (12 * c + f) by rw [pk_mul, nI_add]]
        refine ⟨fun e => ?_, fun e => ⟨vp_in_nI (by omega) (by omega), ?_⟩⟩
        · have e : f = 12 := by omega
          subst e
          rintro _ rfl
          rw [nI_1, msk_congr (q := fun i => if i < c + 1 then idP v fi 12 i else stP v fi i) (fun i _ => by
            by_cases a : i < c
            · rw [if_pos a, if_pos (by omega)]
            · by_cases b : i = c
              · rw [if_neg a, if_pos b, if_pos (by omega)]
              · rw [if_neg a, if_neg b, if_neg (by omega)])]
          exact hk
        · obtain ⟨f1, f2⟩ := h2 f (by omega)
          have hv := hw.2.1 c f (by omega) (by omega)
          rw [pf_cl (by omega), show (sUI I 248 0 0) 276 f = nI (fi f) from f2, pf_eq0 (by omega)]
          have same : (fi f = 0 → v c f = 0) → ∀ v1_62 : Int32, v1_62 = nI (msk (fun i => if i < c then idP v fi 12 i else if i = c then idP v fi f i else stP v fi i) C) &&& (-1) → ∀ v3_63 : Int32, v3_63 = nI f + 1 → w_X12_idle_22_n post k12 m v1_62 (nI c) v3_63 (sUI I 248 0 0) J := by
            rintro y _ rfl _ rfl
            rw [nI_1, show ∀ z : Int32, z &&& (-1) = z by intro z; apply b_ext; intro i hi; rw [b_and, b_m1 i hi, Bool.and_true]]
            have := ih (f + 1) (by omega) (by omega)
            rw [msk_congr (q := fun i => if i < c then idP v fi 12 i else if i = c then idP v fi f i else stP v fi i) (fun i _ => by
              by_cases a : i < c
              · rw [if_pos a, if_pos a]
              · by_cases b : i = c
                · rw [if_neg a, if_pos b, if_neg a, if_pos b]
                  subst b
                  unfold idP
                  constructor
                  · intro ⟨p, q⟩; exact ⟨p, fun g hg => q g (by omega)⟩
                  · intro ⟨p, q⟩
                    refine ⟨p, fun g hg => ?_⟩
                    rcases Nat.lt_or_ge g f with x | x
                    · exact q g x
                    · rw [show g = f by omega]; exact y
                · rw [if_neg a, if_neg b, if_neg a, if_neg b])] at this
            exact this
          refine ⟨fun y => same (fun z => absurd z y), fun y => ⟨vp_in_nI (by omega) (by omega), ?_⟩⟩
          rw [pf_cl (by omega), show (sUI I 248 0 0) 275 (12 * c + f) = nI (v c f) from hm.2 c f (by omega) (by omega), pf_le0 (by omega)]
          refine ⟨fun y2 => same (fun _ => y2), fun y2 => ?_⟩
          rw [m_rm]
          rintro _ rfl _ rfl
          rw [nI_1]
          have := ih (f + 1) (by omega) (by omega)
          rw [msk_congr (q := fun i => (if i < c then idP v fi 12 i else if i = c then idP v fi f i else stP v fi i) ∧ i ≠ c) (fun i _ => by
            by_cases a : i < c
            · rw [if_pos a, if_pos a]; exact ⟨fun z => ⟨z, by omega⟩, fun z => z.1⟩
            · by_cases b : i = c
              · rw [if_neg a, if_pos b, if_neg a, if_pos b]
                subst b
                constructor
                · intro z; exact absurd (z.2 f (by omega) y) y2
                · intro z; exact absurd rfl z.2
              · rw [if_neg a, if_neg b, if_neg a, if_neg b]; exact ⟨fun z => ⟨z, b⟩, fun z => z.1⟩)] at this
          exact this
    have loop : ∀ m c, c ≤ C → C - c < m → w_X12_idle_12_n post m (nI (msk (fun i => if i < c then idP v fi 12 i else stP v fi i) C)) (nI c) (sUI I 248 0 0) J := by
      intro m
      induction m with
      | zero => intro c _ h; omega
      | succ m ih =>
        intro c hcC hm2
        show w_X12_idle_12_s _ _ _ _ _ J
        unfold w_X12_idle_12_s
        rw [show (sUI I 248 0 0) 248 46 = nI C from hm.1, pf_le (by omega) (by omega)]
        refine ⟨fun e => ?_, fun e => ⟨13, ?_⟩⟩
        · rw [msk_congr (q := idP v fi 12) (fun i hi => by rw [if_pos (by omega)])]
          exact hpost
        · have := inner _ c (by omega) (ih (c + 1) (by omega) (by omega)) 13 0 (by omega) (by omega)
          rw [msk_congr (q := fun i => if i < c then idP v fi 12 i else stP v fi i) (fun i _ => by
            by_cases a : i < c
            · rw [if_pos a, if_pos a]
            · by_cases b : i = c
              · rw [if_neg a, if_pos b, if_neg a]
                exact ⟨fun z => z.1, fun z => ⟨z, fun g hg => by omega⟩⟩
              · rw [if_neg a, if_neg b, if_neg a])] at this
          exact this
    have := loop (C + 1) 0 (by omega) (by omega)
    rw [msk_congr (q := stP v fi) (fun i _ => by rw [if_neg (by omega)])] at this
    exact ⟨C + 1, this⟩
  have loop : ∀ post : Int32 → sI → sJ → Prop, post (nI (msk (idP v fi 12) C)) I J → ∀ m f, f ≤ 12 → 12 - f < m → w_X11_idle_17_n post m (nI (msk (idP v fi f) C)) (nI f) I J := by
    intro post hpost
    intro m
    induction m with
    | zero => intro c _ h; omega
    | succ m ih =>
      intro f hf hm2
      show w_X11_idle_17_s _ _ _ _ I J
      unfold w_X11_idle_17_s w_X11_idle_59
      rw [show (12 : Int32) = nI 12 from rfl, pf_le (by omega) (by omega)]
      refine ⟨fun e => ?_, fun e => ⟨vp_in_nI (by omega) (by omega), ?_⟩⟩
      · rw [show f = 12 by omega]; exact hpost
      · obtain ⟨f1, f2⟩ := h1 f (by omega)
        rw [pf_cl (by omega), f2, pf_eq0 (by omega)]
        refine ⟨fun z => ?_, fun z => ?_⟩
        · rintro _ rfl
          rw [nI_1]
          have := ih (f + 1) (by omega) (by omega)
          rw [msk_congr (q := idP v fi f) (fun c _ => by
            unfold idP
            constructor
            · intro ⟨p, q⟩; exact ⟨p, fun g hg => q g (by omega)⟩
            · intro ⟨p, q⟩
              refine ⟨p, fun g hg hz => ?_⟩
              rcases Nat.lt_or_ge g f with x | x
              · exact q g x hz
              · exact absurd (show fi f = 0 by rw [← show g = f by omega]; exact hz) z)] at this
          exact this
        · refine q_saying (x := 1) hw hc (by omega) (by omega) ?_
          refine q_saying (x := 2) hw hc (by omega) (by omega) ?_
          rw [m_ors, m_andnot]
          rintro _ rfl _ rfl
          rw [nI_1]
          have := ih (f + 1) (by omega) (by omega)
          rw [msk_congr (q := fun c => idP v fi f c ∧ ¬ (v c f = 1 ∨ v c f = 2)) (fun c hcC => by
            have := hw.2.1 c f (by omega) (by omega)
            unfold idP
            constructor
            · intro ⟨p, q⟩
              have := q f (by omega) z
              exact ⟨⟨p, fun g hg => q g (by omega)⟩, by omega⟩
            · intro ⟨⟨p, q⟩, r⟩
              refine ⟨p, fun g hg hz => ?_⟩
              rcases Nat.lt_or_ge g f with x | x
              · exact q g x hz
              · rw [show g = f by omega]; omega)] at this
          exact this
  have cls : ∀ post : Int32 → sI → sJ → Prop, post (nI (msk (idP v fi 12) C)) I J → w_X11_idle I J post := by
    intro post hpost
    refine q_standingC hw hc h1 ?_
    have := loop post hpost 13 0 (by omega) (by omega)
    rw [msk_congr (q := stP v fi) (fun c _ => ⟨fun z => z.1, fun z => ⟨z, fun g hg => by omega⟩⟩)] at this
    exact ⟨13, this⟩
  exact cls _ (model _ ⟨rfl, fin⟩)
