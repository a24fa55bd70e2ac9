theorem q_maxN {I : sI} {J : sJ} {post : Int32 → sI → sJ → Prop} {a b : Nat} (ha : a < 2147483648) (hb : b < 2147483648) (h : post (nI (Nat.max a b)) I J) : w_J9_max_7cf53 (nI a) (nI b) I J post := by
  unfold w_J9_max_7cf53
  rw [pf_lt ha hb]
  refine ⟨fun q => ?_, fun q => ?_⟩
  · rw [show Nat.max a b = b from Nat.max_eq_right (by omega)] at h; exact h
  · rw [show Nat.max a b = a from Nat.max_eq_left (by omega)] at h; exact h
theorem q_leftOf {I : sI} {J : sJ} {post : Int32 → sI → sJ → Prop} {C f x : Nat} {v : Nat → Nat → Nat} {p : Nat → Prop} (hw : tWC C v) (hm : mC C v I) (hf : f < 12) (hx : 1 ≤ x ∧ x ≤ 2) (h : post (nI (msk (fun c => p c ∧ ¬ v c f = 3 - x) C)) I J) : w_X12_leftOf (nI (msk p C)) (nI f) (nI x) I J post := by
  have hC := hw.1
  obtain ⟨m1, m2⟩ := hm
  have loop : ∀ m c, c ≤ C → C - c < m → w_X12_leftOf_6_n post m (nI (msk p C)) (nI f) (nI x) (nI (msk (fun c => p c ∧ ¬ v c f = 3 - x) c)) (nI c) I J := by
    intro m
    induction m with
    | zero => intro c _ h; omega
    | succ m ih =>
      intro c hcC hm
      show w_X12_leftOf_6_s post _ _ _ _ _ _ I J
      unfold w_X12_leftOf_6_s w_X12_leftOf_58 w_X12_leftOf_51 w_X12_leftOf_59
      rw [m1, pf_le (by omega) (by omega), sh1 c (by omega), nI_1, show (12 : Int32) = nI 12 from rfl, show nI 12 * nI c + nI f = nI (12 * c + f) by rw [pk_mul, nI_add]]
      refine ⟨fun e => ?_, fun e => ⟨vp_in_nI (by omega) (by omega), ?_⟩⟩
      · rw [show c = C by omega]; exact h
      · have hv := hw.2.1 c f (by omega) (by omega)
        rw [pf_cl (by omega), m2 c f (by omega) (by omega)]
        rintro _ rfl
        rw [pf_eq0 (by omega), pf_eq (by omega) (by omega)]
        have yes : (p c ∧ ¬ v c f = 3 - x) → ∀ v4_60 : Int32, v4_60 = nI (msk (fun c => p c ∧ ¬ v c f = 3 - x) c) ||| nI (2 ^ c) → ∀ v5_62 : Int32, v5_62 = nI (c + 1) → w_X12_leftOf_6_n post m (nI (msk p C)) (nI f) (nI x) v4_60 v5_62 I J := by
          rintro y _ rfl _ rfl
          rw [m_or (p := fun c => p c ∧ ¬ v c f = 3 - x) y]
          exact ih (c + 1) (by omega) (by omega)
        have no : ¬ (p c ∧ ¬ v c f = 3 - x) → ∀ v4_60 : Int32, v4_60 = nI (msk (fun c => p c ∧ ¬ v c f = 3 - x) c) ||| 0 → ∀ v5_62 : Int32, v5_62 = nI (c + 1) → w_X12_leftOf_6_n post m (nI (msk p C)) (nI f) (nI x) v4_60 v5_62 I J := by
          rintro y _ rfl _ rfl
          rw [m_or0 (p := fun c => p c ∧ ¬ v c f = 3 - x) y]
          exact ih (c + 1) (by omega) (by omega)
        refine q_X12_has (by omega) (by omega) (fun q => b2 (by decide) ⟨fun y => yes ⟨q.2, by omega⟩, fun y => ⟨fun z => no (fun w => w.2 (by omega)), fun z => yes ⟨q.2, by omega⟩⟩⟩) (fun q => b1 rfl (no (fun w => q ⟨by omega, w.1⟩)))
  exact ⟨C + 1, loop (C + 1) 0 (by omega) (by omega)⟩
/-- the find to seek: its number and one, what it leaves at worst -/
noncomputable def skW (v : Nat → Nat → Nat) (fi : Nat → Nat) (C f : Nat) : Nat := Nat.max (cnt (fun c => stP v fi c ∧ ¬ v c f = 2) C) (cnt (fun c => stP v fi c ∧ ¬ v c f = 1) C)
def skF (fi w : Nat → Nat) : Nat → Nat × Nat
  | 0 => (0, 0)
  | f + 1 => if fi f = 0 ∧ ((skF fi w f).1 = 0 ∨ w f < (skF fi w f).2) then (f + 1, w f) else skF fi w f
def enM (b : Nat) : Int32 := if b = 0 then -2 else nI (b - 1)
theorem enM_2 {b : Nat} (hb : b ≤ 100) : enM b = -2 ↔ b = 0 := by
  unfold enM
  by_cases e : b = 0
  · rw [if_pos e]; exact ⟨fun _ => e, fun _ => rfl⟩
  · rw [if_neg e]
    refine ⟨fun q => ?_, fun q => absurd q e⟩
    have := congrArg Int32.toInt q
    rw [pf_toInt (by omega), show (-2 : Int32).toInt = -2 by decide] at this
    omega
theorem enM_lt {b : Nat} (hb : b ≤ 100) : enM b < 0 ↔ b = 0 := by
  unfold enM
  by_cases e : b = 0
  · rw [if_pos e]; exact ⟨fun _ => e, fun _ => by decide⟩
  · rw [if_neg e]; exact ⟨fun q => absurd q (pf_lt0 (by omega)), fun q => absurd q e⟩
theorem skF_le (fi w : Nat → Nat) : ∀ f, (skF fi w f).1 ≤ f
  | 0 => Nat.le_refl _
  | f + 1 => by
    have := skF_le fi w f
    rw [skF]
    split
    · exact Nat.le_refl _
    · omega
theorem skF_w (fi w : Nat → Nat) {B : Nat} (h : ∀ f, w f ≤ B) : ∀ f, (skF fi w f).2 ≤ B
  | 0 => Nat.zero_le _
  | f + 1 => by
    have := skF_w fi w h f
    rw [skF]
    split
    · exact h f
    · omega
theorem skW_le (v : Nat → Nat → Nat) (fi : Nat → Nat) (C f : Nat) : skW v fi C f ≤ C := Nat.max_le.mpr ⟨cnt_le _ _, cnt_le _ _⟩
theorem q_seekC {I : sI} {J : sJ} {post : Int32 → sI → sJ → Prop} {C : Nat} {v : Nat → Nat → Nat} {fi : Nat → Nat} (hw : tWC C v) (hc : cC C v I) (hfi : ∀ f, f < 12 → fi f ≤ 2 ∧ I 11 f = nI (fi f)) (h0 : (∀ c, c < C → ¬ stP v fi c) → post (-1) I J) (h2 : ¬ (∀ c, c < C → ¬ stP v fi c) → (skF fi (skW v fi C) 12).1 = 0 → post (-2) I J) (h : ¬ (∀ c, c < C → ¬ stP v fi c) → ¬ (skF fi (skW v fi C) 12).1 = 0 → post (enM (skF fi (skW v fi C) 12).1) (sUI (sUI I 134 1 0) 134 1 (nI 1)) (sUJ J 135 0 (nI (skF fi (skW v fi C) 12).2).toInt64)) : w_X11_seek I J post := by
  have hC := hw.1
  unfold w_X11_seek
  refine q_standingC hw hc hfi ?_
  rw [m_eq0 (by omega)]
  refine ⟨fun ne => ?_, h0⟩
  have loop : ∀ m f, f ≤ 12 → 12 - f < m → w_X11_seek_29_n post m (nI (msk (stP v fi) C)) (enM (skF fi (skW v fi C) f).1) (nI (skF fi (skW v fi C) f).2) (nI f) I J := by
    intro m
    induction m with
    | zero => intro c _ h; omega
    | succ m ih =>
      intro f hf hm
      have l1 := skF_le fi (skW v fi C) f
      have l2 := skF_w fi (skW v fi C) (fun f => skW_le v fi C f) f
      have l3 := skW_le v fi C f
      show w_X11_seek_29_s post _ _ _ _ _ I J
      unfold w_X11_seek_29_s w_X11_seek_111 w_X11_seek_117
      rw [show (12 : Int32) = nI 12 from rfl, pf_le (by omega) (by omega), enM_2 (by omega)]
      refine ⟨fun e => ?_, fun e => ⟨vp_in_nI (by omega) (by omega), ?_⟩⟩
      · have e : f = 12 := by omega
        subst e
        refine ⟨fun y => ?_, fun y => q_X6_tell (h ne y)⟩
        have := h2 ne y
        rw [y]; exact this
      · obtain ⟨f1, f2⟩ := hfi f (by omega)
        rw [pf_cl (by omega), f2, pf_eq0 (by omega)]
        have st : ∀ s, skF fi (skW v fi C) (f + 1) = s → ∀ v4_117 : Int32, v4_117 = nI f + 1 → w_X11_seek_29_n post m (nI (msk (stP v fi) C)) (enM s.1) (nI s.2) v4_117 I J := by
          rintro s e _ rfl
          rw [← e, nI_1]
          exact ih (f + 1) (by omega) (by omega)
        refine ⟨fun y => ?_, fun y => st _ (by rw [skF, if_neg (fun q => y q.1)])⟩
        refine q_saying hw hc (x := 2) (by omega) (by omega) ?_
        rw [m_andnot]
        refine q_bitCount (by omega) ?_
        refine q_saying hw hc (x := 1) (by omega) (by omega) ?_
        rw [m_andnot]
        refine q_bitCount (by omega) ?_
        have z1 := cnt_le (fun i => stP v fi i ∧ ¬ v i f = 2) C
        have z2 := cnt_le (fun i => stP v fi i ∧ ¬ v i f = 1) C
        refine q_maxN (by omega) (by omega) ?_
        show (_ → _) ∧ (_ → (nI (skF fi (skW v fi C) f).2 ≤ nI (skW v fi C f) → _) ∧ (¬ nI (skF fi (skW v fi C) f).2 ≤ nI (skW v fi C f) → _))
        rw [pf_le (by omega) (by omega)]
        have gain : (fi f = 0 ∧ ((skF fi (skW v fi C) f).1 = 0 ∨ skW v fi C f < (skF fi (skW v fi C) f).2)) → ∀ v4_117 : Int32, v4_117 = nI f + 1 → w_X11_seek_29_n post m (nI (msk (stP v fi) C)) (nI f) (nI (skW v fi C f)) v4_117 I J := fun q => st (f + 1, skW v fi C f) (by rw [skF, if_pos q])
        exact ⟨fun x => gain ⟨y, Or.inl x⟩, fun x => ⟨fun z => st _ (by rw [skF, if_neg (fun q => by omega)]), fun z => gain ⟨y, Or.inr (by omega)⟩⟩⟩
  exact ⟨13, loop 13 0 (by omega) (by omega)⟩
theorem q_seekM {I : sI} {J : sJ} {post : Int32 → sI → sJ → Prop} {C : Nat} {v : Nat → Nat → Nat} {fi : Nat → Nat} (hw : tWC C v) (hm : mC C v I) (hfi : ∀ f, f < 12 → fi f ≤ 2 ∧ I 276 f = nI (fi f)) (h0 : (∀ c, c < C → ¬ stP v fi c) → post (-1) (sUI I 248 0 0) J) (h2 : ¬ (∀ c, c < C → ¬ stP v fi c) → (skF fi (skW v fi C) 12).1 = 0 → post (-2) (sUI I 248 0 0) J) (h : ¬ (∀ c, c < C → ¬ stP v fi c) → ¬ (skF fi (skW v fi C) 12).1 = 0 → post (enM (skF fi (skW v fi C) 12).1) (sUI (sUI (sUI I 248 0 0) 248 1 0) 248 1 (nI 1)) (sUJ J 249 0 (nI (skF fi (skW v fi C) 12).2).toInt64)) : w_X12_seek I J post := by
  have hC := hw.1
  unfold w_X12_seek
  have hm' : mC C v (sUI I 248 0 0) := hm
  have hfi' : ∀ f, f < 12 → fi f ≤ 2 ∧ (sUI I 248 0 0) 276 f = nI (fi f) := hfi
  rintro _ rfl
  generalize sUI I 248 0 0 = I1 at *
  refine q_standingM hw hm' hfi' ?_
  rw [m_eq0 (by omega)]
  refine ⟨fun ne => ?_, h0⟩
  have loop : ∀ m f, f ≤ 12 → 12 - f < m → w_X12_seek_24_n post m (nI (msk (stP v fi) C)) (enM (skF fi (skW v fi C) f).1) (nI (skF fi (skW v fi C) f).2) (nI f) I1 J := by
    intro m
    induction m with
    | zero => intro c _ h; omega
    | succ m ih =>
      intro f hf hm
      have l1 := skF_le fi (skW v fi C) f
      have l2 := skF_w fi (skW v fi C) (fun f => skW_le v fi C f) f
      have l3 := skW_le v fi C f
      show w_X12_seek_24_s post _ _ _ _ _ I1 J
      unfold w_X12_seek_24_s w_X12_seek_81 w_X12_seek_87
      rw [show (12 : Int32) = nI 12 from rfl, pf_le (by omega) (by omega), enM_lt (by omega)]
      refine ⟨fun e => ?_, fun e => ⟨vp_in_nI (by omega) (by omega), ?_⟩⟩
      · have e : f = 12 := by omega
        subst e
        refine ⟨fun y => ?_, fun y => ?_⟩
        · have := h2 ne y
          rw [y]; exact this
        · rintro _ rfl
          exact q_enters (k := 0) rfl (by omega) (h ne y)
      · obtain ⟨f1, f2⟩ := hfi' f (by omega)
        rw [pf_cl (by omega), f2, pf_eq0 (by omega)]
        have st : ∀ s, skF fi (skW v fi C) (f + 1) = s → ∀ v4_117 : Int32, v4_117 = nI f + 1 → w_X12_seek_24_n post m (nI (msk (stP v fi) C)) (enM s.1) (nI s.2) v4_117 I1 J := by
          rintro s e _ rfl
          rw [← e, nI_1]
          exact ih (f + 1) (by omega) (by omega)
        refine ⟨fun y => ?_, fun y => st _ (by rw [skF, if_neg (fun q => y q.1)])⟩
        refine q_leftOf (x := 1) hw hm' (by omega) (by omega) ?_
        refine q_bitCount (by omega) ?_
        refine q_leftOf (x := 2) hw hm' (by omega) (by omega) ?_
        refine q_bitCount (by omega) ?_
        have z1 := cnt_le (fun i => stP v fi i ∧ ¬ v i f = 2) C
        have z2 := cnt_le (fun i => stP v fi i ∧ ¬ v i f = 1) C
        refine q_maxN (a := cnt (fun i => stP v fi i ∧ ¬ v i f = 2) C) (b := cnt (fun i => stP v fi i ∧ ¬ v i f = 1) C) (by omega) (by omega) ?_
        show (_ → _) ∧ (_ → (nI (skF fi (skW v fi C) f).2 ≤ nI (skW v fi C f) → _) ∧ (¬ nI (skF fi (skW v fi C) f).2 ≤ nI (skW v fi C f) → _))
        rw [pf_le (by omega) (by omega)]
        have gain : (fi f = 0 ∧ ((skF fi (skW v fi C) f).1 = 0 ∨ skW v fi C f < (skF fi (skW v fi C) f).2)) → ∀ v4_117 : Int32, v4_117 = nI f + 1 → w_X12_seek_24_n post m (nI (msk (stP v fi) C)) (nI f) (nI (skW v fi C f)) v4_117 I1 J := fun q => st (f + 1, skW v fi C f) (by rw [skF, if_pos q])
        exact ⟨fun x => gain ⟨y, Or.inl x⟩, fun x => ⟨fun z => st _ (by rw [skF, if_neg (fun q => by omega)]), fun z => gain ⟨y, Or.inr (by omega)⟩⟩⟩
  exact ⟨13, loop 13 0 (by omega) (by omega)⟩
theorem S_seek {I : sI} {J : sJ} (hR : RR0 I J) : St w_X11_seek w_X12_seek I J := by
  obtain ⟨hT, hD, hK, hW, hC, hQ, hX⟩ := hR
  obtain ⟨C, v, fi, hw, hc, hm, h1, h2⟩ := cl_get hD hC
  have fin : RR0 (sUI I 248 0 0) J := ⟨(RT_congr hT rfl rfl rfl rfl), (RD_congr hD (fun q h1 h2 => by repeat rw [sUI_ne (by omega)]) rfl rfl rfl rfl rfl rfl rfl rfl rfl rfl rfl), (RK_congr hK (fun q h1 h2 => by repeat rw [sUI_ne (by omega)]) rfl rfl), (RW_congr hW (fun q h1 h2 => by repeat rw [sUI_ne (by omega)]) rfl rfl rfl), (RC_congr hC (fun q h1 h2 => by repeat rw [sUI_ne (by omega)]) rfl rfl rfl), (RR_congr hQ rfl rfl rfl rfl), (RX_congr hX rfl rfl rfl rfl rfl)⟩
  refine q_seekC hw hc h1 (fun a => ?_) (fun a b => ?_) (fun a b => ?_)
  · exact q_seekM hw hm h2 (fun _ => ⟨rfl, fin⟩) (fun c => absurd a c) (fun c => absurd a c)
  · exact q_seekM hw hm h2 (fun c => absurd c a) (fun _ _ => ⟨rfl, fin⟩) (fun _ c => absurd b c)
  · refine q_seekM hw hm h2 (fun c => absurd c a) (fun _ c => absurd c b) (fun _ _ => ?_)
    exact ⟨rfl, (RT_congr hT rfl rfl rfl rfl), (RD_congr hD (fun q h1 h2 => by repeat rw [sUI_ne (by omega)]) rfl rfl rfl rfl rfl rfl rfl rfl rfl rfl rfl), (RK_congr hK (fun q h1 h2 => by repeat rw [sUI_ne (by omega)]) rfl rfl), (RW_congr hW (fun q h1 h2 => by repeat rw [sUI_ne (by omega)]) rfl rfl rfl), (RC_congr hC (fun q h1 h2 => by repeat rw [sUI_ne (by omega)]) rfl rfl rfl), RR_1 rfl rfl rfl rfl, (RX_congr hX rfl rfl rfl rfl rfl)⟩
