theorem sR228 : ∀ c, c < 10 → sR 228 c = 229 + c := by decide +kernel
theorem sR41 : ∀ t, t < 4 → sR 41 t = 42 + 23 * t := by decide +kernel
theorem sR12 : ∀ t, t < 3 → sR 12 t = 13 + 9 * t := by decide +kernel
theorem sR143 : ∀ t, t < 24 → sR 143 t = 144 + t := by decide +kernel
theorem sR168 : ∀ t, t < 24 → sR 168 t = 169 + t := by decide +kernel
theorem sR193 : ∀ t, t < 24 → sR 193 t = 194 + t := by decide +kernel
theorem sRlex : ∀ t, t < 4 → sR (42 + 23 * t) 0 = 43 + 23 * t ∧ sR (42 + 23 * t) 1 = 64 + 23 * t ∧ ∀ w, w < 20 → sR (43 + 23 * t) w = 44 + 23 * t + w := by decide +kernel
theorem sRtold : ∀ t, t ∈ [3, 13, 22, 31] → sR t 0 = t + 1 ∧ sR t 1 = t + 5 ∧ sR t 2 = t + 8 := by decide +kernel
theorem sRdisc : ∀ t, t ∈ [4, 14, 23, 32, 138] → sR t 0 = t + 1 ∧ sR t 1 = t + 2 ∧ sR t 2 = t + 3 := by decide +kernel
theorem sRover : ∀ t, t ∈ [8, 18, 27, 36] → sR t 0 = t + 1 ∧ sR t 1 = t + 2 := by decide +kernel
theorem sRrow : ∀ t, t ∈ [134, 136] → sR t 0 = t + 1 := by decide +kernel
theorem sRbig : ∀ t, t ∈ [243, 245] → sR t 0 = t + 1 := by decide +kernel
theorem ix3 {a : Int32} : (¬ a < 0 ∧ a ≤ 2) ↔ Ix a 3 := by
  constructor
  · intro ⟨h1, h2⟩
    refine ix_lt (by omega) h1 (fun q => ?_)
    have := Int32.le_trans q h2
    exact absurd this (by decide)
  · intro h
    obtain ⟨c, hc, rfl⟩ := h
    refine ⟨pf_lt0 (by omega), ?_⟩
    rw [show (2 : Int32) = nI 2 from rfl, pf_le (by omega) (by omega)]
    omega
theorem q_X11_says {I : sI} {J : sJ} {post : Int32 → sI → sJ → Prop} {a1 a2 a3 : Int32} {C : Nat} (hc1 : I 227 1 = nI C) (hC1 : C ≤ 10) (h1 : ∀ c f x, c < C → f < 12 → x < 3 → a1 = nI c → a2 = nI f → a3 = nI x → post (I (229 + c) f) (sUI I (229 + c) f (nI x)) J) (h2 : ¬ (Ix a1 C ∧ Ix a2 12 ∧ Ix a3 3) → post (-1) I J) : w_X11_says a1 a2 a3 I J post := by
  unfold w_X11_says
  refine q_X1_has hc1 hC1 (fun g1 => b2 (by decide) ?_) (fun z => b1 rfl (h2 fun y => z y.1))
  refine q_X11_isFind (fun g2 => b2 (by decide) ?_) (fun z => b1 rfl (h2 fun y => z y.2.1))
  refine ⟨fun z => h2 fun y => ix_ge0 (by omega) y.2.2 z, fun g3 => ⟨fun g4 => ?_, fun z => h2 fun y => z (ix3.mpr y.2.2).2⟩⟩
  obtain ⟨c, hc, rfl⟩ := g1
  obtain ⟨f, hf, rfl⟩ := g2
  obtain ⟨x, hx, rfl⟩ := ix3.mp ⟨g3, g4⟩
  refine ⟨vp_in_nI (by omega) (by omega), vp_in_nI (by omega) (by omega), ?_⟩
  rintro _ rfl
  refine ⟨vp_in_nI (by omega) (by omega), vp_in_nI (by omega) (by omega), ?_⟩
  rintro _ rfl
  rw [pf_cl (by omega), pf_cl (by omega), sR228 c (by omega)]
  exact h1 c f x hc hf hx rfl rfl rfl
theorem q_X12_says {I : sI} {J : sJ} {post : Int32 → sI → sJ → Prop} {a1 a2 a3 : Int32} {C : Nat} (hm1 : I 248 46 = nI C) (hC1 : C ≤ 10) (h1 : ∀ c f x, c < C → f < 12 → x < 3 → a1 = nI c → a2 = nI f → a3 = nI x → post (I 275 (12 * c + f)) (sUI (sUI I 248 0 0) 275 (12 * c + f) (nI x)) J) (h2 : ¬ (Ix a1 C ∧ Ix a2 12 ∧ Ix a3 3) → post (-1) (sUI I 248 0 0) J) : w_X12_says a1 a2 a3 I J post := by
  unfold w_X12_says
  rintro _ rfl
  refine q_X12_isClaim (C := C) hm1 hC1 (fun g1 => b2 (by decide) ?_) (fun z => b1 rfl (h2 fun y => z y.1))
  refine q_inx 12 (by omega) (hi := 11) rfl rfl (fun g2 => b2 (by decide) ?_) (fun z => b1 rfl (h2 fun y => z y.2.1))
  refine q_inx 3 (by omega) (hi := 2) rfl rfl (fun g3 => b3 (by decide) ?_) (fun z => b4 rfl (h2 fun y => z y.2.2))
  obtain ⟨c, hc, rfl⟩ := g1
  obtain ⟨f, hf, rfl⟩ := g2
  obtain ⟨x, hx, rfl⟩ := g3
  rw [show 12 * nI c + nI f = nI (12 * c + f) by rw [show (12 : Int32) = nI 12 from rfl, pk_mul, nI_add]]
  refine ⟨vp_in_nI (by omega) (by omega), ?_⟩
  rintro _ rfl
  refine ⟨vp_in_nI (by omega) (by omega), ?_⟩
  rintro _ rfl
  rw [pf_cl (by omega)]
  exact h1 c f x hc hf hx rfl rfl rfl
theorem RC_set {I I2 : sI} {C : Nat} {v : Nat → Nat → Nat} (hC : tWC C v) (hc : cC C v I) (hm : mC C v I) {c f x : Nat} (h1 : c < C) (h2 : f < 12) (h3 : x < 3) (e1 : ∀ c2 f2, c2 < 10 → f2 < 12 → I2 (229 + c2) f2 = if c2 = c ∧ f2 = f then nI x else I (229 + c2) f2) (e2 : ∀ c2 f2, c2 < 10 → f2 < 12 → I2 275 (12 * c2 + f2) = if c2 = c ∧ f2 = f then nI x else I 275 (12 * c2 + f2)) (e3 : I2 227 1 = I 227 1) (e4 : I2 248 46 = I 248 46) : RC I2 := by
  refine ⟨C, fun c2 f2 => if c2 = c ∧ f2 = f then x else v c2 f2, ⟨hC.1, fun c2 f2 a b => ?_, fun c2 f2 a b d => ?_⟩, ⟨by rw [e3]; exact hc.1, fun c2 f2 a b => ?_⟩, by rw [e4]; exact hm.1, fun c2 f2 a b => ?_⟩
  · show (if c2 = c ∧ f2 = f then x else v c2 f2) ≤ 2
    split
    · omega
    · exact hC.2.1 c2 f2 a b
  · show (if c2 = c ∧ f2 = f then x else v c2 f2) = 0
    rw [if_neg (by omega)]
    exact hC.2.2 c2 f2 a b d
  · show _ = nI (if c2 = c ∧ f2 = f then x else v c2 f2)
    rw [e1 c2 f2 a b, hc.2 c2 f2 a b]
    split <;> rfl
  · show _ = nI (if c2 = c ∧ f2 = f then x else v c2 f2)
    rw [e2 c2 f2 a b, hm.2 c2 f2 a b]
    split <;> rfl
theorem S_says {I : sI} {J : sJ} (a1 a2 a3 : Int32) (hR : RR0 I J) : St (w_X11_says a1 a2 a3) (w_X12_says a1 a2 a3) I J := by
  obtain ⟨hT, hD, hK, hW, hC, hQ, hX⟩ := hR
  obtain ⟨C, v, hwf, hc, hm⟩ := id hC
  have hC1 := hwf.1
  refine q_X11_says hc.1 hC1 (fun c f x g1 g2 g3 e1 e2 e3 => ?_) (fun z => ?_)
  · have hh : Ix a1 C ∧ Ix a2 12 ∧ Ix a3 3 := ⟨⟨c, g1, e1⟩, ⟨f, g2, e2⟩, ⟨x, g3, e3⟩⟩
    subst e1 e2 e3
    refine q_X12_says (C := C) (by rw [pf_ui, if_neg (by omega)]; exact hm.1) hC1 (fun c' f' x' k1 k2 k3 e1 e2 e3 => ?_) (fun z => absurd hh z)
    have z1 : c = c' := (pf_eq (by omega) (by omega)).mp e1
    have z2 : f = f' := (pf_eq (by omega) (by omega)).mp e2
    have z3 : x = x' := (pf_eq (by omega) (by omega)).mp e3
    subst z1 z2 z3
    have r1 : ∀ q, ¬ (q = 229 + c ∨ q = 248 ∨ q = 275) → (sUI (sUI (sUI I (229 + c) f (nI x)) 248 0 0) 275 (12 * c + f) (nI x)) q = I q := fun q a => by rw [sUI_ne (by omega), sUI_ne (by omega), sUI_ne (by omega)]
    have s1 : ∀ k, ¬ k = 0 → (sUI (sUI (sUI I (229 + c) f (nI x)) 248 0 0) 275 (12 * c + f) (nI x)) 248 k = I 248 k := fun k hk => by rw [pf_ui, if_neg (by omega), pf_ui, if_neg (by omega), pf_ui, if_neg (by omega)]
    refine ⟨?_, (RT_congr hT (by rw [r1 1 (by omega)]) (r1 2 (by omega)) (s1 4 (by omega)) (r1 250 (by omega))), (RD_congr hD (fun q h1 h2 => r1 q (by omega)) (r1 253 (by omega)) (r1 254 (by omega)) (r1 255 (by omega)) (r1 256 (by omega)) (r1 276 (by omega)) (s1 11 (by omega)) (s1 12 (by omega)) (s1 15 (by omega)) (s1 21 (by omega)) (s1 22 (by omega)) (s1 23 (by omega))), (RK_congr hK (fun q h1 h2 => r1 q (by omega)) (r1 279 (by omega)) (r1 280 (by omega))), (RW_congr hW (fun q h1 h2 => r1 q (by omega)) (r1 257 (by omega)) (r1 258 (by omega)) (r1 259 (by omega))), ?_, (RR_congr hQ (by rw [r1 134 (by omega)]) (s1 1 (by omega)) rfl rfl), (RX_congr hX (by rw [r1 0 (by omega)]) (s1 37 (by omega)) (by rw [r1 0 (by omega)]) (s1 33 (by omega)) (by rw [r1 141 (by omega)]))⟩
    · rw [pf_ui, if_neg (by omega), hc.2 c f (by omega) g2, hm.2 c f (by omega) g2]
    · refine RC_set hwf hc hm g1 g2 g3 (fun c2 f2 k3 k4 => ?_) (fun c2 f2 k3 k4 => ?_) (by rw [r1 227 (by omega)]) (s1 46 (by omega))
      · rw [pf_ui, if_neg (by omega), pf_ui, if_neg (by omega), pf_ui]
        by_cases hh : c2 = c ∧ f2 = f
        · rw [if_pos ⟨by omega, hh.2⟩, if_pos hh]
        · rw [if_neg (by omega), if_neg hh]
      · rw [pf_uis]
        by_cases hh : c2 = c ∧ f2 = f
        · rw [if_pos (by omega), if_pos hh]
        · rw [if_neg (by omega), if_neg hh, pf_ui, if_neg (by omega), pf_ui, if_neg (by omega)]
  · refine q_X12_says (C := C) hm.1 hC1 (fun c' f' x' k1 k2 k3 e1 e2 e3 => absurd ⟨⟨c', k1, e1⟩, ⟨f', k2, e2⟩, ⟨x', k3, e3⟩⟩ z) (fun _ => ?_)
    exact ⟨rfl, (RT_congr hT rfl rfl rfl rfl), (RD_congr hD (fun q h1 h2 => by repeat rw [sUI_ne (by omega)]) rfl rfl rfl rfl rfl rfl rfl rfl rfl rfl rfl), (RK_congr hK (fun q h1 h2 => by repeat rw [sUI_ne (by omega)]) rfl rfl), (RW_congr hW (fun q h1 h2 => by repeat rw [sUI_ne (by omega)]) rfl rfl rfl), (RC_congr hC (fun q h1 h2 => by repeat rw [sUI_ne (by omega)]) rfl rfl rfl), (RR_congr hQ rfl rfl rfl rfl), (RX_congr hX rfl rfl rfl rfl rfl)⟩
