theorem q_passF {I : sI} {J : sJ} {post : Int32 → sI → sJ → Prop} {i k : Nat} {v : Int32} (hi : i < 3) (hk : k < 200) (hn : I 248 55 = nI k) (h : post v (sUI (sUI I 248 55 (nI (k + 1))) 280 (200 * i + k) v) J) : w_X12_passing (nI i) v 0 I J post := by
  unfold w_X12_passing w_X12_passing_34
  rw [hn, show (200 : Int32) = nI 200 from rfl, pk_mul, nI_add, nI_1]
  rintro _ rfl _ rfl
  refine b4 rfl ⟨vp_in_nI (by omega) (by omega), ?_⟩
  rw [pf_cl (by omega), show i * 200 + k = 200 * i + k by omega]
  rintro _ rfl
  refine ⟨vp_in_nI (by omega) (by omega), ?_⟩
  rw [pf_uis, if_pos rfl]
  exact h
theorem q_passB {I : sI} {J : sJ} {post : Int32 → sI → sJ → Prop} {i k : Nat} {v : Int32} (hi : i < 3) (hk : k < 200) (hn : I 248 55 = nI k) (h : post (I 280 (200 * i + k)) (sUI I 248 55 (nI (k + 1))) J) : w_X12_passing (nI i) v 1 I J post := by
  unfold w_X12_passing w_X12_passing_34
  rw [hn, show (200 : Int32) = nI 200 from rfl, pk_mul, nI_add, nI_1]
  rintro _ rfl _ rfl
  refine b3 (by decide) ⟨vp_in_nI (by omega) (by omega), ?_⟩
  rw [pf_cl (by omega), show i * 200 + k = 200 * i + k by omega, pf_ui, if_neg (by omega)]
  exact h
/-- the cell whose number is noted as number j -/
def pC (j : Nat) : Nat × Nat := if j = 0 then (248, 11) else if j = 1 then (248, 12) else if j = 2 then (248, 15) else if j = 3 then (248, 21) else if j = 4 then (248, 22) else if j = 5 then (248, 23) else if j < 54 then ((if (j - 6) % 4 = 0 then 253 else if (j - 6) % 4 = 1 then 255 else if (j - 6) % 4 = 2 then 256 else 276), (j - 6) / 4) else (254, j - 54)
theorem pC_g : ∀ g, g < 12 → pC (6 + 4 * g) = (253, g) ∧ pC (7 + 4 * g) = (255, g) ∧ pC (8 + 4 * g) = (256, g) ∧ pC (9 + 4 * g) = (276, g) := by decide +kernel
theorem pC_p : ∀ p, p < 80 → pC (54 + p) = (254, p) := by decide +kernel
theorem pC_row : ∀ j, j < 134 → (pC j).1 = 248 ∧ ((pC j).2 = 11 ∨ (pC j).2 = 12 ∨ (pC j).2 = 15 ∨ (pC j).2 = 21 ∨ (pC j).2 = 22 ∨ (pC j).2 = 23) ∨ (pC j).1 = 253 ∨ (pC j).1 = 254 ∨ (pC j).1 = 255 ∨ (pC j).1 = 256 ∨ (pC j).1 = 276 := by decide +kernel
theorem pC_inj : ∀ j, j < 134 → ∀ k, k < 134 → pC j = pC k → j = k := by decide +kernel
/-- forwards: m numbers are noted in slot i -/
def fW (i m : Nat) (I I1 : sI) : Prop := I1 248 55 = nI m ∧ (∀ q, ¬ (q = 248 ∨ q = 280) → I1 q = I q) ∧ (∀ k, ¬ k = 55 → I1 248 k = I 248 k) ∧ (∀ j, ¬ (200 * i ≤ j ∧ j < 200 * i + m) → I1 280 j = I 280 j) ∧ ∀ j, j < m → I1 280 (200 * i + j) = I (pC j).1 (pC j).2
theorem fW_at {i m : Nat} {I I1 : sI} (h : fW i m I I1) {p k : Nat} (hp : ¬ p = 280) (hpk : ¬ (p = 248 ∧ k = 55)) : I1 p k = I p k := by
  by_cases e : p = 248
  · subst e; exact h.2.2.1 k (fun z => hpk ⟨rfl, z⟩)
  · rw [h.2.1 p (by omega)]
theorem fW_s {i m p k : Nat} {I I1 : sI} {v : Int32} (h : fW i m I I1) (hm : m < 134) (hpc : pC m = (p, k)) (hv : I p k = v) : fW i (m + 1) I (sUI (sUI (sUI I1 248 55 (nI (m + 1))) 280 (200 * i + m) v) p k v) := by
  have hr := pC_row m hm
  rw [hpc] at hr
  dsimp only at hr
  obtain ⟨h1, h2, h3, h4, h5⟩ := id h
  have hp : ¬ p = 280 := by omega
  have hpk : ¬ (p = 248 ∧ k = 55) := by omega
  have same : ∀ q j, ¬ q = 280 → ¬ (q = 248 ∧ j = 55) → (sUI (sUI (sUI I1 248 55 (nI (m + 1))) 280 (200 * i + m) v) p k v) q j = I q j := by
    intro q j hq hqj
    rw [pf_ui]
    split
    · rename_i e; rw [e.1, e.2, hv]
    · rw [pf_ui, if_neg (by omega), pf_ui, if_neg hqj]
      exact fW_at h hq hqj
  refine ⟨?_, fun q hq => ?_, fun j hj => same 248 j (by omega) (by omega), fun j hj => ?_, fun j hj => ?_⟩
  · rw [pf_ui, if_neg (by omega), pf_ui, if_neg (by omega), pf_uis, if_pos rfl]
  · funext j; exact same q j (by omega) (by omega)
  · rw [pf_ui, if_neg (by omega), pf_uis, if_neg (by omega), pf_ui, if_neg (by omega)]; exact h4 j (by omega)
  · rw [pf_ui, if_neg (by omega), pf_uis]
    split
    · rename_i e; rw [show j = m by omega, hpc]; exact hv.symm
    · rw [pf_ui, if_neg (by omega)]; exact h5 j (by omega)
/-- backwards: m numbers are read from slot i -/
def bW (i m : Nat) (I I1 : sI) : Prop := I1 248 55 = nI m ∧ (∀ q, ¬ (q = 248 ∨ q = 253 ∨ q = 254 ∨ q = 255 ∨ q = 256 ∨ q = 276) → I1 q = I q) ∧ (∀ k, ¬ (k = 11 ∨ k = 12 ∨ k = 15 ∨ k = 21 ∨ k = 22 ∨ k = 23 ∨ k = 55) → I1 248 k = I 248 k) ∧ ∀ j, j < m → I1 (pC j).1 (pC j).2 = I 280 (200 * i + j)
theorem bW_s {i m p k : Nat} {I I1 : sI} {v : Int32} (h : bW i m I I1) (hm : m < 134) (hpc : pC m = (p, k)) (hv : I 280 (200 * i + m) = v) : bW i (m + 1) I (sUI (sUI I1 248 55 (nI (m + 1))) p k v) := by
  have hr := pC_row m hm
  rw [hpc] at hr
  dsimp only at hr
  obtain ⟨h1, h2, h3, h4⟩ := id h
  refine ⟨?_, fun q hq => ?_, fun j hj => ?_, fun j hj => ?_⟩
  · rw [pf_ui, if_neg (by omega), pf_uis, if_pos rfl]
  · rw [sUI_ne (by omega), sUI_ne (by omega)]; exact h2 q hq
  · rw [pf_ui, if_neg (by omega), pf_uis, if_neg (by omega)]; exact h3 j hj
  · by_cases e : j = m
    · subst e
      rw [hpc, pf_ui, if_pos ⟨rfl, rfl⟩, hv]
    · have hne : ¬ ((pC j).1 = p ∧ (pC j).2 = k) := fun z => e (pC_inj j (by omega) m hm (by rw [hpc]; exact Prod.ext z.1 z.2))
      have hrj := pC_row j (by omega)
      rw [pf_ui, if_neg hne, pf_ui, if_neg (by omega)]
      exact h4 j (by omega)
theorem q_passesF {I : sI} {J : sJ} {post : sI → sJ → Prop} {i bk : Nat} (hi : i < 3) (hb : I 248 23 = nI bk) (hbk : bk ≤ 1) (h : ∀ I2 : sI, fW i 134 I I2 → post I2 J) : w_X12_passes (nI i) 0 I J post := by
  have loop2 : ∀ m p (I1 : sI), p ≤ 80 → 80 - p < m → fW i (54 + p) I I1 → w_X12_passes_189_n post m (nI i) 0 (nI p) I1 J := by
    intro m
    induction m with
    | zero => intro p I1 _ hm; omega
    | succ m ih =>
      intro p I1 hp hm F
      show w_X12_passes_189_s post _ _ _ _ I1 J
      unfold w_X12_passes_189_s
      rw [show (80 : Int32) = nI 80 from rfl, pf_le (by omega) (by omega)]
      refine ⟨fun e => ?_, fun e => ⟨vp_in_nI (by omega) (by omega), ?_⟩⟩
      · rw [show p = 80 by omega] at F
        exact h I1 F
      · rw [pf_cl (by omega)]
        refine q_passF hi (show 54 + p < 200 by omega) F.1 ⟨vp_in_nI (by omega) (by omega), ?_⟩
        rintro _ rfl _ rfl
        rw [nI_1]
        exact ih (p + 1) _ (by omega) (by omega) (fW_s (m := 54 + p) F (by omega) (pC_p p (by omega)) (fW_at F (by omega) (by omega)).symm)
  have loop1 : ∀ m g (I1 : sI), g ≤ 12 → 12 - g < m → fW i (6 + 4 * g) I I1 → w_X12_passes_103_n post m (nI i) 0 (nI g) I1 J := by
    intro m
    induction m with
    | zero => intro p I1 _ hm; omega
    | succ m ih =>
      intro g I1 hg hm F
      show w_X12_passes_103_s post _ _ _ _ I1 J
      unfold w_X12_passes_103_s
      rw [show (12 : Int32) = nI 12 from rfl, pf_le (by omega) (by omega)]
      refine ⟨fun e => ?_, fun e => ⟨vp_in_nI (by omega) (by omega), ?_⟩⟩
      · rw [show g = 12 by omega] at F
        exact ⟨81, loop2 81 0 I1 (by omega) (by omega) F⟩
      · obtain ⟨p1, p2, p3, p4⟩ := pC_g g (by omega)
        rw [pf_cl (by omega)]
        refine q_passF hi (show 6 + 4 * g < 200 by omega) F.1 ⟨vp_in_nI (by omega) (by omega), ?_⟩
        rintro _ rfl
        have F := fW_s F (by omega) p1 (fW_at F (by omega) (by omega)).symm
        generalize sUI (sUI (sUI I1 248 55 (nI (6 + 4 * g + 1))) 280 (200 * i + (6 + 4 * g)) (I1 253 g)) 253 g (I1 253 g) = I1 at F ⊢
        refine ⟨vp_in_nI (by omega) (by omega), q_passF hi (show 7 + 4 * g < 200 by omega) (by rw [show 7 + 4 * g = 6 + 4 * g + 1 by omega]; exact F.1) ⟨vp_in_nI (by omega) (by omega), ?_⟩⟩
        rintro _ rfl
        rw [show 6 + 4 * g + 1 = 7 + 4 * g by omega] at F
        have F := fW_s F (by omega) p2 (fW_at F (by omega) (by omega)).symm
        generalize sUI (sUI (sUI I1 248 55 (nI (7 + 4 * g + 1))) 280 (200 * i + (7 + 4 * g)) (I1 255 g)) 255 g (I1 255 g) = I1 at F ⊢
        refine ⟨vp_in_nI (by omega) (by omega), q_passF hi (show 8 + 4 * g < 200 by omega) (by rw [show 8 + 4 * g = 7 + 4 * g + 1 by omega]; exact F.1) ⟨vp_in_nI (by omega) (by omega), ?_⟩⟩
        rintro _ rfl
        rw [show 7 + 4 * g + 1 = 8 + 4 * g by omega] at F
        have F := fW_s F (by omega) p3 (fW_at F (by omega) (by omega)).symm
        generalize sUI (sUI (sUI I1 248 55 (nI (8 + 4 * g + 1))) 280 (200 * i + (8 + 4 * g)) (I1 256 g)) 256 g (I1 256 g) = I1 at F ⊢
        refine ⟨vp_in_nI (by omega) (by omega), q_passF hi (show 9 + 4 * g < 200 by omega) (by rw [show 9 + 4 * g = 8 + 4 * g + 1 by omega]; exact F.1) ⟨vp_in_nI (by omega) (by omega), ?_⟩⟩
        rintro _ rfl
        rw [show 8 + 4 * g + 1 = 9 + 4 * g by omega] at F
        have F := fW_s F (by omega) p4 (fW_at F (by omega) (by omega)).symm
        rintro _ rfl
        rw [nI_1]
        rw [show 9 + 4 * g + 1 = 6 + 4 * (g + 1) by omega] at F
        rw [show 9 + 4 * g + 1 = 6 + 4 * (g + 1) by omega]
        exact ih (g + 1) _ (by omega) (by omega) F
  unfold w_X12_passes
  rintro _ rfl
  have F : fW i 0 I (sUI I 248 55 0) := ⟨rfl, fun q hq => sUI_ne (by omega), fun k hk => by rw [pf_uis, if_neg hk], fun j hj => by rw [pf_ui, if_neg (by omega)], fun j hj => by omega⟩
  generalize sUI I 248 55 0 = I1 at F ⊢
  refine q_passF hi (show 0 < 200 by omega) F.1 ?_
  rintro _ rfl
  have F := fW_s F (by omega) (show pC 0 = (248, 11) by decide) (fW_at F (by omega) (by omega)).symm
  generalize sUI (sUI (sUI I1 248 55 (nI (0 + 1))) 280 (200 * i + 0) (I1 248 11)) 248 11 (I1 248 11) = I1 at F ⊢
  refine q_passF hi (show 0 + 1 < 200 by omega) F.1 ?_
  rintro _ rfl
  have F := fW_s F (by omega) (show pC (0 + 1) = (248, 12) by decide) (fW_at F (by omega) (by omega)).symm
  generalize sUI (sUI (sUI I1 248 55 (nI (0 + 1 + 1))) 280 (200 * i + (0 + 1)) (I1 248 12)) 248 12 (I1 248 12) = I1 at F ⊢
  refine q_passF hi (show 0 + 1 + 1 < 200 by omega) F.1 ?_
  rintro _ rfl
  have F := fW_s F (by omega) (show pC (0 + 1 + 1) = (248, 15) by decide) (fW_at F (by omega) (by omega)).symm
  generalize sUI (sUI (sUI I1 248 55 (nI (0 + 1 + 1 + 1))) 280 (200 * i + (0 + 1 + 1)) (I1 248 15)) 248 15 (I1 248 15) = I1 at F ⊢
  refine q_passF hi (show 0 + 1 + 1 + 1 < 200 by omega) F.1 ?_
  rintro _ rfl
  have F := fW_s F (by omega) (show pC (0 + 1 + 1 + 1) = (248, 21) by decide) (fW_at F (by omega) (by omega)).symm
  generalize sUI (sUI (sUI I1 248 55 (nI (0 + 1 + 1 + 1 + 1))) 280 (200 * i + (0 + 1 + 1 + 1)) (I1 248 21)) 248 21 (I1 248 21) = I1 at F ⊢
  refine q_passF hi (show 0 + 1 + 1 + 1 + 1 < 200 by omega) F.1 ?_
  rintro _ rfl
  have F := fW_s F (by omega) (show pC (0 + 1 + 1 + 1 + 1) = (248, 22) by decide) (fW_at F (by omega) (by omega)).symm
  generalize sUI (sUI (sUI I1 248 55 (nI (0 + 1 + 1 + 1 + 1 + 1))) 280 (200 * i + (0 + 1 + 1 + 1 + 1)) (I1 248 22)) 248 22 (I1 248 22) = I1 at F ⊢
  have e23 : I1 248 23 = nI bk := by rw [fW_at F (by omega) (by omega)]; exact hb
  have main : ∀ r : Int32, r = nI bk → w_X12_passing (nI i) r 0 I1 J (fun (r_86 : Int32) (I_86 : sI) (J_86 : sJ) => ((¬ r_86 = 1 → w_X12_passes_98 post (nI i) 0 0 I_86 J_86) ∧ (r_86 = 1 → w_X12_passes_98 post (nI i) 0 1 I_86 J_86))) := by
    rintro _ rfl
    refine q_passF hi (show 0 + 1 + 1 + 1 + 1 + 1 < 200 by omega) F.1 ?_
    have F := fW_s F (by omega) (show pC (0 + 1 + 1 + 1 + 1 + 1) = (248, 23) by decide) hb
    have go : w_X12_passes_98 post (nI i) 0 (nI bk) (sUI (sUI I1 248 55 (nI (0 + 1 + 1 + 1 + 1 + 1 + 1))) 280 (200 * i + (0 + 1 + 1 + 1 + 1 + 1)) (nI bk)) J := by
      unfold w_X12_passes_98
      refine ⟨by rcases (show bk = 0 ∨ bk = 1 by omega) with rfl | rfl; exact Or.inl rfl; exact Or.inr rfl, ?_⟩
      rintro _ rfl
      exact ⟨13, loop1 13 0 _ (by omega) (by omega) F⟩
    rcases (show bk = 0 ∨ bk = 1 by omega) with rfl | rfl
    · exact b3 (by decide) go
    · exact b4 rfl go
  rw [e23]
  rcases (show bk = 0 ∨ bk = 1 by omega) with e | e
  · exact q_flag (fun _ => main 0 (by rw [e]; rfl)) (fun z => absurd (by rw [e]; rfl) z)
  · exact q_flag (fun z => absurd z (by rw [e]; decide)) (fun _ => main 1 (by rw [e]; rfl))
