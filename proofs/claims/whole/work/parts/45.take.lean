theorem tWD_le {G P : Nat} {s κ : Nat → Nat} (h : tWD G P s κ) : ∀ k g, g + k = G → s g ≤ P
  | 0, g, e => by rw [← h.2.2.2.1, show g = G by omega]; exact Nat.le_refl _
  | k + 1, g, e => by
    have h1 := tWD_le h k (g + 1) (by omega)
    have h2 := (h.2.2.2.2.1 g (by omega)).1
    omega
theorem q_X2_take {I : sI} {J : sJ} {post : sI → sJ → Prop} {d0 d1 G P : Nat} {s κ : Nat → Nat} (m0 : d0 ∈ [4, 14, 23, 32, 138]) (m1 : d1 ∈ [4, 14, 23, 32, 138]) (hne : d0 + 3 < d1 ∨ d1 + 3 < d0) (hw : tWD G P s κ) (hc : cD G P s κ d1 I) (h : ∀ I2 : sI, (∀ q, ¬ (d0 ≤ q ∧ q ≤ d0 + 3) → I2 q = I q) → cD G P s κ d0 I2 → post I2 J) : w_X2_take d0 d1 I J post := by
  obtain ⟨z0, z1, z2⟩ := sRdisc d0 m0
  obtain ⟨y0, y1, y2⟩ := sRdisc d1 m1
  obtain ⟨c1, c2, c3, c4, c5⟩ := hc
  obtain ⟨w1, w2, w3, w4, w5, w6⟩ := id hw
  have loop2 : ∀ m p (I1 : sI), p ≤ P → P - p < m → (∀ q, ¬ (d0 ≤ q ∧ q ≤ d0 + 3) → I1 q = I q) → I1 d0 3 = nI G → I1 d0 4 = nI P → (∀ g, g ≤ G → I1 (d0 + 3) g = nI (s g)) → (∀ i, i < p → I1 (d0 + 1) i = I (d1 + 1) i ∧ I1 (d0 + 2) i = I (d1 + 2) i) → w_X2_take_46_n d0 d1 post m (nI p) I1 J := by
    intro m
    induction m with
    | zero => intro p I1 _ hm; omega
    | succ m ih =>
      intro p I1 hp hm fr f3 f4 f5 f6
      show w_X2_take_46_s d0 d1 post _ _ I1 J
      unfold w_X2_take_46_s
      rw [z0, z1, y0, y1, f4, pf_le (by omega) (by omega)]
      refine ⟨fun e => ?_, fun e => ⟨vp_in_nI (by omega) (by omega), vp_in_nI (by omega) (by omega), ?_⟩⟩
      · refine h I1 fr ⟨f3, f4, f5, fun i hi => by rw [(f6 i (by omega)).1]; exact c4 i hi, fun g i hg h1 h2 => ?_⟩
        have := tWD_le hw (G - (g + 1)) (g + 1) (by omega)
        rw [(f6 i (by omega)).2]
        exact c5 g i hg h1 h2
      · rw [pf_cl (by omega), fr (d1 + 1) (by omega)]
        rintro _ rfl
        refine ⟨vp_in_nI (by omega) (by omega), vp_in_nI (by omega) (by omega), ?_⟩
        rw [show (sUI I1 (d0 + 1) p (I (d1 + 1) p)) (d1 + 2) p = I (d1 + 2) p by rw [pf_ui, if_neg (by omega), fr _ (by omega)]]
        rintro _ rfl _ rfl
        rw [nI_1]
        refine ih (p + 1) _ (by omega) (by omega) (fun q hq => ?_) ?_ ?_ (fun g hg => ?_) (fun i hi => ⟨?_, ?_⟩)
        · rw [sUI_ne (by omega), sUI_ne (by omega)]; exact fr q hq
        · rw [pf_ui, if_neg (by omega), pf_ui, if_neg (by omega)]; exact f3
        · rw [pf_ui, if_neg (by omega), pf_ui, if_neg (by omega)]; exact f4
        · rw [pf_ui, if_neg (by omega), pf_ui, if_neg (by omega)]; exact f5 g hg
        · rw [pf_ui, if_neg (by omega), pf_uis]
          split
          · rename_i e2; rw [e2]
          · exact (f6 i (by omega)).1
        · rw [pf_uis]
          split
          · rename_i e2; rw [e2]
          · rw [pf_ui, if_neg (by omega)]; exact (f6 i (by omega)).2
  have loop1 : ∀ m g (I1 : sI), g ≤ G + 1 → G + 1 - g < m → (∀ q, ¬ (d0 ≤ q ∧ q ≤ d0 + 3) → I1 q = I q) → I1 d0 3 = nI G → I1 d0 4 = nI P → (∀ k, k < g → I1 (d0 + 3) k = nI (s k)) → w_X2_take_18_n d0 d1 post m (nI g) I1 J := by
    intro m
    induction m with
    | zero => intro p I1 _ hm; omega
    | succ m ih =>
      intro g I1 hg hm fr f3 f4 f5
      show w_X2_take_18_s d0 d1 post _ _ I1 J
      unfold w_X2_take_18_s
      rw [z2, y2, f3, pf_lt (by omega) (by omega)]
      refine ⟨fun e => ⟨P + 1, loop2 (P + 1) 0 I1 (by omega) (by omega) fr f3 f4 (fun k hk => f5 k (by omega)) (fun i hi => by omega)⟩, fun e => ⟨vp_in_nI (by omega) (by omega), vp_in_nI (by omega) (by omega), ?_⟩⟩
      rw [pf_cl (by omega), fr (d1 + 3) (by omega), c3 g (by omega)]
      rintro _ rfl _ rfl
      rw [nI_1]
      refine ih (g + 1) _ (by omega) (by omega) (fun q hq => ?_) ?_ ?_ (fun k hk => ?_)
      · rw [sUI_ne (by omega)]; exact fr q hq
      · rw [pf_ui, if_neg (by omega)]; exact f3
      · rw [pf_ui, if_neg (by omega)]; exact f4
      · rw [pf_uis]
        split
        · rename_i e2; rw [e2]
        · exact f5 k (by omega)
  unfold w_X2_take
  rw [c1]
  rintro _ rfl
  rw [show (sUI I d0 3 (nI G)) d1 4 = nI P by rw [pf_ui, if_neg (by omega)]; exact c2]
  rintro _ rfl
  refine ⟨G + 2, loop1 (G + 2) 0 _ (by omega) (by omega) (fun q hq => ?_) ?_ ?_ (fun k hk => by omega)⟩
  · rw [sUI_ne (by omega), sUI_ne (by omega)]
  · rw [pf_uis, if_neg (by omega), pf_uis, if_pos rfl]
  · rw [pf_uis, if_pos rfl]
theorem q_X4_take {I : sI} {J : sJ} {post : sI → sJ → Prop} {d0 d1 n : Nat} {ob oa : Nat → Nat} (m0 : d0 ∈ [8, 18, 27, 36]) (m1 : d1 ∈ [8, 18, 27, 36]) (hne : d0 + 2 < d1 ∨ d1 + 2 < d0) (hn : n ≤ 12) (hc : cO n ob oa d1 I) (h : ∀ I2 : sI, (∀ q, ¬ (d0 ≤ q ∧ q ≤ d0 + 2) → I2 q = I q) → cO n ob oa d0 I2 → post I2 J) : w_X4_take d0 d1 I J post := by
  obtain ⟨z0, z1⟩ := sRover d0 m0
  obtain ⟨y0, y1⟩ := sRover d1 m1
  obtain ⟨c1, c2⟩ := hc
  have loop : ∀ m p (I1 : sI), p ≤ n → n - p < m → (∀ q, ¬ (d0 ≤ q ∧ q ≤ d0 + 2) → I1 q = I q) → I1 d0 2 = nI n → (∀ i, i < p → I1 (d0 + 1) i = nI (ob i) ∧ I1 (d0 + 2) i = nI (oa i)) → w_X4_take_10_n d0 d1 post m (nI p) I1 J := by
    intro m
    induction m with
    | zero => intro p I1 _ hm; omega
    | succ m ih =>
      intro p I1 hp hm fr f3 f6
      show w_X4_take_10_s d0 d1 post _ _ I1 J
      unfold w_X4_take_10_s
      rw [z0, z1, y0, y1, f3, pf_le (by omega) (by omega)]
      refine ⟨fun e => h I1 fr ⟨f3, fun i hi => f6 i (by omega)⟩, fun e => ⟨vp_in_nI (by omega) (by omega), vp_in_nI (by omega) (by omega), ?_⟩⟩
      obtain ⟨d2, d3⟩ := c2 p (by omega)
      rw [pf_cl (by omega), fr (d1 + 1) (by omega), d2]
      rintro _ rfl
      refine ⟨vp_in_nI (by omega) (by omega), vp_in_nI (by omega) (by omega), ?_⟩
      rw [show (sUI I1 (d0 + 1) p (nI (ob p))) (d1 + 2) p = nI (oa p) by rw [pf_ui, if_neg (by omega), fr _ (by omega)]; exact d3]
      rintro _ rfl _ rfl
      rw [nI_1]
      refine ih (p + 1) _ (by omega) (by omega) (fun q hq => ?_) ?_ (fun i hi => ⟨?_, ?_⟩)
      · rw [sUI_ne (by omega), sUI_ne (by omega)]; exact fr q hq
      · rw [pf_ui, if_neg (by omega), pf_ui, if_neg (by omega)]; exact f3
      · rw [pf_ui, if_neg (by omega), pf_uis]
        split
        · rename_i e2; rw [e2]
        · exact (f6 i (by omega)).1
      · rw [pf_uis]
        split
        · rename_i e2; rw [e2]
        · rw [pf_ui, if_neg (by omega)]; exact (f6 i (by omega)).2
  unfold w_X4_take
  rw [c1]
  rintro _ rfl
  refine ⟨n + 1, loop (n + 1) 0 _ (by omega) (by omega) (fun q hq => by rw [sUI_ne (by omega)]) (by rw [pf_uis, if_pos rfl]) (fun i hi => by omega)⟩
theorem q_X8_take {I : sI} {J : sJ} {post : sI → sJ → Prop} {t0 t1 : Nat} {T : sT} (m0 : t0 ∈ [3, 13, 22, 31]) (m1 : t1 ∈ [3, 13, 22, 31]) (hne : t0 ≠ t1) (hw : tWF T) (hc : cTold T t1 I) (h : ∀ I2 : sI, (∀ q, ¬ (t0 ≤ q ∧ q ≤ t0 + 8) → I2 q = I q) → cTold T t0 I2 → post I2 J) : w_X8_take t0 t1 I J post := by
  obtain ⟨G, P, s, κ, n, ob, oa, hh, d, b, fi⟩ := T
  obtain ⟨w1, w2, w3, w4, w5, w6, w7⟩ := hw
  obtain ⟨c1, c2, c3, c4, c5, c6⟩ := hc
  obtain ⟨z0, z1, z2⟩ := sRtold t0 m0
  obtain ⟨y0, y1, y2⟩ := sRtold t1 m1
  have far : t0 + 8 < t1 ∨ t1 + 8 < t0 := by
    simp only [List.mem_cons, List.not_mem_nil, or_false] at m0 m1
    omega
  unfold w_X8_take
  rw [z0, z1, y0, y1]
  refine q_X2_take (d0 := t0 + 1) (d1 := t1 + 1) ?_ ?_ (by omega) w1 c1 (fun I1 fr1 g1 => ?_)
  · simp only [List.mem_cons, List.not_mem_nil, or_false] at m0 ⊢; omega
  · simp only [List.mem_cons, List.not_mem_nil, or_false] at m1 ⊢; omega
  refine q_X4_take (d0 := t0 + 5) (d1 := t1 + 5) (n := n) (ob := ob) (oa := oa) ?_ ?_ (by omega) w2.1 ?_ (fun I2 fr2 g2 => ?_)
  · simp only [List.mem_cons, List.not_mem_nil, or_false] at m0 ⊢; omega
  · simp only [List.mem_cons, List.not_mem_nil, or_false] at m1 ⊢; omega
  · unfold cO at c2 ⊢
    rw [fr1 (t1 + 5) (by omega), fr1 (t1 + 5 + 1) (by omega), fr1 (t1 + 5 + 2) (by omega)]; exact c2
  rw [fr2 t1 (by omega), fr1 t1 (by omega), c3]
  rintro _ rfl
  rw [show (sUI I2 t0 3 (nI hh)) t1 4 = nI d by rw [pf_ui, if_neg (by omega), fr2 t1 (by omega), fr1 t1 (by omega)]; exact c4]
  rintro _ rfl
  rw [show (sUI (sUI I2 t0 3 (nI hh)) t0 4 (nI d)) t1 5 = nI b by rw [pf_ui, if_neg (by omega), pf_ui, if_neg (by omega), fr2 t1 (by omega), fr1 t1 (by omega)]; exact c5]
  refine ⟨by rcases (show b = 0 ∨ b = 1 by omega) with rfl | rfl; exact Or.inl rfl; exact Or.inr rfl, ?_⟩
  rintro _ rfl
  have r3 : ∀ q, ¬ (t0 ≤ q ∧ q ≤ t0 + 7) → (sUI (sUI (sUI I2 t0 3 (nI hh)) t0 4 (nI d)) t0 5 (nI b)) q = I q := fun q hq => by rw [sUI_ne (by omega), sUI_ne (by omega), sUI_ne (by omega), fr2 q (by omega), fr1 q (by omega)]
  have e3 : (sUI (sUI (sUI I2 t0 3 (nI hh)) t0 4 (nI d)) t0 5 (nI b)) t0 3 = nI hh := by rw [pf_uis, if_neg (by omega), pf_uis, if_neg (by omega), pf_uis, if_pos rfl]
  have e4 : (sUI (sUI (sUI I2 t0 3 (nI hh)) t0 4 (nI d)) t0 5 (nI b)) t0 4 = nI d := by rw [pf_uis, if_neg (by omega), pf_uis, if_pos rfl]
  have e5 : (sUI (sUI (sUI I2 t0 3 (nI hh)) t0 4 (nI d)) t0 5 (nI b)) t0 5 = nI b := by rw [pf_uis, if_pos rfl]
  have g1' : cD G P s κ (t0 + 1) (sUI (sUI (sUI I2 t0 3 (nI hh)) t0 4 (nI d)) t0 5 (nI b)) := by
    unfold cD at g1 ⊢
    rw [sUI_ne (q := t0 + 1) (by omega), sUI_ne (q := t0 + 1) (by omega), sUI_ne (q := t0 + 1) (by omega), sUI_ne (q := t0 + 1 + 1) (by omega), sUI_ne (q := t0 + 1 + 1) (by omega), sUI_ne (q := t0 + 1 + 1) (by omega), sUI_ne (q := t0 + 1 + 2) (by omega), sUI_ne (q := t0 + 1 + 2) (by omega), sUI_ne (q := t0 + 1 + 2) (by omega), sUI_ne (q := t0 + 1 + 3) (by omega), sUI_ne (q := t0 + 1 + 3) (by omega), sUI_ne (q := t0 + 1 + 3) (by omega), fr2 (t0 + 1) (by omega), fr2 (t0 + 1 + 1) (by omega), fr2 (t0 + 1 + 2) (by omega), fr2 (t0 + 1 + 3) (by omega)]
    exact g1
  have g2' : cO n ob oa (t0 + 5) (sUI (sUI (sUI I2 t0 3 (nI hh)) t0 4 (nI d)) t0 5 (nI b)) := by
    unfold cO at g2 ⊢
    rw [sUI_ne (q := t0 + 5) (by omega), sUI_ne (q := t0 + 5) (by omega), sUI_ne (q := t0 + 5) (by omega), sUI_ne (q := t0 + 5 + 1) (by omega), sUI_ne (q := t0 + 5 + 1) (by omega), sUI_ne (q := t0 + 5 + 1) (by omega), sUI_ne (q := t0 + 5 + 2) (by omega), sUI_ne (q := t0 + 5 + 2) (by omega), sUI_ne (q := t0 + 5 + 2) (by omega)]
    exact g2
  generalize sUI (sUI (sUI I2 t0 3 (nI hh)) t0 4 (nI d)) t0 5 (nI b) = I3 at r3 e3 e4 e5 g1' g2' ⊢
  have loop : ∀ m f (I1 : sI), f ≤ 12 → 12 - f < m → (∀ q, ¬ q = t0 + 8 → I1 q = I3 q) → (∀ k, k < f → I1 (t0 + 8) k = nI (fi k)) → w_X8_take_48_n t0 t1 post m (nI f) I1 J := by
    intro m
    induction m with
    | zero => intro p I1 _ hm; omega
    | succ m ih =>
      intro f I1 hf hm fr f1
      show w_X8_take_48_s t0 t1 post _ _ I1 J
      unfold w_X8_take_48_s
      rw [z2, y2, show (12 : Int32) = nI 12 from rfl, pf_le (by omega) (by omega)]
      refine ⟨fun e => h I1 (fun q hq => by rw [fr q (by omega), r3 q (by omega)]) ⟨?_, ?_, ?_, ?_, ?_, fun k hk => f1 k (by omega)⟩, fun e => ⟨vp_in_nI (by omega) (by omega), vp_in_nI (by omega) (by omega), ?_⟩⟩
      · unfold cD at g1' ⊢; rw [fr (t0 + 1) (by omega), fr (t0 + 1 + 1) (by omega), fr (t0 + 1 + 2) (by omega), fr (t0 + 1 + 3) (by omega)]; exact g1'
      · unfold cO at g2' ⊢; rw [fr (t0 + 5) (by omega), fr (t0 + 5 + 1) (by omega), fr (t0 + 5 + 2) (by omega)]; exact g2'
      · rw [fr t0 (by omega)]; exact e3
      · rw [fr t0 (by omega)]; exact e4
      · rw [fr t0 (by omega)]; exact e5
      · rw [pf_cl (by omega), fr (t1 + 8) (by omega), r3 (t1 + 8) (by omega), c6 f (by omega)]
        rintro _ rfl _ rfl
        rw [nI_1]
        refine ih (f + 1) _ (by omega) (by omega) (fun q hq => by rw [sUI_ne hq]; exact fr q hq) (fun k hk => ?_)
        rw [pf_uis]
        split
        · rename_i e2; rw [e2]
        · exact f1 k (by omega)
  exact ⟨13, loop 13 0 I3 (by omega) (by omega) (fun _ _ => rfl) (fun k hk => by omega)⟩
