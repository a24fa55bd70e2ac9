-- the model puts the readings in order
def ftS (F : Nat → Nat) (n0 : Nat) (J : sJ) : Prop := ∀ k, k < n0 → J 265 k = lN (F k) ∧ F k < 2 ^ 48
def swp2 (F : Nat → Nat) (a b : Nat) (k : Nat) : Nat := if k = a then F b else if k = b then F a else F k
theorem sw_a {F : Nat → Nat} {a b : Nat} : swp2 F a b a = F b := by rw [swp2, if_pos rfl]
theorem sw_b {F : Nat → Nat} {a b : Nat} : swp2 F a b b = F a := by
  rw [swp2]
  by_cases e : b = a
  · rw [if_pos e, e]
  · rw [if_neg e, if_pos rfl]
theorem sw_o {F : Nat → Nat} {a b k : Nat} (h1 : k ≠ a) (h2 : k ≠ b) : swp2 F a b k = F k := by rw [swp2, if_neg h1, if_neg h2]
def prm (F F2 : Nat → Nat) (n : Nat) : Prop := ∀ p : Nat → Prop, cnt (fun k => p (F2 k)) n = cnt (fun k => p (F k)) n
theorem prm_sw {F : Nat → Nat} {a b n : Nat} (ha : a < n) (hb : b < n) : prm F (swp2 F a b) n := by
  intro p
  by_cases e : a = b
  · subst e
    refine cnt_congr (fun k _ => ?_)
    by_cases z : k = a
    · rw [z, sw_a]
    · rw [sw_o z z]
  · by_cases pa : p (F a) <;> by_cases pb : p (F b)
    · refine cnt_congr (fun k _ => ?_)
      by_cases z : k = a
      · rw [z, sw_a]; exact ⟨fun _ => pa, fun _ => pb⟩
      · by_cases y : k = b
        · rw [y, sw_b]; exact ⟨fun _ => pb, fun _ => pa⟩
        · rw [sw_o z y]
    · rw [cnt_one (p := fun k => p (swp2 F a b k)) (q := fun k => k ≠ a ∧ k ≠ b ∧ p (F k)) (n := b) (by show p (swp2 F a b b); rw [sw_b]; exact pa) (fun x => x.2.1 rfl) (fun k hk => ?_) hb, cnt_one (p := fun k => p (F k)) (q := fun k => k ≠ a ∧ k ≠ b ∧ p (F k)) (n := a) pa (fun x => x.1 rfl) (fun k hk => ?_) ha]
      · refine ⟨fun x => ⟨hk, fun y => ?_, x⟩, fun x => x.2.2⟩
        rw [y] at x; exact pb x
      · show p (swp2 F a b k) ↔ _
        by_cases z : k = a
        · rw [z, sw_a]; exact ⟨fun x => absurd x pb, fun x => absurd rfl x.1⟩
        · rw [sw_o z hk]; exact ⟨fun x => ⟨z, hk, x⟩, fun x => x.2.2⟩
    · rw [cnt_one (p := fun k => p (swp2 F a b k)) (q := fun k => k ≠ a ∧ k ≠ b ∧ p (F k)) (n := a) (by show p (swp2 F a b a); rw [sw_a]; exact pb) (fun x => x.1 rfl) (fun k hk => ?_) ha, cnt_one (p := fun k => p (F k)) (q := fun k => k ≠ a ∧ k ≠ b ∧ p (F k)) (n := b) pb (fun x => x.2.1 rfl) (fun k hk => ?_) hb]
      · refine ⟨fun x => ⟨fun y => ?_, hk, x⟩, fun x => x.2.2⟩
        rw [y] at x; exact pa x
      · show p (swp2 F a b k) ↔ _
        by_cases z : k = b
        · rw [z, sw_b]; exact ⟨fun x => absurd x pa, fun x => absurd rfl x.2.1⟩
        · rw [sw_o hk z]; exact ⟨fun x => ⟨hk, z, x⟩, fun x => x.2.2⟩
    · refine cnt_congr (fun k _ => ?_)
      by_cases z : k = a
      · rw [z, sw_a]; exact ⟨fun x => absurd x pb, fun x => absurd x pa⟩
      · by_cases y : k = b
        · rw [y, sw_b]; exact ⟨fun x => absurd x pa, fun x => absurd x pb⟩
        · rw [sw_o z y]
def hpP (F : Nat → Nat) (lo n : Nat) : Prop := ∀ k, lo ≤ k → ∀ c, (c = 2 * k + 1 ∨ c = 2 * k + 2) → c < n → F c ≤ F k
theorem lg48 {a b : Nat} (ha : a < 2 ^ 48) (hb : b < 2 ^ 48) : (lg_cmp (lN a) (lN b) ≤ 0 ↔ a ≤ b) ∧ (lg_cmp (lN a) (lN b) < 0 ↔ a < b) := by
  have x := pf_lgc_gt (lN a) (lN b)
  have y := pf_lgc_lt (lN a) (lN b)
  rw [lN_lt48 hb ha] at x
  rw [lN_lt48 ha hb] at y
  refine ⟨⟨fun z => ?_, fun z => ?_⟩, y⟩
  · rcases Nat.lt_or_ge b a with w | w
    · exact absurd (x.mpr w) (Int32.not_lt.mpr z)
    · exact w
  · exact Int32.not_lt.mp (fun w => by have := x.mp w; omega)
theorem ftS_sw {F : Nat → Nat} {n0 a b : Nat} {J : sJ} (h : ftS F n0 J) (ha : a < n0) (hb : b < n0) : ftS (swp2 F a b) n0 (sUJ (sUJ J 265 a (lN (F b))) 265 b (lN (F a))) := by
  intro k hk
  rw [pf_ujs, pf_ujs]
  by_cases z : k = b
  · rw [if_pos z, z, sw_b]; exact ⟨rfl, (h a ha).2⟩
  · rw [if_neg z]
    by_cases y : k = a
    · rw [if_pos y, y, sw_a]; exact ⟨rfl, (h b hb).2⟩
    · rw [if_neg y, sw_o y z]; exact h k hk
theorem q_sinks {I : sI} {J : sJ} {post : sI → sJ → Prop} {n0 n fm : Nat} {F : Nat → Nat} (hn : n ≤ n0) (h20 : n0 ≤ 20000) (hfm : fm ≤ n0) (st : ftS F n0 J) (hp1 : hpP F (fm + 1) n) (hpost : ∀ (J2 : sJ) (F2 : Nat → Nat), (∀ p, ¬ p = 265 → J2 p = J p) → ftS F2 n0 J2 → hpP F2 fm n → prm F F2 n0 → (∀ k, n ≤ k → F2 k = F k) → (∀ M, (∀ k, k < n → F k ≤ M) → ∀ k, k < n → F2 k ≤ M) → post I J2) : w_X12_sinks (nI fm) (nI n) I J post := by
  have loop : ∀ f k (J3 : sJ) (F3 : Nat → Nat), n - k < f → fm ≤ k → k ≤ n0 → (∀ p, ¬ p = 265 → J3 p = J p) → ftS F3 n0 J3 → prm F F3 n0 → (∀ j, n ≤ j → F3 j = F j) → (∀ M, (∀ k, k < n → F k ≤ M) → ∀ k, k < n → F3 k ≤ M) → (∀ j, fm ≤ j → j ≠ k → ∀ c, (c = 2 * j + 1 ∨ c = 2 * j + 2) → c < n → F3 c ≤ F3 j) → (∀ pk, fm ≤ pk → (k = 2 * pk + 1 ∨ k = 2 * pk + 2) → ∀ c, (c = 2 * k + 1 ∨ c = 2 * k + 2) → c < n → F3 c ≤ F3 pk) → w_X12_sinks_2_n post f (nI n) (nI k) I J3 := by
    intro f
    induction f with
    | zero => intro k _ _ h; omega
    | succ f ih =>
      intro k J3 F3 hf hk hk0 j3 f3 p3 o3 m3 hp3 hq3
      show w_X12_sinks_2_s post (w_X12_sinks_2_n post f) (nI n) (nI k) I J3
      unfold w_X12_sinks_2_s
      rw [show (2 : Int32) = nI 2 from rfl, pk_mul, nI_1, pf_le (by omega) (by omega)]
      have done : (∀ c, (c = 2 * k + 1 ∨ c = 2 * k + 2) → c < n → F3 c ≤ F3 k) → post I J3 := by
        intro hc
        refine hpost J3 F3 j3 f3 (fun j hj c hjc hcn => ?_) p3 o3 m3
        by_cases e : j = k
        · subst e; exact hc c hjc hcn
        · exact hp3 j hj e c hjc hcn
      refine ⟨fun e => done (fun c h1 h2 => by omega), fun e => ?_⟩
      rintro _ rfl
      -- with the greater child
      have step : ∀ ch, (ch = 2 * k + 1 ∨ ch = 2 * k + 2) → ch < n → (∀ c, (c = 2 * k + 1 ∨ c = 2 * k + 2) → c < n → F3 c ≤ F3 ch) → ∀ v4 : Int32, v4 = nI ch → (vp_in (nI k) 20000 ∧ (vp_in v4 20000 ∧ (((lg_cmp (J3 265 (Int32.toNatClampNeg (nI k))) (J3 265 (Int32.toNatClampNeg v4))) < 0 → (vp_in (nI k) 20000 ∧ (∀ v5_83 : Int64, v5_83 = J3 265 (Int32.toNatClampNeg (nI k)) → (vp_in v4 20000 ∧ (vp_in (nI k) 20000 ∧ (∀ J_97 : sJ, J_97 = sUJ J3 265 (Int32.toNatClampNeg (nI k)) (J3 265 (Int32.toNatClampNeg v4)) → (vp_in v4 20000 ∧ (∀ J_106 : sJ, J_106 = sUJ J_97 265 (Int32.toNatClampNeg v4) v5_83 → w_X12_sinks_2_n post f (nI n) v4 I J_106)))))))) ∧ (¬ (lg_cmp (J3 265 (Int32.toNatClampNeg (nI k))) (J3 265 (Int32.toNatClampNeg v4))) < 0 → post I J3)))) := by
        rintro ch hch hcn hmx _ rfl
        obtain ⟨fk1, fk2⟩ := f3 k (by omega)
        obtain ⟨fc1, fc2⟩ := f3 ch (by omega)
        rw [pf_cl (by omega), pf_cl (by omega), fk1, fc1, (lg48 fk2 fc2).2]
        refine ⟨vp_in_nI (by omega) (by omega), vp_in_nI (by omega) (by omega), fun y => ⟨vp_in_nI (by omega) (by omega), ?_⟩, fun y => done (fun c h1 h2 => by have := hmx c h1 h2; omega)⟩
        rintro _ rfl
        refine ⟨vp_in_nI (by omega) (by omega), vp_in_nI (by omega) (by omega), ?_⟩
        rintro _ rfl
        refine ⟨vp_in_nI (by omega) (by omega), ?_⟩
        rintro _ rfl
        have kc : k ≠ ch := by omega
        refine ih ch _ (swp2 F3 k ch) (by omega) (by omega) (by omega) (fun p hp => by funext x; rw [pf_uj, if_neg (by omega), pf_uj, if_neg (by omega), j3 p hp]) (ftS_sw f3 (by omega) (by omega)) (fun p => by rw [prm_sw (F := F3) (a := k) (b := ch) (by omega) (by omega) p]; exact p3 p) (fun j hj => by rw [sw_o (by omega) (by omega)]; exact o3 j hj) (fun M hM j hj => ?_) (fun j hj jn c hjc hcn2 => ?_) (fun pk hpk hpc c hc hcn2 => ?_)
        · have := m3 M hM
          by_cases e1 : j = k
          · rw [e1, sw_a]; exact this ch hcn
          · by_cases e2 : j = ch
            · rw [e2, sw_b]; exact this k (by omega)
            · rw [sw_o e1 e2]; exact this j hj
        · by_cases e1 : j = k
          · subst e1
            rw [sw_a]
            by_cases e2 : c = ch
            · rw [e2, sw_b]; omega
            · rw [sw_o (by omega) e2]; exact hmx c hjc hcn2
          · rw [sw_o e1 jn]
            by_cases e2 : c = k
            · rw [e2, sw_a]
              exact hq3 j hj (by omega) ch hch hcn
            · have e3 : c ≠ ch := by omega
              rw [sw_o e2 e3]
              exact hp3 j hj e1 c hjc hcn2
        · have epk : pk = k := by omega
          subst epk
          rw [sw_a, sw_o (by omega) (by omega)]
          exact hp3 ch (by omega) (by omega) c hc hcn2
      rw [nI_1, pf_le (by omega) (by omega), pf_cl (by omega), pf_cl (by omega)]
      unfold w_X12_sinks_52 w_X12_sinks_53
      refine ⟨fun y => ?_, fun y => ⟨vp_in_nI (by omega) (by omega), vp_in_nI (by omega) (by omega), ?_⟩⟩
      · refine q_flag (fun _ => ?_) (fun x => absurd rfl x)
        rw [Int32.add_zero]
        exact step (2 * k + 1) (Or.inl rfl) (by omega) (fun c h1 h2 => by rw [show c = 2 * k + 1 by omega]; exact Nat.le_refl _)
      · obtain ⟨fa1, fa2⟩ := f3 (2 * k + 1) (by omega)
        obtain ⟨fb1, fb2⟩ := f3 (2 * k + 1 + 1) (by omega)
        rw [fa1, fb1, (lg48 fb2 fa2).1]
        refine ⟨fun z => ?_, fun z => ?_⟩
        · refine q_flag (fun _ => ?_) (fun x => absurd rfl x)
          rw [Int32.add_zero]
          refine step (2 * k + 1) (Or.inl rfl) (by omega) (fun c h1 h2 => ?_)
          rcases h1 with h1 | h1
          · rw [h1]; exact Nat.le_refl _
          · rw [h1]; exact z
        · refine q_flag (fun x => absurd x (by decide)) (fun _ => ?_)
          rw [nI_1]
          refine step (2 * k + 1 + 1) (Or.inr rfl) (by omega) (fun c h1 h2 => ?_)
          rcases h1 with h1 | h1
          · rw [h1]; omega
          · rw [h1]; exact Nat.le_refl _
  unfold w_X12_sinks
  exact ⟨n + 1, loop (n + 1) fm J F (by omega) (Nat.le_refl _) hfm (fun _ _ => rfl) st (fun _ => rfl) (fun _ _ => rfl) (fun _ h => h) (fun j hj jn c hjc hcn => hp1 j (by omega) c hjc hcn) (fun pk hpk hpc => by omega)⟩
theorem hp_top {F : Nat → Nat} {n : Nat} (h : hpP F 0 n) : ∀ N k, k < N → k < n → F k ≤ F 0 := by
  intro N
  induction N with
  | zero => intro k h; omega
  | succ N ih =>
    intro k hk hkn
    cases k with
    | zero => exact Nat.le_refl _
    | succ k =>
      have a := h (k / 2) (Nat.zero_le _) (k + 1) (by omega) hkn
      have b := ih (k / 2) (by omega) (by omega)
      omega
theorem q_sorts {I : sI} {J : sJ} {post : sI → sJ → Prop} {ch : Nat → Nat → List Nat} {N : Nat} (hN : 1 ≤ N) (hN2 : N ≤ 24) (e24 : I 248 24 = nI N) (bf : bfS ch N I J) (t20 : tot ch N ≤ 20000) (x48 : ∀ x, x ∈ lev ch N → x < 2 ^ 48) (h : ∀ (J2 : sJ) (F : Nat → Nat), (∀ p, ¬ p = 265 → J2 p = J p) → ftS F (lev ch N).length J2 → (∀ i j, i ≤ j → j < (lev ch N).length → F i ≤ F j) → (∀ p : Nat → Prop, cnt (fun k => p (F k)) (lev ch N).length = cnt (fun k => p (gtL (lev ch N) k)) (lev ch N).length) → post (sUI I 248 32 (nI (lev ch N).length)) J2) : w_X12_sorts I J post := by
  obtain ⟨g, eg⟩ : ∃ g, N = g + 1 := ⟨N - 1, by omega⟩
  subst eg
  have et : tot ch (g + 1) = tot ch g + (lev ch (g + 1)).length := rfl
  obtain ⟨L, eL⟩ : ∃ L, L = (lev ch (g + 1)).length := ⟨_, rfl⟩
  rw [← eL] at h et
  obtain ⟨b1', b2', _⟩ := bf
  have lb : ∀ (I3 : sI) (J3 : sJ) (K : Int32 → sI → sJ → Prop), I3 264 = I 264 → K (nI (tot ch g)) I3 J3 → w_X12_levelBegin (nI g) I3 J3 K := by
    intro I3 J3 K e3 hk
    unfold w_X12_levelBegin
    rw [pf_eq0 (by omega)]
    refine ⟨fun z => ?_, fun z => ?_⟩
    · rw [nI_p (by omega), pf_cl (by omega), e3, b1' (g - 1) (by omega), show g - 1 + 1 = g by omega]
      exact ⟨vp_in_nI (by omega) (by omega), hk⟩
    · rw [z] at hk; exact hk
  unfold w_X12_sorts
  rw [e24, nI_p (by omega), Nat.add_sub_cancel]
  rintro _ rfl
  refine ⟨vp_in_nI (by omega) (by omega), ?_⟩
  refine lb I J _ rfl ?_
  rw [pf_cl (by omega), b1' g (by omega), pk_sub (by omega), show tot ch (g + 1) - tot ch g = L by omega]
  rintro _ rfl
  obtain ⟨I1, e1⟩ : ∃ I1, I1 = sUI I 248 32 (nI L) := ⟨_, rfl⟩
  rw [← e1] at h ⊢
  have e32 : I1 248 32 = nI L := by rw [e1, pf_uis, if_pos rfl]
  have i264 : I1 264 = I 264 := by rw [e1, sUI_ne (by omega)]
  -- the order of the rest, from the heap
  have last : ∀ f m (J3 : sJ) (F : Nat → Nat), m < f → (m < L ∨ m = 0) → (∀ p, ¬ p = 265 → J3 p = J p) → ftS F L J3 → prm (gtL (lev ch (g + 1))) F L → hpP F 0 (m + 1) → (∀ i j, m < i → i ≤ j → j < L → F i ≤ F j) → (∀ i j, i ≤ m → m < j → j < L → F i ≤ F j) → w_X12_sorts_92_n post f (nI m) I1 J3 := by
    intro f
    induction f with
    | zero => intro m _ _ h; omega
    | succ f ih =>
      intro m J3 F hf hm j3 f3 p3 hp3 s3 x3
      show w_X12_sorts_92_s post (w_X12_sorts_92_n post f) (nI m) I1 J3
      unfold w_X12_sorts_92_s
      rw [pf_le0 (by omega), pf_cl (by omega), c_z]
      refine ⟨fun z => ?_, fun z => ⟨vp_in_nI (n := 0) (by omega) (by omega), ?_⟩⟩
      · refine h J3 F j3 f3 (fun i j hij hj => ?_) p3
        by_cases e : i = 0
        · by_cases e2 : j = 0
          · rw [e, e2]; exact Nat.le_refl _
          · exact x3 i j (by omega) (by omega) hj
        · exact s3 i j (by omega) hij hj
      · have mL : m < L := by omega
        obtain ⟨fa, fa2⟩ := f3 0 (by omega)
        obtain ⟨fb, fb2⟩ := f3 m mL
        rw [fa, fb]
        rintro _ rfl
        refine ⟨vp_in_nI (by omega) (by omega), vp_in_nI (n := 0) (by omega) (by omega), ?_⟩
        rintro _ rfl
        refine ⟨vp_in_nI (by omega) (by omega), ?_⟩
        rintro _ rfl
        have top : ∀ k, k < m + 1 → F k ≤ F 0 := fun k hk => hp_top hp3 (k + 1) k (by omega) hk
        refine q_sinks (n0 := L) (n := m) (fm := 0) (F := swp2 F 0 m) (by omega) (by omega) (by omega) (ftS_sw f3 (by omega) mL) (fun k hk c hc hcm => ?_) (fun J5 F5 j5 f5 hp5 p5 o5 m5 => ?_)
        · rw [sw_o (by omega) (by omega), sw_o (by omega) (by omega)]
          exact hp3 k (by omega) c hc (by omega)
        · rw [nI_m (by omega)]
          rintro _ rfl
          have sm : ∀ k, m ≤ k → F5 k = swp2 F 0 m k := o5
          have all5 : ∀ j, m ≤ j → j < L → ∀ k, k < m → F5 k ≤ F5 j := by
            intro j hj hjL
            refine m5 (F5 j) (fun k hk => ?_)
            rw [sm j hj]
            have kv : swp2 F 0 m k ≤ F 0 := by
              by_cases e : k = 0
              · rw [e, sw_a]; exact top m (by omega)
              · rw [sw_o e (by omega)]; exact top k (by omega)
            by_cases e : j = m
            · rw [e, sw_b]; exact kv
            · rw [sw_o (by omega) e]
              have := x3 0 j (by omega) (by omega) hjL
              omega
          refine ih (m - 1) J5 F5 (by omega) (by omega) (fun p hp => by rw [j5 p hp]; funext x; rw [pf_uj, if_neg (by omega), pf_uj, if_neg (by omega), j3 p hp]) f5 (fun p => by rw [p5 p, prm_sw (F := F) (a := 0) (b := m) (by omega) mL p]; exact p3 p) (by rw [show m - 1 + 1 = m by omega]; exact hp5) (fun i j h1 h2 h3 => ?_) (fun i j h1 h2 h3 => all5 j (by omega) h3 i (by omega))
          rw [sm i (by omega), sm j (by omega)]
          by_cases ei : i = m
          · rw [ei, sw_b]
            by_cases ej : j = m
            · rw [ej, sw_b]; exact Nat.le_refl _
            · rw [sw_o (by omega) ej]; exact x3 0 j (by omega) (by omega) h3
          · rw [sw_o (by omega) ei, sw_o (by omega) (by omega)]
            exact s3 i j (by omega) h2 h3
  have heap : ∀ f k (J3 : sJ) (F : Nat → Nat), k < f → k ≤ L → (∀ p, ¬ p = 265 → J3 p = J p) → ftS F L J3 → prm (gtL (lev ch (g + 1))) F L → hpP F k L → w_X12_sorts_66_n post f (nI k - 1) I1 J3 := by
    intro f
    induction f with
    | zero => intro m _ _ h; omega
    | succ f ih =>
      intro k J3 F hf hk j3 f3 p3 hp3
      show w_X12_sorts_66_s post (w_X12_sorts_66_n post f) (nI k - 1) I1 J3
      unfold w_X12_sorts_66_s
      rw [e32]
      cases k with
      | zero =>
        refine b1 (by decide) ?_
        rintro _ rfl
        cases eLL : L with
        | zero =>
          have h0 : nI 0 - 1 = (-1 : Int32) := by decide
          rw [h0]
          refine ⟨1, ?_⟩
          show w_X12_sorts_92_s post (w_X12_sorts_92_n post 0) (-1) I1 J3
          unfold w_X12_sorts_92_s
          refine b1 (by decide) ?_
          exact h J3 F j3 (by rw [eLL] at f3; rw [eLL]; exact f3) (fun i j _ hj => by omega) (fun p => by rw [eLL]; rfl)
        | succ L2 =>
          rw [nI_p (by omega), Nat.add_sub_cancel]
          exact ⟨L2 + 1, last (L2 + 1) L2 J3 F (by omega) (by omega) j3 f3 p3 (by rw [← eLL]; exact hp3) (fun i j h1 h2 h3 => by omega) (fun i j h1 h2 h3 => by omega)⟩
      | succ k =>
        rw [nI_p (by omega), Nat.add_sub_cancel]
        refine b2 (pf_lt0 (by omega)) ?_
        refine q_sinks (n0 := L) (n := L) (fm := k) (Nat.le_refl _) (by omega) (by omega) f3 hp3 (fun J5 F5 j5 f5 hp5 p5 o5 m5 => ?_)
        rintro _ rfl
        have e : nI k + (-1) = nI k - 1 := by
          cases k with
          | zero => decide
          | succ k => rw [nI_m (by omega), nI_p (by omega)]
        rw [e]
        exact ih k J5 F5 (by omega) (by omega) (fun p hp => by rw [j5 p hp, j3 p hp]) f5 (fun p => by rw [p5 p]; exact p3 p) hp5
  have copy : ∀ f k (J3 : sJ), k ≤ L → L - k < f → (∀ p, ¬ p = 265 → J3 p = J p) → (∀ i, i < k → J3 265 i = lN (gtL (lev ch (g + 1)) i)) → w_X12_sorts_25_n post f (nI g) (nI k) I1 J3 := by
    intro f
    induction f with
    | zero => intro m _ _ h; omega
    | succ f ih =>
      intro k J3 hk hf j3 c3
      show w_X12_sorts_25_s post (w_X12_sorts_25_n post f) (nI g) (nI k) I1 J3
      unfold w_X12_sorts_25_s
      rw [e32, pf_le (by omega) (by omega)]
      refine ⟨fun e => ?_, fun e => ?_⟩
      · rw [show (2 : Int32) = nI 2 from rfl, pk_div (by omega) (by omega) (by omega)]
        rintro _ rfl
        refine ⟨L / 2 + 1, heap (L / 2 + 1) (L / 2) J3 (gtL (lev ch (g + 1))) (by omega) (by omega) j3 (fun i hi => ⟨c3 i (by omega), x48 _ (gtL_m (by omega))⟩) (fun _ => rfl) (fun k hk c hc hcn => by omega)⟩
      · refine lb I1 J3 _ i264 ?_
        rw [nI_add, pf_cl (by omega), pf_cl (by omega), j3 262 (by omega), b2' g (by omega) k (by omega), nI_1]
        refine ⟨vp_in_nI (by omega) (by omega), vp_in_nI (by omega) (by omega), ?_⟩
        rintro _ rfl _ rfl
        refine ih (k + 1) _ (by omega) (by omega) (fun p hp => by funext x; rw [pf_uj, if_neg (by omega), j3 p hp]) (fun i hi => ?_)
        rw [pf_ujs]
        by_cases z : i = k
        · rw [if_pos z, z]
        · rw [if_neg z, c3 i (by omega)]
  exact ⟨L + 1, copy (L + 1) 0 J (by omega) (by omega) (fun _ _ => rfl) (fun i hi => by omega)⟩
