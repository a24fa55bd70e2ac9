-- what a disc and a tongue make to be searched
def dQ (h d bk nw : Nat) (wl : Nat → Nat) (wt : Nat → Nat → Nat) (s κ : Nat → Nat) : sPr := (h, d, nw, fun g => s (g + 1) - s g, fun g i => κ (if bk = 0 then s g + i else s (g + 1) - 1 - i), wl, wt)
def lxO (h d bk : Nat) : Prop := 1 ≤ h ∧ h ≤ 3 ∧ d ≤ 2 ∧ bk ≤ 1
theorem dQ_O {h d bk t G P : Nat} {nw : Nat → Nat} {wl : Nat → Nat → Nat} {wt : Nat → Nat → Nat → Nat} {s κ : Nat → Nat} (hw : tWD G P s κ) (hx : lxO h d bk) (hW : tWW nw wl wt) (ht : t < 4) : qO (dQ h d bk (nw t) (wl t) (wt t) s κ) G := by
  have hG := hw.1
  obtain ⟨x1, x2, x3, x4⟩ := hx
  obtain ⟨w1, w2⟩ := hW t ht
  refine ⟨by omega, x1, x2, x3, w1, fun g hg => ?_, fun w hw => w2 w hw⟩
  have l1 := hw.2.2.2.2.1 g hg
  have l3 := s_le hw (show g + 1 ≤ G by omega)
  refine ⟨by show 1 ≤ s (g + 1) - s g; omega, by show s (g + 1) - s g ≤ 6; omega, fun i hi => ?_⟩
  have hi : i < s (g + 1) - s g := hi
  refine hw.2.2.2.2.2 _ ?_
  split <;> omega
theorem dQ_gp {h d bk nw : Nat} {wl : Nat → Nat} {wt : Nat → Nat → Nat} {s κ : Nat → Nat} (g : Nat) : gpS (dQ h d bk nw wl wt s κ) bk (0 + g) g s κ := by
  rw [Nat.zero_add]; exact ⟨rfl, fun i _ => rfl⟩
theorem dQ_tg {h d bk t : Nat} {nw : Nat → Nat} {wl : Nat → Nat → Nat} {wt : Nat → Nat → Nat → Nat} {s κ : Nat → Nat} {I : sI} (hc : cW nw wl wt I) (ht : t < 4) : tgS (dQ h d bk (nw t) (wl t) (wt t) s κ) t I := hc t ht
theorem rd_get {I : sI} (hD : RD I) (hW : RW I) : ∃ (G P : Nat) (s κ : Nat → Nat) (h d bk : Nat) (nw : Nat → Nat) (wl : Nat → Nat → Nat) (wt : Nat → Nat → Nat → Nat), tWD G P s κ ∧ lxO h d bk ∧ tWW nw wl wt ∧ cD G P s κ 4 I ∧ mD G P s κ I ∧ (I 3 3 = nI h ∧ I 3 4 = nI d ∧ I 3 5 = nI bk) ∧ (I 248 21 = nI h ∧ I 248 22 = nI d ∧ I 248 23 = nI bk) ∧ cW nw wl wt I ∧ mW nw wl wt I := by
  obtain ⟨nw, wl, wt, a, b, c⟩ := hW
  obtain ⟨⟨G, P, s, κ, n, ob, oa, h, d, bk, fi⟩, hw, hc, hm⟩ := hD
  exact ⟨G, P, s, κ, h, d, bk, nw, wl, wt, hw.1, ⟨hw.2.2.1, hw.2.2.2.1, hw.2.2.2.2.1, hw.2.2.2.2.2.1⟩, a, hc.1, hm.1, ⟨hc.2.2.1, hc.2.2.2.1, hc.2.2.2.2.1⟩, ⟨hm.2.2.1, hm.2.2.2.1, hm.2.2.2.2.1⟩, b, c⟩
theorem q_read {I : sI} {J : sJ} {post : sI → sJ → Prop} {h0 G P t h d bk mode det : Nat} {s κ : Nat → Nat} {nw : Nat → Nat} {wl : Nat → Nat → Nat} {wt : Nat → Nat → Nat → Nat} {MS : List Nat → Int32 → (Nat → Int32) → (Nat → Int64) → Prop} (h4 : h0 ∈ [4, 138]) (hw : tWD G P s κ) (hc : cD G P s κ h0 I) (hG1 : 1 ≤ G) (hx : lxO h d bk) (e3 : I 3 3 = nI h ∧ I 3 4 = nI d ∧ I 3 5 = nI bk) (hW : tWW nw wl wt) (hcw : cW nw wl wt I) (ht : t < 4) (hmode : mode ≤ 4) (hd2 : det < 1000) (tk : tkO (dQ h d bk (nw t) (wl t) (wt t) s κ) G mode det MS) (ms0 : ∀ T S, (∀ i, i < 96 → T i = 0) → MS [] 0 T S) (h1 : ∀ (I2 : sI) (J2 : sJ), (∀ p, ¬ (142 ≤ p ∧ p ≤ 223) → I2 p = I p) → (∀ p, ¬ (142 ≤ p ∧ p ≤ 223) → J2 p = J p) → tot (chF (dQ h d bk (nw t) (wl t) (wt t) s κ)) G ≤ 20000 → I2 220 1 = nI (tot (chF (dQ h d bk (nw t) (wl t) (wt t) s κ)) G) → rdS MS G mode det (lev (chF (dQ h d bk (nw t) (wl t) (wt t) s κ)) G) (if mode = 4 then hlF (chF (dQ h d bk (nw t) (wl t) (wt t) s κ)) det G 0 0 else 0) I2 J2 → post I2 J2) (h2 : ∀ (I2 : sI) (J2 : sJ), (∀ p, ¬ (142 ≤ p ∧ p ≤ 223) → I2 p = I p) → (∀ p, ¬ (142 ≤ p ∧ p ≤ 223) → J2 p = J p) → 20000 < tot (chF (dQ h d bk (nw t) (wl t) (wt t) s κ)) G → I2 220 1 = nI 20001 → post I2 J2) : w_X11_read h0 (nI t) (nI mode) (nI det) I J post := by
  have hq := dQ_O hw hx hW ht
  obtain ⟨f0, f1, f2, f3⟩ := sRtg t ht
  obtain ⟨g1, g2, g3⟩ := e3
  have h6 : h0 = 4 ∨ h0 = 138 := by
    rcases List.mem_cons.mp h4 with e | e
    · exact Or.inl e
    · exact Or.inr (List.mem_singleton.mp e)
  unfold w_X11_read
  rw [g1, g2, g3]
  refine q_wopen (q := dQ h d bk (nw t) (wl t) (wt t) s κ) rfl rfl ⟨hx.1, hx.2.1⟩ hx.2.2.2 (fun I1 J1 r1 j1 cf1 wy1 => ?_)
  rw [pf_cl (by omega), f0]
  refine ⟨vp_in_nI (by omega) (by omega), ?_⟩
  refine q_add hq (show 0 + G ≤ G by omega) h4 hw ?_ (fun g _ => dQ_gp g) ht ?_ cf1 hx.2.2.2 wy1 (fun I2 J2 r2 j2 cf2 wy2 => ?_)
  · unfold cD at *
    rw [r1 h0 (by omega), r1 (h0 + 3) (by omega), r1 (h0 + 1) (by omega), r1 (h0 + 2) (by omega)]
    exact hc
  · have tg := dQ_tg (h := h) (d := d) (bk := bk) (s := s) (κ := κ) hcw ht
    have n20 := (hW t ht).1
    unfold tgS at *
    rw [r1 (42 + 23 * t) (by omega), r1 (64 + 23 * t) (by omega)]
    refine ⟨tg.1, fun w hw => ⟨(tg.2 w hw).1, fun i hi => ?_⟩⟩
    have : w < nw t := hw
    rw [r1 (44 + 23 * t + w) (by omega)]
    exact (tg.2 w hw).2 i hi
  · rw [Nat.zero_add] at wy2
    rw [wy2.1]
    refine q_run hq (Nat.le_refl _) hG1 hmode hd2 tk ms0 cf2 wy2 (fun I3 J3 r3 j3 a b c => ?_) (fun I3 J3 r3 j3 a b => ?_)
    · exact h1 I3 J3 (fun p hp => by rw [r3 p (by omega), r2 p hp, r1 p hp]) (fun p hp => by rw [j3 p (by omega), j2 p hp, j1 p hp]) a b c
    · exact h2 I3 J3 (fun p hp => by rw [r3 p (by omega), r2 p hp, r1 p hp]) (fun p hp => by rw [j3 p (by omega), j2 p hp, j1 p hp]) a b
theorem q_takesDisc {I : sI} {J : sJ} {post : sI → sJ → Prop} {G P n : Nat} {s κ : Nat → Nat} (hw : tWD G P s κ) (hm : mD G P s κ I) (hn : n ≤ G) (h : ∀ I2 : sI, (∀ p, ¬ (p = 248 ∨ p = 260 ∨ p = 261) → I2 p = I p) → (∀ k, ¬ k = 24 → I2 248 k = I 248 k) → I2 248 24 = nI n → (∀ g, g < n → I2 260 g = nI (s (g + 1) - s g)) → (∀ p, p < s n → I2 261 p = nI (κ p)) → post I2 J) : w_X12_takesDisc (nI n) I J post := by
  have hG := hw.1
  have hP := hw.2.1
  unfold w_X12_takesDisc
  rintro _ rfl
  have inner : ∀ (k9 : Int32 → Int32 → Int32 → sI → sJ → Prop) g, g < n → (∀ I3 : sI, (∀ p, ¬ (p = 248 ∨ p = 260 ∨ p = 261) → I3 p = I p) → (∀ k, ¬ k = 24 → I3 248 k = I 248 k) → I3 248 24 = nI n → (∀ g2, g2 < g + 1 → I3 260 g2 = nI (s (g2 + 1) - s g2)) → (∀ p, p < s (g + 1) → I3 261 p = nI (κ p)) → k9 (nI n) (nI (s (g + 1))) (nI (g + 1)) I3 J) → ∀ f i (I3 : sI), i ≤ s (g + 1) - s g → s (g + 1) - s g - i < f → (∀ p, ¬ (p = 248 ∨ p = 260 ∨ p = 261) → I3 p = I p) → (∀ k, ¬ k = 24 → I3 248 k = I 248 k) → I3 248 24 = nI n → (∀ g2, g2 < g + 1 → I3 260 g2 = nI (s (g2 + 1) - s g2)) → (∀ p, p < s g + i → I3 261 p = nI (κ p)) → w_X12_takesDisc_29_n post k9 f (nI n) (nI (s g + i)) (nI g) (nI i) I3 J := by
    intro k9 g hg hk f
    have l1 := hw.2.2.2.2.1 g (by omega)
    have l3 := s_le hw (show g + 1 ≤ G by omega)
    induction f with
    | zero => intro i _ _ h; omega
    | succ f ih =>
      intro i I3 hi hf r3 s3 e3 z3 c3
      show w_X12_takesDisc_29_s post k9 (w_X12_takesDisc_29_n post k9 f) (nI n) (nI (s g + i)) (nI g) (nI i) I3 J
      unfold w_X12_takesDisc_29_s
      rw [pf_cl (by omega), pf_cl (by omega), r3 253 (by omega), hm.2.2.1 g (by omega), pf_le (by omega) (by omega), nI_1, nI_1, nI_1, r3 254 (by omega)]
      refine ⟨vp_in_nI (by omega) (by omega), fun e => ?_, fun e => ⟨vp_in_nI (by omega) (by omega), vp_in_nI (by omega) (by omega), ?_⟩⟩
      · rintro _ rfl
        rw [show s g + i = s (g + 1) by omega] at c3 ⊢
        exact hk I3 r3 s3 e3 z3 c3
      · rw [hm.2.2.2 _ (by omega)]
        rintro _ rfl _ rfl _ rfl
        refine ih (i + 1) _ (by omega) (by omega) (fun p hp => by rw [sUI_ne (by omega), r3 p hp]) (fun k hk => by rw [sUI_ne (by omega), s3 k hk]) (by rw [sUI_ne (by omega)]; exact e3) (fun g2 hg2 => by rw [sUI_ne (by omega)]; exact z3 g2 hg2) (fun p hp => ?_)
        rw [pf_uis]
        by_cases z : p = s g + i
        · rw [if_pos z, z]
        · rw [if_neg z]; exact c3 p (by omega)
  have outer : ∀ f g (I3 : sI), g ≤ n → n - g < f → (∀ p, ¬ (p = 248 ∨ p = 260 ∨ p = 261) → I3 p = I p) → (∀ k, ¬ k = 24 → I3 248 k = I 248 k) → I3 248 24 = nI n → (∀ g2, g2 < g → I3 260 g2 = nI (s (g2 + 1) - s g2)) → (∀ p, p < s g → I3 261 p = nI (κ p)) → w_X12_takesDisc_9_n post f (nI n) (nI (s g)) (nI g) I3 J := by
    intro f
    induction f with
    | zero => intro i _ _ h; omega
    | succ f ih =>
      intro g I3 hg hf r3 s3 e3 z3 c3
      show w_X12_takesDisc_9_s post (w_X12_takesDisc_9_n post f) (nI n) (nI (s g)) (nI g) I3 J
      unfold w_X12_takesDisc_9_s
      rw [pf_le (by omega) (by omega), pf_cl (by omega), r3 253 (by omega)]
      refine ⟨fun e => ?_, fun e => ⟨vp_in_nI (by omega) (by omega), vp_in_nI (by omega) (by omega), ?_⟩⟩
      · rw [show g = n by omega] at z3 c3
        exact h I3 r3 s3 e3 z3 c3
      · rw [hm.2.2.1 g (by omega)]
        rintro _ rfl
        refine ⟨8, inner _ g (by omega) (fun I4 r4 s4 e4 z4 c4 => ih (g + 1) I4 (by omega) (by omega) r4 s4 e4 z4 c4) 8 0 _ (by omega) (by have := hw.2.2.2.2.1 g (by omega); omega) (fun p hp => by rw [sUI_ne (by omega), r3 p hp]) (fun k hk => by rw [sUI_ne (by omega), s3 k hk]) (by rw [sUI_ne (by omega)]; exact e3) (fun g2 hg2 => ?_) (fun p hp => by rw [sUI_ne (by omega)]; exact c3 p hp)⟩
        rw [pf_uis]
        by_cases z : g2 = g
        · rw [if_pos z, z]
        · rw [if_neg z]; exact z3 g2 (by omega)
  have := outer (n + 1) 0 (sUI I 248 24 (nI n)) (by omega) (by omega) (fun p hp => sUI_ne (by omega)) (fun k hk => by rw [pf_uis, if_neg hk]) (by rw [pf_uis, if_pos rfl]) (fun g2 hg2 => by omega) (fun p hp => by rw [hw.2.2.1] at hp; omega)
  rw [hw.2.2.1] at this
  exact ⟨n + 1, this⟩
theorem dQ_sq {h d bk t G P n : Nat} {nw : Nat → Nat} {wl : Nat → Nat → Nat} {wt : Nat → Nat → Nat → Nat} {s κ : Nat → Nat} {I : sI} (hw : tWD G P s κ) (hn : n ≤ G) (ht : t < 4) (e24 : I 248 24 = nI n) (e2 : I 248 21 = nI h ∧ I 248 22 = nI d ∧ I 248 23 = nI bk) (hmw : mW nw wl wt I) (z : ∀ g, g < n → I 260 g = nI (s (g + 1) - s g)) (c : ∀ p, p < s n → I 261 p = nI (κ p)) : sqS (dQ h d bk (nw t) (wl t) (wt t) s κ) n t bk s I := by
  have hP := hw.2.1
  obtain ⟨m1, m2⟩ := hmw t ht
  refine ⟨e24, e2.1, e2.2.1, e2.2.2, m1, m2, z, ⟨hw.2.2.1, fun g hg => ?_⟩, fun g hg => ?_, fun g hg i hi => ?_⟩
  · have l1 := hw.2.2.2.2.1 g (by omega)
    show s (g + 1) = s g + (s (g + 1) - s g)
    omega
  · have := s_le hw (show g ≤ G by omega); omega
  · have hi : i < s (g + 1) - s g := hi
    have mo := s_mono hw (show g + 1 ≤ n by omega) hn
    show I 261 (s g + (if bk = 0 then i else s (g + 1) - s g - 1 - i)) = nI (κ (if bk = 0 then s g + i else s (g + 1) - 1 - i))
    by_cases b0 : bk = 0
    · rw [if_pos b0, if_pos b0]; exact c _ (by omega)
    · rw [if_neg b0, if_neg b0, show s g + (s (g + 1) - s g - 1 - i) = s (g + 1) - 1 - i by omega]; exact c _ (by omega)
theorem cnt_sh {p : Nat → Prop} : ∀ {n}, cnt p (n + 1) = i1 (p 0) + cnt (fun k => p (k + 1)) n
  | 0 => by
    by_cases h : p 0
    · rw [cnt_s h, i1_y h]; show 0 + 1 = 1 + 0; rfl
    · rw [cnt_n h, i1_n h]; rfl
  | n + 1 => by
    have ih := cnt_sh (p := p) (n := n)
    by_cases h : p (n + 1)
    · rw [cnt_s h, ih, cnt_s (p := fun k => p (k + 1)) h]; omega
    · rw [cnt_n h, ih, cnt_n (p := fun k => p (k + 1)) h]
theorem cnt_gt {p : Nat → Prop} : ∀ {xs : List Nat}, cnt (fun k => p (gtL xs k)) xs.length = lcn p xs
  | [] => rfl
  | x :: xs => by
    rw [List.length_cons, cnt_sh]
    show i1 (p x) + cnt (fun k => p (gtL xs k)) xs.length = i1 (p x) + lcn p xs
    rw [cnt_gt]
/-- the readings, in order -/
def srF (xs : List Nat) (F : Nat → Nat) : Prop := (∀ i j, i ≤ j → j < xs.length → F i ≤ F j) ∧ ∀ p : Nat → Prop, cnt (fun k => p (F k)) xs.length = lcn p xs
theorem cnt_pos {p : Nat → Prop} : ∀ {n}, 0 < cnt p n → ∃ k, k < n ∧ p k
  | 0, h => absurd h (Nat.lt_irrefl 0)
  | n + 1, h => by
    by_cases z : p n
    · exact ⟨n, by omega, z⟩
    · rw [cnt_n z] at h
      obtain ⟨k, a, b⟩ := cnt_pos h
      exact ⟨k, by omega, b⟩
theorem cnt_ex {p : Nat → Prop} {n k : Nat} (hk : k < n) (h : p k) : 0 < cnt p n := by
  have := cnt_lt (p := fun _ => False) (q := p) (k := k) h (fun z => z) hk (fun _ _ z => z.elim)
  omega
theorem sr_mem {xs : List Nat} {F : Nat → Nat} (h : srF xs F) {k : Nat} (hk : k < xs.length) : F k ∈ xs := by
  have a : 0 < cnt (fun j => F j = F k) xs.length := cnt_ex hk rfl
  rw [h.2 (fun x => x = F k), lcn_pos] at a
  obtain ⟨x, hx, e⟩ := a
  rw [← e]; exact hx
theorem sr_ix {xs : List Nat} {F : Nat → Nat} (h : srF xs F) {x : Nat} (hx : x ∈ xs) : ∃ k, k < xs.length ∧ F k = x := by
  have a : 0 < lcn (fun y => y = x) xs := lcn_pos.mpr ⟨x, hx, rfl⟩
  rw [← h.2 (fun y => y = x)] at a
  exact cnt_pos a
theorem cnt_up {p : Nat → Prop} {i : Nat} : ∀ {n}, (∀ k, k < n → p k → k < i) → cnt p n ≤ i
  | 0, _ => Nat.zero_le _
  | n + 1, h => by
    have ih := cnt_up (n := n) (fun k hk => h k (by omega))
    by_cases z : p n
    · have a := h n (by omega) z
      have b := cnt_le p (n + 1)
      omega
    · rw [cnt_n z]; exact ih
theorem cnt_dn {p : Nat → Prop} {i : Nat} : ∀ {n}, i < n → (∀ k, k ≤ i → p k) → i < cnt p n
  | n + 1, hi, h => by
    by_cases e : i = n
    · subst e
      have : cnt p (i + 1) = cnt (fun _ => True) (i + 1) := cnt_congr (fun k hk => ⟨fun _ => trivial, fun _ => h k (by omega)⟩)
      rw [this, cnt_all]; omega
    · have ih := cnt_dn (n := n) (by omega) h
      by_cases z : p n
      · rw [cnt_s z]; omega
      · rw [cnt_n z]; exact ih
theorem sr_rk {xs : List Nat} {F : Nat → Nat} (h : srF xs F) {i : Nat} (hi : i < xs.length) : rkV xs i (F i) := by
  refine ⟨sr_mem h hi, ?_, ?_⟩
  · rw [← h.2 (fun x => x < F i)]
    refine cnt_up (fun k hk hlt => ?_)
    rcases Nat.lt_or_ge k i with y | y
    · exact y
    · have := h.1 i k y hk; omega
  · rw [← h.2 (fun x => x ≤ F i)]
    exact cnt_dn hi (fun k hk => h.1 k i hk hi)
theorem sr_least {xs : List Nat} {F : Nat → Nat} (h : srF xs F) {v : Nat} (h1 : v ∈ xs) (h2 : ∀ x, x ∈ xs → v ≤ x) : F 0 = v := by
  obtain ⟨k, hk, ek⟩ := sr_ix h h1
  have a := h.1 0 k (Nat.zero_le _) hk
  have b := h2 _ (sr_mem h (show 0 < xs.length by omega))
  omega
theorem q_all {I : sI} {J : sJ} {post : Int32 → sI → sJ → Prop} {G P t h d bk : Nat} {s κ : Nat → Nat} {nw : Nat → Nat} {wl : Nat → Nat → Nat} {wt : Nat → Nat → Nat → Nat} (hw : tWD G P s κ) (hm : mD G P s κ I) (hG1 : 1 ≤ G) (hx : lxO h d bk) (e2 : I 248 21 = nI h ∧ I 248 22 = nI d ∧ I 248 23 = nI bk) (hW : tWW nw wl wt) (hmw : mW nw wl wt I) (ht : t < 4) (h1 : ∀ (I2 : sI) (J2 : sJ) (F : Nat → Nat), (∀ p, ¬ (p = 248 ∨ p = 260 ∨ p = 261 ∨ p = 263 ∨ p = 264) → I2 p = I p) → (∀ k, ¬ (k = 24 ∨ k = 30 ∨ k = 32) → I2 248 k = I 248 k) → (∀ p, ¬ (p = 262 ∨ p = 265) → J2 p = J p) → tot (chF (dQ h d bk (nw t) (wl t) (wt t) s κ)) G ≤ 20000 → I2 248 30 = nI (tot (chF (dQ h d bk (nw t) (wl t) (wt t) s κ)) G) → I2 248 32 = nI (lev (chF (dQ h d bk (nw t) (wl t) (wt t) s κ)) G).length → ftS F (lev (chF (dQ h d bk (nw t) (wl t) (wt t) s κ)) G).length J2 → srF (lev (chF (dQ h d bk (nw t) (wl t) (wt t) s κ)) G) F → sqS (dQ h d bk (nw t) (wl t) (wt t) s κ) G t bk s I2 → post 1 I2 J2) (h0 : ∀ (I2 : sI) (J2 : sJ), (∀ p, ¬ (p = 248 ∨ p = 260 ∨ p = 261 ∨ p = 263 ∨ p = 264) → I2 p = I p) → (∀ k, ¬ (k = 24 ∨ k = 30 ∨ k = 32) → I2 248 k = I 248 k) → (∀ p, ¬ (p = 262 ∨ p = 265) → J2 p = J p) → 20000 < tot (chF (dQ h d bk (nw t) (wl t) (wt t) s κ)) G → I2 248 30 = nI 20001 → post 0 I2 J2) : w_X12_all (nI t) I J post := by
  have hq := dQ_O hw hx hW ht
  have hG := hw.1
  unfold w_X12_all
  rw [hm.1]
  refine q_takesDisc hw hm (Nat.le_refl _) (fun I1 r1 s1 e24 z1 c1 => ?_)
  have sq : sqS (dQ h d bk (nw t) (wl t) (wt t) s κ) G t bk s I1 := dQ_sq hw (Nat.le_refl _) ht e24 (by rw [s1 21 (by omega), s1 22 (by omega), s1 23 (by omega)]; exact e2) (by unfold mW at *; rw [r1 257 (by omega), r1 258 (by omega), r1 259 (by omega)]; exact hmw) z1 c1
  refine q_searches hq ht hx.2.2.2 sq (fun I2 J2 r2 s2 j2 t2 e30 bf2 => b2 (by decide) ?_) (fun I2 J2 r2 s2 j2 t2 e30 => b1 rfl ⟨Or.inl rfl, ?_⟩)
  · refine q_sorts hG1 (by omega) (by rw [s2 24 (by omega)]; exact e24) bf2 t2 (fun x hx2 => (lev_ok hq (Nat.le_refl _) hx2).1) (fun J3 F j3 f3 o3 p3 => ⟨Or.inr rfl, ?_⟩)
    refine h1 _ J3 F (fun p hp => by rw [sUI_ne (by omega), r2 p (by omega), r1 p (by omega)]) (fun k hk => by rw [pf_uis, if_neg (by omega), s2 k (by omega), s1 k (by omega)]) (fun p hp => by rw [j3 p (by omega), j2 p (by omega)]) t2 (by rw [pf_uis, if_neg (by omega)]; exact e30) (by rw [pf_uis, if_pos rfl]) f3 ⟨o3, fun p => by rw [p3 p, cnt_gt]⟩ ?_
    have sq2 := sqC _ _ _ _ _ sq r2 s2
    unfold sqS at *
    rw [pf_uis, if_neg (by omega), pf_uis, if_neg (by omega), pf_uis, if_neg (by omega), pf_uis, if_neg (by omega)]
    exact sq2
  · exact h0 I2 J2 (fun p hp => by rw [r2 p (by omega), r1 p (by omega)]) (fun k hk => by rw [s2 k (by omega), s1 k (by omega)]) (fun p hp => by rw [j2 p (by omega)]) t2 e30
theorem q_cannotR {I : sI} {J : sJ} {post : Int32 → sI → sJ → Prop} {a1 : Int32} {G : Nat} (hG : G ≤ 12) (e : I 4 3 = nI G) (h0 : Ix a1 4 → 1 ≤ G → post 0 I J) (h1 : ¬ (Ix a1 4 ∧ 1 ≤ G) → post 1 I J) : w_X11_cannotRead a1 I J post := by
  unfold w_X11_cannotRead w_X11_cannotRead_21
  refine q_X11_isTongue (fun z => b2 (by decide) ?_) (fun z => b1 rfl (h1 (fun q => z q.1)))
  rw [e, pf_eq0 (by omega)]
  exact ⟨fun y => h0 z (by omega), fun y => h1 (fun q => by have := q.2; omega)⟩
theorem q_isAsked {I : sI} {J : sJ} {post : Int32 → sI → sJ → Prop} {a1 : Int32} {G : Nat} (hG : G ≤ 12) (e : I 248 11 = nI G) (h1 : Ix a1 4 → 1 ≤ G → post 1 I J) (h0 : ¬ (Ix a1 4 ∧ 1 ≤ G) → post 0 I J) : w_X12_isAsked a1 I J post := by
  unfold w_X12_isAsked
  refine q_X12_isTongue (fun z => b2 (by decide) ?_) (fun z => b1 rfl (h0 (fun q => z q.1)))
  rw [e, pf_le0 (by omega)]
  exact ⟨fun y => h0 (fun q => by have := q.2; omega), fun y => h1 z (by omega)⟩
theorem q_tellL {I : sI} {J : sJ} {post : sI → sJ → Prop} {c : Nat} (hc : c < 2 ^ 48) (e : I 134 1 = nI 0) (h : ∀ (I2 : sI) (J2 : sJ), (∀ p, ¬ p = 134 → I2 p = I p) → I2 134 1 = nI 12 → (∀ p, ¬ p = 135 → J2 p = J p) → (∀ k, k < 12 → J2 135 k = (nI (nb c k) - 1).toInt64) → post I2 J2) : w_X11_tellLetters (lN c) I J post := by
  have loop : ∀ f k (I3 : sI) (J3 : sJ), k ≤ 12 → 12 - k < f → (∀ p, ¬ p = 134 → I3 p = I p) → I3 134 1 = nI k → (∀ p, ¬ p = 135 → J3 p = J p) → (∀ i, i < k → J3 135 i = (nI (nb c i) - 1).toInt64) → w_X11_tellLetters_2_n post f (lN c) (nI k) I3 J3 := by
    intro f
    induction f with
    | zero => intro i _ _ _ h; omega
    | succ f ih =>
      intro k I3 J3 hk hf r3 e3 j3 c3
      show w_X11_tellLetters_2_s post (w_X11_tellLetters_2_n post f) _ _ I3 J3
      unfold w_X11_tellLetters_2_s
      rw [show (12 : Int32) = nI 12 from rfl, pf_le (by omega) (by omega)]
      refine ⟨fun z => ?_, fun z => ?_⟩
      · rw [show k = 12 by omega] at e3 c3
        exact h I3 J3 r3 e3 j3 c3
      · refine q_letterIn hc (by omega) ?_
        refine q_X6_put (by decide) e3 (by omega) ?_
        rw [nI_1]
        rintro _ rfl
        refine ih (k + 1) _ _ (by omega) (by omega) (fun p hp => by rw [sUI_ne hp, r3 p hp]) (by rw [pf_uis, if_pos rfl]) (fun p hp => by funext x; rw [pf_uj, if_neg (by omega), j3 p hp]) (fun i hi => ?_)
        rw [pf_ujs]
        by_cases z2 : i = k
        · rw [if_pos z2, z2]
        · rw [if_neg z2, c3 i (by omega)]
  exact ⟨13, loop 13 0 I J (by omega) (by omega) (fun _ _ => rfl) e (fun _ _ => rfl) (fun i hi => by omega)⟩
theorem q_entersR {I : sI} {J : sJ} {post : sI → sJ → Prop} {c : Nat} (hc : c < 2 ^ 48) (e : I 248 1 = nI 0) (h : ∀ (I2 : sI) (J2 : sJ), (∀ p, ¬ p = 248 → I2 p = I p) → (∀ k, ¬ k = 1 → I2 248 k = I 248 k) → I2 248 1 = nI 12 → (∀ p, ¬ p = 249 → J2 p = J p) → (∀ k, k < 12 → J2 249 k = (nI (nb c k) - 1).toInt64) → post I2 J2) : w_X12_entersReading (lN c) I J post := by
  have loop : ∀ f k (I3 : sI) (J3 : sJ), k ≤ 12 → 12 - k < f → (∀ p, ¬ p = 248 → I3 p = I p) → (∀ k, ¬ k = 1 → I3 248 k = I 248 k) → I3 248 1 = nI k → (∀ p, ¬ p = 249 → J3 p = J p) → (∀ i, i < k → J3 249 i = (nI (nb c i) - 1).toInt64) → w_X12_entersReading_2_n post f (lN c) (nI k) I3 J3 := by
    intro f
    induction f with
    | zero => intro i _ _ _ h; omega
    | succ f ih =>
      intro k I3 J3 hk hf r3 s3 e3 j3 c3
      show w_X12_entersReading_2_s post (w_X12_entersReading_2_n post f) _ _ I3 J3
      unfold w_X12_entersReading_2_s
      rw [show (12 : Int32) = nI 12 from rfl, pf_le (by omega) (by omega)]
      refine ⟨fun z => ?_, fun z => ?_⟩
      · rw [show k = 12 by omega] at e3 c3
        exact h I3 J3 r3 s3 e3 j3 c3
      · refine q_letterOf hc (by omega) ?_
        refine q_enters e3 (by omega) ?_
        rw [nI_1]
        rintro _ rfl
        refine ih (k + 1) _ _ (by omega) (by omega) (fun p hp => by rw [sUI_ne hp, r3 p hp]) (fun j hj => by rw [pf_uis, if_neg hj, s3 j hj]) (by rw [pf_uis, if_pos rfl]) (fun p hp => by funext x; rw [pf_uj, if_neg (by omega), j3 p hp]) (fun i hi => ?_)
        rw [pf_ujs]
        by_cases z2 : i = k
        · rw [if_pos z2, z2]
        · rw [if_neg z2, c3 i (by omega)]
  exact ⟨13, loop 13 0 I J (by omega) (by omega) (fun _ _ => rfl) (fun _ _ => rfl) e (fun _ _ => rfl) (fun i hi => by omega)⟩
