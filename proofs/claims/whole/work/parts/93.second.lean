/-! two discs, one behind the other -/
def catS (G P : Nat) (s s2 : Nat → Nat) (g : Nat) : Nat := if g < G then s g else P + s2 (g - G)
def catK (P : Nat) (κ κ2 : Nat → Nat) (p : Nat) : Nat := if p < P then κ p else κ2 (p - P)
theorem cS_hi {G P : Nat} {s s2 : Nat → Nat} (g : Nat) : catS G P s s2 (G + g) = P + s2 g := by
  unfold catS; rw [if_neg (by omega), Nat.add_sub_cancel_left]
theorem cS_lo {G P g : Nat} {s s2 κ κ2 : Nat → Nat} {G2 P2 : Nat} (hw : tWD G P s κ) (hw2 : tWD G2 P2 s2 κ2) (h : g ≤ G) : catS G P s s2 g = s g := by
  unfold catS
  by_cases e : g < G
  · rw [if_pos e]
  · rw [if_neg e, show g = G by omega, Nat.sub_self, hw2.2.2.1, hw.2.2.2.1]; rfl
theorem cK_hi {P : Nat} {κ κ2 : Nat → Nat} (p : Nat) : catK P κ κ2 (P + p) = κ2 p := by
  unfold catK; rw [if_neg (by omega), Nat.add_sub_cancel_left]
theorem cK_lo {P p : Nat} {κ κ2 : Nat → Nat} (h : p < P) : catK P κ κ2 p = κ p := by
  unfold catK; rw [if_pos h]
def tW2 (N : Nat) (s κ : Nat → Nat) : Prop := N ≤ 24 ∧ s 0 = 0 ∧ (∀ g, g < N → s g < s (g + 1) ∧ s (g + 1) ≤ s g + 6) ∧ s N ≤ 150 ∧ ∀ p, p < s N → κ p ≤ 12
theorem t2_mono {N : Nat} {s κ : Nat → Nat} (hw : tW2 N s κ) : ∀ {b a}, a ≤ b → b ≤ N → s a ≤ s b := by
  intro b
  induction b with
  | zero => intro a h _; rw [show a = 0 by omega]; exact Nat.le_refl _
  | succ b ih =>
    intro a h hb
    by_cases e : a = b + 1
    · rw [e]; exact Nat.le_refl _
    · have := ih (a := a) (by omega) (by omega)
      have := hw.2.2.1 b (by omega)
      omega
theorem cat_W {G P G2 P2 : Nat} {s κ s2 κ2 : Nat → Nat} (hw : tWD G P s κ) (hw2 : tWD G2 P2 s2 κ2) : tW2 (G + G2) (catS G P s s2) (catK P κ κ2) := by
  have a1 := hw.1
  have a2 := hw2.1
  have a3 := hw.2.1
  have a4 := hw2.2.1
  have eN : catS G P s s2 (G + G2) = P + P2 := by rw [cS_hi, hw2.2.2.2.1]
  refine ⟨by omega, by rw [cS_lo hw hw2 (by omega)]; exact hw.2.2.1, fun g hg => ?_, by omega, fun p hp => ?_⟩
  · by_cases e : g < G
    · rw [cS_lo hw hw2 (show g ≤ G by omega), cS_lo hw hw2 (show g + 1 ≤ G by omega)]
      exact hw.2.2.2.2.1 g e
    · obtain ⟨k, ek⟩ : ∃ k, g = G + k := ⟨g - G, by omega⟩
      subst ek
      rw [Nat.add_assoc, cS_hi, cS_hi]
      have := hw2.2.2.2.2.1 k (by omega)
      omega
  · rw [eN] at hp
    by_cases e : p < P
    · rw [cK_lo e]; exact hw.2.2.2.2.2 p e
    · obtain ⟨k, ek⟩ : ∃ k, p = P + k := ⟨p - P, by omega⟩
      subst ek
      rw [cK_hi]; exact hw2.2.2.2.2.2 k (by omega)
theorem dQ_O2 {h d bk t N : Nat} {nw : Nat → Nat} {wl : Nat → Nat → Nat} {wt : Nat → Nat → Nat → Nat} {s κ : Nat → Nat} (hw : tW2 N s κ) (hx : lxO h d bk) (hW : tWW nw wl wt) (ht : t < 4) : qO (dQ h d bk (nw t) (wl t) (wt t) s κ) N := by
  have hG := hw.1
  obtain ⟨x1, x2, x3, x4⟩ := hx
  obtain ⟨w1, w2⟩ := hW t ht
  refine ⟨by omega, x1, x2, x3, w1, fun g hg => ?_, fun w hw => w2 w hw⟩
  have l1 := hw.2.2.1 g hg
  have l3 := t2_mono hw (show g + 1 ≤ N by omega) (Nat.le_refl _)
  refine ⟨by show 1 ≤ s (g + 1) - s g; omega, by show s (g + 1) - s g ≤ 6; omega, fun i hi => ?_⟩
  have hi : i < s (g + 1) - s g := hi
  refine hw.2.2.2.2 _ ?_
  split <;> omega
theorem dQ_sq2 {h d bk t n : Nat} {nw : Nat → Nat} {wl : Nat → Nat → Nat} {wt : Nat → Nat → Nat → Nat} {s κ : Nat → Nat} {I : sI} (hw : tW2 n s κ) (ht : t < 4) (e24 : I 248 24 = nI n) (e2 : I 248 21 = nI h ∧ I 248 22 = nI d ∧ I 248 23 = nI bk) (hmw : mW nw wl wt I) (z : ∀ g, g < n → I 260 g = nI (s (g + 1) - s g)) (c : ∀ p, p < s n → I 261 p = nI (κ p)) : sqS (dQ h d bk (nw t) (wl t) (wt t) s κ) n t bk s I := by
  have hP := hw.2.2.2.1
  obtain ⟨m1, m2⟩ := hmw t ht
  refine ⟨e24, e2.1, e2.2.1, e2.2.2, m1, m2, z, ⟨hw.2.1, fun g hg => ?_⟩, fun g hg => ?_, fun g hg i hi => ?_⟩
  · have l1 := hw.2.2.1 g (by omega)
    show s (g + 1) = s g + (s (g + 1) - s g)
    omega
  · have := t2_mono hw hg (Nat.le_refl _); omega
  · have hi : i < s (g + 1) - s g := hi
    have mo := t2_mono hw (show g + 1 ≤ n by omega) (Nat.le_refl _)
    show I 261 (s g + (if bk = 0 then i else s (g + 1) - s g - 1 - i)) = nI (κ (if bk = 0 then s g + i else s (g + 1) - 1 - i))
    by_cases b0 : bk = 0
    · rw [if_pos b0, if_pos b0]; exact c _ (by omega)
    · rw [if_neg b0, if_neg b0, show s g + (s (g + 1) - s g - 1 - i) = s (g + 1) - 1 - i by omega]; exact c _ (by omega)
theorem cat_g1 {h d bk nw G P G2 P2 g : Nat} {wl : Nat → Nat} {wt : Nat → Nat → Nat} {s κ s2 κ2 : Nat → Nat} (hw : tWD G P s κ) (hw2 : tWD G2 P2 s2 κ2) (hg : g < G) : gpS (dQ h d bk nw wl wt (catS G P s s2) (catK P κ κ2)) bk (0 + g) g s κ := by
  have l1 := hw.2.2.2.2.1 g hg
  have l3 := s_le hw (show g + 1 ≤ G by omega)
  have e : qZ (dQ h d bk nw wl wt (catS G P s s2) (catK P κ κ2)) (0 + g) = s (g + 1) - s g := by
    show catS G P s s2 (0 + g + 1) - catS G P s s2 (0 + g) = _
    rw [Nat.zero_add, cS_lo hw hw2 (show g + 1 ≤ G by omega), cS_lo hw hw2 (show g ≤ G by omega)]
  refine ⟨e, fun i hi => ?_⟩
  rw [e] at hi
  show catK P κ κ2 (if bk = 0 then catS G P s s2 (0 + g) + i else catS G P s s2 (0 + g + 1) - 1 - i) = _
  rw [Nat.zero_add, cS_lo hw hw2 (show g + 1 ≤ G by omega), cS_lo hw hw2 (show g ≤ G by omega)]
  refine cK_lo ?_
  split <;> omega
theorem cat_g2 {h d bk nw G P G2 P2 g : Nat} {wl : Nat → Nat} {wt : Nat → Nat → Nat} {s κ s2 κ2 : Nat → Nat} (hw2 : tWD G2 P2 s2 κ2) (hg : g < G2) : gpS (dQ h d bk nw wl wt (catS G P s s2) (catK P κ κ2)) bk (G + g) g s2 κ2 := by
  have l1 := hw2.2.2.2.2.1 g hg
  have e : qZ (dQ h d bk nw wl wt (catS G P s s2) (catK P κ κ2)) (G + g) = s2 (g + 1) - s2 g := by
    show catS G P s s2 (G + g + 1) - catS G P s s2 (G + g) = _
    rw [Nat.add_assoc, cS_hi, cS_hi]; omega
  refine ⟨e, fun i hi => ?_⟩
  rw [e] at hi
  show catK P κ κ2 (if bk = 0 then catS G P s s2 (G + g) + i else catS G P s s2 (G + g + 1) - 1 - i) = _
  rw [Nat.add_assoc, cS_hi, cS_hi]
  by_cases b0 : bk = 0
  · rw [if_pos b0, if_pos b0, Nat.add_assoc, cK_hi]
  · rw [if_neg b0, if_neg b0, show P + s2 (g + 1) - 1 - i = P + (s2 (g + 1) - 1 - i) by omega, cK_hi]
/-- the model's second() behind its reading of a right text -/
theorem q_X12_sec51 {I : sI} {J : sJ} {post : Int32 → sI → sJ → Prop} {G P G2 P2 t h d bk : Nat} {s κ s2 κ2 : Nat → Nat} {nw : Nat → Nat} {wl : Nat → Nat → Nat} {wt : Nat → Nat → Nat → Nat} {q : sPr} (hw : tWD G P s κ) (hw2 : tWD G2 P2 s2 κ2) (hx : lxO h d bk) (hW : tWW nw wl wt) (hmw : mW nw wl wt I) (e2 : I 248 21 = nI h ∧ I 248 22 = nI d ∧ I 248 23 = nI bk) (ht : t < 4) (g1 : 1 ≤ G) (g2 : 1 ≤ G2) (e7 : I 248 7 = nI G2) (e8 : I 248 8 = nI P2) (c1 : ∀ g, g < G2 → I 251 g = nI (s2 (g + 1) - s2 g)) (c2 : ∀ p, p < P2 → I 252 p = nI (κ2 p)) (e11 : I 248 11 = nI G) (e24 : I 248 24 = nI G) (z : ∀ g, g < G → I 260 g = nI (s (g + 1) - s g)) (c : ∀ p, p < P → I 261 p = nI (κ p)) (eq : q = dQ h d bk (nw t) (wl t) (wt t) (catS G P s s2) (catK P κ κ2))
    (h1 : ∀ (I2 : sI) (J2 : sJ), (∀ p, ¬ (p = 248 ∨ (260 ≤ p ∧ p ≤ 269)) → I2 p = I p) → (∀ k, ¬ (k = 1 ∨ k = 24 ∨ k = 30) → I2 248 k = I 248 k) → I2 248 1 = nI 1 → (∀ p, ¬ (p = 249 ∨ p = 262) → J2 p = J p) → J2 249 0 = (nI (lev (chF q) (G + G2)).length).toInt64 → tot (chF q) (G + G2) ≤ 20000 → post (nI (hlF (chF q) G (G + G2) 0 0)) I2 J2)
    (h0 : ∀ (I2 : sI) (J2 : sJ), (∀ p, ¬ (p = 248 ∨ (260 ≤ p ∧ p ≤ 269)) → I2 p = I p) → (∀ k, ¬ (k = 24 ∨ k = 30) → I2 248 k = I 248 k) → (∀ p, ¬ (p = 262) → J2 p = J p) → 20000 < tot (chF q) (G + G2) → post (-3) I2 J2) : w_X12_second_51 post (nI t) (nI P) 0 I J := by
  have a1 := hw.1
  have a2 := hw2.1
  have a3 := hw.2.1
  have a4 := hw2.2.1
  have hcw := cat_W hw hw2
  have hq : qO q (G + G2) := by rw [eq]; exact dQ_O2 hcw hx hW ht
  obtain ⟨ch, ech⟩ : ∃ ch, ch = chF q := ⟨_, rfl⟩
  have loop98 : ∀ (I0 : sI), (∀ p, ¬ (p = 248 ∨ p = 260) → I0 p = I p) → (∀ k, ¬ k = 24 → I0 248 k = I 248 k) → I0 248 24 = nI (G + G2) → (∀ g, g < G + G2 → I0 260 g = nI (catS G P s s2 (g + 1) - catS G P s s2 g)) → ∀ f x (I3 : sI), x ≤ P2 → P2 - x < f → (∀ p, ¬ p = 261 → I3 p = I0 p) → (∀ p, p < P + x → I3 261 p = nI (catK P κ κ2 p)) → w_X12_second_98_n post f (nI t) (nI P) (nI x) I3 J := by
    intro I0 r0 s0 e0 z0 f
    induction f with
    | zero => intro x _ _ h; omega
    | succ f ih =>
      intro x I3 hx3 hf r3 c3
      show w_X12_second_98_s post (w_X12_second_98_n post f) _ _ _ I3 J
      unfold w_X12_second_98_s
      rw [r3 248 (by omega), s0 8 (by omega), e8, pf_le (by omega) (by omega), nI_add, pf_cl (by omega), pf_cl (by omega), nI_1]
      refine ⟨fun e => ?_, fun e => ⟨vp_in_nI (by omega) (by omega), vp_in_nI (by omega) (by omega), ?_⟩⟩
      · have ex : x = P2 := by omega
        subst ex
        have eN : catS G P s s2 (G + G2) = P + x := by rw [cS_hi, hw2.2.2.2.1]
        have sq : sqS q (G + G2) t bk (catS G P s s2) I3 := by
          rw [eq]
          refine dQ_sq2 hcw ht (by rw [r3 248 (by omega)]; exact e0) (by rw [r3 248 (by omega), s0 21 (by omega), s0 22 (by omega), s0 23 (by omega)]; exact e2) (mW_congr (mW_congr hmw (r0 257 (by omega)) (r0 258 (by omega)) (r0 259 (by omega))) (r3 257 (by omega)) (r3 258 (by omega)) (r3 259 (by omega))) (fun g hg => by rw [r3 260 (by omega)]; exact z0 g hg) (fun p hp => by rw [eN] at hp; exact c3 p hp)
        refine q_searches hq ht hx.2.2.2 sq (fun I6 J6 r6 s6 j6 t6 e30 bf6 => b3 (by decide) ?_) (fun I6 J6 r6 s6 j6 t6 e30 => b4 rfl ?_)
        · rw [← ech] at t6 e30 bf6
          have q6 : ∀ p, ¬ (p = 248 ∨ (260 ≤ p ∧ p ≤ 269)) → I6 p = I p := fun p hp => by rw [r6 p (by omega), r3 p (by omega), r0 p (by omega)]
          have z6 : ∀ k, ¬ (k = 24 ∨ k = 30) → I6 248 k = I 248 k := fun k hk => by rw [s6 k (by omega), r3 248 (by omega), s0 k (by omega)]
          rw [s6 24 (by omega), r3 248 (by omega), e0, nI_p (by omega)]
          rintro _ rfl
          obtain ⟨par, p1, p2⟩ := bf_par bf6 t6
          have e1 := bf6.1 0 (by omega)
          have tl := tot_le (ch := ch) (show 1 ≤ G + G2 by omega)
          refine q_sec151 (by omega) (by omega) bf6 rfl t6 e30 (fun I7 r7 c7 => ?_)
          refine q_sec197 (a := tot ch 1) (b := tot ch (G + G2 - 1)) (par := par) (H := hNd ch (G + G2)) t6 tl (by rw [r7 264 (by omega)]; exact e1) (fun x a b => by rw [r7 263 (by omega)]; exact p1 x a b) p2 c7 (fun I8 r8 c8 => ?_)
          have q8 : ∀ p, ¬ p = 268 → I8 p = I6 p := fun p hp => by rw [r8 p hp, r7 p hp]
          have bf8 : bfS ch (G + G2) I8 J6 := by unfold bfS; rw [q8 264 (by omega), q8 263 (by omega)]; exact bf6
          have e11' : I8 248 11 = nI G := by rw [q8 248 (by omega), z6 11 (by omega)]; exact e11
          rw [e11', nI_p g1]
          refine q_lvl (by omega) bf8 (by omega) ?_
          have tG : tot ch G = tot ch (G - 1) + (lev ch G).length := by
            obtain ⟨g, eg⟩ : ∃ g, G = g + 1 := ⟨G - 1, by omega⟩
            rw [eg]; rfl
          have tN : tot ch (G + G2) = tot ch (G + G2 - 1) + (lev ch (G + G2)).length := by
            obtain ⟨g, eg⟩ : ∃ g, G + G2 = g + 1 := ⟨G + G2 - 1, by omega⟩
            rw [eg]; rfl
          have tl2 := tot_le (ch := ch) (show G ≤ G + G2 by omega)
          refine q_sec252 (H := hNd ch (G + G2)) (n := (lev ch G).length) g1 a1 e11' (by rw [bf8.1 (G - 1) (by omega), show G - 1 + 1 = G by omega, tG]) (by omega) (fun y hy => c8 y (by omega)) ?_
          rintro _ rfl
          refine ⟨vp_in_nI (by omega) (by omega), ?_⟩
          have bf9 : bfS ch (G + G2) (sUI I8 248 1 0) J6 := by unfold bfS; rw [sUI_ne (by omega), sUI_ne (by omega)]; exact bf8
          refine q_lvl (by omega) bf9 (by omega) ?_
          rw [pf_cl (by omega), bf9.1 (G + G2 - 1) (by omega), show G + G2 - 1 + 1 = G + G2 by omega, pk_sub (by omega), show tot ch (G + G2) - tot ch (G + G2 - 1) = (lev ch (G + G2)).length by omega]
          refine q_enters (k := 0) (by rw [pf_uis, if_pos rfl]; rfl) (by omega) ?_
          rw [← hl_cnt g1 g2]
          rw [ech] at t6 ⊢
          exact h1 _ _ (fun p hp => by rw [sUI_ne (by omega), sUI_ne (by omega), q8 p (by omega), q6 p hp]) (fun k hk => by rw [pf_uis, if_neg (by omega), pf_uis, if_neg (by omega), q8 248 (by omega), z6 k (by omega)]) (by rw [pf_uis, if_pos rfl]) (fun p hp => by funext x; rw [pf_uj, if_neg (by omega), j6 p (by omega)]) (by rw [pf_ujs, if_pos rfl]) t6
        · exact h0 I6 J6 (fun p hp => by rw [r6 p (by omega), r3 p (by omega), r0 p (by omega)]) (fun k hk => by rw [s6 k (by omega), r3 248 (by omega), s0 k (by omega)]) j6 t6
      · rintro _ rfl _ rfl
        refine ih (x + 1) _ (by omega) (by omega) (fun p hp => by rw [sUI_ne hp, r3 p hp]) (fun p hp => ?_)
        rw [pf_uis]
        by_cases e4 : p = P + x
        · rw [if_pos e4, r3 252 (by omega), r0 252 (by omega), c2 x (by omega), e4, cK_hi]
        · rw [if_neg e4]; exact c3 p (by omega)
  have loop51 : ∀ f x (I3 : sI), x ≤ G2 → G2 - x < f → (∀ p, ¬ (p = 248 ∨ p = 260) → I3 p = I p) → (∀ k, ¬ k = 24 → I3 248 k = I 248 k) → I3 248 24 = nI (G + x) → (∀ g, g < G + x → I3 260 g = nI (catS G P s s2 (g + 1) - catS G P s s2 g)) → w_X12_second_51_n post f (nI t) (nI P) (nI x) I3 J := by
    intro f
    induction f with
    | zero => intro x _ _ h; omega
    | succ f ih =>
      intro x I3 hx3 hf r3 s3 e3 z3
      show w_X12_second_51_s post (w_X12_second_51_n post f) _ _ _ I3 J
      unfold w_X12_second_51_s
      rw [s3 7 (by omega), e7, s3 11 (by omega), e11, pf_le (by omega) (by omega), nI_add, pf_cl (by omega), pf_cl (by omega), nI_1]
      refine ⟨fun e => ?_, fun e => ⟨vp_in_nI (by omega) (by omega), vp_in_nI (by omega) (by omega), ?_⟩⟩
      · have ex : x = G2 := by omega
        subst ex
        exact ⟨P2 + 1, loop98 I3 r3 s3 e3 z3 (P2 + 1) 0 I3 (by omega) (by omega) (fun _ _ => rfl) (fun p hp => by rw [r3 261 (by omega), c p (by omega), cK_lo (by omega)])⟩
      · rintro _ rfl
        rw [show (sUI I3 260 (G + x) (I3 251 x)) 248 24 = nI (G + x) by rw [sUI_ne (by omega)]; exact e3, nI_1]
        rintro _ rfl _ rfl
        refine ih (x + 1) _ (by omega) (by omega) (fun p hp => by rw [sUI_ne (by omega), sUI_ne (by omega), r3 p hp]) (fun k hk => by rw [pf_uis, if_neg hk, sUI_ne (by omega), s3 k hk]) (by rw [pf_uis, if_pos rfl]; rfl) (fun g hg => ?_)
        rw [sUI_ne (by omega), pf_uis]
        by_cases e4 : g = G + x
        · rw [if_pos e4, r3 251 (by omega), c1 x (by omega), e4, Nat.add_assoc, cS_hi, cS_hi, show P + s2 (x + 1) - (P + s2 x) = s2 (x + 1) - s2 x by omega]
        · rw [if_neg e4]; exact z3 g (by omega)
  exact ⟨G2 + 1, loop51 (G2 + 1) 0 I (by omega) (by omega) (fun _ _ => rfl) (fun _ _ => rfl) e24 (fun g hg => by rw [z g (by omega), cS_lo hw hw2 (show g + 1 ≤ G by omega), cS_lo hw hw2 (show g ≤ G by omega)])⟩
def bdT (n : Nat) (b : Nat → Nat) (p : Nat) : Prop := p ≤ 60 ∧ ((p < n ∧ p < 60 ∧ okTo b p ∧ ¬ okAt b p) ∨ (p = min n 60 ∧ okTo b (min n 60) ∧ (60 < n ∨ pl b n = 0)))
theorem bd_uni {n p p' : Nat} {b : Nat → Nat} (h : bdT n b p) (h' : bdT n b p') : p = p' := by
  obtain ⟨_, hcase⟩ := h
  obtain ⟨_, hcase'⟩ := h'
  rcases hcase with ⟨a1, a2, a3, a4⟩ | ⟨a1, a2, a3⟩ <;> rcases hcase' with ⟨c1, c2, c3, c4⟩ | ⟨c1, c2, c3⟩
  · rcases Nat.lt_trichotomy p p' with x | x | x
    · exact absurd (c3 p x) a4
    · exact x
    · exact absurd (a3 p' x) c4
  · exact absurd (c2 p (by omega)) a4
  · exact absurd (a2 p' (by omega)) c4
  · omega
theorem bd_ok {n p : Nat} {b : Nat → Nat} (h : bdT n b p) (o1 : okTo b n) (o2 : n ≤ 60) (o3 : pl b n ≠ 0) : False := by
  rcases h.2 with ⟨a1, a2, a3, a4⟩ | ⟨a1, a2, a3⟩
  · exact a4 (o1 p a1)
  · omega
theorem q_X12_second {I : sI} {J : sJ} {post : Int32 → sI → sJ → Prop} {a1 : Int32} {G P h d bk n : Nat} {b : Nat → Nat} {s κ : Nat → Nat} {nw : Nat → Nat} {wl : Nat → Nat → Nat} {wt : Nat → Nat → Nat → Nat} (hT : mT n b I) (hn : n ≤ 80) (hb : ∀ i, i < n → b i < 256) (hw : tWD G P s κ) (hm : mD G P s κ I) (hx : lxO h d bk) (hW : tWW nw wl wt) (hmw : mW nw wl wt I) (e2 : I 248 21 = nI h ∧ I 248 22 = nI d ∧ I 248 23 = nI bk)
    (hno : ¬ (Ix a1 4 ∧ 1 ≤ G) → ∀ I2 : sI, (∀ q, ¬ (q = 248 ∨ q = 251 ∨ q = 252) → I2 q = I q) → (∀ k, ¬ (k = 0 ∨ k = 4 ∨ k = 5 ∨ k = 6 ∨ k = 7 ∨ k = 8) → I2 248 k = I 248 k) → I2 248 4 = 0 → post (-1) I2 J)
    (hbad : Ix a1 4 ∧ 1 ≤ G → ∀ p, bdT n b p → ∀ I2 : sI, (∀ q, ¬ (q = 248 ∨ q = 251 ∨ q = 252) → I2 q = I q) → (∀ k, ¬ (k = 0 ∨ k = 4 ∨ k = 5 ∨ k = 6 ∨ k = 7 ∨ k = 8) → I2 248 k = I 248 k) → I2 248 4 = 0 → post ((-100) - nI p) I2 J)
    (hok : ∀ t, t < 4 → a1 = nI t → 1 ≤ G → okTo b n → n ≤ 60 → pl b n ≠ 0 → ∀ q, q = dQ h d bk (nw t) (wl t) (wt t) (catS G P s (dS b n)) (catK P κ (pK b n)) → ∀ (I2 : sI) (J2 : sJ), (∀ p, ¬ (p = 248 ∨ p = 251 ∨ p = 252 ∨ (260 ≤ p ∧ p ≤ 269)) → I2 p = I p) → (∀ k, ¬ (k = 0 ∨ k = 1 ∨ k = 4 ∨ k = 5 ∨ k = 6 ∨ k = 7 ∨ k = 8 ∨ k = 24 ∨ k = 30) → I2 248 k = I 248 k) → I2 248 4 = 0 → I2 248 1 = nI 1 → (∀ p, ¬ (p = 249 ∨ p = 262) → J2 p = J p) → J2 249 0 = (nI (lev (chF q) (G + dG b n)).length).toInt64 → tot (chF q) (G + dG b n) ≤ 20000 → post (nI (hlF (chF q) G (G + dG b n) 0 0)) I2 J2)
    (hmany : ∀ t, t < 4 → a1 = nI t → 1 ≤ G → okTo b n → n ≤ 60 → pl b n ≠ 0 → ∀ q, q = dQ h d bk (nw t) (wl t) (wt t) (catS G P s (dS b n)) (catK P κ (pK b n)) → ∀ (I2 : sI) (J2 : sJ), (∀ p, ¬ (p = 248 ∨ p = 251 ∨ p = 252 ∨ (260 ≤ p ∧ p ≤ 269)) → I2 p = I p) → (∀ k, ¬ (k = 0 ∨ k = 4 ∨ k = 5 ∨ k = 6 ∨ k = 7 ∨ k = 8 ∨ k = 24 ∨ k = 30) → I2 248 k = I 248 k) → I2 248 4 = 0 → (∀ p, ¬ (p = 262) → J2 p = J p) → 20000 < tot (chF q) (G + dG b n) → post (-3) I2 J2) : w_X12_second a1 I J post := by
  obtain ⟨t1, t2⟩ := hT
  have hG := hw.1
  unfold w_X12_second
  rintro _ rfl
  refine q_begins (n := n) (M := 60) t1 hn (by omega) ?_
  have fr0 : ∀ q, ¬ q = 248 → (sUI (sUI (sUI (sUI I 248 0 0) 248 4 0) 248 5 0) 248 6 (nI (min n 60))) q = I q := fun q hq => by rw [sUI_ne hq, sUI_ne hq, sUI_ne hq, sUI_ne hq]
  have fs0 : ∀ k, ¬ (k = 0 ∨ k = 4 ∨ k = 5 ∨ k = 6) → (sUI (sUI (sUI (sUI I 248 0 0) 248 4 0) 248 5 0) 248 6 (nI (min n 60))) 248 k = I 248 k := fun k hk => by rw [pf_uis, if_neg (by omega), pf_uis, if_neg (by omega), pf_uis, if_neg (by omega), pf_uis, if_neg (by omega)]
  have e100 : ∀ p, (-99 : Int32) + ((-1) - nI p) = (-100) - nI p := fun p => by
    rw [Int32.sub_eq_add_neg, Int32.sub_eq_add_neg, ← Int32.add_assoc]
    rfl
  refine q_reads (n := n) (b := b) hn rfl rfl (fun i hi => ⟨hb i hi, t2 i hi⟩) ?_ ?_ ?_
  · intro p p1 p2 p3 p4 I2 fr fs
    have r1 : ∀ q, ¬ (q = 248 ∨ q = 251 ∨ q = 252) → I2 q = I q := fun q hq => by rw [fr q hq, fr0 q (by omega)]
    have s1 : ∀ k, ¬ (k = 0 ∨ k = 4 ∨ k = 5 ∨ k = 6 ∨ k = 7 ∨ k = 8) → I2 248 k = I 248 k := fun k hk => by rw [fs k (by omega), fs0 k (by omega)]
    refine q_isAsked hG (by rw [s1 11 (by omega)]; exact hm.1) (fun a g => b3 (by decide) (b2 (neg_lt0 (by omega)) ?_)) (fun z => b4 rfl (hno z I2 r1 s1 (by rw [fs 4 (by omega)]; rfl)))
    rw [e100]
    exact hbad ⟨a, g⟩ p ⟨by omega, Or.inl ⟨p1, p2, p3, p4⟩⟩ I2 r1 s1 (by rw [fs 4 (by omega)]; rfl)
  · intro p1 p2 I2 fr fs
    have r1 : ∀ q, ¬ (q = 248 ∨ q = 251 ∨ q = 252) → I2 q = I q := fun q hq => by rw [fr q hq, fr0 q (by omega)]
    have s1 : ∀ k, ¬ (k = 0 ∨ k = 4 ∨ k = 5 ∨ k = 6 ∨ k = 7 ∨ k = 8) → I2 248 k = I 248 k := fun k hk => by rw [fs k (by omega), fs0 k (by omega)]
    refine q_isAsked hG (by rw [s1 11 (by omega)]; exact hm.1) (fun a g => b3 (by decide) (b2 (neg_lt0 (by omega)) ?_)) (fun z => b4 rfl (hno z I2 r1 s1 (by rw [fs 4 (by omega)]; rfl)))
    rw [e100]
    exact hbad ⟨a, g⟩ (min n 60) ⟨by omega, Or.inr ⟨rfl, p1, p2⟩⟩ I2 r1 s1 (by rw [fs 4 (by omega)]; rfl)
  · intro p1 p2 p3 I2 fr fs g7 g8 g9 g10
    have r1 : ∀ q, ¬ (q = 248 ∨ q = 251 ∨ q = 252) → I2 q = I q := fun q hq => by rw [fr q hq, fr0 q (by omega)]
    have s1 : ∀ k, ¬ (k = 0 ∨ k = 4 ∨ k = 5 ∨ k = 6 ∨ k = 7 ∨ k = 8) → I2 248 k = I 248 k := fun k hk => by rw [fs k (by omega), fs0 k (by omega)]
    have s4 : I2 248 4 = 0 := by rw [fs 4 (by omega)]; rfl
    refine q_isAsked hG (by rw [s1 11 (by omega)]; exact hm.1) (fun a g => b3 (by decide) (b1 (by decide) ?_)) (fun z => b4 rfl (hno z I2 r1 s1 s4))
    obtain ⟨t, ht, rfl⟩ := a
    have m2 := mD_congr hm (s1 11 (by omega)) (s1 12 (by omega)) (r1 253 (by omega)) (r1 254 (by omega))
    rw [m2.1]
    refine q_takesDisc hw m2 (Nat.le_refl _) (fun I3 r3 s3 e24 z3 c3 => ?_)
    rw [s3 12 (by omega), m2.2.1]
    rintro _ rfl
    rw [hw.2.2.2.1] at c3
    have g21 : 1 ≤ dG b n := by unfold dG; omega
    refine q_X12_sec51 (q := dQ h d bk (nw t) (wl t) (wt t) (catS G P s (dS b n)) (catK P κ (pK b n))) hw (dWD p1 p2 p3) hx hW (mW_congr (mW_congr hmw (r1 257 (by omega)) (r1 258 (by omega)) (r1 259 (by omega))) (r3 257 (by omega)) (r3 258 (by omega)) (r3 259 (by omega))) (by rw [s3 21 (by omega), s3 22 (by omega), s3 23 (by omega), s1 21 (by omega), s1 22 (by omega), s1 23 (by omega)]; exact e2) ht g g21 (by rw [s3 7 (by omega)]; exact g7) (by rw [s3 8 (by omega)]; exact g8) (fun g hg => by rw [r3 251 (by omega)]; exact g9 g hg) (fun p hp => by rw [r3 252 (by omega)]; exact g10 p hp) (by rw [s3 11 (by omega)]; exact m2.1) e24 z3 c3 rfl ?_ ?_
    · intro I4 J4 r4 s4' a4 j4 c4 u4
      exact hok t ht rfl g p1 p2 p3 _ rfl I4 J4 (fun p hp => by rw [r4 p (by omega), r3 p (by omega), r1 p (by omega)]) (fun k hk => by rw [s4' k (by omega), s3 k (by omega), s1 k (by omega)]) (by rw [s4' 4 (by omega), s3 4 (by omega)]; exact s4) a4 j4 c4 u4
    · intro I4 J4 r4 s4' j4 u4
      exact hmany t ht rfl g p1 p2 p3 _ rfl I4 J4 (fun p hp => by rw [r4 p (by omega), r3 p (by omega), r1 p (by omega)]) (fun k hk => by rw [s4' k (by omega), s3 k (by omega), s1 k (by omega)]) (by rw [s4' 4 (by omega), s3 4 (by omega)]; exact s4) j4 u4
theorem S_second {I : sI} {J : sJ} (a1 : Int32) (hR : RR0 I J) : St (w_X11_second a1) (w_X12_second a1) I J := by
  obtain ⟨hT, hD, hK, hW, hC, hQ, hX⟩ := hR
  obtain ⟨n, b, hn, hb, hc, hm⟩ := id hT
  obtain ⟨G, P, s, κ, h, d, bk, nw, wl, wt, hw, hx, hww, hcd, hmd, e3, e2, hcw, hmw⟩ := rd_get hD hW
  have hG := hw.1
  have hG2 : okTo b n → n ≤ 60 → pl b n ≠ 0 → tWD (dG b n) (pP b n) (dS b n) (pK b n) := fun a b c => dWD a b c
  -- the text was not a disc
  have bad : ∀ p, bdT n b p → w_X11_second_24 (fun r I1 J1 => w_X12_second a1 I1 J1 (fun r2 I2 J2 => r = r2 ∧ RR0 I2 J2)) a1 (nI p) I J := by
    intro p hp
    unfold w_X11_second_24
    rintro _ rfl
    have fin : ∀ r, (¬ (Ix a1 4 ∧ 1 ≤ G) → r = -1) → (Ix a1 4 ∧ 1 ≤ G → r = -100 - nI p) → w_X12_second a1 (sUI I 1 1 0) J (fun r2 I2 J2 => r = r2 ∧ RR0 I2 J2) := by
      intro r h1 h2
      have rel : ∀ I2 : sI, (∀ q, ¬ (q = 248 ∨ q = 251 ∨ q = 252) → I2 q = (sUI I 1 1 0) q) → (∀ k, ¬ (k = 0 ∨ k = 4 ∨ k = 5 ∨ k = 6 ∨ k = 7 ∨ k = 8) → I2 248 k = (sUI I 1 1 0) 248 k) → I2 248 4 = 0 → RR0 I2 J := by
        intro I2 fr fs f4
        have r1 : ∀ q, ¬ (q = 1 ∨ q = 248 ∨ q = 251 ∨ q = 252) → I2 q = I q := fun q hq => by rw [fr q (by omega), sUI_ne (by omega)]
        have s1 : ∀ k, ¬ (k = 0 ∨ k = 4 ∨ k = 5 ∨ k = 6 ∨ k = 7 ∨ k = 8) → I2 248 k = I 248 k := fun k hk => by rw [fs k hk, pf_ui, if_neg (by omega)]
        refine ⟨⟨0, b, by omega, fun i hi => by omega, ⟨?_, fun i hi => by omega⟩, f4, fun i hi => by omega⟩, (RD_congr hD (fun q h1 h2 => r1 q (by omega)) (r1 253 (by omega)) (r1 254 (by omega)) (r1 255 (by omega)) (r1 256 (by omega)) (r1 276 (by omega)) (s1 11 (by omega)) (s1 12 (by omega)) (s1 15 (by omega)) (s1 21 (by omega)) (s1 22 (by omega)) (s1 23 (by omega))), (RK_congr hK (fun q h1 h2 => r1 q (by omega)) (r1 279 (by omega)) (r1 280 (by omega))), (RW_congr hW (fun q h1 h2 => r1 q (by omega)) (r1 257 (by omega)) (r1 258 (by omega)) (r1 259 (by omega))), (RC_congr hC (fun q h1 h2 => r1 q (by omega)) (by rw [r1 227 (by omega)]) (s1 46 (by omega)) (r1 275 (by omega))), (RR_congr hQ (by rw [r1 134 (by omega)]) (s1 1 (by omega)) rfl rfl), (RX_congr hX (by rw [r1 0 (by omega)]) (s1 37 (by omega)) (by rw [r1 0 (by omega)]) (s1 33 (by omega)) (by rw [r1 141 (by omega)]))⟩
        rw [fr 1 (by omega)]; rfl
      refine q_X12_second (I := sUI I 1 1 0) (n := n) (b := b) hm hn hb hw hmd hx hww hmw e2 (fun z I2 fr fs f4 => ⟨h1 z, rel I2 fr fs f4⟩) (fun z p' hp' I2 fr fs f4 => ⟨by rw [h2 z, bd_uni hp hp'], rel I2 fr fs f4⟩) (fun t _ _ _ o1 o2 o3 => (bd_ok hp o1 o2 o3).elim) (fun t _ _ _ o1 o2 o3 => (bd_ok hp o1 o2 o3).elim)
    refine q_cannotR hG (by rw [sUI_ne (by omega)]; exact hcd.1) (fun z g1 => b1 rfl (b2 (pf_ne_m1 (by have := hp.1; omega)) (fin _ (fun q => absurd ⟨z, g1⟩ q) (fun _ => rfl)))) (fun z => b2 (by decide) (fin _ (fun _ => rfl) (fun q => absurd q z)))
  show w_X11_second a1 I J _
  unfold w_X11_second
  refine q_faultAsDisc hc hn hb (fun p p1 p2 p3 p4 => b3 (pf_ne_m1 (by omega)) (bad p ⟨by omega, Or.inl ⟨p1, p2, p3, p4⟩⟩)) (fun p1 p2 => b3 (pf_ne_m1 (by omega)) (bad _ ⟨by omega, Or.inr ⟨rfl, p1, p2⟩⟩)) (fun p1 p2 p3 => b4 rfl ?_)
  have hw2 := dWD p1 p2 p3
  refine q_fill (Or.inr rfl) hc p2 hb p1 hX.2.2 (fun I1 fr hcd2 => ?_)
  unfold w_X11_second_24
  rintro _ rfl
  obtain ⟨I2, e2I⟩ : ∃ I2, I2 = sUI I1 1 1 0 := ⟨_, rfl⟩
  rw [← e2I]
  have r2 : ∀ p, ¬ (p = 1 ∨ (138 ≤ p ∧ p ≤ 141)) → I2 p = I p := fun p hp => by rw [e2I, sUI_ne (by omega), fr p (by omega)]
  have hcd1 : cD (dG b n) (pP b n) (dS b n) (pK b n) 138 I2 := by
    rw [e2I]; unfold cD at *
    rw [sUI_ne (by omega), sUI_ne (by omega), sUI_ne (by omega), sUI_ne (by omega)]; exact hcd2
  have e110 : I2 1 1 = 0 := by rw [e2I]; rfl
  have e141 : I2 141 0 = 0 := by rw [show (141 : Nat) = 138 + 3 from rfl, hcd1.2.2.1 0 (by omega), hw2.2.2.1]; rfl
  -- the model's side, from any heap that the class may leave
  have model : ∀ (I3 : sI) (J3 : sJ) (r : Int32), (∀ p, ¬ (p = 1 ∨ p = 134 ∨ (136 ≤ p ∧ p ≤ 223)) → I3 p = I p) → I3 1 1 = 0 → I3 141 0 = 0 → (∀ p, ¬ (p = 135 ∨ (142 ≤ p ∧ p ≤ 223)) → J3 p = J p) → (¬ (Ix a1 4 ∧ 1 ≤ G) → r = -1 ∧ I3 134 1 = I 134 1 ∧ J3 135 = J 135) → (∀ t, t < 4 → a1 = nI t → 1 ≤ G → ∀ q, q = dQ h d bk (nw t) (wl t) (wt t) (catS G P s (dS b n)) (catK P κ (pK b n)) → (20000 < tot (chF q) (G + dG b n) → r = -3 ∧ I3 134 1 = I 134 1 ∧ J3 135 = J 135) ∧ (tot (chF q) (G + dG b n) ≤ 20000 → r = nI (hlF (chF q) G (G + dG b n) 0 0) ∧ I3 134 1 = nI 1 ∧ J3 135 0 = (nI (lev (chF q) (G + dG b n)).length).toInt64)) → w_X12_second a1 I3 J3 (fun r2 I2 J2 => r = r2 ∧ RR0 I2 J2) := by
    intro I3 J3 r r3 e11 e141 j3 hno hyes
    have rel : ∀ (I4 : sI) (J4 : sJ), (∀ p, ¬ (p = 248 ∨ p = 251 ∨ p = 252 ∨ (260 ≤ p ∧ p ≤ 269)) → I4 p = I3 p) → (∀ k, ¬ (k = 0 ∨ k = 1 ∨ k = 4 ∨ k = 5 ∨ k = 6 ∨ k = 7 ∨ k = 8 ∨ k = 24 ∨ k = 30) → I4 248 k = I3 248 k) → I4 248 4 = 0 → RR I4 J4 → RR0 I4 J4 := by
      intro I4 J4 fr fs f4 hq
      have r1 : ∀ q, ¬ (q = 1 ∨ q = 134 ∨ (136 ≤ q ∧ q ≤ 223) ∨ q = 248 ∨ q = 251 ∨ q = 252 ∨ (260 ≤ q ∧ q ≤ 269)) → I4 q = I q := fun q hq => by rw [fr q (by omega), r3 q (by omega)]
      have s1 : ∀ k, ¬ (k = 0 ∨ k = 1 ∨ k = 4 ∨ k = 5 ∨ k = 6 ∨ k = 7 ∨ k = 8 ∨ k = 24 ∨ k = 30) → I4 248 k = I 248 k := fun k hk => by rw [fs k hk, r3 248 (by omega)]
      refine ⟨⟨0, b, by omega, fun i hi => by omega, ⟨?_, fun i hi => by omega⟩, f4, fun i hi => by omega⟩, (RD_congr hD (fun q h1 h2 => r1 q (by omega)) (r1 253 (by omega)) (r1 254 (by omega)) (r1 255 (by omega)) (r1 256 (by omega)) (r1 276 (by omega)) (s1 11 (by omega)) (s1 12 (by omega)) (s1 15 (by omega)) (s1 21 (by omega)) (s1 22 (by omega)) (s1 23 (by omega))), (RK_congr hK (fun q h1 h2 => r1 q (by omega)) (r1 279 (by omega)) (r1 280 (by omega))), (RW_congr hW (fun q h1 h2 => r1 q (by omega)) (r1 257 (by omega)) (r1 258 (by omega)) (r1 259 (by omega))), (RC_congr hC (fun q h1 h2 => r1 q (by omega)) (by rw [r1 227 (by omega)]) (s1 46 (by omega)) (r1 275 (by omega))), hq, RX_mk ?_ ?_ ?_⟩
      · rw [fr 1 (by omega)]; exact e11
      · rw [r1 0 (by omega), s1 37 (by omega)]; exact hX.1
      · rw [r1 0 (by omega), s1 33 (by omega)]; exact hX.2.1
      · rw [fr 141 (by omega)]; exact e141
    have m1 : mT n b I3 := by unfold mT; rw [r3 248 (by omega), r3 250 (by omega)]; exact hm
    have m2 : mD G P s κ I3 := mD_congr hmd (by rw [r3 248 (by omega)]) (by rw [r3 248 (by omega)]) (r3 253 (by omega)) (r3 254 (by omega))
    refine q_X12_second (n := n) (b := b) m1 hn hb hw m2 hx hww (mW_congr hmw (r3 257 (by omega)) (r3 258 (by omega)) (r3 259 (by omega))) (by rw [r3 248 (by omega)]; exact e2) (fun z I4 fr fs f4 => ?_) (fun z p' hp' => (bd_ok hp' p1 p2 p3).elim) (fun t ht ea g1 _ _ _ q eq I4 J4 fr fs f4 f1 j4 c4 u4 => ?_) (fun t ht ea g1 _ _ _ q eq I4 J4 fr fs f4 j4 u4 => ?_)
    · obtain ⟨x1, x2, x3⟩ := hno z
      refine ⟨x1, rel I4 J3 (fun p hp => fr p (by omega)) (fun k hk => fs k (by omega)) f4 (RR_congr hQ ?_ ?_ x3 (j3 249 (by omega)))⟩
      · rw [fr 134 (by omega)]; exact x2
      · rw [fs 1 (by omega), r3 248 (by omega)]
    · obtain ⟨x1, x2, x3⟩ := (hyes t ht ea g1 q eq).2 u4
      refine ⟨x1, rel I4 J4 fr fs f4 ⟨1, by omega, by rw [fr 134 (by omega)]; exact x2, f1, fun i hi => ?_⟩⟩
      rw [show i = 0 by omega, j4 135 (by omega), x3, c4]
    · obtain ⟨x1, x2, x3⟩ := (hyes t ht ea g1 q eq).1 u4
      refine ⟨x1, rel I4 J4 fr (fun k hk => fs k (by omega)) f4 (RR_congr hQ ?_ ?_ ?_ ?_)⟩
      · rw [fr 134 (by omega)]; exact x2
      · rw [fs 1 (by omega), r3 248 (by omega)]
      · rw [j4 135 (by omega)]; exact x3
      · rw [j4 249 (by omega), j3 249 (by omega)]
  refine q_cannotR hG (by rw [r2 4 (by omega)]; exact hcd.1) (fun z g1 => b1 rfl (b1 rfl ?_)) (fun z => b2 (by decide) (model I2 J _ (fun p hp => r2 p (by omega)) e110 e141 (fun _ _ => rfl) (fun _ => ⟨rfl, by rw [r2 134 (by omega)], rfl⟩) (fun t ht ea g1 => absurd ⟨⟨t, ht, ea⟩, g1⟩ z)))
  obtain ⟨t, ht, rfl⟩ := z
  obtain ⟨q, eq⟩ : ∃ q, q = dQ h d bk (nw t) (wl t) (wt t) (catS G P s (dS b n)) (catK P κ (pK b n)) := ⟨_, rfl⟩
  have hq : qO q (G + dG b n) := by rw [eq]; exact dQ_O2 (cat_W hw hw2) hx hww ht
  obtain ⟨f0, f1, f2, f3⟩ := sRtg t ht
  obtain ⟨c1, c2, c3⟩ := e3
  have tg : tgS q t I := by rw [eq]; exact dQ_tg hcw ht
  have n20 := (hww t ht).1
  have tgc : ∀ I3 : sI, (∀ p, ¬ (p = 1 ∨ (136 ≤ p ∧ p ≤ 223)) → I3 p = I p) → tgS q t I3 := by
    intro I3 r3
    have en : qN q = nw t := by rw [eq]; rfl
    unfold tgS at *
    rw [r3 (42 + 23 * t) (by omega), r3 (64 + 23 * t) (by omega)]
    refine ⟨tg.1, fun w hw => ⟨(tg.2 w hw).1, fun i hi => ?_⟩⟩
    rw [en] at hw
    rw [r3 (44 + 23 * t + w) (by omega)]
    exact (tg.2 w (by rw [en]; exact hw)).2 i hi
  rw [r2 3 (by omega), c1, c2, c3]
  refine q_wopen (q := q) (by rw [eq]; rfl) (by rw [eq]; rfl) ⟨hx.1, hx.2.1⟩ hx.2.2.2 (fun I3 J3 r3 j3 cf3 wy3 => ?_)
  rw [pf_cl (by omega), f0]
  refine ⟨vp_in_nI (by omega) (by omega), ?_⟩
  refine q_add hq (show 0 + G ≤ G + dG b n by omega) (by decide) hw (cD_congr hcd (by rw [r3 4 (by omega), r2 4 (by omega)]) (by rw [r3 5 (by omega), r2 5 (by omega)]) (by rw [r3 6 (by omega), r2 6 (by omega)]) (by rw [r3 7 (by omega), r2 7 (by omega)])) (fun g hg => by rw [eq]; exact cat_g1 hw hw2 hg) ht (tgc I3 (fun p hp => by rw [r3 p (by omega), r2 p (by omega)])) cf3 hx.2.2.2 wy3 (fun I4 J4 r4 j4 cf4 wy4 => ?_)
  rw [Nat.zero_add] at wy4
  refine ⟨vp_in_nI (by omega) (by omega), ?_⟩
  have hcd4 : cD (dG b n) (pP b n) (dS b n) (pK b n) 138 I4 := by
    unfold cD at *
    rw [r4 138 (by omega), r4 (138 + 3) (by omega), r4 (138 + 1) (by omega), r4 (138 + 2) (by omega), r3 138 (by omega), r3 (138 + 3) (by omega), r3 (138 + 1) (by omega), r3 (138 + 2) (by omega)]
    exact hcd1
  refine q_add hq (Nat.le_refl _) (by decide) hw2 hcd4 (fun g hg => by rw [eq]; exact cat_g2 hw2 hg) ht (tgc I4 (fun p hp => by rw [r4 p (by omega), r3 p (by omega), r2 p (by omega)])) cf4 hx.2.2.2 wy4 (fun I5 J5 r5 j5 cf5 wy5 => ?_)
  have q5 : ∀ p, ¬ (p = 1 ∨ (138 ≤ p ∧ p ≤ 223)) → I5 p = I p := fun p hp => by rw [r5 p (by omega), r4 p (by omega), r3 p (by omega), r2 p (by omega)]
  have k5 : ∀ p, ¬ (142 ≤ p ∧ p ≤ 223) → I5 p = I2 p := fun p hp => by rw [r5 p hp, r4 p hp, r3 p hp]
  have l5 : ∀ p, ¬ (142 ≤ p ∧ p ≤ 223) → J5 p = J p := fun p hp => by rw [j5 p hp, j4 p hp, j3 p hp]
  rw [wy5.1, show I5 4 3 = nI G by rw [q5 4 (by omega)]; exact hcd.1]
  refine q_run (mode := 4) (MS := ms_0) hq (Nat.le_refl _) (by omega) (by omega) (by omega) (tk_0 (Or.inr rfl)) (fun _ _ _ => trivial) cf5 wy5 (fun I6 J6 r6 j6 t6 e30 rd6 => ?_) (fun I6 J6 r6 j6 t6 e30 => ?_)
  · refine q_many0 (by omega) e30 (fun _ => b1 rfl ?_) (fun z => by omega)
    rw [rd6.1]
    refine q_X6_tell ?_
    rw [sUI_ne (by omega), sUI_ne (by omega), rd6.2.1, if_pos rfl]
    refine model _ _ _ (fun p hp => by rw [sUI_ne (by omega), sUI_ne (by omega), r6 p (by omega), q5 p (by omega)]) (by rw [sUI_ne (by omega), sUI_ne (by omega), r6 1 (by omega), k5 1 (by omega)]; exact e110) (by rw [sUI_ne (by omega), sUI_ne (by omega), r6 141 (by omega), k5 141 (by omega)]; exact e141) (fun p hp => by funext x; rw [pf_uj, if_neg (by omega), j6 p (by omega), l5 p (by omega)]) (fun z => absurd ⟨⟨t, ht, rfl⟩, g1⟩ z) (fun t' ht' ea _ q' eq' => ?_)
    have : t = t' := (pf_eq (by omega) (by omega)).mp ea
    subst this
    rw [eq', ← eq]
    exact ⟨fun z => by omega, fun _ => ⟨rfl, by rw [pf_uis, if_pos rfl], by rw [pf_ujs, if_pos rfl]⟩⟩
  · refine q_many0 (n := 20001) (by omega) e30 (fun z => by omega) (fun _ => b2 (by decide) ?_)
    refine model I6 J6 _ (fun p hp => by rw [r6 p (by omega), q5 p (by omega)]) (by rw [r6 1 (by omega), k5 1 (by omega)]; exact e110) (by rw [r6 141 (by omega), k5 141 (by omega)]; exact e141) (fun p hp => by rw [j6 p (by omega), l5 p (by omega)]) (fun z => absurd ⟨⟨t, ht, rfl⟩, g1⟩ z) (fun t' ht' ea _ q' eq' => ?_)
    have : t = t' := (pf_eq (by omega) (by omega)).mp ea
    subst this
    rw [eq', ← eq]
    exact ⟨fun _ => ⟨rfl, by rw [r6 134 (by omega), q5 134 (by omega)], by rw [j6 135 (by omega), l5 135 (by omega)]⟩, fun z => by omega⟩
