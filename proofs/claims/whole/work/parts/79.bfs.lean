theorem gtL_4 {ys : List Nat} : ∀ {xs : List Nat} {i : Nat}, gtL (xs ++ ys) (xs.length + i) = gtL ys i
  | [], i => by rw [List.nil_append, List.length_nil, Nat.zero_add]
  | x :: xs, i => by
    rw [List.cons_append, List.length_cons, show xs.length + 1 + i = (xs.length + i) + 1 by omega]
    exact gtL_4 (xs := xs)
/-- the model's ways: levels end to end, each way knows the one that it goes on from -/
def bfS (ch : Nat → Nat → List Nat) (G : Nat) (I : sI) (J : sJ) : Prop := (∀ g, g < G → I 264 g = nI (tot ch (g + 1))) ∧ (∀ g, g < G → ∀ i, i < (lev ch (g + 1)).length → J 262 (tot ch g + i) = lN (gtL (lev ch (g + 1)) i)) ∧ ∀ g, g + 1 < G → (∀ i, i < (lev ch (g + 2)).length → ∃ j, j < (lev ch (g + 1)).length ∧ I 263 (tot ch (g + 1) + i) = nI (tot ch g + j) ∧ gtL (lev ch (g + 2)) i ∈ ch (g + 1) (gtL (lev ch (g + 1)) j)) ∧ (∀ j, j < (lev ch (g + 1)).length → ∀ d, d ∈ ch (g + 1) (gtL (lev ch (g + 1)) j) → ∃ i, i < (lev ch (g + 2)).length ∧ I 263 (tot ch (g + 1) + i) = nI (tot ch g + j) ∧ gtL (lev ch (g + 2)) i = d)
theorem tot_mono {ch : Nat → Nat → List Nat} {g : Nat} : ∀ k, tot ch g ≤ tot ch (g + k)
  | 0 => Nat.le_refl _
  | k + 1 => by
    have := tot_mono (ch := ch) (g := g) k
    show _ ≤ tot ch (g + k) + _
    omega
/-- where the ways stand that a level goes on from -/
def pIx (ch : Nat → Nat → List Nat) : Nat → Nat → Int32
  | 0, j => nI j - 1
  | g + 1, j => nI (tot ch g + j)
theorem pIx_s {ch : Nat → Nat → List Nat} {g j : Nat} : pIx ch g j + 1 = pIx ch g (j + 1) := by
  cases g with
  | zero =>
    show nI j - 1 + 1 = nI (j + 1) - 1
    rw [nI_p (n := j + 1) (by omega), Nat.add_sub_cancel, Int32.sub_add_cancel]
  | succ g =>
    show nI (tot ch g + j) + 1 = nI (tot ch g + (j + 1))
    rw [nI_1]; rfl
theorem pIx_le {ch : Nat → Nat → List Nat} {g j : Nat} (h : tot ch g ≤ 20000) (hj : j ≤ (lev ch g).length) : pIx ch g (lev ch g).length ≤ pIx ch g j ↔ (lev ch g).length ≤ j := by
  cases g with
  | zero =>
    have l1 : (lev ch 0).length = 1 := rfl
    rw [l1] at hj ⊢
    show nI 1 - 1 ≤ nI j - 1 ↔ 1 ≤ j
    have : j = 0 ∨ j = 1 := by omega
    rcases this with rfl | rfl
    · exact ⟨fun x => absurd x (by decide), fun x => by omega⟩
    · exact ⟨fun _ => by omega, fun _ => by decide⟩
  | succ g =>
    have e : tot ch (g + 1) = tot ch g + (lev ch (g + 1)).length := rfl
    show nI (tot ch g + (lev ch (g + 1)).length) ≤ nI (tot ch g + j) ↔ _
    rw [pf_le (by omega) (by omega)]
    omega
theorem q_searches {I : sI} {J : sJ} {post : Int32 → sI → sJ → Prop} {q : sPr} {N t bk : Nat} {fr : Nat → Nat} (hq : qO q N) (ht : t < 4) (hb : bk ≤ 1) (sq : sqS q N t bk fr I) (h1 : ∀ (I2 : sI) (J2 : sJ), (∀ p, ¬ (p = 248 ∨ p = 263 ∨ p = 264) → I2 p = I p) → (∀ k, ¬ k = 30 → I2 248 k = I 248 k) → (∀ p, ¬ p = 262 → J2 p = J p) → tot (chF q) N ≤ 20000 → I2 248 30 = nI (tot (chF q) N) → bfS (chF q) N I2 J2 → post 1 I2 J2) (h0 : ∀ (I2 : sI) (J2 : sJ), (∀ p, ¬ (p = 248 ∨ p = 263 ∨ p = 264) → I2 p = I p) → (∀ k, ¬ k = 30 → I2 248 k = I 248 k) → (∀ p, ¬ p = 262 → J2 p = J p) → 20000 < tot (chF q) N → I2 248 30 = nI 20001 → post 0 I2 J2) : w_X12_searches (nI t) I J post := by
  obtain ⟨q1, q2, q3, q4, q5, q6, q7⟩ := id hq
  obtain ⟨ch, ech⟩ : ∃ ch, ch = chF q := ⟨_, rfl⟩
  rw [← ech] at h1 h0
  have lv48 : ∀ {g c}, g ≤ N → c ∈ lev ch g → c < 2 ^ 48 := fun hg hc => (lev_ok hq hg (by rw [← ech]; exact hc)).1
  obtain ⟨_, _, _, _, _, _, _, ⟨fr0, frs⟩, _⟩ := id sq
  unfold w_X12_searches
  rintro _ rfl
  have main : ∀ f g (I3 : sI) (J3 : sJ), g ≤ N → N - g < f → (∀ p, ¬ (p = 248 ∨ p = 263 ∨ p = 264) → I3 p = I p) → (∀ k, ¬ k = 30 → I3 248 k = I 248 k) → (∀ p, ¬ p = 262 → J3 p = J p) → tot ch g ≤ 20000 → I3 248 30 = nI (tot ch g) → bfS ch g I3 J3 → w_X12_searches_15_n post f (nI t) (nI (fr g)) (pIx ch g 0) (pIx ch g (lev ch g).length) (nI g) I3 J3 := by
    intro f
    induction f with
    | zero => intro g _ _ _ h; omega
    | succ f ih =>
      intro g I3 J3 hg hf r3 s3 j3 t3 e3 bf3
      show w_X12_searches_15_s post (w_X12_searches_15_n post f) _ _ _ _ _ I3 J3
      unfold w_X12_searches_15_s
      have sq3 : sqS q N t bk fr I3 := sqC q N t bk fr sq r3 s3
      rw [sq3.1, pf_le (by omega) (by omega), e3]
      refine ⟨fun e => ?_, fun e => ?_⟩
      · rw [show g = N by omega] at t3 e3 bf3
        exact h1 I3 J3 r3 s3 j3 t3 e3 bf3
      · rintro _ rfl
        have gN : g < N := by omega
        have inner : ∀ (rest done : List Nat) (f2 : Nat) (I4 : sI) (J4 : sJ), lev ch g = done ++ rest → rest.length < f2 → (∀ p, ¬ (p = 248 ∨ p = 263) → I4 p = I3 p) → (∀ k, ¬ k = 30 → I4 248 k = I3 248 k) → (∀ k, k < tot ch g → I4 263 k = I3 263 k) → (∀ p, ¬ p = 262 → J4 p = J3 p) → (∀ k, k < tot ch g → J4 262 k = J3 262 k) → tot ch g + (done.flatMap (ch g)).length ≤ 20000 → I4 248 30 = nI (tot ch g + (done.flatMap (ch g)).length) → (∀ i, i < (done.flatMap (ch g)).length → J4 262 (tot ch g + i) = lN (gtL (done.flatMap (ch g)) i)) → (∀ i, i < (done.flatMap (ch g)).length → ∃ j, j < done.length ∧ I4 263 (tot ch g + i) = pIx ch g j ∧ gtL (done.flatMap (ch g)) i ∈ ch g (gtL done j)) → (∀ j, j < done.length → ∀ d, d ∈ ch g (gtL done j) → ∃ i, i < (done.flatMap (ch g)).length ∧ I4 263 (tot ch g + i) = pIx ch g j ∧ gtL (done.flatMap (ch g)) i = d) → w_X12_searches_33_n post (w_X12_searches_15_n post f) f2 (nI t) (nI (fr g)) (pIx ch g (lev ch g).length) (nI g) (nI (tot ch g)) (pIx ch g done.length) I4 J4 := by
          intro rest
          induction rest with
          | nil =>
            intro done f2 I4 J4 ed hf2 r4 s4 w4 j4 k4 t4 e4 l4 m4 n4
            cases f2 with
            | zero => simp at hf2
            | succ f2 =>
            rw [List.append_nil] at ed
            subst ed
            show w_X12_searches_33_s post (w_X12_searches_15_n post f) (w_X12_searches_33_n post (w_X12_searches_15_n post f) f2) _ _ _ _ _ _ I4 J4
            unfold w_X12_searches_33_s
            rw [pIx_le t3 (Nat.le_refl _), e4]
            refine b1 (Nat.le_refl _) ?_
            rintro _ rfl
            rw [pf_cl (by omega)]
            refine ⟨vp_in_nI (by omega) (by omega), ?_⟩
            rintro _ rfl
            refine ⟨vp_in_nI (by omega) (by omega), ?_⟩
            rw [sUI_ne (by omega), r4 260 (by omega), sq3.2.2.2.2.2.2.1 g gN, nI_add, nI_1, ← frs g gN]
            rintro _ rfl _ rfl
            have et : tot ch (g + 1) = tot ch g + ((lev ch g).flatMap (ch g)).length := rfl
            rw [← et] at t4 e4 ⊢
            have p1 : pIx ch (g + 1) 0 = nI (tot ch g) := rfl
            have p2 : pIx ch (g + 1) (lev ch (g + 1)).length = nI (tot ch (g + 1)) := rfl
            rw [← p1, ← p2]
            refine ih (g + 1) _ J4 (by omega) (by omega) (fun p hp => by rw [sUI_ne (by omega), r4 p (by omega), r3 p hp]) (fun k hk => by rw [sUI_ne (by omega), s4 k hk, s3 k hk]) (fun p hp => by rw [j4 p hp, j3 p hp]) t4 (by rw [sUI_ne (by omega)]; exact e4) ?_
            obtain ⟨b1', b2', b3'⟩ := bf3
            refine ⟨fun g2 hg2 => ?_, fun g2 hg2 i hi => ?_, fun g2 hg2 => ?_⟩
            · rw [pf_uis]
              by_cases e2 : g2 = g
              · rw [if_pos e2, e2]; rfl
              · rw [if_neg e2, r4 264 (by omega)]; exact b1' g2 (by omega)
            · by_cases e2 : g2 = g
              · subst e2; exact l4 i hi
              · have mo := tot_mono (ch := ch) (g := g2 + 1) (g - (g2 + 1))
                rw [show g2 + 1 + (g - (g2 + 1)) = g by omega, show tot ch (g2 + 1) = tot ch g2 + (lev ch (g2 + 1)).length from rfl] at mo
                rw [k4 _ (by omega)]
                exact b2' g2 (by omega) i hi
            · by_cases e2 : g2 + 1 = g
              · subst e2
                refine ⟨fun i hi => ?_, fun j hj d hd => ?_⟩
                · obtain ⟨j, x1, x2, x3⟩ := m4 i hi
                  exact ⟨j, x1, by rw [sUI_ne (by omega)]; exact x2, x3⟩
                · obtain ⟨i, x1, x2, x3⟩ := n4 j hj d hd
                  exact ⟨i, x1, by rw [sUI_ne (by omega)]; exact x2, x3⟩
              · have mo := tot_mono (ch := ch) (g := g2 + 2) (g - (g2 + 2))
                rw [show g2 + 2 + (g - (g2 + 2)) = g by omega, show tot ch (g2 + 2) = tot ch (g2 + 1) + (lev ch (g2 + 2)).length from rfl] at mo
                obtain ⟨y1, y2⟩ := b3' g2 (by omega)
                refine ⟨fun i hi => ?_, fun j hj d hd => ?_⟩
                · obtain ⟨j, x1, x2, x3⟩ := y1 i hi
                  exact ⟨j, x1, by rw [sUI_ne (by omega), w4 _ (by omega)]; exact x2, x3⟩
                · obtain ⟨i, x1, x2, x3⟩ := y2 j hj d hd
                  exact ⟨i, x1, by rw [sUI_ne (by omega), w4 _ (by omega)]; exact x2, x3⟩
          | cons c rest ihr =>
            intro done f2 I4 J4 ed hf2 r4 s4 w4 j4 k4 t4 e4 l4 m4 n4
            cases f2 with
            | zero => simp at hf2
            | succ f2 =>
            rw [List.length_cons] at hf2
            have ed2 : lev ch g = (done ++ [c]) ++ rest := by rw [ed, List.append_assoc]; rfl
            have ln : (lev ch g).length = done.length + (rest.length + 1) := by rw [ed, List.length_append, List.length_cons]
            have dl : (done ++ [c]).length = done.length + 1 := by rw [List.length_append, List.length_singleton]
            have gc : gtL (lev ch g) done.length = c := by rw [ed, gtL_3]
            have cm : c ∈ lev ch g := by rw [← gc]; exact gtL_m (by omega)
            have c48 := lv48 (by omega) cm
            show w_X12_searches_33_s post (w_X12_searches_15_n post f) (w_X12_searches_33_n post (w_X12_searches_15_n post f) f2) _ _ _ _ _ _ I4 J4
            unfold w_X12_searches_33_s
            have sq4 : sqS q N t bk fr I4 := sqC q N t bk fr sq3 (fun p hp => r4 p (by omega)) s4
            rw [pIx_le t3 (by omega), pf_cl (by omega), sq4.2.2.2.2.2.2.1 g gN]
            refine b2 (by omega) ⟨vp_in_nI (by omega) (by omega), ?_⟩
            have chc : chF q g c = ch g c := by rw [ech]
            have fm : (done ++ [c]).flatMap (ch g) = done.flatMap (ch g) ++ ch g c := by rw [List.flatMap_append, List.flatMap_cons, List.flatMap_nil, List.append_nil]
            have fml : ((done ++ [c]).flatMap (ch g)).length = (done.flatMap (ch g)).length + (ch g c).length := by rw [fm, List.length_append]
            have whole : tot ch (g + 1) = tot ch g + ((done.flatMap (ch g)).length + ((ch g c).length + (rest.flatMap (ch g)).length)) := by
              show tot ch g + ((lev ch g).flatMap (ch g)).length = _
              rw [ed2, List.flatMap_append, List.length_append, fml]
              omega
            have t30 := tot_mono (ch := ch) (g := g + 1) (N - (g + 1))
            rw [show g + 1 + (N - (g + 1)) = N by omega] at t30
            refine q_goesOn hq ht hb sq4 gN c48 e4 t4 ?_ (fun I5 J5 r5 s5 w5 j5 k5 t5 e5 l5 => b3 (by decide) ?_) (fun I5 J5 r5 s5 j5 t5 e5 => b4 rfl ?_)
            · cases g with
              | zero =>
                have l1 : (lev ch 0).length = 1 := rfl
                rw [l1] at ln
                have d0 : done.length = 0 := by omega
                refine Or.inl ⟨?_, ?_⟩
                · show nI done.length - 1 = -1
                  rw [d0]; decide
                · have := cm
                  rw [show lev ch 0 = [0] from rfl, List.mem_singleton] at this
                  exact this
              | succ g =>
                have tt : tot ch (g + 1) = tot ch g + (lev ch (g + 1)).length := rfl
                refine Or.inr ⟨tot ch g + done.length, by omega, rfl, ?_⟩
                rw [k4 _ (by omega), bf3.2.1 g (by omega) _ (by omega), gc]
            · rintro _ rfl
              rw [chc] at t5 e5 l5
              rw [pIx_s]
              have := ihr (done ++ [c]) f2 I5 J5 ed2 (by omega) (fun p hp => by rw [r5 p hp, r4 p hp]) (fun k hk => by rw [s5 k hk, s4 k hk]) (fun k hk => by rw [w5 k (by omega), w4 k hk]) (fun p hp => by rw [j5 p hp, j4 p hp]) (fun k hk => by rw [k5 k (by omega), k4 k hk]) (by rw [fml]; omega) (by rw [fml, ← Nat.add_assoc]; exact e5) (fun i hi => ?_) (fun i hi => ?_) (fun j hj d hd => ?_)
              · rw [dl] at this
                exact this
              · rw [fml] at hi
                rw [fm]
                by_cases e6 : i < (done.flatMap (ch g)).length
                · rw [k5 _ (by omega), gtL_1 e6]; exact l4 i e6
                · obtain ⟨i2, ei⟩ : ∃ i2, i = (done.flatMap (ch g)).length + i2 := ⟨i - (done.flatMap (ch g)).length, by omega⟩
                  rw [ei, gtL_4, ← Nat.add_assoc]
                  exact (l5 i2 (by omega)).1
              · rw [fml] at hi
                rw [fm]
                by_cases e6 : i < (done.flatMap (ch g)).length
                · obtain ⟨j, x1, x2, x3⟩ := m4 i e6
                  refine ⟨j, by omega, by rw [w5 _ (by omega)]; exact x2, ?_⟩
                  rw [gtL_1 e6, gtL_1 x1]; exact x3
                · obtain ⟨i2, ei⟩ : ∃ i2, i = (done.flatMap (ch g)).length + i2 := ⟨i - (done.flatMap (ch g)).length, by omega⟩
                  refine ⟨done.length, by omega, ?_, ?_⟩
                  · rw [ei, ← Nat.add_assoc]; exact (l5 i2 (by omega)).2
                  · rw [ei, gtL_4, gtL_2]; exact gtL_m (by omega)
              · rw [dl] at hj
                rw [fm]
                by_cases e6 : j < done.length
                · rw [gtL_1 e6] at hd
                  obtain ⟨i, x1, x2, x3⟩ := n4 j e6 d hd
                  exact ⟨i, by rw [List.length_append]; omega, by rw [w5 _ (by omega)]; exact x2, by rw [gtL_1 x1]; exact x3⟩
                · have ej : j = done.length := by omega
                  rw [ej, gtL_2] at hd
                  obtain ⟨i2, x1, x2⟩ := gtL_i hd
                  refine ⟨(done.flatMap (ch g)).length + i2, by rw [List.length_append]; omega, ?_, by rw [gtL_4]; exact x2⟩
                  rw [ej, ← Nat.add_assoc]; exact (l5 i2 x1).2
            · rw [chc] at t5
              refine h0 I5 J5 (fun p hp => by rw [r5 p (by omega), r4 p (by omega), r3 p hp]) (fun k hk => by rw [s5 k hk, s4 k hk, s3 k hk]) (fun p hp => by rw [j5 p hp, j4 p hp, j3 p hp]) (by omega) e5
        refine ⟨(lev ch g).length + 1, ?_⟩
        exact inner (lev ch g) [] ((lev ch g).length + 1) I3 J3 rfl (by omega) (fun _ _ => rfl) (fun _ _ => rfl) (fun _ _ => rfl) (fun _ _ => rfl) (fun _ _ => rfl) (by show tot ch g + 0 ≤ 20000; omega) (by show I3 248 30 = nI (tot ch g + 0); exact e3) (fun i hi => by simp at hi) (fun i hi => by simp at hi) (fun j hj => by simp at hj)
  have p1 : pIx ch 0 0 = -1 := by show nI 0 - 1 = -1; decide
  have p2 : pIx ch 0 (lev ch 0).length = 0 := by show nI 1 - 1 = 0; decide
  have := main (N + 1) 0 (sUI I 248 30 0) J (by omega) (by omega) (fun p hp => sUI_ne (by omega)) (fun k hk => by rw [pf_uis, if_neg hk]) (fun _ _ => rfl) (by show 0 ≤ 20000; omega) (by rw [pf_uis, if_pos rfl]; rfl) ⟨fun g hg => by omega, fun g hg => by omega, fun g hg => by omega⟩
  rw [p1, p2, fr0] at this
  exact ⟨N + 1, this⟩
