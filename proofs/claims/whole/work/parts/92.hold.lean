theorem tot_le {ch : Nat → Nat → List Nat} {a b : Nat} (h : a ≤ b) : tot ch a ≤ tot ch b := by
  have := tot_mono (ch := ch) (g := a) (b - a)
  rw [show a + (b - a) = b by omega] at this
  exact this
theorem tot_at {ch : Nat → Nat → List Nat} : ∀ {N x : Nat}, x < tot ch N → ∃ L i, L < N ∧ i < (lev ch (L + 1)).length ∧ x = tot ch L + i
  | 0, x, h => by have : x < 0 := h; omega
  | N + 1, x, h => by
    have h : x < tot ch N + (lev ch (N + 1)).length := h
    by_cases z : x < tot ch N
    · obtain ⟨L, i, a, b, c⟩ := tot_at z
      exact ⟨L, i, by omega, b, c⟩
    · exact ⟨N, x - tot ch N, by omega, by omega, by omega⟩
theorem tot_uni {ch : Nat → Nat → List Nat} {L i M j : Nat} (hi : i < (lev ch (L + 1)).length) (hj : j < (lev ch (M + 1)).length) (e : tot ch L + i = tot ch M + j) : L = M ∧ i = j := by
  have a : tot ch (L + 1) = tot ch L + (lev ch (L + 1)).length := rfl
  have b : tot ch (M + 1) = tot ch M + (lev ch (M + 1)).length := rfl
  rcases Nat.lt_trichotomy L M with x | x | x
  · have := tot_le (ch := ch) (show L + 1 ≤ M by omega); omega
  · subst x; exact ⟨rfl, by omega⟩
  · have := tot_le (ch := ch) (show M + 1 ≤ L by omega); omega
/-- a node at a level from which the last level is reached -/
def hLv (ch : Nat → Nat → List Nat) (N L i : Nat) : Prop := (lvF ch (N - (L + 1)) (L + 1) (gtL (lev ch (L + 1)) i)).length ≠ 0
def hNd (ch : Nat → Nat → List Nat) (N x : Nat) : Prop := ∃ L i, L < N ∧ i < (lev ch (L + 1)).length ∧ x = tot ch L + i ∧ hLv ch N L i
theorem hNd_iff {ch : Nat → Nat → List Nat} {N L i : Nat} (hL : L < N) (hi : i < (lev ch (L + 1)).length) : hNd ch N (tot ch L + i) ↔ hLv ch N L i := by
  constructor
  · rintro ⟨M, j, a, b, c, d⟩
    obtain ⟨e, f⟩ := tot_uni hi b c
    subst e; subst f; exact d
  · exact fun h => ⟨L, i, hL, hi, rfl, h⟩
theorem fm_ne {g : Nat → List Nat} {xs : List Nat} : (xs.flatMap g).length ≠ 0 ↔ ∃ x, x ∈ xs ∧ (g x).length ≠ 0 := by
  constructor
  · intro h
    obtain ⟨y, hy⟩ := List.exists_mem_of_ne_nil (xs.flatMap g) (fun e => h (by rw [e]; rfl))
    obtain ⟨x, a, b⟩ := List.mem_flatMap.mp hy
    exact ⟨x, a, fun e => by rw [List.length_eq_zero_iff.mp e] at b; exact absurd b List.not_mem_nil⟩
  · rintro ⟨x, a, b⟩ e
    obtain ⟨y, hy⟩ := List.exists_mem_of_ne_nil (g x) (fun e => b (by rw [e]; rfl))
    have : y ∈ xs.flatMap g := List.mem_flatMap.mpr ⟨x, a, hy⟩
    rw [List.length_eq_zero_iff.mp e] at this
    exact absurd this List.not_mem_nil
theorem hLv_s {ch : Nat → Nat → List Nat} {N L i : Nat} (h : L + 1 < N) : hLv ch N L i ↔ ∃ d, d ∈ ch (L + 1) (gtL (lev ch (L + 1)) i) ∧ (lvF ch (N - (L + 2)) (L + 2) d).length ≠ 0 := by
  unfold hLv
  rw [show N - (L + 1) = N - (L + 2) + 1 by omega, lvF]
  exact fm_ne
theorem bf_par {ch : Nat → Nat → List Nat} {N : Nat} {I : sI} {J : sJ} (bf : bfS ch N I J) (h20 : tot ch N ≤ 20000) : ∃ par : Nat → Nat, (∀ x, tot ch 1 ≤ x → x < tot ch N → I 263 x = nI (par x) ∧ par x < x) ∧ ∀ y, y < tot ch N → (hNd ch N y ↔ (tot ch (N - 1) ≤ y ∨ ∃ x, tot ch 1 ≤ x ∧ x < tot ch N ∧ par x = y ∧ hNd ch N x)) := by
  have up : ∀ {L i x}, L < N → i < (lev ch (L + 1)).length → x = tot ch L + i → tot ch 1 ≤ x → ∃ M j, L = M + 1 ∧ j < (lev ch (M + 1)).length ∧ I 263 x = nI (tot ch M + j) ∧ tot ch M + j < x ∧ gtL (lev ch (L + 1)) i ∈ ch (M + 1) (gtL (lev ch (M + 1)) j) := by
    intro L i x hL hi ex h1
    cases L with
    | zero =>
      have : tot ch 1 = tot ch 0 + (lev ch (0 + 1)).length := rfl
      omega
    | succ M =>
      obtain ⟨j, a, b, c⟩ := (bf.2.2 M (by omega)).1 i hi
      have : tot ch (M + 1) = tot ch M + (lev ch (M + 1)).length := rfl
      exact ⟨M, j, rfl, a, by rw [ex]; exact b, by omega, c⟩
  refine ⟨fun x => (I 263 x).toNatClampNeg, fun x h1 h2 => ?_, fun y hy => ?_⟩
  · obtain ⟨L, i, a, b, c⟩ := tot_at h2
    obtain ⟨M, j, e, f, g, k, _⟩ := up a b c h1
    show I 263 x = nI (I 263 x).toNatClampNeg ∧ (I 263 x).toNatClampNeg < x
    rw [g, pf_cl (by omega)]
    exact ⟨rfl, k⟩
  · obtain ⟨L, j, a, b, c⟩ := tot_at hy
    constructor
    · intro hh
      rw [c, hNd_iff a b] at hh
      by_cases z : L + 1 < N
      · right
        obtain ⟨d, d1, d2⟩ := (hLv_s z).mp hh
        obtain ⟨i, i1, i2, i3⟩ := (bf.2.2 L z).2 j b d d1
        have t1 := tot_le (ch := ch) (show 1 ≤ L + 1 by omega)
        have t2 := tot_le (ch := ch) (show L + 2 ≤ N by omega)
        have t3 : tot ch (L + 2) = tot ch (L + 1) + (lev ch (L + 2)).length := rfl
        refine ⟨tot ch (L + 1) + i, by omega, by omega, ?_, ?_⟩
        · show (I 263 (tot ch (L + 1) + i)).toNatClampNeg = y
          rw [i2, c, pf_cl (by omega)]
        · refine (hNd_iff z i1).mpr ?_
          unfold hLv
          rw [show L + 1 + 1 = L + 2 from rfl, i3]
          exact d2
      · left
        have := tot_le (ch := ch) (show N - 1 ≤ L by omega)
        omega
    · intro hh
      rw [c, hNd_iff a b]
      rcases hh with z | ⟨x, x1, x2, x3, x4⟩
      · have e : L = N - 1 := by
          rcases Nat.lt_or_ge L (N - 1) with q | q
          · have := tot_le (ch := ch) (show L + 1 ≤ N - 1 by omega)
            have : tot ch (L + 1) = tot ch L + (lev ch (L + 1)).length := rfl
            omega
          · omega
        unfold hLv
        rw [show N - (L + 1) = 0 by omega, lvF]
        exact (by decide : (1 : Nat) ≠ 0)
      · obtain ⟨L', i', q1, q2, q3, q4⟩ := x4
        obtain ⟨M, j', e, f, g, k, m⟩ := up q1 q2 q3 x1
        subst e
        have x3 : (I 263 x).toNatClampNeg = y := x3
        rw [g, pf_cl (by omega), c] at x3
        obtain ⟨u1, u2⟩ := tot_uni f b x3
        subst u1; subst u2
        exact (hLv_s q1).mpr ⟨_, m, q4⟩
theorem sZ_i {p : Prop} : sZ (nI (i1 p)) := by
  by_cases z : p
  · rw [i1_y z]; exact Or.inr rfl
  · rw [i1_n z]; exact Or.inl rfl
/-- the last level's nodes are held -/
theorem q_sec151 {I : sI} {J : sJ} {post : Int32 → sI → sJ → Prop} {ch : Nat → Nat → List Nat} {N T : Nat} (hN1 : 1 ≤ N) (hN : N ≤ 24) (bf : bfS ch N I J) (eT : tot ch N = T) (hT : T ≤ 20000) (e30 : I 248 30 = nI T) (h : ∀ I2 : sI, (∀ p, ¬ p = 268 → I2 p = I p) → (∀ y, y < T → I2 268 y = nI (i1 (tot ch (N - 1) ≤ y))) → w_X12_second_197 post (nI (N - 1)) (nI T - 1) I2 J) : w_X12_second_151 post (nI (N - 1)) 0 I J := by
  have bfc : ∀ I3 : sI, (∀ p, ¬ p = 268 → I3 p = I p) → bfS ch N I3 J := fun I3 r => by
    unfold bfS; rw [r 264 (by omega), r 263 (by omega)]; exact bf
  have tN := tot_le (ch := ch) (show N - 1 ≤ N by omega)
  have loop : ∀ f x (I3 : sI), x ≤ T → T - x < f → (∀ p, ¬ p = 268 → I3 p = I p) → (∀ y, y < x → I3 268 y = nI (i1 (tot ch (N - 1) ≤ y))) → w_X12_second_151_n post f (nI (N - 1)) (nI x) I3 J := by
    intro f
    induction f with
    | zero => intro x _ _ h; omega
    | succ f ih =>
      intro x I3 hx hf r3 c3
      show w_X12_second_151_s post (w_X12_second_151_n post f) _ _ I3 J
      unfold w_X12_second_151_s
      rw [r3 248 (by omega), e30, pf_le (by omega) (by omega)]
      refine ⟨fun e => ?_, fun e => ?_⟩
      · rintro _ rfl
        have : x = T := by omega
        subst this
        exact h I3 r3 c3
      · refine q_lvl hN (bfc I3 r3) (by omega) ?_
        unfold w_X12_second_182
        rw [pf_lt (by omega) (by omega), pf_cl (by omega), nI_1]
        have nx : ∀ v, v = nI (i1 (tot ch (N - 1) ≤ x)) → sZ v ∧ vp_in (nI x) 20002 ∧ ∀ I_182 : sI, I_182 = sUI I3 268 x v → ∀ v5 : Int32, v5 = nI (x + 1) → w_X12_second_151_n post f (nI (N - 1)) v5 I_182 J := by
          rintro _ rfl
          refine ⟨sZ_i, vp_in_nI (by omega) (by omega), ?_⟩
          rintro _ rfl _ rfl
          refine ih (x + 1) _ (by omega) (by omega) (fun p hp => by rw [sUI_ne hp, r3 p hp]) (fun y hy => ?_)
          rw [pf_uis]
          by_cases z : y = x
          · rw [if_pos z, z]
          · rw [if_neg z]; exact c3 y (by omega)
        exact ⟨fun z => nx 0 (by rw [i1_n (by omega)]; rfl), fun z => nx 1 (by rw [i1_y (by omega)]; rfl)⟩
  exact ⟨T + 1, loop (T + 1) 0 I (by omega) (by omega) (fun _ _ => rfl) (fun y hy => by omega)⟩
theorem nI_dn {k a : Nat} (hk : k < 2147483648) (ha : a < 2147483648) : nI k - 1 < nI a ↔ k ≤ a := by
  by_cases z : k = 0
  · subst z
    have : nI 0 - 1 < nI a := by
      rw [show nI 0 - 1 = (-1 : Int32) by decide, pf_ltInt, pf_neg1_toInt, pf_toInt ha]; omega
    exact ⟨fun _ => by omega, fun _ => this⟩
  · rw [nI_p (by omega), pf_lt (by omega) ha]; omega
/-- what is held holds what it came from -/
theorem q_sec197 {I : sI} {J : sJ} {post : Int32 → sI → sJ → Prop} {x4 : Int32} {T a b : Nat} {par : Nat → Nat} {H : Nat → Prop} (hT : T ≤ 20000) (ha : a ≤ T) (e0 : I 264 0 = nI a) (p1 : ∀ x, a ≤ x → x < T → I 263 x = nI (par x) ∧ par x < x) (p2 : ∀ y, y < T → (H y ↔ (b ≤ y ∨ ∃ x, a ≤ x ∧ x < T ∧ par x = y ∧ H x))) (c : ∀ y, y < T → I 268 y = nI (i1 (b ≤ y))) (h : ∀ I2 : sI, (∀ p, ¬ p = 268 → I2 p = I p) → (∀ y, y < T → I2 268 y = nI (i1 (H y))) → w_X12_levelBegin ((I2 248 11) - 1) I2 J (fun (r_247 : Int32) (I_247 : sI) (J_247 : sJ) => (w_X12_second_252 post x4 0 r_247 I_247 J_247))) : w_X12_second_197 post x4 (nI T - 1) I J := by
  have loop : ∀ f k (I3 : sI), k ≤ T → a ≤ k → k < f → (∀ p, ¬ p = 268 → I3 p = I p) → (∀ y, y < T → I3 268 y = nI (i1 (b ≤ y ∨ ∃ x, k ≤ x ∧ x < T ∧ par x = y ∧ H x))) → w_X12_second_197_n post f x4 (nI k - 1) I3 J := by
    intro f
    induction f with
    | zero => intro x _ _ _ h; omega
    | succ f ih =>
      intro k I3 hk hak hf r3 c3
      show w_X12_second_197_s post (w_X12_second_197_n post f) _ _ I3 J
      unfold w_X12_second_197_s w_X12_second_231
      rw [show Int32.toNatClampNeg 0 = 0 from rfl, r3 264 (by omega), r3 263 (by omega), e0, nI_dn (by omega) (by omega)]
      refine ⟨vp_in_nI (n := 0) (by omega) (by omega), fun e => ?_, fun e => ?_⟩
      · have : k = a := by omega
        subst this
        refine h I3 r3 (fun y hy => ?_)
        rw [c3 y hy]
        congr 1
        by_cases z : H y
        · rw [i1_y z, i1_y ((p2 y hy).mp z)]
        · rw [i1_n z, i1_n (fun q => z ((p2 y hy).mpr q))]
      · obtain ⟨x, ex⟩ : ∃ x, k = x + 1 := ⟨k - 1, by omega⟩
        subst ex
        rw [nI_p (by omega), Nat.add_sub_cancel, pf_cl (by omega), c3 x (by omega), (p1 x (by omega) (by omega)).1, pf_cl (by have := (p1 x (by omega) (by omega)).2; omega), show (-1 : Int32) = -1 from rfl, ← Int32.sub_eq_add_neg]
        have pl := (p1 x (by omega) (by omega)).2
        have hx : (b ≤ x ∨ ∃ x_1, x + 1 ≤ x_1 ∧ x_1 < T ∧ par x_1 = x ∧ H x_1) ↔ H x := by
          rw [p2 x (by omega)]
          constructor
          · rintro (q | ⟨y, y1, y2, y3, y4⟩)
            · exact Or.inl q
            · exact Or.inr ⟨y, by omega, y2, y3, y4⟩
          · rintro (q | ⟨y, y1, y2, y3, y4⟩)
            · exact Or.inl q
            · have := (p1 y y1 y2).2
              exact Or.inr ⟨y, by omega, y2, y3, y4⟩
        refine ⟨vp_in_nI (by omega) (by omega), fun z => ?_, fun z => ⟨vp_in_nI (by omega) (by omega), vp_in_nI (by omega) (by omega), ?_⟩⟩
        · have nh : ¬ H x := fun q => by rw [i1_y (hx.mpr q)] at z; exact absurd z (by decide)
          rintro _ rfl
          refine ih x I3 (by omega) (by omega) (by omega) r3 (fun y hy => ?_)
          rw [c3 y hy]
          congr 1
          have : (b ≤ y ∨ ∃ x_1, x + 1 ≤ x_1 ∧ x_1 < T ∧ par x_1 = y ∧ H x_1) ↔ (b ≤ y ∨ ∃ x_1, x ≤ x_1 ∧ x_1 < T ∧ par x_1 = y ∧ H x_1) := by
            constructor
            · rintro (q | ⟨v, y1, y2, y3, y4⟩)
              · exact Or.inl q
              · exact Or.inr ⟨v, by omega, y2, y3, y4⟩
            · rintro (q | ⟨v, y1, y2, y3, y4⟩)
              · exact Or.inl q
              · by_cases e : v = x
                · subst e; exact absurd y4 nh
                · exact Or.inr ⟨v, by omega, y2, y3, y4⟩
          rw [propext this]
        · have hh : H x := hx.mp (Classical.byContradiction fun q => z (by rw [i1_n q]; rfl))
          rintro _ rfl _ rfl
          refine ih x _ (by omega) (by omega) (by omega) (fun p hp => by rw [sUI_ne hp, r3 p hp]) (fun y hy => ?_)
          rw [pf_uis]
          by_cases e1 : y = par x
          · rw [if_pos e1, i1_y (Or.inr ⟨x, Nat.le_refl _, by omega, e1.symm, hh⟩)]; rfl
          · rw [if_neg e1, c3 y hy]
            congr 1
            have : (b ≤ y ∨ ∃ x_1, x + 1 ≤ x_1 ∧ x_1 < T ∧ par x_1 = y ∧ H x_1) ↔ (b ≤ y ∨ ∃ x_1, x ≤ x_1 ∧ x_1 < T ∧ par x_1 = y ∧ H x_1) := by
              constructor
              · rintro (q | ⟨v, y1, y2, y3, y4⟩)
                · exact Or.inl q
                · exact Or.inr ⟨v, by omega, y2, y3, y4⟩
              · rintro (q | ⟨v, y1, y2, y3, y4⟩)
                · exact Or.inl q
                · by_cases e : v = x
                  · subst e; exact absurd y3.symm e1
                  · exact Or.inr ⟨v, by omega, y2, y3, y4⟩
            rw [propext this]
  refine ⟨T + 1, loop (T + 1) T I (by omega) ha (by omega) (fun _ _ => rfl) (fun y hy => ?_)⟩
  rw [c y hy]
  congr 1
  by_cases z : b ≤ y
  · rw [i1_y z, i1_y (Or.inl z)]
  · rw [i1_n z, i1_n]
    rintro (q | ⟨v, y1, y2, _⟩)
    · exact z q
    · omega
/-- those held at a level, counted -/
theorem q_sec252 {I : sI} {J : sJ} {post : Int32 → sI → sJ → Prop} {x4 : Int32} {ta n G : Nat} {H : Nat → Prop} (g1 : 1 ≤ G) (hG : G ≤ 12) (e11 : I 248 11 = nI G) (e264 : I 264 (G - 1) = nI (ta + n)) (hT : ta + n ≤ 20000) (c : ∀ y, y < ta + n → I 268 y = nI (i1 (H y))) (h : ∀ I_291 : sI, I_291 = sUI I 248 1 0 → (vp_in x4 25 ∧ w_X12_levelBegin x4 I_291 J (fun (r_305 : Int32) (I_305 : sI) (J_305 : sJ) => (w_X12_enters (Int32.toInt64 ((I_291 264 (Int32.toNatClampNeg x4)) - r_305)) I_305 J_305 (fun (I_310 : sI) (J_310 : sJ) => (post (nI (cnt (fun i => H (ta + i)) n)) I_310 J_310)))))) : w_X12_second_252 post x4 0 (nI ta) I J := by
  have loop : ∀ f i, i ≤ n → n - i < f → w_X12_second_252_n post f x4 (nI (cnt (fun i => H (ta + i)) i)) (nI (ta + i)) I J := by
    intro f
    induction f with
    | zero => intro x _ h; omega
    | succ f ih =>
      intro i hi hf
      show w_X12_second_252_s post (w_X12_second_252_n post f) _ _ _ I J
      unfold w_X12_second_252_s
      rw [e11, nI_p g1, pf_cl (n := G - 1) (by omega), e264, pf_le (by omega) (by omega)]
      refine ⟨vp_in_nI (by omega) (by omega), fun e => ?_, fun e => ⟨vp_in_nI (by omega) (by omega), ?_⟩⟩
      · have : i = n := by omega
        subst this
        exact h
      · rw [pf_cl (by omega), c (ta + i) (by omega), nI_1]
        by_cases z : H (ta + i)
        · rw [i1_y z]
          refine q_flag (fun q => absurd q (by decide)) (fun _ => ?_)
          rw [nI_1]
          rintro _ rfl _ rfl
          have := ih (i + 1) (by omega) (by omega)
          rw [cnt_s (p := fun i => H (ta + i)) z] at this
          exact this
        · rw [i1_n z]
          refine q_flag (fun _ => ?_) (fun q => absurd rfl q)
          rw [Int32.add_zero]
          rintro _ rfl _ rfl
          have := ih (i + 1) (by omega) (by omega)
          rw [cnt_n (p := fun i => H (ta + i)) z] at this
          exact this
  exact ⟨n + 1, loop (n + 1) 0 (by omega) (by omega)⟩
theorem hl_cnt {ch : Nat → Nat → List Nat} {G M : Nat} (g1 : 1 ≤ G) (m1 : 1 ≤ M) : hlF ch G (G + M) 0 0 = cnt (fun i => hNd ch (G + M) (tot ch (G - 1) + i)) (lev ch G).length := by
  obtain ⟨m, em⟩ : ∃ m, M = m + 1 := ⟨M - 1, by omega⟩
  subst em
  have e := hl_lev (ch := ch) (D := G) (m := m) (k := G) (g := 0) (by omega)
  have e0 : lsum (hlF ch G (G + m + 1) 0) (lev ch 0) = hlF ch G (G + (m + 1)) 0 0 := by
    show hlF ch G (G + m + 1) 0 0 + 0 = _; rfl
  rw [← e0, e]
  have e1 : lsum (fun c => if (lvF ch (m + 1) G c).length ≠ 0 then 1 else 0) (lev ch G) = lcn (fun c => (lvF ch (m + 1) G c).length ≠ 0) (lev ch G) := by
    unfold lcn
    refine lsum_congr (fun x _ => ?_)
    by_cases z : (lvF ch (m + 1) G x).length ≠ 0
    · rw [if_pos z, i1_y z]
    · rw [if_neg z, i1_n z]
  rw [e1, ← cnt_gt]
  refine cnt_congr (fun i hi => ?_)
  have := hNd_iff (ch := ch) (N := G + (m + 1)) (L := G - 1) (i := i) (by omega) (by rw [show G - 1 + 1 = G by omega]; exact hi)
  rw [this]
  unfold hLv
  rw [show G - 1 + 1 = G by omega, show G + (m + 1) - G = m + 1 by omega]
