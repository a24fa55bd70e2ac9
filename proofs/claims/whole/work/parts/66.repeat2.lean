noncomputable def i1 (p : Prop) : Nat := if bp p = true then 1 else 0
theorem i1_y {p : Prop} (h : p) : i1 p = 1 := by rw [i1, if_pos (bp_t.mpr h)]
theorem i1_n {p : Prop} (h : ¬ p) : i1 p = 0 := by rw [i1, if_neg (fun z => h (bp_t.mp z))]
theorem i1_le (p : Prop) : i1 p ≤ 1 := by unfold i1; split <;> omega
theorem sumN_leC {o : Nat → Nat} {c : Nat} : ∀ {n}, (∀ i, i < n → o i ≤ c) → sumN o n ≤ n * c
  | 0, _ => by show 0 ≤ _; exact Nat.zero_le _
  | n + 1, h => by
    have := sumN_leC (n := n) (fun i hi => h i (by omega))
    have := h n (by omega)
    rw [sumN, Nat.succ_mul]; omega
theorem sumN_add {o u : Nat → Nat} : ∀ {n}, sumN (fun i => o i + u i) n = sumN o n + sumN u n
  | 0 => rfl
  | n + 1 => by rw [sumN, sumN, sumN, sumN_add]; omega
theorem sumN_0 : ∀ {n}, sumN (fun _ => 0) n = 0
  | 0 => rfl
  | n + 1 => by rw [sumN, sumN_0]
theorem sumN_mul {o : Nat → Nat} {c : Nat} : ∀ {n}, sumN o n * c = sumN (fun i => o i * c) n
  | 0 => by show 0 * c = 0; exact Nat.zero_mul c
  | n + 1 => by rw [sumN, sumN, Nat.add_mul, sumN_mul]
theorem sumN_swap {f : Nat → Nat → Nat} {n : Nat} : ∀ {m}, sumN (fun k => sumN (fun i => f k i) n) m = sumN (fun i => sumN (fun k => f k i) m) n
  | 0 => by simp only [sumN]; exact sumN_0.symm
  | m + 1 => by
    rw [sumN, sumN_swap]
    simp only [sumN]
    rw [sumN_add]
theorem sumN_one {o : Nat → Nat} {j : Nat} : ∀ {n}, j < n → (∀ k, k < n → k ≠ j → o k = 0) → sumN o n = o j
  | n + 1, h, h0 => by
    rw [sumN]
    by_cases e : j = n
    · rw [sumN_congr (u := fun _ => 0) (fun i hi => h0 i (by omega) (by omega)), sumN_0, e]; omega
    · rw [sumN_one (n := n) (by omega) (fun k hk => h0 k (by omega)), h0 n (by omega) (fun q => e q.symm)]; omega
def rwS (f : Nat → Nat → Nat) (a n : Nat) : Nat := sumN (fun i => f a (a + 1 + i)) n
def prS (f : Nat → Nat → Nat) (G n : Nat) : Nat := sumN (fun a => rwS f a (G - (a + 1))) n
theorem prS_swap {f : Nat → Nat → Nat → Nat} {G n m : Nat} : sumN (fun k => prS (f k) G n) m = prS (fun a b => sumN (fun k => f k a b) m) G n := by
  unfold prS rwS
  rw [sumN_swap]
  exact sumN_congr (fun a _ => sumN_swap)
theorem prS_congr {f g : Nat → Nat → Nat} {G n : Nat} (hn : n ≤ G) (h : ∀ a b, a < b → b < G → f a b = g a b) : prS f G n = prS g G n := by
  unfold prS rwS
  exact sumN_congr (fun a ha => sumN_congr (fun i hi => h _ _ (by omega) (by omega)))
theorem prS_mul {f : Nat → Nat → Nat} {G n c : Nat} : prS f G n * c = prS (fun a b => f a b * c) G n := by
  unfold prS rwS
  rw [sumN_mul]
  exact sumN_congr (fun a ha => sumN_mul)
def eP (s κ : Nat → Nat) (l a b : Nat) : Prop := (s (a + 1) - s a = l ∧ whl s κ a) ∧ (s (b + 1) - s b = l ∧ whl s κ b)
noncomputable def fP (s κ : Nat → Nat) (l a b : Nat) : Nat := i1 (eP s κ l a b)
noncomputable def fA (s κ : Nat → Nat) (l a b : Nat) : Nat := i1 (eP s κ l a b ∧ alk κ (s a) (s b) l)
theorem prS_le {s κ : Nat → Nat} {l G n : Nat} (hG : G ≤ 12) (hn : n ≤ G) : prS (fP s κ l) G n ≤ 144 := by
  have : prS (fP s κ l) G n ≤ n * 12 := sumN_leC (fun a ha => by
    have : rwS (fP s κ l) a (G - (a + 1)) ≤ (G - (a + 1)) * 1 := sumN_leC (fun i _ => i1_le _)
    omega)
  omega
theorem q_rep60 {I : sI} {J : sJ} {post : Int32 → sI → sJ → Prop} {k32 : Int32 → Int64 → Int32 → sI → sJ → Prop} {k45 : Int32 → Int64 → Int32 → Int32 → Int32 → sI → sJ → Prop} {G P l a q0 p0 : Nat} {x3 : Int64} {s κ : Nat → Nat} (hw : tWD G P s κ) (hc : cD G P s κ 4 I) (hl : l ≤ 6) (ha : a < G) (hk : k45 (nI (q0 + rwS (fA s κ l) a (G - (a + 1)))) x3 (nI l) (nI (p0 + rwS (fP s κ l) a (G - (a + 1)))) (nI (a + 1)) I J) : ∀ m i, i ≤ G - (a + 1) → G - (a + 1) - i < m → w_X11_repeat_60_n post k32 k45 m (nI (q0 + rwS (fA s κ l) a i)) x3 (nI l) (nI (p0 + rwS (fP s κ l) a i)) (nI a) (nI (a + 1 + i)) I J := by
  have hP := hw.2.1
  have hG := hw.1
  intro m
  induction m with
  | zero => intro i _ h; omega
  | succ m ih =>
    intro i hi hm
    show w_X11_repeat_60_s post k32 k45 (w_X11_repeat_60_n post k32 k45 m) _ _ _ _ _ _ I J
    unfold w_X11_repeat_60_s w_X11_repeat_123 w_X11_repeat_125
    rw [hc.1, pf_le (by omega) (by omega), nI_1, nI_1, nI_1]
    refine ⟨fun e => ?_, fun e => ?_⟩
    · rintro _ rfl
      rw [show i = G - (a + 1) by omega]
      exact hk
    · have nx := ih (i + 1) (by omega) (by omega)
      rw [show rwS (fA s κ l) a (i + 1) = rwS (fA s κ l) a i + fA s κ l a (a + 1 + i) from rfl, show rwS (fP s κ l) a (i + 1) = rwS (fP s κ l) a i + fP s κ l a (a + 1 + i) from rfl] at nx
      have no : ¬ eP s κ l a (a + 1 + i) → ∀ v : Int32, v = nI (a + 1 + i + 1) → w_X11_repeat_60_n post k32 k45 m (nI (q0 + rwS (fA s κ l) a i)) x3 (nI l) (nI (p0 + rwS (fP s κ l) a i)) (nI a) v I J := by
        rintro y _ rfl
        rw [fA, fP, i1_n y, i1_n (fun q => y q.1)] at nx
        exact nx
      refine q_clear hw hc ha hl (fun y1 => b2 (by decide) ?_) (fun y1 => b1 rfl (no (fun q => y1 q.1)))
      refine q_clear hw hc (by omega) hl (fun y2 => b2 (by decide) ?_) (fun y2 => b1 rfl (no (fun q => y2 q.2)))
      have l1 := hw.2.2.2.2.1 a ha
      have l2 := hw.2.2.2.2.1 (a + 1 + i) (by omega)
      have l3 := s_le hw (show a + 1 ≤ G by omega)
      have l4 := s_le hw (show a + 1 + i + 1 ≤ G by omega)
      have y : eP s κ l a (a + 1 + i) := ⟨y1, y2⟩
      obtain ⟨y1, -⟩ := y1
      obtain ⟨y2, -⟩ := y2
      rw [fP, i1_y y, ← Nat.add_assoc] at nx
      rw [pf_cl (by omega), pf_cl (by omega), show I 7 a = _ from hc.2.2.1 a (by omega), show I 7 (a + 1 + i) = _ from hc.2.2.1 (a + 1 + i) (by omega)]
      rintro _ rfl
      refine ⟨vp_in_nI (by omega) (by omega), vp_in_nI (by omega) (by omega), ?_⟩
      refine q_same hw hc (by omega) (by omega) (fun z => b2 (by decide) ?_) (fun z => b1 rfl ?_)
      · rw [fA, i1_y ⟨y, z⟩, ← Nat.add_assoc] at nx
        rintro _ rfl _ rfl
        rw [nI_1]
        exact nx
      · rw [fA, i1_n (fun q => z q.2)] at nx
        rintro _ rfl _ rfl
        rw [Int32.add_zero]
        exact nx
theorem q_rep45 {I : sI} {J : sJ} {post : Int32 → sI → sJ → Prop} {k32 : Int32 → Int64 → Int32 → sI → sJ → Prop} {G P l q0 : Nat} {acc : Nat} {o : Nat → Nat} {s κ : Nat → Nat} (hw : tWD G P s κ) (hc : cD G P s κ 4 I) (ho : ∀ k, k < 13 → o k ≤ 60 ∧ I 247 k = nI (o k)) (hs : sumN o 12 ≤ 60) (hl : l ≤ 6) (hk : ∀ (I2 : sI) (J2 : sJ), (∀ q, ¬ (q = 243 ∨ q = 245) → I2 q = I q) → (∀ q, ¬ (q = 244 ∨ q = 246) → J2 q = J q) → k32 (nI (q0 + prS (fA s κ l) G G)) (lN (acc + prS (fP s κ l) G G * mil o l)) (nI (l + 1)) I2 J2) : ∀ m a, a ≤ G → G - a < m → w_X11_repeat_45_n post k32 m (nI (q0 + prS (fA s κ l) G a)) (lN acc) (nI l) (nI (prS (fP s κ l) G a)) (nI a) I J := by
  have hG := hw.1
  intro m
  induction m with
  | zero => intro i _ h; omega
  | succ m ih =>
    intro a ha hm
    have pl := prS_le (s := s) (κ := κ) (l := l) hG ha
    show w_X11_repeat_45_s post k32 (w_X11_repeat_45_n post k32 m) _ _ _ _ _ I J
    unfold w_X11_repeat_45_s w_X11_repeat_157
    rw [hc.1, pf_le (by omega) (by omega), pf_le0 (by omega), nI_1, nI_1]
    refine ⟨fun e => ?_, fun e => ?_⟩
    · have e : a = G := by omega
      subst e
      refine ⟨fun z => ?_, fun z => ?_⟩
      · rintro _ rfl _ rfl
        have := hk I J (fun _ _ => rfl) (fun _ _ => rfl)
        rw [z, Nat.zero_mul] at this
        rw [Int64.add_zero]
        exact this
      · refine q_share ho hs hl (fun I2 J2 r2 j2 => ?_)
        rw [nI_l (by omega), lN_mul, lN_add]
        rintro _ rfl _ rfl
        exact hk I2 J2 r2 j2
    · rintro _ rfl
      refine ⟨G + 1, q_rep60 (q0 := q0 + prS (fA s κ l) G a) (p0 := prS (fP s κ l) G a) hw hc hl (by omega) ?_ (G + 1) 0 (by omega) (by omega)⟩
      have := ih (a + 1) (by omega) (by omega)
      rw [show prS (fA s κ l) G (a + 1) = prS (fA s κ l) G a + rwS (fA s κ l) a (G - (a + 1)) from rfl, show prS (fP s κ l) G (a + 1) = prS (fP s κ l) G a + rwS (fP s κ l) a (G - (a + 1)) from rfl, ← Nat.add_assoc] at this
      exact this
theorem q_repC {I : sI} {J : sJ} {post : Int32 → sI → sJ → Prop} {G P : Nat} {s κ : Nat → Nat} (hw : tWD G P s κ) (hc : cD G P s κ 4 I) (h0 : G = 0 → post (-1) I J) (h : ∀ (I2 : sI) (J2 : sJ), (∀ q, ¬ (q = 243 ∨ q = 245 ∨ q = 247) → I2 q = I q) → (∀ q, ¬ (q = 244 ∨ q = 246) → J2 q = J q) → ¬ G = 0 → post (nI (sumN (fun k => prS (fA s κ (k + 1)) G G) 6)) (sUI (sUI I2 134 1 0) 134 1 (nI 1)) (sUJ J2 135 0 (lN (sumN (fun k => prS (fP s κ (k + 1)) G G * mil (oft κ P) (k + 1)) 6)))) : w_X11_repeat I J post := by
  have hP := hw.2.1
  have hG := hw.1
  have hs := oft_sum κ P 12
  unfold w_X11_repeat
  rw [hc.1, pf_eq0 (by omega)]
  refine ⟨fun z => ?_, h0⟩
  refine q_countKinds hw hc (fun I1 ra ho => ?_)
  have ho2 : ∀ k, k < 13 → oft κ P k ≤ 60 ∧ I1 247 k = nI (oft κ P k) := fun k hk => ⟨by have := oft_le κ P k; omega, ho k hk⟩
  have loop : ∀ m l (I3 : sI) (J3 : sJ), l ≤ 6 → 6 - l < m → (∀ q, ¬ (q = 243 ∨ q = 245) → I3 q = I1 q) → (∀ q, ¬ (q = 244 ∨ q = 246) → J3 q = J q) → w_X11_repeat_32_n post m (nI (sumN (fun k => prS (fA s κ (k + 1)) G G) l)) (lN (sumN (fun k => prS (fP s κ (k + 1)) G G * mil (oft κ P) (k + 1)) l)) (nI (l + 1)) I3 J3 := by
    intro m
    induction m with
    | zero => intro i _ _ _ h; omega
    | succ m ih =>
      intro l I3 J3 hl hm r3 j3
      show w_X11_repeat_32_s post (w_X11_repeat_32_n post m) _ _ _ I3 J3
      unfold w_X11_repeat_32_s
      rw [show (6 : Int32) = nI 6 from rfl, pf_lt (by omega) (by omega)]
      refine ⟨fun e => ?_, fun e => ?_⟩
      · rw [show l = 6 by omega]
        exact q_X6_tell (h I3 J3 (fun q hq => by rw [r3 q (by omega), ra q (by omega)]) j3 z)
      · have hc3 : cD G P s κ 4 I3 := by
          unfold cD at *
          rw [r3 4 (by omega), r3 (4 + 3) (by omega), r3 (4 + 1) (by omega), r3 (4 + 2) (by omega), ra 4 (by omega), ra (4 + 3) (by omega), ra (4 + 1) (by omega), ra (4 + 2) (by omega)]
          exact hc
        have := q_rep45 (post := post) (k32 := w_X11_repeat_32_n post m) (J := J3) (q0 := sumN (fun k => prS (fA s κ (k + 1)) G G) l) (acc := sumN (fun k => prS (fP s κ (k + 1)) G G * mil (oft κ P) (k + 1)) l) (l := l + 1) hw hc3 (fun k hk => ⟨(ho2 k hk).1, by rw [r3 247 (by omega)]; exact (ho2 k hk).2⟩) (by omega) (by omega) (fun I2 J2 r2 j2 => ?_) (G + 1) 0 (by omega) (by omega)
        · exact ⟨G + 1, this⟩
        · exact ih (l + 1) I2 J2 (by omega) (by omega) (fun q hq => by rw [r2 q hq, r3 q hq]) (fun q hq => by rw [j2 q hq, j3 q hq])
  exact ⟨7, loop 7 0 I1 J (by omega) (by omega) (fun _ _ => rfl) (fun _ _ => rfl)⟩
def mP (s κ : Nat → Nat) (a b : Nat) : Prop := s (a + 1) - s a = s (b + 1) - s b ∧ whl s κ a ∧ whl s κ b
noncomputable def gA (s κ : Nat → Nat) (a b : Nat) : Nat := i1 (mP s κ a b ∧ alk κ (s a) (s b) (s (a + 1) - s a))
noncomputable def gS (s κ o : Nat → Nat) (a b : Nat) : Nat := i1 (mP s κ a b) * mil o (s (a + 1) - s a)
theorem q_repM {I : sI} {J : sJ} {post : Int32 → sI → sJ → Prop} {G P : Nat} {s κ : Nat → Nat} (hw : tWD G P s κ) (hm : mD G P s κ I) (h0 : G = 0 → post (-1) (sUI I 248 0 0) J) (h : ∀ I2 : sI, (∀ q, ¬ (q = 248 ∨ q = 272 ∨ q = 273 ∨ q = 274) → I2 q = I q) → (∀ k, ¬ (k = 0 ∨ k = 42 ∨ k = 43) → I2 248 k = I 248 k) → ¬ G = 0 → post (nI (prS (gA s κ) G G)) (sUI (sUI I2 248 1 0) 248 1 (nI 1)) (sUJ J 249 0 (lN (prS (gS s κ (oft κ P)) G G)))) : w_X12_repeat I J post := by
  have hP := hw.2.1
  have hG := hw.1
  have hs := oft_sum κ P 12
  unfold w_X12_repeat
  rintro _ rfl
  have hm0 : mD G P s κ (sUI I 248 0 0) := hm
  rw [hm0.1, pf_eq0 (by omega)]
  refine ⟨fun z => ?_, h0⟩
  refine q_counts hw hm0 (fun I1 ra sa ho e42 e43 => ?_)
  have ho2 : ∀ k, k < 13 → oft κ P k ≤ 60 := fun k hk => by have := oft_le κ P k; omega
  obtain ⟨o, eo⟩ : ∃ o, o = oft κ P := ⟨_, rfl⟩
  rw [← eo] at ho ho2 hs e42 h
  have mm : ∀ I3 : sI, (∀ q, ¬ (q = 273 ∨ q = 274) → I3 q = I1 q) → mD G P s κ I3 := fun I3 r3 => mD_congr hm0 (by rw [r3 248 (by omega), sa 11 (by omega)]) (by rw [r3 248 (by omega), sa 12 (by omega)]) (by rw [r3 253 (by omega), ra 253 (by omega)]) (by rw [r3 254 (by omega), ra 254 (by omega)])
  have inner : ∀ (k57 : Int32 → Int32 → Int64 → Int32 → sI → sJ → Prop) a q0 c0, a < G → (∀ I3 : sI, (∀ q, ¬ (q = 273 ∨ q = 274) → I3 q = I1 q) → k57 (nI (sqs o 12)) (nI (q0 + rwS (gA s κ) a (G - (a + 1)))) (lN (c0 + rwS (gS s κ o) a (G - (a + 1)))) (nI (a + 1)) I3 J) → ∀ m i (I3 : sI), i ≤ G - (a + 1) → G - (a + 1) - i < m → (∀ q, ¬ (q = 273 ∨ q = 274) → I3 q = I1 q) → w_X12_repeat_72_n post k57 m (nI (sqs o 12)) (nI (q0 + rwS (gA s κ) a i)) (lN (c0 + rwS (gS s κ o) a i)) (nI a) (nI (a + 1 + i)) I3 J := by
    intro k57 a q0 c0 ha hk m
    induction m with
    | zero => intro i _ _ h; omega
    | succ m ih =>
      intro i I3 hi hm2 r3
      have hm3 := mm I3 r3
      show w_X12_repeat_72_s post k57 (w_X12_repeat_72_n post k57 m) _ _ _ _ _ I3 J
      unfold w_X12_repeat_72_s w_X12_repeat_173
      rw [hm3.1, pf_le (by omega) (by omega), nI_1, nI_1, pf_cl (by omega), pf_cl (by omega)]
      refine ⟨fun e => ?_, fun e => ⟨vp_in_nI (by omega) (by omega), vp_in_nI (by omega) (by omega), ?_⟩⟩
      · rintro _ rfl
        rw [show i = G - (a + 1) by omega]
        exact hk I3 r3
      · have l1 := hw.2.2.2.2.1 a ha
        have l2 := hw.2.2.2.2.1 (a + 1 + i) (by omega)
        have l3 := s_le hw (show a + 1 ≤ G by omega)
        have l4 := s_le hw (show a + 1 + i + 1 ≤ G by omega)
        have nx := fun I4 => ih (i + 1) I4 (by omega) (by omega)
        rw [show rwS (gA s κ) a (i + 1) = rwS (gA s κ) a i + gA s κ a (a + 1 + i) from rfl, show rwS (gS s κ o) a (i + 1) = rwS (gS s κ o) a i + gS s κ o a (a + 1 + i) from rfl] at nx
        have no : ¬ mP s κ a (a + 1 + i) → ∀ v : Int32, v = nI (a + 1 + i + 1) → w_X12_repeat_72_n post k57 m (nI (sqs o 12)) (nI (q0 + rwS (gA s κ) a i)) (lN (c0 + rwS (gS s κ o) a i)) (nI a) v I3 J := by
          rintro y _ rfl
          have := nx I3 r3
          rw [gA, gS, i1_n y, i1_n (fun q => y q.1), Nat.zero_mul] at this
          exact this
        rw [hm3.2.2.1 a ha, hm3.2.2.1 (a + 1 + i) (by omega), pf_eq (by omega) (by omega)]
        refine ⟨fun y => no (fun q => y q.1), fun y => ?_⟩
        refine q_whole hw hm3 ha (fun y1 => b2 (by decide) ?_) (fun y1 => b1 rfl (no (fun q => y1 q.2.1)))
        refine q_whole hw hm3 (by omega) (fun y2 => b3 (by decide) ?_) (fun y2 => b4 rfl (no (fun q => y2 q.2.2)))
        refine q_groupBegin hw hm3 (by omega) (q_groupBegin hw hm3 (by omega) ⟨vp_in_nI (by omega) (by omega), ?_⟩)
        have yy : mP s κ a (a + 1 + i) := ⟨y, y1, y2⟩
        have e42' : I3 248 42 * I3 248 42 = nI (sumN o 12 * sumN o 12) := by rw [r3 248 (by omega), e42, pk_mul]
        rw [hm3.2.2.1 a ha]
        rw [gS, i1_y yy, Nat.one_mul] at nx
        have go : ∀ f, f = gA s κ a (a + 1 + i) → ∀ v2 : Int32, v2 = nI (q0 + rwS (gA s κ) a i) + nI f → vp_in (nI a) 24 ∧ w_X12_millionths (nI (sqs o 12)) (I3 248 42 * I3 248 42) (I3 253 a) I3 J (fun r I4 J4 => ∀ v3 : Int64, v3 = lN (c0 + rwS (gS s κ o) a i) + r.toInt64 → ∀ v6 : Int32, v6 = nI (a + 1 + i + 1) → w_X12_repeat_72_n post k57 m (nI (sqs o 12)) v2 v3 (nI a) v6 I4 J4) := by
          rintro f rfl _ rfl
          refine ⟨vp_in_nI (by omega) (by omega), ?_⟩
          rw [e42', hm3.2.2.1 a ha, nI_add]
          refine q_million ho2 (by omega) (by omega) (fun I4 r4 => ?_)
          have ml : mil o (s (a + 1) - s a) ≤ 1000000 := mil_le
          rw [nI_l (by omega), lN_add]
          rintro _ rfl _ rfl
          have := nx I4 (fun q hq => by rw [r4 q hq, r3 q hq])
          rw [← Nat.add_assoc, ← Nat.add_assoc] at this
          exact this
        refine q_alike hw hm3 (by omega) (by omega) (fun x => ?_) (fun x => ?_)
        · refine q_flag (fun q => absurd q (by decide)) (fun _ => ?_)
          exact go 1 (by rw [gA, i1_y ⟨yy, x⟩])
        · refine q_flag (fun _ => ?_) (fun q => absurd rfl q)
          exact go 0 (by rw [gA, i1_n (fun q => x q.2)])
  have outer : ∀ m a (I3 : sI), a ≤ G → G - a < m → (∀ q, ¬ (q = 273 ∨ q = 274) → I3 q = I1 q) → w_X12_repeat_57_n post m (nI (sqs o 12)) (nI (prS (gA s κ) G a)) (lN (prS (gS s κ o) G a)) (nI a) I3 J := by
    intro m
    induction m with
    | zero => intro i _ _ h; omega
    | succ m ih =>
      intro a I3 ha hm2 r3
      have hm3 := mm I3 r3
      show w_X12_repeat_57_s post (w_X12_repeat_57_n post m) _ _ _ _ I3 J
      unfold w_X12_repeat_57_s
      rw [hm3.1, pf_le (by omega) (by omega), nI_1]
      refine ⟨fun e => ?_, fun e => ?_⟩
      · rw [show a = G by omega]
        rintro _ rfl
        refine q_enters (k := 0) rfl (by omega) (h I3 (fun q hq => ?_) (fun k hk => ?_) z)
        · rw [r3 q (by omega), ra q (by omega), sUI_ne (by omega)]
        · rw [r3 248 (by omega), sa k (by omega), pf_uis, if_neg (by omega)]
      · rintro _ rfl
        exact ⟨G + 1, inner _ a (prS (gA s κ) G a) (prS (gS s κ o) G a) (by omega) (fun I4 r4 => ih (a + 1) I4 (by omega) (by omega) r4) (G + 1) 0 I3 (by omega) (by omega) r3⟩
  have loop : ∀ m k, k ≤ 12 → 12 - k < m → w_X12_repeat_22_n post m (nI (sqs o k)) (nI k) I1 J := by
    intro m
    induction m with
    | zero => intro k _ h; omega
    | succ m ih =>
      intro k hk hm
      show w_X12_repeat_22_s post (w_X12_repeat_22_n post m) (nI (sqs o k)) (nI k) I1 J
      unfold w_X12_repeat_22_s
      rw [show (12 : Int32) = nI 12 from rfl, pf_le (by omega) (by omega), pf_cl (by omega), nI_1]
      refine ⟨fun y => ?_, fun y => ⟨vp_in_nI (by omega) (by omega), vp_in_nI (by omega) (by omega), ?_⟩⟩
      · rw [show k = 12 by omega]
        exact ⟨G + 1, outer (G + 1) 0 I1 (by omega) (by omega) (fun _ _ => rfl)⟩
      · rw [ho k (by omega), pk_mul, nI_add]
        rintro _ rfl _ rfl
        exact ih (k + 1) (by omega) (by omega)
  exact ⟨13, loop 13 0 (by omega) (by omega)⟩
theorem eP_mP {G P : Nat} {s κ : Nat → Nat} (hw : tWD G P s κ) {a b l : Nat} (ha : a < G) (hb : b < G) : eP s κ l a b ↔ (l = s (a + 1) - s a ∧ mP s κ a b) := by
  constructor
  · rintro ⟨⟨e1, e2⟩, e3, e4⟩
    exact ⟨e1.symm, by omega, e2, e4⟩
  · rintro ⟨e0, e1, e2, e3⟩
    exact ⟨⟨by omega, e2⟩, by omega, e3⟩
theorem S_repeat {I : sI} {J : sJ} (hR : RR0 I J) : St w_X11_repeat w_X12_repeat I J := by
  obtain ⟨hT, hD, hK, hW, hC, hQ, hX⟩ := hR
  obtain ⟨G, P, s, κ, hw, hc, hm⟩ := d_get hD
  refine q_repC hw hc (fun z => ?_) (fun I1 J1 ra ja z => ?_)
  · refine q_repM hw hm (fun _ => ?_) (fun _ _ _ q => absurd z q)
    exact ⟨rfl, (RT_congr hT rfl rfl rfl rfl), (RD_congr hD (fun q h1 h2 => by repeat rw [sUI_ne (by omega)]) rfl rfl rfl rfl rfl rfl rfl rfl rfl rfl rfl), (RK_congr hK (fun q h1 h2 => by repeat rw [sUI_ne (by omega)]) rfl rfl), (RW_congr hW (fun q h1 h2 => by repeat rw [sUI_ne (by omega)]) rfl rfl rfl), (RC_congr hC (fun q h1 h2 => by repeat rw [sUI_ne (by omega)]) rfl rfl rfl), (RR_congr hQ rfl rfl rfl rfl), (RX_congr hX rfl rfl rfl rfl rfl)⟩
  · have hm1 : mD G P s κ (sUI (sUI I1 134 1 0) 134 1 (nI 1)) := mD_congr hm (by rw [sUI_ne (by omega), sUI_ne (by omega), ra 248 (by omega)]) (by rw [sUI_ne (by omega), sUI_ne (by omega), ra 248 (by omega)]) (by rw [sUI_ne (by omega), sUI_ne (by omega), ra 253 (by omega)]) (by rw [sUI_ne (by omega), sUI_ne (by omega), ra 254 (by omega)])
    refine q_repM hw hm1 (fun q => absurd q z) (fun I2 rb sb _ => ?_)
    have r1 : ∀ q, ¬ (q = 243 ∨ q = 245 ∨ q = 247 ∨ q = 134 ∨ q = 248 ∨ q = 272 ∨ q = 273 ∨ q = 274) → (sUI (sUI I2 248 1 0) 248 1 (nI 1)) q = I q := fun q hq => by rw [sUI_ne (by omega), sUI_ne (by omega), rb q (by omega), sUI_ne (by omega), sUI_ne (by omega), ra q (by omega)]
    have s1 : ∀ k, ¬ (k = 0 ∨ k = 1 ∨ k = 42 ∨ k = 43) → (sUI (sUI I2 248 1 0) 248 1 (nI 1)) 248 k = I 248 k := fun k hk => by rw [pf_uis, if_neg (by omega), pf_uis, if_neg (by omega), sb k (by omega), sUI_ne (by omega), sUI_ne (by omega), ra 248 (by omega)]
    have len : ∀ a, a < G → 1 ≤ s (a + 1) - s a ∧ s (a + 1) - s a ≤ 6 := fun a ha => by have := hw.2.2.2.2.1 a ha; omega
    have E1 : sumN (fun k => prS (fA s κ (k + 1)) G G) 6 = prS (gA s κ) G G := by
      rw [prS_swap]
      refine prS_congr (by omega) (fun a b hab hb => ?_)
      have := len a (by omega)
      rw [sumN_one (o := fun k => fA s κ (k + 1) a b) (n := 6) (j := s (a + 1) - s a - 1) (by omega) (fun k hk hk2 => i1_n (fun q => hk2 (by have := ((eP_mP hw (by omega) hb).mp q.1).1; omega)))]
      show fA s κ (s (a + 1) - s a - 1 + 1) a b = _
      rw [show s (a + 1) - s a - 1 + 1 = s (a + 1) - s a by omega, fA, gA, eP_mP hw (by omega) hb]
      by_cases y : mP s κ a b ∧ alk κ (s a) (s b) (s (a + 1) - s a)
      · rw [i1_y y, i1_y ⟨⟨rfl, y.1⟩, y.2⟩]
      · rw [i1_n y, i1_n (fun q => y ⟨q.1.2, q.2⟩)]
    have E2 : sumN (fun k => prS (fP s κ (k + 1)) G G * mil (oft κ P) (k + 1)) 6 = prS (gS s κ (oft κ P)) G G := by
      have e : ∀ k, prS (fP s κ (k + 1)) G G * mil (oft κ P) (k + 1) = prS (fun a b => fP s κ (k + 1) a b * mil (oft κ P) (k + 1)) G G := fun k => prS_mul
      rw [sumN_congr (fun i _ => e i), prS_swap]
      refine prS_congr (by omega) (fun a b hab hb => ?_)
      have := len a (by omega)
      rw [sumN_one (o := fun k => fP s κ (k + 1) a b * mil (oft κ P) (k + 1)) (n := 6) (j := s (a + 1) - s a - 1) (by omega) (fun k hk hk2 => by show fP s κ (k + 1) a b * mil (oft κ P) (k + 1) = 0; rw [fP, i1_n (fun q => hk2 (by have := ((eP_mP hw (by omega) hb).mp q).1; omega)), Nat.zero_mul])]
      show fP s κ (s (a + 1) - s a - 1 + 1) a b * mil (oft κ P) (s (a + 1) - s a - 1 + 1) = _
      rw [show s (a + 1) - s a - 1 + 1 = s (a + 1) - s a by omega, fP, gS, eP_mP hw (by omega) hb]
      by_cases y : mP s κ a b
      · rw [i1_y y, i1_y ⟨rfl, y⟩]
      · rw [i1_n y, i1_n (fun q => y q.2)]
    refine ⟨by rw [E1], (RT_congr hT (by rw [r1 1 (by omega)]) (r1 2 (by omega)) (s1 4 (by omega)) (r1 250 (by omega))), (RD_congr hD (fun q h1 h2 => r1 q (by omega)) (r1 253 (by omega)) (r1 254 (by omega)) (r1 255 (by omega)) (r1 256 (by omega)) (r1 276 (by omega)) (s1 11 (by omega)) (s1 12 (by omega)) (s1 15 (by omega)) (s1 21 (by omega)) (s1 22 (by omega)) (s1 23 (by omega))), (RK_congr hK (fun q h1 h2 => r1 q (by omega)) (r1 279 (by omega)) (r1 280 (by omega))), (RW_congr hW (fun q h1 h2 => r1 q (by omega)) (r1 257 (by omega)) (r1 258 (by omega)) (r1 259 (by omega))), (RC_congr hC (fun q h1 h2 => r1 q (by omega)) (by rw [r1 227 (by omega)]) (s1 46 (by omega)) (r1 275 (by omega))), ?_, (RX_congr hX (by rw [r1 0 (by omega)]) (s1 37 (by omega)) (by rw [r1 0 (by omega)]) (s1 33 (by omega)) (by rw [r1 141 (by omega)]))⟩
    refine RR_1 (x := lN (prS (gS s κ (oft κ P)) G G)) ?_ ?_ ?_ ?_
    · rw [sUI_ne (by omega), sUI_ne (by omega), rb 134 (by omega), pf_uis, if_pos rfl]
    · rw [pf_uis, if_pos rfl]
    · rw [pf_uj, if_neg (by omega), pf_ujs, if_pos rfl, E2]
    · rw [pf_ujs, if_pos rfl]
