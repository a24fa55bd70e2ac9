-- what is asked of the readings
theorem nI_m {n : Nat} (h : 1 ≤ n) : nI n + (-1) = nI (n - 1) := by
  have : nI n = nI (n - 1) + 1 := by rw [nI_1, show n - 1 + 1 = n by omega]
  rw [this, Int32.add_assoc, show (1 : Int32) + -1 = 0 by decide, Int32.add_zero]
theorem q_run {I : sI} {J : sJ} {post : sI → sJ → Prop} {q : sPr} {N NL mode det bk : Nat} {MS : List Nat → Int32 → (Nat → Int32) → (Nat → Int64) → Prop} (hq : qO q NL) (hN : N ≤ NL) (hN1 : 1 ≤ N) (hmode : mode ≤ 4) (hd2 : det < 1000) (tk : tkO q N mode det MS) (ms0 : ∀ T S, (∀ i, i < 96 → T i = 0) → MS [] 0 T S) (cf : cfS q bk I) (wy : wyS q NL I J) (h1 : ∀ (I2 : sI) (J2 : sJ), (∀ p, ¬ (p = 220 ∨ p = 222 ∨ p = 223) → I2 p = I p) → (∀ p, ¬ (p = 220 ∨ p = 221) → J2 p = J p) → tot (chF q) N ≤ 20000 → I2 220 1 = nI (tot (chF q) N) → rdS MS N mode det (lev (chF q) N) (if mode = 4 then hlF (chF q) det N 0 0 else 0) I2 J2 → post I2 J2) (h2 : ∀ (I2 : sI) (J2 : sJ), (∀ p, ¬ (p = 220 ∨ p = 222 ∨ p = 223) → I2 p = I p) → (∀ p, ¬ (p = 220 ∨ p = 221) → J2 p = J p) → 20000 < tot (chF q) N → I2 220 1 = nI 20001 → post I2 J2) : w_X5_run (nI N) (nI mode) (nI det) I J post := by
  have h24 := hq.1
  unfold w_X5_run
  rw [wy.1]
  refine q_min (by omega) (by omega) ?_
  rw [Nat.min_eq_left hN]
  rintro _ rfl _ rfl _ rfl _ rfl _ rfl _ rfl _ rfl _ rfl
  obtain ⟨I0, e0⟩ : ∃ I0, I0 = sUI (sUI (sUI (sUI (sUI (sUI (sUI I 220 9 (nI N)) 220 10 (nI mode)) 220 11 (nI det)) 220 1 0) 220 2 0) 220 3 0) 220 4 0 := ⟨_, rfl⟩
  rw [← e0]
  have r0 : ∀ p, ¬ p = 220 → I0 p = I p := fun p hp => by rw [e0, sUI_ne hp, sUI_ne hp, sUI_ne hp, sUI_ne hp, sUI_ne hp, sUI_ne hp, sUI_ne hp]
  have j0 : ∀ p, ¬ p = 220 → (sUJ J 220 5 0) p = J p := fun p hp => by funext k; rw [pf_uj, if_neg (by omega)]
  have s0 : I0 220 1 = nI 0 ∧ I0 220 2 = nI 0 ∧ I0 220 3 = nI 0 ∧ I0 220 4 = nI 0 ∧ I0 220 9 = nI N ∧ I0 220 10 = nI mode ∧ I0 220 11 = nI det := by rw [e0]; exact ⟨rfl, rfl, rfl, rfl, rfl, rfl, rfl⟩
  obtain ⟨t1, t2, t3, t4, t9, t10, t11⟩ := s0
  have loop : ∀ f i (I3 : sI), i ≤ 96 → 96 - i < f → (∀ p, ¬ p = 222 → I3 p = I0 p) → (∀ j, j < i → I3 222 j = 0) → w_X5_run_53_n post f (nI i) I3 (sUJ J 220 5 0) := by
    intro f
    induction f with
    | zero => intro i _ _ h; omega
    | succ f ih =>
      intro i I3 hi hf r3 z3
      show w_X5_run_53_s post (w_X5_run_53_n post f) (nI i) I3 (sUJ J 220 5 0)
      unfold w_X5_run_53_s
      rw [pf_le (by omega) (by omega), nI_1, pf_cl (by omega)]
      refine ⟨fun e => ?_, fun e => ⟨vp_in_nI (by omega) (by omega), ?_⟩⟩
      · have cst0 : cst (chF q) N 0 0 = tot (chF q) N := by
          have := lev_cst (ch := chF q) (m := N) (g := 0)
          rw [show lev (chF q) 0 = [0] from rfl, lsum, lsum, show tot (chF q) 0 = 0 from rfl] at this
          simp only [Nat.zero_add, Nat.add_zero] at this
          exact this
        have lv0 : lvF (chF q) N 0 0 = lev (chF q) N := by
          have := lev_lv (ch := chF q) (m := N) (g := 0)
          rw [show lev (chF q) 0 = [0] from rfl, List.flatMap_cons, List.flatMap_nil, List.append_nil, Nat.zero_add] at this
          exact this
        have sm0 : smS (usd 0) 8 = 0 := by
          rw [smS, sumN_congr (u := fun _ => 0) (fun i _ => by rw [usd_0]; exact Nat.zero_mul _), sumN_0]
        unfold w_X5_walk
        have rr : ∀ p, ¬ (p = 220 ∨ p = 222) → I3 p = I p := fun p hp => by rw [r3 p (by omega), r0 p (by omega)]
        have := q_walk (bk := bk) hq hN hmode hd2 tk N 26 0 0 0 0 [] I3 (sUJ J 220 5 0) post (by omega) (by omega) nd_0 (by unfold cfS at *; rw [rr 142 (by omega)]; exact cf) (wyS_congr wy h24 (fun p p1 p2 => rr p (by omega)) (fun p p1 p2 => j0 p (by omega))) (by rw [r3 220 (by omega)]; exact t1) (by omega) (by simp) (fun e => by omega) (fun x hx => by simp at hx) (fun g2 hg2 => by omega) ?_ (fun I2 J2 r2 s2 j2 st e rd => ?_) (fun I2 J2 r2 j2 st e => ?_)
        · rw [sm0] at this
          exact this
        · refine ⟨by rw [r3 220 (by omega)]; exact t2, by rw [r3 220 (by omega)]; exact t3, by rw [r3 220 (by omega)]; exact t9, by rw [r3 220 (by omega)]; exact t10, by rw [r3 220 (by omega)]; exact t11, fun x => absurd rfl x, ?_⟩
          rw [r3 220 (by omega), t4]
          exact ms0 _ _ (fun j hj => z3 j (by omega))
        · rw [cst0, Nat.zero_add] at st e
          rw [lv0, List.nil_append, Nat.zero_add] at rd
          exact h1 I2 J2 (fun p hp => by rw [r2 p hp, rr p (by omega)]) (fun p hp => by rw [j2 p hp, j0 p (by omega)]) st e rd
        · rw [cst0, Nat.zero_add] at st
          exact h2 I2 J2 (fun p hp => by rw [r2 p hp, rr p (by omega)]) (fun p hp => by rw [j2 p hp, j0 p (by omega)]) st e
      · rintro _ rfl _ rfl
        refine ih (i + 1) _ (by omega) (by omega) (fun p hp => by rw [sUI_ne hp, r3 p hp]) (fun j hj => ?_)
        rw [pf_uis]
        by_cases z : j = i
        · rw [if_pos z]
        · rw [if_neg z, z3 j (by omega)]
  exact ⟨97, loop 97 0 I0 (by omega) (by omega) (fun _ _ => rfl) (fun j hj => by omega)⟩
def ms_0 (_ : List Nat) (_ : Int32) (_ : Nat → Int32) (_ : Nat → Int64) : Prop := True
theorem tk_0 {q : sPr} {N mode det : Nat} (hm : mode = 0 ∨ mode = 4) : tkO q N mode det ms_0 := by
  intro NL xs r I J K _ _ _ _ _ _ _ _ e10 _ _ h
  unfold w_X5_take_32
  rw [e10, show (1 : Int32) = nI 1 from rfl, show (2 : Int32) = nI 2 from rfl, show (3 : Int32) = nI 3 from rfl, pf_eq (by omega) (by omega), pf_eq (by omega) (by omega), pf_eq (by omega) (by omega)]
  exact b3 (by omega) (b3 (by omega) (b3 (by omega) (h I J (fun _ _ => rfl) (fun _ _ => rfl) (fun _ _ => rfl) trivial)))
noncomputable def lcn (p : Nat → Prop) (xs : List Nat) : Nat := lsum (fun x => i1 (p x)) xs
theorem lcn_s {p : Nat → Prop} {xs : List Nat} {r : Nat} : lcn p (xs ++ [r]) = lcn p xs + i1 (p r) := by
  unfold lcn; rw [lsum_app, lsum, lsum]; omega
theorem lcn_le {p : Nat → Prop} : ∀ {xs : List Nat}, lcn p xs ≤ xs.length
  | [] => Nat.le_refl _
  | x :: xs => by
    have a := lcn_le (p := p) (xs := xs)
    have b := i1_le (p x)
    show i1 (p x) + lcn p xs ≤ _
    rw [List.length_cons]; omega
theorem lcn_mono {p r : Nat → Prop} : ∀ {xs : List Nat}, (∀ x, x ∈ xs → p x → r x) → lcn p xs ≤ lcn r xs
  | [], _ => Nat.le_refl _
  | x :: xs, h => by
    have a := lcn_mono (p := p) (r := r) (xs := xs) (fun y hy => h y (List.mem_cons_of_mem _ hy))
    show i1 (p x) + lcn p xs ≤ i1 (r x) + lcn r xs
    by_cases z : p x
    · rw [i1_y z, i1_y (h x (List.mem_cons_self ..) z)]; omega
    · rw [i1_n z]; omega
theorem lcn_pos {p : Nat → Prop} : ∀ {xs : List Nat}, 0 < lcn p xs ↔ ∃ x, x ∈ xs ∧ p x
  | [] => by
    constructor
    · intro h; exact absurd h (Nat.lt_irrefl 0)
    · rintro ⟨x, hx, _⟩; simp at hx
  | x :: xs => by
    have ih := lcn_pos (p := p) (xs := xs)
    show 0 < i1 (p x) + lcn p xs ↔ _
    by_cases z : p x
    · rw [i1_y z]
      exact ⟨fun _ => ⟨x, List.mem_cons_self .., z⟩, fun _ => by omega⟩
    · rw [i1_n z, Nat.zero_add, ih]
      constructor
      · rintro ⟨y, hy, py⟩; exact ⟨y, List.mem_cons_of_mem _ hy, py⟩
      · rintro ⟨y, hy, py⟩
        rcases List.mem_cons.mp hy with e | e
        · rw [e] at py; exact absurd py z
        · exact ⟨y, e, py⟩
def ms_1 (xs : List Nat) (_ : Int32) (T : Nat → Int32) (_ : Nat → Int64) : Prop := ∀ k l, k < 12 → l < 8 → T (k * 8 + l) = nI (lcn (fun x => nb x k = l + 1) xs)
theorem nd_8 {q : sPr} {N r k : Nat} (hn : ndO (knF q N) (qH q) r) (hb : ∀ g, g < N → ∃ e, sub e r ∧ (∀ k, k < 12 → (nb e k ≠ 0 ↔ ownK (qZ q g) (qK q g) k)) ∧ ∀ k, k < 12 → nb e k ≤ 8) (hk : k < 12) : nb r k ≤ 8 := by
  by_cases z : nb r k = 0
  · omega
  · obtain ⟨g, hg, o⟩ := (hn.2.1 k hk).mp z
    obtain ⟨e, e1, e2, e3⟩ := hb g hg
    have := e1 k hk ((e2 k hk).mpr o)
    have := e3 k hk
    omega
theorem pth_8 {q : sPr} {N NL r : Nat} {I : sI} (hq : qO q NL) (hN : N ≤ NL) (hn : ndO (knF q N) (qH q) r) (hp : pth q N r I) (k : Nat) (hk : k < 12) : nb r k ≤ 8 := by
  refine nd_8 hn (fun g hg => ?_) hk
  obtain ⟨i, _, i2, i3⟩ := hp g hg
  obtain ⟨w, hw, ew⟩ := chL_mem.mp (gtL_m i2)
  have sp := (cw_sp ew).1
  exact ⟨_, i3, (sp_ok hq (by omega) hw sp).2, fun k hk => sp_nb8 hq (by omega) hw sp hk⟩
theorem tk_1 {q : sPr} {N det NL : Nat} (hq : qO q NL) (hN : N ≤ NL) : tkO q N 1 det ms_1 := by
  intro NL2 xs r I J K _ _ _ hx _ hn hp _ e10 _ ms h
  unfold w_X5_take_32
  rw [e10]
  refine b4 rfl ?_
  have loop : ∀ f k (I3 : sI), k ≤ 12 → 12 - k < f → (∀ p, ¬ p = 222 → I3 p = I p) → (∀ k2 l, k2 < 12 → l < 8 → I3 222 (k2 * 8 + l) = nI (lcn (fun x => nb x k2 = l + 1) (if k2 < k then xs ++ [r] else xs))) → w_X5_tallyLetters_2_n (fun I_42 J_42 => K I_42 J_42) f (lN r) (nI k) I3 J := by
    intro f
    induction f with
    | zero => intro k _ _ h; omega
    | succ f ih =>
      intro k I3 hk hf r3 t3
      show w_X5_tallyLetters_2_s (fun I_42 J_42 => K I_42 J_42) (w_X5_tallyLetters_2_n (fun I_42 J_42 => K I_42 J_42) f) (lN r) (nI k) I3 J
      unfold w_X5_tallyLetters_2_s w_X5_tallyLetters_37
      rw [show (12 : Int32) = nI 12 from rfl, pf_le (by omega) (by omega)]
      refine ⟨fun e => ?_, fun e => ?_⟩
      · refine h I3 J (fun p hp => r3 p (by omega)) (fun k _ => by rw [r3 220 (by omega)]) (fun _ _ => rfl) (fun k2 l hk2 hl => ?_)
        rw [t3 k2 l hk2 hl, if_pos (by omega)]
      · refine q_letterIn hn.1 (by omega) ?_
        rw [lt_m1 nb_lt, nI_1]
        refine ⟨fun z => ?_, fun z => ?_⟩
        · rintro _ rfl
          refine ih (k + 1) I3 (by omega) (by omega) r3 (fun k2 l hk2 hl => ?_)
          rw [t3 k2 l hk2 hl]
          by_cases e2 : k2 = k
          · have e9 : lcn (fun x => nb x k = l + 1) (xs ++ [r]) = lcn (fun x => nb x k = l + 1) xs := by
              rw [lcn_s, i1_n (by rw [z]; omega)]; rfl
            rw [e2, if_neg (by omega), if_pos (by omega), e9]
          · by_cases e3 : k2 < k
            · rw [if_pos e3, if_pos (by omega)]
            · rw [if_neg e3, if_neg (by omega)]
        · have b8 := pth_8 hq hN hn hp k (by omega)
          obtain ⟨v, ev⟩ : ∃ v, nb r k = v + 1 := ⟨nb r k - 1, by omega⟩
          rw [ev, nI_p (by omega), Nat.add_sub_cancel, show (8 : Int32) = nI 8 from rfl, pk_mul, nI_add, pf_cl (by omega), t3 k v (by omega) (by omega), if_neg (by omega), nI_1]
          refine ⟨vp_in_nI (by omega) (by omega), vp_in_nI (by omega) (by omega), ?_⟩
          rintro _ rfl _ rfl
          refine ih (k + 1) _ (by omega) (by omega) (fun p hp => by rw [sUI_ne hp, r3 p hp]) (fun k2 l hk2 hl => ?_)
          rw [pf_uis]
          by_cases e2 : k2 = k
          · subst e2
            rw [if_pos (show k2 < k2 + 1 by omega), lcn_s]
            by_cases e4 : l = v
            · rw [if_pos (by omega), i1_y (by omega), e4]
            · rw [if_neg (by omega), i1_n (by omega), Nat.add_zero, t3 k2 l hk2 hl, if_neg (by omega)]
          · rw [if_neg (by omega), t3 k2 l hk2 hl]
            by_cases e3 : k2 < k
            · rw [if_pos e3, if_pos (by omega)]
            · rw [if_neg e3, if_neg (by omega)]
  refine ⟨13, loop 13 0 I (by omega) (by omega) (fun _ _ => rfl) (fun k2 l hk2 hl => ?_)⟩
  rw [ms k2 l hk2 hl, if_neg (by omega)]
/-- words that say what a group has in a reading -/
def fwK (q : sPr) (g r w : Nat) : Prop := w < qN q ∧ ∃ e, cwF q g w = some e ∧ sub e r
def ms_3 (q : sPr) (det : Nat) (xs : List Nat) (wb : Int32) (_ : Nat → Int32) (_ : Nat → Int64) : Prop := wb = nI (msk (fun w => ∃ r, r ∈ xs ∧ fwK q det r w) 20)
theorem cw_uni {q : sPr} {NL g r e e2 w w2 : Nat} (hq : qO q NL) (hg : g < NL) (hw : w < qN q) (hw2 : w2 < qN q) (h : cwF q g w = some e) (h2 : cwF q g w2 = some e2) (s : sub e r) (s2 : sub e2 r) : e = e2 := by
  obtain ⟨a, b⟩ := sp_ok hq hg hw (cw_sp h).1
  obtain ⟨a2, b2⟩ := sp_ok hq hg hw2 (cw_sp h2).1
  apply nb_ext a a2
  intro k hk
  by_cases o : ownK (qZ q g) (qK q g) k
  · rw [← s k hk ((b k hk).mpr o), s2 k hk ((b2 k hk).mpr o)]
  · have z1 : nb e k = 0 := by
      by_cases y : nb e k = 0
      · exact y
      · exact absurd ((b k hk).mp y) o
    have z2 : nb e2 k = 0 := by
      by_cases y : nb e2 k = 0
      · exact y
      · exact absurd ((b2 k hk).mp y) o
    rw [z1, z2]
theorem tk_3 {q : sPr} {N det NL : Nat} (hq : qO q NL) (hN : N ≤ NL) (hd : det < N) : tkO q N 3 det (ms_3 q det) := by
  intro NL2 xs r I J K hN2 h24 wy hx _ hn hp _ e10 e11 ms h
  have q20 := hq.2.2.2.2.1
  unfold w_X5_take_32
  rw [e10, e11]
  refine b3 (by decide) (b3 (by decide) (b4 rfl ?_))
  obtain ⟨i, i1', i2, i3⟩ := hp det hd
  have len := chL_len (f := cwF q det) (n := qN q)
  have i2' : i < (chL (cwF q det) (qN q)).length := i2
  obtain ⟨⟨lw1, lw2⟩, _⟩ := wy.2.2 det (by omega)
  obtain ⟨_, _, y3⟩ := sRwy det (by omega)
  rw [pf_cl (by omega), i1', pf_cl (by omega), y3, (lw2 i i2').2.2, ms, m_ors]
  refine ⟨vp_in_nI (by omega) (by omega), vp_in_nI (by omega) (by omega), vp_in_nI (by omega) (by omega), ?_⟩
  rintro _ rfl
  refine h _ J (fun p hp => sUI_ne (by omega)) (fun k hk => by rw [pf_uis, if_neg hk]) (fun _ _ => rfl) ?_
  unfold ms_3
  rw [pf_uis, if_pos rfl]
  congr 1
  refine msk_congr (fun w _ => ?_)
  obtain ⟨w0, hw0, ew0⟩ := chL_mem.mp (gtL_m i2')
  constructor
  · rintro (⟨x, hx, fx⟩ | ⟨hw, ew⟩)
    · exact ⟨x, List.mem_append.mpr (Or.inl hx), fx⟩
    · exact ⟨r, by simp, hw, _, ew, i3⟩
  · rintro ⟨x, hx, fx⟩
    rcases List.mem_append.mp hx with y | y
    · exact Or.inl ⟨x, y, fx⟩
    · rw [List.mem_singleton] at y
      rw [y] at fx
      obtain ⟨hw, e, ew, se⟩ := fx
      refine Or.inr ⟨hw, ?_⟩
      rw [ew, cw_uni hq (show det < NL by omega) hw hw0 ew ew0 se i3]
/-- v is the i-th in order -/
def rkV (xs : List Nat) (i v : Nat) : Prop := v ∈ xs ∧ lcn (fun x => x < v) xs ≤ i ∧ i < lcn (fun x => x ≤ v) xs
theorem rk_uni {xs : List Nat} {i v w : Nat} (a : rkV xs i v) (b : rkV xs i w) : v = w := by
  rcases Nat.lt_trichotomy v w with h | h | h
  · have : lcn (fun x => x ≤ v) xs ≤ lcn (fun x => x < w) xs := lcn_mono (fun x _ hx => by omega)
    have := a.2.2; have := b.2.1; omega
  · exact h
  · have : lcn (fun x => x ≤ w) xs ≤ lcn (fun x => x < v) xs := lcn_mono (fun x _ hx => by omega)
    have := a.2.1; have := b.2.2; omega
theorem rk_le {xs : List Nat} {i j v w : Nat} (a : rkV xs i v) (b : rkV xs j w) (h : i ≤ j) : v ≤ w := by
  rcases Nat.lt_or_ge w v with z | z
  · have : lcn (fun x => x ≤ w) xs ≤ lcn (fun x => x < v) xs := lcn_mono (fun x _ hx => by omega)
    have := a.2.1; have := b.2.2; omega
  · exact z
def ms_2 (det : Nat) (xs : List Nat) (_ : Int32) (_ : Nat → Int32) (S : Nat → Int64) : Prop := ∀ j, j < xs.length → j < det → ∃ v, S j = lN v ∧ rkV xs j v
theorem tk_2 {q : sPr} {N det : Nat} (hd1 : 1 ≤ det) (hd : det ≤ 200) : tkO q N 2 det (ms_2 det) := by
  intro NL xs r I J K _ _ _ hx x48 hn _ e2 e10 e11 ms h
  unfold w_X5_take_32
  rw [e10]
  refine b3 (by decide) (b4 rfl ?_)
  unfold w_X5_sortIn
  rw [e2, nI_p (by omega), Nat.add_sub_cancel, e11]
  refine q_min (by omega) (by omega) ?_
  rw [e11, pf_eq (by omega) (by omega)]
  have lt2 : ∀ {v}, v ∈ xs → (lg_cmp (lN v) (lN r) ≤ 0 ↔ v ≤ r) := by
    intro v hv
    have a := pf_lgc_gt (lN v) (lN r)
    rw [lN_lt48 hn.1 (x48 v hv)] at a
    constructor
    · intro z
      rcases Nat.lt_or_ge r v with y | y
      · exact absurd (a.mpr y) (Int32.not_lt.mpr z)
      · exact y
    · intro z
      exact Int32.not_lt.mp (fun y => by have := a.mp y; omega)
  have lt3 : ∀ {v}, v ∈ xs → (lg_cmp (lN r) (lN v) ≤ 0 ↔ r ≤ v) := by
    intro v hv
    have a := pf_lgc_gt (lN r) (lN v)
    rw [lN_lt48 (x48 v hv) hn.1] at a
    constructor
    · intro z
      rcases Nat.lt_or_ge v r with y | y
      · exact absurd (a.mpr y) (Int32.not_lt.mpr z)
      · exact y
    · intro z
      exact Int32.not_lt.mp (fun y => by have := a.mp y; omega)
  -- the new one comes in at i; M entries stand then
  have ins : ∀ M, M = min (xs.length + 1) det → ∀ f i (J3 : sJ), i < M → i < f → (i = xs.length ∨ (i < xs.length ∧ i < det ∧ ∀ v, J 221 i = lN v → rkV xs i v → r ≤ v)) → (∀ p, ¬ p = 221 → J3 p = J p) → (∀ j, j < i → J3 221 j = J 221 j) → (∀ j, i < j → j < M → J3 221 j = J 221 (j - 1) ∧ ∀ v, J 221 (j - 1) = lN v → rkV xs (j - 1) v → r < v) → w_X5_sortIn_53_n (fun I_58 J_58 => K I_58 J_58) f (lN r) (nI i) I J3 := by
    intro M eM f
    induction f with
    | zero => intro i _ _ h; omega
    | succ f ih =>
      intro i J3 hi hf hcase j3 lo hi2
      show w_X5_sortIn_53_s (fun I_58 J_58 => K I_58 J_58) (w_X5_sortIn_53_n (fun I_58 J_58 => K I_58 J_58) f) (lN r) (nI i) I J3
      unfold w_X5_sortIn_53_s w_X5_sortIn_94
      have fin : (0 < i → ∀ v, J 221 (i - 1) = lN v → rkV xs (i - 1) v → v ≤ r) → vp_in (nI i) 200 ∧ ∀ J4 : sJ, J4 = sUJ J3 221 (nI i).toNatClampNeg (lN r) → K I J4 := by
        intro below
        refine ⟨vp_in_nI (by omega) (by omega), ?_⟩
        rw [pf_cl (by omega)]
        rintro _ rfl
        refine h I _ (fun _ _ => rfl) (fun _ _ => rfl) (fun p hp => by funext k; rw [pf_uj, if_neg (by omega), j3 p hp]) (fun j hj hjd => ?_)
        rw [List.length_append, List.length_singleton] at hj
        rw [pf_ujs]
        by_cases e : j = i
        · rw [if_pos e]
          refine ⟨r, rfl, by simp, ?_, ?_⟩
          · rw [lcn_s, i1_n (by omega), Nat.add_zero, e]
            rcases hcase with c | ⟨c1, c2, c3⟩
            · have := lcn_le (p := fun x => x < r) (xs := xs); omega
            · obtain ⟨v, ev, rv⟩ := ms i c1 c2
              have rl := c3 v ev rv
              have : lcn (fun x => x < r) xs ≤ lcn (fun x => x < v) xs := lcn_mono (fun x _ hx => by omega)
              have := rv.2.1
              omega
          · rw [lcn_s, i1_y (Nat.le_refl r), e]
            rcases Nat.eq_zero_or_pos i with c | c
            · omega
            · obtain ⟨v, ev, rv⟩ := ms (i - 1) (by omega) (by omega)
              have rl := below c v ev rv
              have : lcn (fun x => x ≤ v) xs ≤ lcn (fun x => x ≤ r) xs := lcn_mono (fun x _ hx => by omega)
              have := rv.2.2
              omega
        · rw [if_neg e]
          by_cases e2 : j < i
          · rw [lo j e2]
            obtain ⟨v, ev, rv⟩ := ms j (by omega) (by omega)
            obtain ⟨v2, ev2, rv2⟩ := ms (i - 1) (by omega) (by omega)
            have vl : v ≤ r := Nat.le_trans (rk_le rv rv2 (by omega)) (below (by omega) v2 ev2 rv2)
            refine ⟨v, ev, List.mem_append.mpr (Or.inl rv.1), ?_, ?_⟩
            · rw [lcn_s, i1_n (by omega), Nat.add_zero]; exact rv.2.1
            · rw [lcn_s]; have := rv.2.2; omega
          · obtain ⟨a, b⟩ := hi2 j (by omega) (by omega)
            rw [a]
            obtain ⟨v, ev, rv⟩ := ms (j - 1) (by omega) (by omega)
            have vl := b v ev rv
            refine ⟨v, ev, List.mem_append.mpr (Or.inl rv.1), ?_, ?_⟩
            · rw [lcn_s, i1_y vl]; have := rv.2.1; omega
            · rw [lcn_s, i1_y (show r ≤ v by omega)]; have := rv.2.2; omega
      rw [pf_le0 (by omega)]
      refine ⟨fun z => fin (fun x => by omega), fun z => ?_⟩
      obtain ⟨v, ev, rv⟩ := ms (i - 1) (by omega) (by omega)
      rw [nI_p (by omega), pf_cl (by omega), lo (i - 1) (by omega), ev, lt2 rv.1]
      refine ⟨vp_in_nI (by omega) (by omega), fun y => fin (fun _ v2 ev2 rv2 => by rw [rk_uni rv2 rv]; exact y), fun y => ⟨vp_in_nI (by omega) (by omega), vp_in_nI (by omega) (by omega), ?_⟩⟩
      rw [pf_cl (by omega), nI_m (show 1 ≤ i by omega)]
      rintro _ rfl _ rfl
      refine ih (i - 1) _ (by omega) (by omega) (Or.inr ⟨by omega, by omega, fun v2 ev2 rv2 => by rw [rk_uni rv2 rv]; omega⟩) (fun p hp => by funext k; rw [pf_uj, if_neg (by omega), j3 p hp]) (fun j hj => by rw [pf_ujs, if_neg (by omega), lo j (by omega)]) (fun j hj hjM => ?_)
      rw [pf_ujs]
      by_cases e : j = i
      · rw [if_pos e, e]
        exact ⟨ev.symm, fun v2 ev2 rv2 => by rw [rk_uni rv2 rv]; omega⟩
      · rw [if_neg e]
        exact hi2 j (by omega) hjM
  have s36 : (xs.length < det ∨ ∀ v, J 221 (det - 1) = lN v → rkV xs (det - 1) v → r ≤ v) → w_X5_sortIn_36 (fun I_58 J_58 => K I_58 J_58) (lN r) (nI (min xs.length det)) I J := by
    intro hc
    unfold w_X5_sortIn_36 w_X5_sortIn_51
    rw [e11, pf_le (by omega) (by omega)]
    refine ⟨fun z => ?_, fun z => ?_⟩
    · rw [nI_p (by omega)]
      have dl : det ≤ xs.length := by omega
      rw [Nat.min_eq_right dl]
      refine ⟨201, ins det (by omega) 201 (det - 1) J (by omega) (by omega) (Or.inr ⟨by omega, by omega, ?_⟩) (fun _ _ => rfl) (fun _ _ => rfl) (fun j h1 h2 => by omega)⟩
      rcases hc with c | c
      · omega
      · exact c
    · have dl : xs.length < det := by omega
      rw [Nat.min_eq_left (by omega)]
      exact ⟨201, ins (xs.length + 1) (by omega) 201 xs.length J (by omega) (by omega) (Or.inl rfl) (fun _ _ => rfl) (fun _ _ => rfl) (fun j h1 h2 => by omega)⟩
  refine ⟨fun z => s36 (Or.inl (by omega)), fun z => ?_⟩
  have dl : det ≤ xs.length := by omega
  rw [z, nI_p (by omega), pf_cl (by omega)]
  obtain ⟨v, ev, rv⟩ := ms (det - 1) (by omega) (by omega)
  rw [ev, lt3 rv.1]
  rw [Nat.min_eq_right dl] at s36
  refine ⟨vp_in_nI (by omega) (by omega), fun y => s36 (Or.inr (fun v2 ev2 rv2 => by rw [rk_uni rv2 rv]; exact y)), fun y => ?_⟩
  refine h I J (fun _ _ => rfl) (fun _ _ => rfl) (fun _ _ => rfl) (fun j hj hjd => ?_)
  obtain ⟨v2, ev2, rv2⟩ := ms j (by omega) hjd
  have vl : v2 ≤ v := rk_le rv2 rv (by omega)
  refine ⟨v2, ev2, List.mem_append.mpr (Or.inl rv2.1), ?_, ?_⟩
  · rw [lcn_s, i1_n (by omega), Nat.add_zero]; exact rv2.2.1
  · rw [lcn_s]; have := rv2.2.2; omega
