-- trees of ways
noncomputable def chL (f : Nat → Option Nat) : Nat → List Nat
  | 0 => []
  | n + 1 => match f n with
    | none => chL f n
    | some d => if d ∈ chL f n then chL f n else chL f n ++ [d]
theorem chL_no {f : Nat → Option Nat} {n : Nat} (h : f n = none) : chL f (n + 1) = chL f n := by rw [chL, h]
theorem chL_in {f : Nat → Option Nat} {n d : Nat} (h : f n = some d) (m : d ∈ chL f n) : chL f (n + 1) = chL f n := by rw [chL, h]; exact if_pos m
theorem chL_new {f : Nat → Option Nat} {n d : Nat} (h : f n = some d) (m : ¬ d ∈ chL f n) : chL f (n + 1) = chL f n ++ [d] := by rw [chL, h]; exact if_neg m
theorem chL_mem {f : Nat → Option Nat} : ∀ {n d : Nat}, d ∈ chL f n ↔ ∃ w, w < n ∧ f w = some d := by
  intro n
  induction n with
  | zero => intro d; exact ⟨fun h => by simp [chL] at h, fun ⟨w, hw, _⟩ => by omega⟩
  | succ n ih =>
    intro d
    have key : ∀ {x : Option Nat}, f n = x → ((∃ w, w < n + 1 ∧ f w = some d) ↔ ((∃ w, w < n ∧ f w = some d) ∨ x = some d)) := by
      intro x hx
      constructor
      · rintro ⟨w, hw, e⟩
        by_cases z : w = n
        · subst z; exact Or.inr (by rw [← hx]; exact e)
        · exact Or.inl ⟨w, by omega, e⟩
      · rintro (⟨w, hw, e⟩ | e)
        · exact ⟨w, by omega, e⟩
        · exact ⟨n, by omega, by rw [hx]; exact e⟩
    cases h : f n with
    | none =>
      rw [chL_no h, ih, key h]
      exact ⟨Or.inl, fun x => x.elim id (fun y => by cases y)⟩
    | some e =>
      rw [key h]
      by_cases m : e ∈ chL f n
      · rw [chL_in h m, ih]
        refine ⟨Or.inl, fun x => x.elim id (fun y => ?_)⟩
        cases y
        exact ih.mp m
      · rw [chL_new h m, List.mem_append, ih, List.mem_singleton]
        refine ⟨fun x => x.elim Or.inl (fun y => Or.inr (by rw [y])), fun x => x.elim Or.inl (fun y => Or.inr ?_)⟩
        cases y
        rfl
theorem chL_len {f : Nat → Option Nat} : ∀ {n : Nat}, (chL f n).length ≤ n
  | 0 => Nat.le_refl _
  | n + 1 => by
    have ih := chL_len (f := f) (n := n)
    cases h : f n with
    | none => rw [chL_no h]; omega
    | some e =>
      by_cases m : e ∈ chL f n
      · rw [chL_in h m]; omega
      · rw [chL_new h m, List.length_append]; simp; omega
theorem chL_map {f f2 : Nat → Option Nat} {ok : Nat → Prop} {g : Nat → Nat} : ∀ {n : Nat}, (∀ w, w < n → ∀ d, f w = some d ↔ ∃ e, f2 w = some e ∧ ok e ∧ d = g e) → (∀ e e2, (∃ w, w < n ∧ f2 w = some e) → (∃ w, w < n ∧ f2 w = some e2) → ok e → ok e2 → g e = g e2 → e = e2) → chL f n = ((chL f2 n).filter (fun e => bp (ok e))).map g := by
  intro n
  induction n with
  | zero => intro _ _; rfl
  | succ n ih =>
    intro h inj
    have ih := ih (fun w hw => h w (by omega)) (fun e e2 ⟨w, hw, a⟩ ⟨w2, hw2, b⟩ => inj e e2 ⟨w, by omega, a⟩ ⟨w2, by omega, b⟩)
    have hn := h n (by omega)
    have fnone : (∀ e, f2 n = some e → ¬ ok e) → f n = none := by
      intro q
      cases x : f n with
      | none => rfl
      | some d =>
        obtain ⟨e, a, b, _⟩ := (hn d).mp x
        exact absurd b (q e a)
    cases x : f2 n with
    | none => rw [chL_no x, chL_no (fnone (fun e q => by rw [x] at q; cases q)), ih]
    | some e =>
      by_cases oe : ok e
      · have fe : f n = some (g e) := (hn (g e)).mpr ⟨e, x, oe, rfl⟩
        by_cases m : e ∈ chL f2 n
        · have m2 : g e ∈ chL f n := by
            rw [ih, List.mem_map]
            exact ⟨e, List.mem_filter.mpr ⟨m, bp_t.mpr oe⟩, rfl⟩
          rw [chL_in x m, chL_in fe m2, ih]
        · have m2 : ¬ g e ∈ chL f n := by
            rw [ih, List.mem_map]
            rintro ⟨e2, me, ge⟩
            obtain ⟨m1, m3⟩ := List.mem_filter.mp me
            obtain ⟨w, hw, ew⟩ := chL_mem.mp m1
            have := inj e2 e ⟨w, by omega, ew⟩ ⟨n, by omega, x⟩ (bp_t.mp m3) oe ge
            rw [this] at m1
            exact m m1
          rw [chL_new x m, chL_new fe m2, ih, List.filter_append, List.map_append, List.filter_cons_of_pos (p := fun e => bp (ok e)) (bp_t.mpr oe), List.filter_nil, List.map_cons, List.map_nil]
      · have fn := fnone (fun e2 q => by rw [x] at q; cases q; exact oe)
        by_cases m : e ∈ chL f2 n
        · rw [chL_in x m, chL_no fn, ih]
        · rw [chL_new x m, chL_no fn, ih, List.filter_append, List.filter_cons_of_neg (p := fun e => bp (ok e)) (fun z => oe (bp_t.mp z)), List.filter_nil, List.append_nil]
def lsum (f : Nat → Nat) : List Nat → Nat
  | [] => 0
  | x :: xs => f x + lsum f xs
theorem lsum_app {f : Nat → Nat} {ys : List Nat} : ∀ {xs : List Nat}, lsum f (xs ++ ys) = lsum f xs + lsum f ys
  | [] => by rw [List.nil_append, lsum]; omega
  | x :: xs => by rw [List.cons_append, lsum, lsum, lsum_app]; omega
theorem lsum_flat {f : Nat → Nat} {g : Nat → List Nat} : ∀ {xs : List Nat}, lsum f (xs.flatMap g) = lsum (fun x => lsum f (g x)) xs
  | [] => rfl
  | x :: xs => by rw [List.flatMap_cons, lsum_app, lsum, lsum_flat]
theorem lsum_add {f g : Nat → Nat} : ∀ {xs : List Nat}, lsum (fun x => f x + g x) xs = lsum f xs + lsum g xs
  | [] => rfl
  | x :: xs => by rw [lsum, lsum, lsum, lsum_add]; omega
theorem lsum_one : ∀ {xs : List Nat}, lsum (fun _ => 1) xs = xs.length
  | [] => rfl
  | x :: xs => by rw [lsum, lsum_one, List.length_cons]; omega
theorem lsum_congr {f g : Nat → Nat} : ∀ {xs : List Nat}, (∀ x, x ∈ xs → f x = g x) → lsum f xs = lsum g xs
  | [], _ => rfl
  | x :: xs, h => by rw [lsum, lsum, h x (List.mem_cons_self ..), lsum_congr (fun y hy => h y (List.mem_cons_of_mem _ hy))]
theorem lsum_0 : ∀ {xs : List Nat}, lsum (fun _ => 0) xs = 0
  | [] => rfl
  | x :: xs => by rw [lsum, lsum_0]
def lvF (ch : Nat → Nat → List Nat) : Nat → Nat → Nat → List Nat
  | 0, _, c => [c]
  | m + 1, g, c => (ch g c).flatMap (lvF ch m (g + 1))
def cst (ch : Nat → Nat → List Nat) : Nat → Nat → Nat → Nat
  | 0, _, _ => 0
  | m + 1, g, c => lsum (fun d => 1 + cst ch m (g + 1) d) (ch g c)
def lev (ch : Nat → Nat → List Nat) : Nat → List Nat
  | 0 => [0]
  | g + 1 => (lev ch g).flatMap (ch g)
def tot (ch : Nat → Nat → List Nat) : Nat → Nat
  | 0 => 0
  | g + 1 => tot ch g + (lev ch (g + 1)).length
theorem lev_lv {ch : Nat → Nat → List Nat} : ∀ {m g : Nat}, (lev ch g).flatMap (lvF ch m g) = lev ch (g + m)
  | 0, g => by
    show (lev ch g).flatMap (fun c => [c]) = _
    rw [List.flatMap_singleton']; rfl
  | m + 1, g => by
    show (lev ch g).flatMap (fun c => (ch g c).flatMap (lvF ch m (g + 1))) = _
    rw [← List.flatMap_assoc, show (lev ch g).flatMap (ch g) = lev ch (g + 1) from rfl, lev_lv, show g + 1 + m = g + (m + 1) by omega]
theorem lev_cst {ch : Nat → Nat → List Nat} : ∀ {m g : Nat}, tot ch g + lsum (cst ch m g) (lev ch g) = tot ch (g + m)
  | 0, g => by
    show tot ch g + lsum (fun _ => 0) (lev ch g) = _
    rw [lsum_0]; rfl
  | m + 1, g => by
    show tot ch g + lsum (fun c => lsum (fun d => 1 + cst ch m (g + 1) d) (ch g c)) (lev ch g) = _
    rw [← lsum_flat, lsum_add, lsum_one, show (lev ch g).flatMap (ch g) = lev ch (g + 1) from rfl, ← Nat.add_assoc, show tot ch g + (lev ch (g + 1)).length = tot ch (g + 1) from rfl, lev_cst, show g + 1 + m = g + (m + 1) by omega]
/-- nodes at a level from which a reading can be had -/
def hlF (ch : Nat → Nat → List Nat) (D : Nat) : Nat → Nat → Nat → Nat
  | 0, _, _ => 0
  | m + 1, g, c => lsum (hlF ch D m (g + 1)) (ch g c) + (if g = D ∧ (lvF ch (m + 1) g c).length ≠ 0 then 1 else 0)
theorem hl_big {ch : Nat → Nat → List Nat} {D : Nat} : ∀ {m g c : Nat}, D < g → hlF ch D m g c = 0
  | 0, _, _, _ => rfl
  | m + 1, g, c, h => by
    rw [hlF, if_neg (by omega), lsum_congr (g := fun _ => 0) (fun x _ => hl_big (by omega)), lsum_0]
theorem hl_at {ch : Nat → Nat → List Nat} {D m c : Nat} : hlF ch D (m + 1) D c = if (lvF ch (m + 1) D c).length ≠ 0 then 1 else 0 := by
  rw [hlF, lsum_congr (g := fun _ => 0) (fun x _ => hl_big (by omega)), lsum_0, Nat.zero_add]
  by_cases z : (lvF ch (m + 1) D c).length ≠ 0
  · rw [if_pos ⟨rfl, z⟩, if_pos z]
  · rw [if_neg (fun q => z q.2), if_neg z]
theorem hl_lev {ch : Nat → Nat → List Nat} {D m : Nat} : ∀ {k g : Nat}, g + k = D → lsum (hlF ch D (k + m + 1) g) (lev ch g) = lsum (fun c => if (lvF ch (m + 1) D c).length ≠ 0 then 1 else 0) (lev ch D)
  | 0, g, h => by
    have : g = D := by omega
    subst this
    exact lsum_congr (fun c _ => by rw [Nat.zero_add]; exact hl_at)
  | k + 1, g, h => by
    have e : lsum (hlF ch D (k + 1 + m + 1) g) (lev ch g) = lsum (fun c => lsum (hlF ch D (k + m + 1) (g + 1)) (ch g c)) (lev ch g) := lsum_congr (fun c _ => by
      rw [show k + 1 + m + 1 = (k + m + 1) + 1 by omega, hlF, if_neg (by omega), Nat.add_zero])
    rw [e, ← lsum_flat, show (lev ch g).flatMap (ch g) = lev ch (g + 1) from rfl, hl_lev (by omega)]
/-- what is searched: homes, drops, words, lengths of groups, their kinds, lengths of words, their letters -/
def sPr : Type := Nat × Nat × Nat × (Nat → Nat) × (Nat → Nat → Nat) × (Nat → Nat) × (Nat → Nat → Nat)
def qH (q : sPr) : Nat := q.1
def qD (q : sPr) : Nat := q.2.1
def qN (q : sPr) : Nat := q.2.2.1
def qZ (q : sPr) (g : Nat) : Nat := q.2.2.2.1 g
def qK (q : sPr) (g i : Nat) : Nat := q.2.2.2.2.1 g i
def qL (q : sPr) (w : Nat) : Nat := q.2.2.2.2.2.1 w
def qT (q : sPr) (w i : Nat) : Nat := q.2.2.2.2.2.2 w i
def qO (q : sPr) (N : Nat) : Prop := N ≤ 24 ∧ 1 ≤ qH q ∧ qH q ≤ 3 ∧ qD q ≤ 2 ∧ qN q ≤ 20 ∧ (∀ g, g < N → 1 ≤ qZ q g ∧ qZ q g ≤ 6 ∧ ∀ i, i < qZ q g → qK q g i ≤ 12) ∧ ∀ w, w < qN q → 1 ≤ qL q w ∧ qL q w ≤ 6 ∧ ∀ i, i < qL q w → qT q w i < 8
def lnO (q : sPr) (g w : Nat) : Prop := qZ q g ≤ qL q w ∧ qL q w ≤ qZ q g + qD q
noncomputable def gwF (q : sPr) (g c w : Nat) : Option Nat := if bp (lnO q g w) = true then ftF (qH q) (qK q g) (qT q w) c (qZ q g) else none
noncomputable def chF (q : sPr) (g c : Nat) : List Nat := chL (gwF q g c) (qN q)
def knF (q : sPr) (g k : Nat) : Prop := ∃ g2, g2 < g ∧ ownK (qZ q g2) (qK q g2) k
noncomputable def spF (q : sPr) (g w : Nat) : Option Nat := if bp (lnO q g w) = true then ftF 13 (qK q g) (qT q w) 0 (qZ q g) else none
noncomputable def cwF (q : sPr) (g w : Nat) : Option Nat := match spF q g w with
  | none => none
  | some e => if bp (∀ l, l < 8 → frK (knF q g) e l ≤ qH q) = true then some e else none
noncomputable def csF (q : sPr) (g : Nat) : List Nat := chL (cwF q g) (qN q)
def okF (q : sPr) (g c e : Nat) : Prop := okC (knF q g) (qZ q g) (qK q g) (qH q) c e
theorem qO_sg {q : sPr} {N g w : Nat} (h : qO q N) (hg : g < N) (hw : w < qN q) (hl : lnO q g w) : sgO (qZ q g) (qK q g) (qT q w) := by
  obtain ⟨_, _, _, _, _, h1, h2⟩ := h
  intro i hi
  exact ⟨(h1 g hg).2.2 i hi, (h2 w hw).2.2 i (by have := hl.1; omega)⟩
theorem knF_s {q : sPr} {g k : Nat} : knF q (g + 1) k ↔ (knF q g k ∨ ownK (qZ q g) (qK q g) k) := by
  constructor
  · rintro ⟨g2, h2, o⟩
    by_cases e : g2 = g
    · subst e; exact Or.inr o
    · exact Or.inl ⟨g2, by omega, o⟩
  · rintro (⟨g2, h2, o⟩ | o)
    · exact ⟨g2, by omega, o⟩
    · exact ⟨g, by omega, o⟩
theorem ndO_congr {a b : Nat → Prop} {h c : Nat} (e : ∀ k, a k ↔ b k) (hn : ndO a h c) : ndO b h c := ⟨hn.1, fun k hk => (hn.2.1 k hk).trans (e k), hn.2.2⟩
theorem cw_sp {q : sPr} {g w e : Nat} (h : cwF q g w = some e) : spF q g w = some e ∧ ∀ l, l < 8 → frK (knF q g) e l ≤ qH q := by
  rw [cwF] at h
  cases x : spF q g w with
  | none => rw [x] at h; cases h
  | some e2 =>
    rw [x] at h
    by_cases z : ∀ l, l < 8 → frK (knF q g) e2 l ≤ qH q
    · have h : (if bp (∀ l, l < 8 → frK (knF q g) e2 l ≤ qH q) = true then some e2 else none) = some e := h
      rw [if_pos (bp_t.mpr z)] at h
      cases h
      exact ⟨rfl, z⟩
    · have h : (if bp (∀ l, l < 8 → frK (knF q g) e2 l ≤ qH q) = true then some e2 else none) = some e := h
      rw [if_neg (fun y => z (bp_t.mp y))] at h
      cases h
theorem sp_cw {q : sPr} {g w e : Nat} (h : spF q g w = some e) (z : ∀ l, l < 8 → frK (knF q g) e l ≤ qH q) : cwF q g w = some e := by
  rw [cwF, h]
  exact if_pos (bp_t.mpr z)
theorem sp_no {q : sPr} {g w e : Nat} (h : spF q g w = some e) (z : ¬ ∀ l, l < 8 → frK (knF q g) e l ≤ qH q) : cwF q g w = none := by
  rw [cwF, h]
  exact if_neg (fun y => z (bp_t.mp y))
theorem sp_ft {q : sPr} {g w e : Nat} (h : spF q g w = some e) : lnO q g w ∧ ftF 13 (qK q g) (qT q w) 0 (qZ q g) = some e := by
  rw [spF] at h
  by_cases z : lnO q g w
  · rw [if_pos (bp_t.mpr z)] at h; exact ⟨z, h⟩
  · rw [if_neg (fun y => z (bp_t.mp y))] at h; cases h
theorem sp_ok {q : sPr} {N g w e : Nat} (h : qO q N) (hg : g < N) (hw : w < qN q) (hs : spF q g w = some e) : e < 2 ^ 48 ∧ ∀ k, k < 12 → (nb e k ≠ 0 ↔ ownK (qZ q g) (qK q g) k) := by
  obtain ⟨l, f⟩ := sp_ft hs
  obtain ⟨a, b, _⟩ := sp_D (qO_sg h hg hw l) f
  exact ⟨a, b⟩
theorem gw_key {q : sPr} {N g c w d : Nat} (h : qO q N) (hg : g < N) (hw : w < qN q) (hn : ndO (knF q g) (qH q) c) : gwF q g c w = some d ↔ ∃ e, cwF q g w = some e ∧ okF q g c e ∧ d = c ||| e := by
  rw [gwF]
  by_cases z : lnO q g w
  · rw [if_pos (bp_t.mpr z), ft_key (qO_sg h hg hw z) hn]
    constructor
    · rintro ⟨e, a, b, r⟩
      exact ⟨e, sp_cw (by rw [spF, if_pos (bp_t.mpr z)]; exact a) (fun l hl => by have := b.2 l hl; omega), b, r⟩
    · rintro ⟨e, a, b, r⟩
      exact ⟨e, (sp_ft (cw_sp a).1).2, b, r⟩
  · rw [if_neg (fun y => z (bp_t.mp y))]
    constructor
    · intro x; cases x
    · rintro ⟨e, a, b, r⟩
      exact absurd (sp_ft (cw_sp a).1).1 z
theorem ch_cs {q : sPr} {N g c : Nat} (h : qO q N) (hg : g < N) (hn : ndO (knF q g) (qH q) c) : chF q g c = ((csF q g).filter (fun e => bp (okF q g c e))).map (fun e => c ||| e) := by
  refine chL_map (fun w hw d => gw_key h hg hw hn) ?_
  rintro e e2 ⟨w, hw, ew⟩ ⟨w2, hw2, ew2⟩ o o2 r
  obtain ⟨a, b⟩ := sp_ok h hg hw (cw_sp ew).1
  obtain ⟨a2, b2⟩ := sp_ok h hg hw2 (cw_sp ew2).1
  exact un_inj hn a b o a2 b2 o2 r
theorem cs_ok {q : sPr} {N g e : Nat} (h : qO q N) (hg : g < N) (he : e ∈ csF q g) : e < 2 ^ 48 ∧ (∀ k, k < 12 → (nb e k ≠ 0 ↔ ownK (qZ q g) (qK q g) k)) ∧ ∀ l, l < 8 → frK (knF q g) e l ≤ qH q := by
  obtain ⟨w, hw, ew⟩ := chL_mem.mp he
  obtain ⟨a, b⟩ := cw_sp ew
  obtain ⟨c, d⟩ := sp_ok h hg hw a
  exact ⟨c, d, b⟩
theorem ch_ok {q : sPr} {N g c d : Nat} (h : qO q N) (hg : g < N) (hn : ndO (knF q g) (qH q) c) (hd : d ∈ chF q g c) : ndO (knF q (g + 1)) (qH q) d := by
  rw [ch_cs h hg hn, List.mem_map] at hd
  obtain ⟨e, he, rfl⟩ := hd
  obtain ⟨m1, m2⟩ := List.mem_filter.mp he
  obtain ⟨a, b, _⟩ := cs_ok h hg m1
  exact ndO_congr (fun k => knF_s.symm) (un_ok hn a b (bp_t.mp m2))
theorem nd_0 {q : sPr} : ndO (knF q 0) (qH q) 0 := ⟨by decide, fun k _ => ⟨fun x => absurd nb_0 x, fun ⟨g2, h2, _⟩ => by omega⟩, fun l _ => by rw [usd_0]; omega⟩
theorem lev_ok {q : sPr} {N : Nat} (h : qO q N) : ∀ {g c}, g ≤ N → c ∈ lev (chF q) g → ndO (knF q g) (qH q) c := by
  intro g
  induction g with
  | zero =>
    intro c _ hc
    rw [lev, List.mem_singleton] at hc
    rw [hc]; exact nd_0
  | succ g ih =>
    intro c hg hc
    rw [lev, List.mem_flatMap] at hc
    obtain ⟨p, hp, hpc⟩ := hc
    exact ch_ok h (by omega) (ih (by omega) hp) hpc
theorem lv_ok {q : sPr} {N : Nat} (h : qO q N) : ∀ {m g c r}, g + m ≤ N → ndO (knF q g) (qH q) c → r ∈ lvF (chF q) m g c → ndO (knF q (g + m)) (qH q) r ∧ sub c r := by
  intro m
  induction m with
  | zero =>
    intro g c r _ hn hr
    rw [lvF, List.mem_singleton] at hr
    rw [hr]
    exact ⟨hn, fun k _ _ => rfl⟩
  | succ m ih =>
    intro g c r hg hn hr
    rw [lvF, List.mem_flatMap] at hr
    obtain ⟨d, hd, hdr⟩ := hr
    obtain ⟨a, b⟩ := ih (by omega) (ch_ok h (by omega) hn hd) hdr
    refine ⟨by rw [show g + (m + 1) = g + 1 + m by omega]; exact a, fun k hk x => ?_⟩
    have sd : nb d k = nb c k := by
      rw [ch_cs h (by omega) hn, List.mem_map] at hd
      obtain ⟨e, he, rfl⟩ := hd
      obtain ⟨m1, m2⟩ := List.mem_filter.mp he
      obtain ⟨a2, b2, _⟩ := cs_ok h (by omega) m1
      exact (un_nb hn b2 (bp_t.mp m2).1 k hk).1 ((hn.2.1 k hk).mp x)
    rw [← sd]
    exact b k hk (by omega)
