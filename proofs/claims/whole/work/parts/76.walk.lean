theorem lN_lt48 {a b : Nat} (ha : a < 2 ^ 48) (hb : b < 2 ^ 48) : lN a < lN b ↔ a < b := by
  have e1 : (2 : Nat) ^ 48 < 2 ^ 63 := by decide
  rw [Int64.lt_iff_toInt_lt, lN_ti (lt64 ha), lN_ti (lt64 hb), if_pos (Nat.lt_trans ha e1), if_pos (Nat.lt_trans hb e1)]
  omega
theorem xor_z {x y : Nat} : x ^^^ y = 0 ↔ x = y := by
  constructor
  · intro e
    have : (x ^^^ y) ^^^ y = 0 ^^^ y := by rw [e]
    rw [Nat.xor_assoc, Nat.xor_self, Nat.xor_zero, Nat.zero_xor] at this
    exact this
  · intro e; rw [e, Nat.xor_self]
theorem ask_z {a c e : Nat} {p : Nat → Prop} (ha : isM a p) : (c ^^^ e) &&& a = 0 ↔ ∀ k, k < 12 → p k → nb e k = nb c k := by
  have lt : (c ^^^ e) &&& a < 2 ^ 48 := Nat.lt_of_le_of_lt Nat.and_le_right ha.1
  have m15 : ∀ x, x < 16 → x &&& 15 = x := by decide
  constructor
  · intro z k hk pk
    have n : nb ((c ^^^ e) &&& a) k = 0 := by rw [z, nb_0]
    have x16 : nb c k ^^^ nb e k < 16 := Nat.xor_lt_two_pow (n := 4) nb_lt nb_lt
    rw [nb_and, nb_xor, (ha.2 k hk).1 pk, m15 _ x16, xor_z] at n
    exact n.symm
  · intro h
    apply nb_ext lt (by decide)
    intro k hk
    rw [nb_and, nb_xor, nb_0]
    by_cases pk : p k
    · rw [h k hk pk, Nat.xor_self, Nat.zero_and]
    · rw [(ha.2 k hk).2 pk, Nat.and_zero]
theorem smS_add {f g : Nat → Nat} {n : Nat} : smS f n + smS g n = smS (fun l => f l + g l) n := by
  unfold smS
  rw [← sumN_add]
  exact sumN_congr (fun i _ => by rw [Nat.add_mul])
theorem wyS_congr {q : sPr} {L : Nat} {I I2 : sI} {J J2 : sJ} (h : wyS q L I J) (hL : L ≤ 24) (a : ∀ p, 142 ≤ p → p ≤ 219 → I2 p = I p) (b : ∀ p, 142 ≤ p → p ≤ 219 → J2 p = J p) : wyS q L I2 J2 := by
  obtain ⟨w1, ⟨m, w2, w3⟩, w4⟩ := h
  refine ⟨by rw [a 142 (by omega) (by omega)]; exact w1, ⟨m, by rw [b 142 (by omega) (by omega)]; exact w2, w3⟩, fun g hg => ?_⟩
  obtain ⟨x1, c, x2, x3⟩ := w4 g hg
  exact ⟨lwS_congr x1 (by rw [a 218 (by omega) (by omega)]) (b _ (by omega) (by omega)) (a _ (by omega) (by omega)) (a _ (by omega) (by omega)), c, by rw [b 219 (by omega) (by omega)]; exact x2, x3⟩
/-- the reader: readings found so far, nodes held -/
def rdS (MS : List Nat → Int32 → (Nat → Int32) → (Nat → Int64) → Prop) (N mode det : Nat) (xs : List Nat) (hd : Nat) (I : sI) (J : sJ) : Prop := I 220 2 = nI xs.length ∧ I 220 3 = nI hd ∧ I 220 9 = nI N ∧ I 220 10 = nI mode ∧ I 220 11 = nI det ∧ (xs ≠ [] → ∃ v, J 220 5 = lN v ∧ v ∈ xs ∧ ∀ x, x ∈ xs → v ≤ x) ∧ MS xs (I 220 4) (I 222) (J 221)
theorem rdS_congr {MS : List Nat → Int32 → (Nat → Int32) → (Nat → Int64) → Prop} {N mode det : Nat} {xs : List Nat} {hd : Nat} {I I2 : sI} {J J2 : sJ} (h : rdS MS N mode det xs hd I J) (a : ∀ k, k ≠ 1 → I2 220 k = I 220 k) (b : J2 220 5 = J 220 5) (c : I2 222 = I 222) (d : J2 221 = J 221) : rdS MS N mode det xs hd I2 J2 := by
  unfold rdS at *
  rw [a 2 (by omega), a 3 (by omega), a 9 (by omega), a 10 (by omega), a 11 (by omega), a 4 (by omega), b, c, d]
  exact h
/-- the choices that led to a code -/
def pth (q : sPr) (g c : Nat) (I : sI) : Prop := ∀ g2, g2 < g → ∃ i, I 223 g2 = nI i ∧ i < (csF q g2).length ∧ sub (gtL (csF q g2) i) c
def tkO (q : sPr) (N mode det : Nat) (MS : List Nat → Int32 → (Nat → Int32) → (Nat → Int64) → Prop) : Prop := ∀ (NL : Nat) (xs : List Nat) (r : Nat) (I : sI) (J : sJ) (K : sI → sJ → Prop), N ≤ NL → NL ≤ 24 → wyS q NL I J → xs.length < 20000 → (∀ x, x ∈ xs → x < 2 ^ 48) → ndO (knF q N) (qH q) r → pth q N r I → I 220 2 = nI (xs.length + 1) → I 220 10 = nI mode → I 220 11 = nI det → MS xs (I 220 4) (I 222) (J 221) → (∀ (I2 : sI) (J2 : sJ), (∀ p, ¬ (p = 220 ∨ p = 222) → I2 p = I p) → (∀ k, k ≠ 4 → I2 220 k = I 220 k) → (∀ p, ¬ p = 221 → J2 p = J p) → MS (xs ++ [r]) (I2 220 4) (I2 222) (J2 221) → K I2 J2) → w_X5_take_32 K (lN r) I J
theorem q_take {I : sI} {J : sJ} {post : sI → sJ → Prop} {q : sPr} {N NL mode det hd r : Nat} {xs : List Nat} {MS : List Nat → Int32 → (Nat → Int32) → (Nat → Int64) → Prop} (tk : tkO q N mode det MS) (hN : N ≤ NL) (h24 : NL ≤ 24) (wy : wyS q NL I J) (hx : xs.length < 20000) (x48 : ∀ x, x ∈ xs → x < 2 ^ 48) (hn : ndO (knF q N) (qH q) r) (hp : pth q N r I) (rd : rdS MS N mode det xs hd I J) (h : ∀ (I2 : sI) (J2 : sJ), (∀ p, ¬ (p = 220 ∨ p = 222) → I2 p = I p) → I2 220 1 = I 220 1 → (∀ p, ¬ (p = 220 ∨ p = 221) → J2 p = J p) → rdS MS N mode det (xs ++ [r]) hd I2 J2 → post I2 J2) : w_X5_take (lN r) I J post := by
  obtain ⟨r2, r3, r9, r10, r11, rl, rm⟩ := rd
  unfold w_X5_take w_X5_take_27
  rintro _ rfl
  rw [pf_uis, if_pos rfl, r2, nI_1, show (1 : Int32) = nI 1 from rfl, pf_eq (by omega) (by omega)]
  have go : ∀ (J3 : sJ) v, (∀ p, ¬ p = 220 → J3 p = J p) → J3 220 5 = lN v → v ∈ xs ++ [r] → (∀ x, x ∈ xs ++ [r] → v ≤ x) → w_X5_take_32 post (lN r) (sUI I 220 2 (nI (xs.length + 1))) J3 := by
    intro J3 v j3 e5 v1 v2
    refine tk NL xs r _ J3 post hN h24 (wyS_congr wy h24 (fun p p1 p2 => sUI_ne (by omega)) (fun p p1 p2 => j3 p (by omega))) hx x48 hn (fun g2 hg2 => ?_) (by rw [pf_uis, if_pos rfl]) (by rw [pf_uis, if_neg (by omega)]; exact r10) (by rw [pf_uis, if_neg (by omega)]; exact r11) ?_ (fun I2 J2 a b c d => ?_)
    · obtain ⟨i, a, b⟩ := hp g2 hg2
      exact ⟨i, by rw [sUI_ne (by omega)]; exact a, b⟩
    · rw [pf_uis, if_neg (by omega), sUI_ne (by omega), j3 221 (by omega)]
      exact rm
    · refine h I2 J2 (fun p hp => by rw [a p hp, sUI_ne (by omega)]) (by rw [b 1 (by omega), pf_uis, if_neg (by omega)]) (fun p hp => by rw [c p (by omega), j3 p (by omega)]) ?_
      have bb : ∀ k, k ≠ 4 → k ≠ 2 → I2 220 k = I 220 k := fun k h4 h2 => by rw [b k h4, pf_uis, if_neg h2]
      refine ⟨?_, by rw [bb 3 (by omega) (by omega)]; exact r3, by rw [bb 9 (by omega) (by omega)]; exact r9, by rw [bb 10 (by omega) (by omega)]; exact r10, by rw [bb 11 (by omega) (by omega)]; exact r11, fun _ => ⟨v, by rw [c 220 (by omega)]; exact e5, v1, v2⟩, d⟩
      rw [b 2 (by omega), pf_uis, if_pos rfl, List.length_append, List.length_singleton]
  refine ⟨fun z => ?_, fun z => ?_⟩
  · rintro _ rfl
    have e : xs = [] := List.eq_nil_of_length_eq_zero (by omega)
    subst e
    refine go _ r (fun p hp => by funext k; rw [pf_uj, if_neg (by omega)]) (by rw [pf_ujs, if_pos rfl]) (by simp) (fun x hx => ?_)
    rw [List.nil_append, List.mem_singleton] at hx
    omega
  · have ne : xs ≠ [] := fun e => by rw [e] at z; exact z rfl
    obtain ⟨v, e5, v1, v2⟩ := rl ne
    have lt := pf_lgc_lt (lN r) (J 220 5)
    rw [e5, lN_lt48 hn.1 (x48 v v1)] at lt
    rw [e5]
    refine ⟨fun y => ?_, fun y => ?_⟩
    · have nl : ¬ r < v := fun x => absurd (lt.mpr x) (Int32.not_lt.mpr y)
      refine go J v (fun _ _ => rfl) e5 (List.mem_append.mpr (Or.inl v1)) (fun x hx => ?_)
      rcases List.mem_append.mp hx with k | k
      · exact v2 x k
      · rw [List.mem_singleton] at k; omega
    · have nl : r < v := lt.mp (Int32.not_le.mp y)
      rintro _ rfl
      refine go _ r (fun p hp => by funext k; rw [pf_uj, if_neg (by omega)]) (by rw [pf_ujs, if_pos rfl]) (by simp) (fun x hx => ?_)
      rcases List.mem_append.mp hx with k | k
      · have := v2 x k; omega
      · rw [List.mem_singleton] at k; omega
theorem lv_cst {ch : Nat → Nat → List Nat} : ∀ {m g c : Nat}, (lvF ch m g c).length ≤ 1 + cst ch m g c
  | 0, g, c => by rw [lvF, cst]; simp
  | m + 1, g, c => by
    rw [lvF, cst]
    have : ∀ xs : List Nat, (xs.flatMap (lvF ch m (g + 1))).length ≤ lsum (fun d => 1 + cst ch m (g + 1) d) xs := by
      intro xs
      induction xs with
      | nil => exact Nat.le_refl _
      | cons x xs ih =>
        rw [List.flatMap_cons, List.length_append, lsum]
        have := lv_cst (ch := ch) (m := m) (g := g + 1) (c := x)
        omega
    have := this (ch g c)
    omega
noncomputable def cLs (q : sPr) (g c : Nat) (l : List Nat) : List Nat := (l.filter (fun e => bp (okF q g c e))).map (fun e => c ||| e)
theorem cLs_y {q : sPr} {g c e : Nat} {l : List Nat} (h : okF q g c e) : cLs q g c (l ++ [e]) = cLs q g c l ++ [c ||| e] := by
  unfold cLs
  rw [List.filter_append, List.map_append, List.filter_cons_of_pos (p := fun e => bp (okF q g c e)) (bp_t.mpr h), List.filter_nil, List.map_cons, List.map_nil]
theorem cLs_n {q : sPr} {g c e : Nat} {l : List Nat} (h : ¬ okF q g c e) : cLs q g c (l ++ [e]) = cLs q g c l := by
  unfold cLs
  rw [List.filter_append, List.filter_cons_of_neg (p := fun e => bp (okF q g c e)) (fun z => h (bp_t.mp z)), List.filter_nil, List.append_nil]
theorem cLs_app {q : sPr} {g c : Nat} {l l2 : List Nat} : cLs q g c (l ++ l2) = cLs q g c l ++ cLs q g c l2 := by
  unfold cLs
  rw [List.filter_append, List.map_append]
theorem gtL_3 {x : Nat} {xs : List Nat} : ∀ {ys : List Nat}, gtL (ys ++ x :: xs) ys.length = x
  | [] => rfl
  | y :: ys => gtL_3 (ys := ys)
theorem q_many0 {I : sI} {J : sJ} {post : Int32 → sI → sJ → Prop} {n : Nat} (hn : n ≤ 20001) (e : I 220 1 = nI n) (h0 : n ≤ 20000 → post 0 I J) (h1 : n = 20001 → post 1 I J) : w_X5_tooMany I J post := by
  unfold w_X5_tooMany
  rw [e, show (20000 : Int32) = nI 20000 from rfl, pf_le (by omega) (by omega)]
  exact ⟨h0, fun z => h1 (by omega)⟩
theorem q_walk {q : sPr} {N NL mode det bk : Nat} {MS : List Nat → Int32 → (Nat → Int32) → (Nat → Int64) → Prop} (hq : qO q NL) (hN : N ≤ NL) (hmode : mode ≤ 4) (hd2 : det < 1000) (tk : tkO q N mode det MS) : ∀ (m f g c st hd : Nat) (xs : List Nat) (I : sI) (J : sJ) (post : sI → sJ → Prop), g + m = N → m < f → ndO (knF q g) (qH q) c → cfS q bk I → wyS q NL I J → I 220 1 = nI st → st ≤ 20000 → xs.length ≤ st → (m = 0 → xs.length + 1 ≤ st) → (∀ x, x ∈ xs → x < 2 ^ 48) → pth q g c I → rdS MS N mode det xs hd I J → (∀ (I2 : sI) (J2 : sJ), (∀ p, ¬ (p = 220 ∨ p = 222 ∨ p = 223) → I2 p = I p) → (∀ g2, g2 < g → I2 223 g2 = I 223 g2) → (∀ p, ¬ (p = 220 ∨ p = 221) → J2 p = J p) → st + cst (chF q) m g c ≤ 20000 → I2 220 1 = nI (st + cst (chF q) m g c) → rdS MS N mode det (xs ++ lvF (chF q) m g c) (hd + if mode = 4 then hlF (chF q) det m g c else 0) I2 J2 → post I2 J2) → (∀ (I2 : sI) (J2 : sJ), (∀ p, ¬ (p = 220 ∨ p = 222 ∨ p = 223) → I2 p = I p) → (∀ p, ¬ (p = 220 ∨ p = 221) → J2 p = J p) → 20000 < st + cst (chF q) m g c → I2 220 1 = nI 20001 → post I2 J2) → w_X5_walk_d f (nI g) (lN c) (nI (smS (usd c) 8)) I J post := by
  intro m
  induction m with
  | zero =>
    intro f g c st hd xs I J post hg hf hn cf wy e1 hst hxs hx1 x48 hp rd h1 h2
    cases f with
    | zero => omega
    | succ f =>
      show w_X5_walk_b (w_X5_walk_d f) (nI g) (lN c) (nI (smS (usd c) 8)) I J post
      unfold w_X5_walk_b
      have h24 := hq.1
      have gN : g = N := by omega
      subst gN
      rw [rd.2.2.1, pf_lt (by omega) (by omega)]
      refine b2 (by omega) ?_
      have := hx1 rfl
      refine q_take tk hN h24 wy (by omega) x48 hn hp rd (fun I2 J2 a b c2 d => ?_)
      refine h1 I2 J2 (fun p hp => a p (by omega)) (fun g2 hg2 => by rw [a 223 (by omega)]) c2 (by rw [cst]; omega) (by rw [b, e1, cst]; rfl) ?_
      have : (hd + if mode = 4 then hlF (chF q) det 0 g c else 0) = hd := by
        rw [show hlF (chF q) det 0 g c = 0 from rfl]
        split <;> rfl
      rw [this]
      exact d
  | succ m ih =>
    intro f g c st hd xs I J post hg hf hn cf wy e1 hst hxs hx1 x48 hp rd h1 h2
    cases f with
    | zero => omega
    | succ f =>
    have h24 := hq.1
    obtain ⟨q1, q2, q3, q4, q5, q6, q7⟩ := id hq
    show w_X5_walk_b (w_X5_walk_d f) (nI g) (lN c) (nI (smS (usd c) 8)) I J post
    unfold w_X5_walk_b
    obtain ⟨⟨lw1, lw2⟩, a, ak1, ak2⟩ := wy.2.2 g (by omega)
    have hcs := ch_cs hq (show g < NL by omega) hn
    have len := chL_len (f := cwF q g) (n := qN q)
    rw [rd.2.2.1, pf_lt (by omega) (by omega), pf_cl (by omega), ak1, lw1, rd.1]
    refine b1 (by omega) ⟨vp_in_nI (by omega) (by omega), ?_⟩
    rintro _ rfl
    refine ⟨vp_in_nI (by omega) (by omega), ?_⟩
    rintro _ rfl _ rfl
    have x20 : xs.length ≤ 20000 := by omega
    obtain ⟨y1, y2, y3⟩ := sRwy g (by omega)
    have loop : ∀ (rest done : List Nat) (f2 : Nat) (I3 : sI) (J3 : sJ), csF q g = done ++ rest → rest.length < f2 → (∀ p, ¬ (p = 220 ∨ p = 222 ∨ p = 223) → I3 p = I p) → (∀ g2, g2 < g → I3 223 g2 = I 223 g2) → (∀ p, ¬ (p = 220 ∨ p = 221) → J3 p = J p) → st + lsum (fun d => 1 + cst (chF q) m (g + 1) d) (cLs q g c done) ≤ 20000 → I3 220 1 = nI (st + lsum (fun d => 1 + cst (chF q) m (g + 1) d) (cLs q g c done)) → rdS MS N mode det (xs ++ (cLs q g c done).flatMap (lvF (chF q) m (g + 1))) (hd + if mode = 4 then lsum (hlF (chF q) det m (g + 1)) (cLs q g c done) else 0) I3 J3 → w_X5_walk_45_n (w_X5_walk_d f) post f2 (nI g) (lN c) (nI (smS (usd c) 8)) (lN a) (nI (chL (cwF q g) (qN q)).length) (nI xs.length) (nI done.length) I3 J3 := by
      intro rest
      induction rest with
      | nil =>
        intro done f2 I3 J3 ed hf2 r3 s3 j3 hst3 e3 rd3
        cases f2 with
        | zero => simp at hf2
        | succ f2 =>
        rw [List.append_nil] at ed
        have chd : chF q g c = cLs q g c done := by rw [hcs, ed]; rfl
        show w_X5_walk_45_s (w_X5_walk_d f) post (w_X5_walk_45_n (w_X5_walk_d f) post f2) _ _ _ _ _ _ _ I3 J3
        unfold w_X5_walk_45_s
        have ln : (chL (cwF q g) (qN q)).length = done.length := by rw [show chL (cwF q g) (qN q) = csF q g from rfl, ed]
        rw [ln, pf_le (by omega) (by omega)]
        refine b1 (by omega) ?_
        rw [rd3.2.2.2.1, rd3.2.2.2.2.1, show (4 : Int32) = nI 4 from rfl, pf_eq (by omega) (by omega), pf_eq (by omega) (by omega), rd3.1]
        have lvd : lvF (chF q) (m + 1) g c = (cLs q g c done).flatMap (lvF (chF q) m (g + 1)) := by rw [lvF, chd]
        have csd : cst (chF q) (m + 1) g c = lsum (fun d => 1 + cst (chF q) m (g + 1) d) (cLs q g c done) := by rw [cst, chd]
        have lc := lv_cst (ch := chF q) (m := m + 1) (g := g) (c := c)
        have ll : (xs ++ (cLs q g c done).flatMap (lvF (chF q) m (g + 1))).length = xs.length + (lvF (chF q) (m + 1) g c).length := by rw [List.length_append, lvd]
        rw [ll, pf_le (by omega) (by omega)]
        rw [← csd] at hst3 e3
        have hld : hlF (chF q) det (m + 1) g c = lsum (hlF (chF q) det m (g + 1)) (cLs q g c done) + (if g = det ∧ (lvF (chF q) (m + 1) g c).length ≠ 0 then 1 else 0) := by rw [hlF, chd]
        have plain : ((if mode = 4 then hlF (chF q) det (m + 1) g c else 0) = if mode = 4 then lsum (hlF (chF q) det m (g + 1)) (cLs q g c done) else 0) → post I3 J3 := by
          intro e
          refine h1 I3 J3 r3 s3 j3 hst3 e3 ?_
          rw [e, lvd]
          exact rd3
        refine ⟨fun z => plain (by rw [if_neg z, if_neg z]), fun z => ⟨fun z2 => plain (by rw [if_pos z, if_pos z, hld, if_neg (fun x => z2 x.1), Nat.add_zero]), fun z2 => ⟨fun z3 => plain (by rw [if_pos z, if_pos z, hld, if_neg (fun x => by have := x.2; omega), Nat.add_zero]), fun z3 => ?_⟩⟩⟩
        rintro _ rfl
        refine h1 _ J3 (fun p hp => by rw [sUI_ne (by omega), r3 p hp]) (fun g2 hg2 => by rw [sUI_ne (by omega), s3 g2 hg2]) j3 hst3 (by rw [pf_uis, if_neg (by omega)]; exact e3) ?_
        rw [if_pos z, hld, if_pos ⟨z2, by omega⟩, lvd, ← Nat.add_assoc]
        obtain ⟨u1, u2, u3, u4, u5, u6, u7⟩ := rd3
        rw [if_pos z] at u2
        refine ⟨by rw [pf_uis, if_neg (by omega)]; exact u1, by rw [pf_uis, if_pos rfl, u2, nI_1], by rw [pf_uis, if_neg (by omega)]; exact u3, by rw [pf_uis, if_neg (by omega)]; exact u4, by rw [pf_uis, if_neg (by omega)]; exact u5, u6, by rw [pf_uis, if_neg (by omega), sUI_ne (by omega)]; exact u7⟩
      | cons e rest ihr =>
        intro done f2 I3 J3 ed hf2 r3 s3 j3 hst3 e3 rd3
        cases f2 with
        | zero => simp at hf2
        | succ f2 =>
        rw [List.length_cons] at hf2
        have ed2 : csF q g = (done ++ [e]) ++ rest := by rw [ed, List.append_assoc]; rfl
        have ln : (chL (cwF q g) (qN q)).length = done.length + (rest.length + 1) := by rw [show chL (cwF q g) (qN q) = csF q g from rfl, ed, List.length_append, List.length_cons]
        have dl : (done ++ [e]).length = done.length + 1 := by rw [List.length_append, List.length_singleton]
        show w_X5_walk_45_s (w_X5_walk_d f) post (w_X5_walk_45_n (w_X5_walk_d f) post f2) _ _ _ _ _ _ _ I3 J3
        unfold w_X5_walk_45_s w_X5_walk_166
        have idx : done.length < (chL (cwF q g) (qN q)).length := by omega
        obtain ⟨v1, v2, v3⟩ := lw2 done.length idx
        have ge : gtL (chL (cwF q g) (qN q)) done.length = e := by rw [show chL (cwF q g) (qN q) = csF q g from rfl, ed, gtL_3]
        rw [ge] at v1 v2
        have em : e ∈ csF q g := by rw [← ge]; exact gtL_m idx
        obtain ⟨s1, s2, sfr⟩ := cs_ok hq (show g < NL by omega) em
        rw [pf_le (by omega) (by omega), pf_cl (by omega), pf_cl (by omega), y1, y2, j3 (144 + g) (by omega), v1, r3 (169 + g) (by omega), v2, nI_1, nI_add, smS_add]
        refine b2 (by omega) ⟨vp_in_nI (by omega) (by omega), vp_in_nI (by omega) (by omega), ?_⟩
        rintro _ rfl
        have alt : (c ^^^ e) &&& a < 2 ^ 48 := Nat.lt_of_le_of_lt Nat.and_le_right ak2.1
        rw [lN_xor, lN_and, lgc_0 (lt63 alt), ask_z ak2, lN_or]
        have skip : ¬ okF q g c e → ∀ v : Int32, v = nI (done.length + 1) → w_X5_walk_45_n (w_X5_walk_d f) post f2 (nI g) (lN c) (nI (smS (usd c) 8)) (lN a) (nI (chL (cwF q g) (qN q)).length) (nI xs.length) v I3 J3 := by
          rintro no _ rfl
          have := ihr (done ++ [e]) f2 I3 J3 ed2 (by omega) r3 s3 j3 (by rw [cLs_n no]; exact hst3) (by rw [cLs_n no]; exact e3) (by rw [cLs_n no]; exact rd3)
          rw [dl] at this
          exact this
        refine ⟨fun z => skip (fun x => z (fun k hk o => x.1 k hk o.1 o.2)), fun z => ⟨vp_in_nI (by omega) (by omega), vp_in_nI (by omega) (by omega), ?_⟩⟩
        have cf3 : cfS q bk I3 := by
          unfold cfS at *
          rw [r3 142 (by omega)]
          exact cf
        refine q_crowded (h := qH q) ⟨q2, q3⟩ (fun l hl => by have := hn.2.2 l hl; have := sfr l hl; show usd c l + frK (knF q g) e l ≤ 8; omega) cf3.1 (fun z2 => b1 rfl ?_) (fun z2 => b2 (by decide) (skip (fun x => z2 x.2)))
        have ok : okF q g c e := ⟨fun k hk o1 o2 => z k hk ⟨o1, o2⟩, z2⟩
        have chl : chF q g c = cLs q g c done ++ (c ||| e) :: cLs q g c rest := by
          rw [hcs]
          show cLs q g c (csF q g) = _
          rw [ed2, cLs_app, cLs_y ok, List.append_assoc]; rfl
        have csum : cst (chF q) (m + 1) g c = lsum (fun d => 1 + cst (chF q) m (g + 1) d) (cLs q g c done) + ((1 + cst (chF q) m (g + 1) (c ||| e)) + lsum (fun d => 1 + cst (chF q) m (g + 1) d) (cLs q g c rest)) := by rw [cst, chl, lsum_app, lsum]
        rw [e3, nI_1]
        rintro _ rfl
        obtain ⟨u, eu⟩ : ∃ u, u = st + lsum (fun d => 1 + cst (chF q) m (g + 1) d) (cLs q g c done) := ⟨_, rfl⟩
        rw [← eu] at hst3 e3 ⊢
        refine q_many0 (n := u + 1) (by omega) (by rw [pf_uis, if_pos rfl]) (fun z3 => b1 rfl ⟨vp_in_nI (by omega) (by omega), ?_⟩) (fun z3 => b2 (by decide) ?_)
        · rintro _ rfl
          refine ⟨vp_in_nI (by omega) (by omega), vp_in_nI (by omega) (by omega), ?_⟩
          rw [sUI_ne (by omega), sUI_ne (by omega), r3 (169 + g) (by omega), v2, nI_add, smS_add, show smS (fun l => usd c l + frK (knF q g) e l) 8 = smS (usd (c ||| e)) 8 from sumN_congr (fun l _ => by rw [un_usd hn s2 ok.1])]
          have nd2 : ndO (knF q (g + 1)) (qH q) (c ||| e) := ndO_congr (fun k => knF_s.symm) (un_ok hn s1 s2 ok)
          have r4 : ∀ p, ¬ (p = 220 ∨ p = 222 ∨ p = 223) → (sUI (sUI I3 220 1 (nI (u + 1))) 223 g (nI done.length)) p = I p := fun p hp => by rw [sUI_ne (by omega), sUI_ne (by omega), r3 p hp]
          obtain ⟨xs3, ex3⟩ : ∃ xs3, xs3 = xs ++ (cLs q g c done).flatMap (lvF (chF q) m (g + 1)) := ⟨_, rfl⟩
          rw [← ex3] at rd3
          have lx : xs3.length ≤ u := by
            rw [ex3, List.length_append, eu]
            have : ∀ ys : List Nat, (ys.flatMap (lvF (chF q) m (g + 1))).length ≤ lsum (fun d => 1 + cst (chF q) m (g + 1) d) ys := by
              intro ys
              induction ys with
              | nil => exact Nat.le_refl _
              | cons x ys ih5 =>
                rw [List.flatMap_cons, List.length_append, lsum]
                have := lv_cst (ch := chF q) (m := m) (g := g + 1) (c := x)
                omega
            have := this (cLs q g c done)
            omega
          have x483 : ∀ x, x ∈ xs3 → x < 2 ^ 48 := by
            intro x hx
            rw [ex3, List.mem_append] at hx
            rcases hx with y | y
            · exact x48 x y
            · rw [List.mem_flatMap] at y
              obtain ⟨d, hdm, hdr⟩ := y
              have dch : d ∈ chF q g c := by rw [chl]; exact List.mem_append.mpr (Or.inl hdm)
              exact (lv_ok hq (show g + 1 + m ≤ NL by omega) (ch_ok hq (by omega) hn dch) hdr).1.1
          have pth2 : pth q (g + 1) (c ||| e) (sUI (sUI I3 220 1 (nI (u + 1))) 223 g (nI done.length)) := by
            intro g2 hg2
            by_cases eg : g2 = g
            · subst eg
              refine ⟨done.length, by rw [pf_uis, if_pos rfl], by rw [show csF q g2 = chL (cwF q g2) (qN q) from rfl]; exact idx, ?_⟩
              rw [show csF q g2 = chL (cwF q g2) (qN q) from rfl, ge]
              intro k hk x
              obtain ⟨n1, n2⟩ := un_nb hn s2 ok.1 k hk
              by_cases kk : knF q g2 k
              · rw [n1 kk, ok.1 k hk ((s2 k hk).mp x) kk]
              · exact n2 kk
            · obtain ⟨i, i1, i2, i3⟩ := hp g2 (by omega)
              refine ⟨i, by rw [pf_uis, if_neg eg, sUI_ne (by omega), s3 g2 (by omega)]; exact i1, i2, fun k hk x => ?_⟩
              have cx := i3 k hk x
              have kk := (hn.2.1 k hk).mp (by rw [cx]; exact x)
              rw [(un_nb hn s2 ok.1 k hk).1 kk]
              exact cx
          rw [nI_1 g]
          refine ih f (g + 1) (c ||| e) (u + 1) _ xs3 _ J3 _ (by omega) (by omega) nd2 (by unfold cfS at *; rw [r4 142 (by omega)]; exact cf) (wyS_congr wy h24 (fun p p1 p2 => r4 p (by omega)) (fun p p1 p2 => j3 p (by omega))) (by rw [sUI_ne (by omega), pf_uis, if_pos rfl]) (by omega) (by omega) (fun _ => by omega) x483 pth2 (rdS_congr rd3 (fun k hk => by rw [sUI_ne (by omega), pf_uis, if_neg hk]) rfl (by rw [sUI_ne (by omega), sUI_ne (by omega)]) rfl) (fun I5 J5 r5 s5 j5 st5 e5 rd5 => ?_) (fun I5 J5 r5 j5 st5 e5 => ?_)
          · refine q_many0 (n := u + 1 + cst (chF q) m (g + 1) (c ||| e)) (by omega) e5 (fun z4 => b1 rfl ?_) (fun z4 => by omega)
            rintro _ rfl
            have ex : st + lsum (fun d => 1 + cst (chF q) m (g + 1) d) (cLs q g c (done ++ [e])) = u + 1 + cst (chF q) m (g + 1) (c ||| e) := by
              rw [cLs_y ok, lsum_app, lsum, lsum, eu]; omega
            have := ihr (done ++ [e]) f2 I5 J5 ed2 (by omega) (fun p hp => by rw [r5 p hp, r4 p hp]) (fun g2 hg2 => by rw [s5 g2 (by omega), pf_uis, if_neg (by omega), sUI_ne (by omega), s3 g2 hg2]) (fun p hp => by rw [j5 p hp, j3 p hp]) (by rw [ex]; exact st5) (by rw [ex]; exact e5) ?_
            · rw [dl] at this
              exact this
            · rw [cLs_y ok, List.flatMap_append, List.flatMap_cons, List.flatMap_nil, List.append_nil, ← List.append_assoc, ← ex3, lsum_app, lsum, lsum, Nat.add_zero]
              have eh : (hd + if mode = 4 then lsum (hlF (chF q) det m (g + 1)) (cLs q g c done) + (hlF (chF q) det m (g + 1) (c ||| e) + 0) else 0) = ((hd + if mode = 4 then lsum (hlF (chF q) det m (g + 1)) (cLs q g c done) else 0) + if mode = 4 then hlF (chF q) det m (g + 1) (c ||| e) else 0) := by
                by_cases z5 : mode = 4
                · rw [if_pos z5, if_pos z5, if_pos z5]; omega
                · rw [if_neg z5, if_neg z5, if_neg z5]
              rw [eh]
              exact rd5
          · refine q_many0 (n := 20001) (by omega) e5 (fun z4 => by omega) (fun z4 => b2 (by decide) ?_)
            exact h2 I5 J5 (fun p hp => by rw [r5 p hp, r4 p hp]) (fun p hp => by rw [j5 p hp, j3 p hp]) (by rw [csum]; omega) e5
        · refine h2 _ J3 (fun p hp => by rw [sUI_ne (by omega), r3 p hp]) j3 (by rw [csum]; omega) (by rw [pf_uis, if_pos rfl, z3])
    refine ⟨(csF q g).length + 1, ?_⟩
    have := loop (csF q g) [] ((csF q g).length + 1) I J rfl (by omega) (fun _ _ => rfl) (fun _ _ => rfl) (fun _ _ => rfl) (by show st + 0 ≤ 20000; omega) (by show I 220 1 = nI (st + 0); exact e1) ?_
    · exact this
    · show rdS MS N mode det (xs ++ []) (hd + if mode = 4 then 0 else 0) I J
      rw [List.append_nil, show (hd + if mode = 4 then 0 else 0) = hd by split <;> rfl]
      exact rd
