theorem S_letters {I : sI} {J : sJ} (a1 a2 : Int32) (hR : RR0 I J) : St (w_X11_letters a1 a2) (w_X12_letters a1 a2) I J := by
  have hR0 := hR
  obtain ⟨hT, hD, hK, hW, hC, hQ, hX⟩ := hR
  obtain ⟨G, P, s, κ, h, d, bk, nw, wl, wt, hw, hx, hww, hc, hm, e3, e2, hcw, hmw⟩ := rd_get hD hW
  have hG := hw.1
  have refuse : ¬ ((Ix a1 4 ∧ 1 ≤ G) ∧ ∃ k, k < 12 ∧ a2 = nI k ∧ ∃ p, p < P ∧ κ p = k) → w_X12_letters a1 a2 I J (fun r2 I2 J2 => -1 = r2 ∧ RR0 I2 J2) := by
    intro z
    have fin : RR0 (sUI I 248 0 0) J := ⟨(RT_congr hT rfl rfl rfl rfl), (RD_congr hD (fun q h1 h2 => by repeat rw [sUI_ne (by omega)]) rfl rfl rfl rfl rfl rfl rfl rfl rfl rfl rfl), (RK_congr hK (fun q h1 h2 => by repeat rw [sUI_ne (by omega)]) rfl rfl), (RW_congr hW (fun q h1 h2 => by repeat rw [sUI_ne (by omega)]) rfl rfl rfl), (RC_congr hC (fun q h1 h2 => by repeat rw [sUI_ne (by omega)]) rfl rfl rfl), (RR_congr hQ rfl rfl rfl rfl), (RX_congr hX rfl rfl rfl rfl rfl)⟩
    unfold w_X12_letters
    rintro _ rfl
    refine q_isAsked hG hm.1 (fun a b => b2 (by decide) ?_) (fun _ => b1 rfl ⟨rfl, fin⟩)
    refine q_in (lo := 0) (hi := 11) (by decide) (by decide) (fun p => b2 (by decide) ?_) (fun _ => b1 rfl ⟨rfl, fin⟩)
    obtain ⟨k, hk, rfl⟩ := ix_of (N := 11) (by omega) p.1 p.2
    exact q_hasKind (I := sUI I 248 0 0) hw hm (by omega) (fun y => absurd ⟨⟨a, b⟩, k, by omega, rfl, y⟩ z) (fun _ => b4 rfl ⟨rfl, fin⟩)
  show w_X11_letters a1 a2 I J _
  unfold w_X11_letters
  refine q_cannotR hG hc.1 (fun z g1 => b4 rfl ?_) (fun z => b3 (by decide) (refuse (fun q => z q.1)))
  refine ⟨fun y => refuse (fun ⟨_, k, hk, e, _⟩ => ?_), fun y0 => ⟨fun y1 => refuse (fun ⟨_, k, hk, e, _⟩ => ?_), fun y1 => ?_⟩⟩
  · rw [e] at y; exact absurd y (pf_lt0 (by omega))
  · rw [e, show (12 : Int32) = nI 12 from rfl, pf_le (by omega) (by omega)] at y1; omega
  have p1 : 0 ≤ a2 ∧ a2 ≤ 11 := by
    refine ⟨Int32.not_lt.mp y0, ?_⟩
    rw [Int32.not_le, pf_ltInt] at y1
    rw [pf_leInt]
    have : (12 : Int32).toInt = 12 := by decide
    have : (11 : Int32).toInt = 11 := by decide
    omega
  obtain ⟨k, hk, rfl⟩ := ix_of (N := 11) (by omega) p1.1 p1.2
  refine q_kindBits hw hc ?_
  rw [m_has0 (by omega) (by omega)]
  refine ⟨fun y => ?_, fun y => refuse (fun ⟨_, k2, hk2, e, hp⟩ => y ⟨by omega, ?_⟩)⟩
  rotate_left
  · rw [pf_eq (by omega) (by omega)] at e; rw [e]; exact hp
  have pk : ∃ p, p < P ∧ κ p = k := by
    by_cases w : k < 13 ∧ ∃ p, p < P ∧ κ p = k
    · exact w.2
    · exact absurd w y
  obtain ⟨t, ht, rfl⟩ := z
  have hq := dQ_O hw hx hww ht
  obtain ⟨xs, exs⟩ : ∃ xs, xs = lev (chF (dQ h d bk (nw t) (wl t) (wt t) s κ)) G := ⟨_, rfl⟩
  obtain ⟨T, eT⟩ : ∃ T, T = tot (chF (dQ h d bk (nw t) (wl t) (wt t) s κ)) G := ⟨_, rfl⟩
  have xok : ∀ x, x ∈ xs → ndO (knF (dQ h d bk (nw t) (wl t) (wt t) s κ) G) (qH (dQ h d bk (nw t) (wl t) (wt t) s κ)) x := fun x hx2 => lev_ok hq (Nat.le_refl _) (by rw [← exs]; exact hx2)
  have x8 : ∀ x, x ∈ xs → ∀ k, k < 12 → nb x k ≤ 8 := fun x hx2 => lev_8 hq (Nat.le_refl _) (by rw [← exs]; exact hx2)
  have xn : ∀ x, x ∈ xs → nb x k ≠ 0 := fun x hx2 => ((xok x hx2).2.1 k (by omega)).mpr ((kn_pl hw).mpr pk)
  have model : ∀ (I1 : sI) (J1 : sJ) (r : Int32), (∀ p, ¬ (p = 134 ∨ (136 ≤ p ∧ p ≤ 137) ∨ (142 ≤ p ∧ p ≤ 223)) → I1 p = I p) → I1 134 1 = I 134 1 → (∀ p, ¬ (142 ≤ p ∧ p ≤ 223) → J1 p = J p) → ((20000 < T ∧ r = -3) ∨ (T ≤ 20000 ∧ r = nI (msk (fun l => 0 < lcn (fun x => nb x k = l + 1) xs) 8))) → w_X12_letters (nI t) (nI k) I1 J1 (fun r2 I2 J2 => r = r2 ∧ RR0 I2 J2) := by
    intro I1 J1 r ra h134 ja hr
    unfold w_X12_letters
    rintro _ rfl
    obtain ⟨m1, m2, m3⟩ := mset hm e2 hmw (I1 := I1) (fun p hp => ra p (by omega))
    refine q_isAsked hG m1.1 (fun _ _ => b2 (by decide) ?_) (fun q => absurd ⟨⟨t, ht, rfl⟩, g1⟩ q)
    refine q_in (lo := 0) (hi := 11) (by decide) (by decide) (fun _ => b2 (by decide) ?_) (fun q => absurd p1 q)
    refine q_hasKind hw m1 (by omega) (fun _ => b3 (by decide) ?_) (fun q => absurd pk q)
    refine q_all hw m1 g1 hx m2 hww m3 ht (fun I2 J2 F r2 s2 j2 t2 e30 e32 f2 o2 _ => b3 (by decide) ?_) (fun I2 J2 r2 s2 j2 t2 e30 => b4 rfl ?_)
    · have len := lev_len g1 t2
      rw [← exs] at e32 f2 o2 len
      rw [← eT] at t2
      rcases hr with ⟨c, _⟩ | ⟨_, hr⟩
      · omega
      have fin : RR0 I2 J2 := fin_all hR0 ra h134 (ja 135 (by omega)) (ja 249 (by omega)) (fun p hp => by rw [r2 p (by omega), sUI_ne (by omega)]) (fun k hk => by rw [s2 k (by omega), pf_uis, if_neg (by omega)]) j2
      obtain ⟨post, ep⟩ : ∃ post : Int32 → sI → sJ → Prop, post = fun r2 I2 J2 => r = r2 ∧ RR0 I2 J2 := ⟨_, rfl⟩
      rw [← ep]
      have loop : ∀ fu r, r ≤ xs.length → xs.length - r < fu → w_X12_letters_51_n post fu (nI k) (nI (msk (fun l => ∃ j, j < r ∧ nb (F j) k = l + 1) 8)) (nI r) I2 J2 := by
        intro fu
        induction fu with
        | zero => intro r _ h; omega
        | succ fu ih =>
          intro r hr1 hfu
          show w_X12_letters_51_s post (w_X12_letters_51_n post fu) _ _ _ I2 J2
          unfold w_X12_letters_51_s
          rw [e32, pf_le (by omega) (by omega), pf_cl (by omega), nI_1]
          refine ⟨fun e => ?_, fun e => ⟨vp_in_nI (by omega) (by omega), ?_⟩⟩
          · rw [ep]
            refine ⟨?_, fin⟩
            rw [hr]
            congr 1
            refine msk_congr (fun l _ => ?_)
            rw [lcn_pos]
            constructor
            · rintro ⟨x, hx2, ex⟩
              obtain ⟨j, hj, ej⟩ := sr_ix o2 hx2
              exact ⟨j, by omega, by rw [ej]; exact ex⟩
            · rintro ⟨j, hj, ej⟩
              exact ⟨F j, sr_mem o2 (by omega), ej⟩
          · have fm := sr_mem o2 (show r < xs.length by omega)
            rw [(f2 r (by omega)).1]
            refine q_letterOf (xok _ fm).1 (by omega) ?_
            have n8 := x8 _ fm k (by omega)
            have nn := xn _ fm
            rw [nI_p (by omega), sh1 _ (by omega), m_or1 (by omega)]
            rintro _ rfl _ rfl
            have nx := ih (r + 1) (by omega) (by omega)
            rw [msk_congr (p := fun l => ∃ j, j < r + 1 ∧ nb (F j) k = l + 1) (q := fun l => (∃ j, j < r ∧ nb (F j) k = l + 1) ∨ l = nb (F r) k - 1) (n := 8) (fun l _ => ?_)] at nx
            · exact nx
            · constructor
              · rintro ⟨j, hj, ej⟩
                by_cases ejr : j = r
                · rw [ejr] at ej; exact Or.inr (by omega)
                · exact Or.inl ⟨j, by omega, ej⟩
              · rintro (⟨j, hj, ej⟩ | el)
                · exact ⟨j, by omega, ej⟩
                · exact ⟨r, by omega, by omega⟩
      have := loop (xs.length + 1) 0 (by omega) (by omega)
      rw [(msk_zero (p := fun l => ∃ j, j < 0 ∧ nb (F j) k = l + 1) (n := 8)).mpr (fun i _ ⟨j, hj, _⟩ => by omega)] at this
      exact ⟨xs.length + 1, this⟩
    · rw [← eT] at t2
      rcases hr with ⟨_, hr⟩ | ⟨c, _⟩
      · exact ⟨hr, fin_all hR0 ra h134 (ja 135 (by omega)) (ja 249 (by omega)) (fun p hp => by rw [r2 p (by omega), sUI_ne (by omega)]) (fun k hk => by rw [s2 k (by omega), pf_uis, if_neg (by omega)]) j2⟩
      · omega
  refine q_read (mode := 1) (det := 0) (MS := ms_1) (by decide) hw hc g1 hx e3 hww hcw ht (by omega) (by omega) (tk_1 hq (Nat.le_refl _)) (fun T S z k l hk hl => by rw [z _ (by omega)]; rfl) (fun I1 J1 r1 j1 t1 e1 rd1 => ?_) (fun I1 J1 r1 j1 t1 e1 => ?_)
  · have len := lev_len g1 t1
    rw [← exs] at rd1 len
    rw [← eT] at t1 e1
    refine q_many0 (n := T) (by omega) e1 (fun _ => b1 rfl ?_) (fun z => by omega)
    obtain ⟨u1, u2, u3, u4, u5, u6, u7⟩ := rd1
    refine q_lettersOf (f := fun l => lcn (fun x => nb x k = l + 1) xs) (by omega) (fun l hl => ⟨by have := lcn_le (p := fun x => nb x k = l + 1) (xs := xs); show lcn (fun x => nb x k = l + 1) xs ≤ 20000; omega, u7 k l (by omega) hl⟩) ?_
    exact model I1 J1 _ (fun p hp => r1 p (by omega)) (by rw [r1 134 (by omega)]) j1 (Or.inr ⟨t1, rfl⟩)
  · rw [← eT] at t1
    refine q_many0 (n := 20001) (by omega) e1 (fun z => by omega) (fun _ => b2 (by decide) ?_)
    exact model I1 J1 (-3) (fun p hp => r1 p (by omega)) (by rw [r1 134 (by omega)]) j1 (Or.inl ⟨t1, rfl⟩)
def nxS (w : Nat → Nat) : Nat → Nat × Nat
  | 0 => (0, 0)
  | k + 1 => if w k = 0 then nxS w k else if (nxS w k).1 = 0 ∨ w k < (nxS w k).2 then (k + 1, w k) else nxS w k
theorem nxS_0 {w : Nat → Nat} {k : Nat} (h : w k = 0) : nxS w (k + 1) = nxS w k := by rw [nxS, if_pos h]
theorem nxS_y {w : Nat → Nat} {k : Nat} (h : ¬ w k = 0) (g : (nxS w k).1 = 0 ∨ w k < (nxS w k).2) : nxS w (k + 1) = (k + 1, w k) := by rw [nxS, if_neg h, if_pos g]
theorem nxS_n {w : Nat → Nat} {k : Nat} (h : ¬ w k = 0) (g : ¬ ((nxS w k).1 = 0 ∨ w k < (nxS w k).2)) : nxS w (k + 1) = nxS w k := by rw [nxS, if_neg h, if_neg g]
theorem nxS_b {w : Nat → Nat} {B : Nat} : ∀ {k}, (∀ i, i < k → w i ≤ B) → (nxS w k).1 ≤ k ∧ (nxS w k).2 ≤ B
  | 0, _ => ⟨Nat.le_refl _, Nat.zero_le _⟩
  | k + 1, h => by
    have ih := nxS_b (k := k) (fun i hi => h i (by omega))
    by_cases z : w k = 0
    · rw [nxS_0 z]; omega
    · by_cases g : (nxS w k).1 = 0 ∨ w k < (nxS w k).2
      · rw [nxS_y z g]; exact ⟨Nat.le_refl _, h k (by omega)⟩
      · rw [nxS_n z g]; omega
theorem S_next {I : sI} {J : sJ} (a1 : Int32) (hR : RR0 I J) : St (w_X11_next a1) (w_X12_next a1) I J := by
  have hR0 := hR
  obtain ⟨hT, hD, hK, hW, hC, hQ, hX⟩ := hR
  obtain ⟨G, P, s, κ, h, d, bk, nw, wl, wt, hw, hx, hww, hc, hm, e3, e2, hcw, hmw⟩ := rd_get hD hW
  have hG := hw.1
  show w_X11_next a1 I J _
  unfold w_X11_next
  refine q_cannotR hG hc.1 (fun z g1 => b1 rfl ?_) (fun z => b2 (by decide) ?_)
  rotate_left
  · unfold w_X12_next
    rintro _ rfl
    refine q_isAsked hG hm.1 (fun a b => absurd ⟨a, b⟩ z) (fun _ => b4 rfl ?_)
    exact ⟨rfl, (RT_congr hT rfl rfl rfl rfl), (RD_congr hD (fun q h1 h2 => by repeat rw [sUI_ne (by omega)]) rfl rfl rfl rfl rfl rfl rfl rfl rfl rfl rfl), (RK_congr hK (fun q h1 h2 => by repeat rw [sUI_ne (by omega)]) rfl rfl), (RW_congr hW (fun q h1 h2 => by repeat rw [sUI_ne (by omega)]) rfl rfl rfl), (RC_congr hC (fun q h1 h2 => by repeat rw [sUI_ne (by omega)]) rfl rfl rfl), (RR_congr hQ rfl rfl rfl rfl), (RX_congr hX rfl rfl rfl rfl rfl)⟩
  obtain ⟨t, ht, rfl⟩ := z
  have hq := dQ_O hw hx hww ht
  obtain ⟨xs, exs⟩ : ∃ xs, xs = lev (chF (dQ h d bk (nw t) (wl t) (wt t) s κ)) G := ⟨_, rfl⟩
  obtain ⟨T, eT⟩ : ∃ T, T = tot (chF (dQ h d bk (nw t) (wl t) (wt t) s κ)) G := ⟨_, rfl⟩
  have xok : ∀ x, x ∈ xs → ndO (knF (dQ h d bk (nw t) (wl t) (wt t) s κ) G) (qH (dQ h d bk (nw t) (wl t) (wt t) s κ)) x := fun x hx2 => lev_ok hq (Nat.le_refl _) (by rw [← exs]; exact hx2)
  have x8 : ∀ x, x ∈ xs → ∀ k, k < 12 → nb x k ≤ 8 := fun x hx2 => lev_8 hq (Nat.le_refl _) (by rw [← exs]; exact hx2)
  obtain ⟨w, ew⟩ : ∃ w : Nat → Nat, w = fun k => mxN (fun l => lcn (fun x => nb x k = l + 1) xs) 8 := ⟨_, rfl⟩
  have wk : ∀ k, w k = mxN (fun l => lcn (fun x => nb x k = l + 1) xs) 8 := fun k => by rw [ew]
  have w0 : ∀ k, k < 12 → (w k ≠ 0 ↔ (xs.length ≠ 0 ∧ ∃ p, p < P ∧ κ p = k)) := by
    intro k hk
    have mp := mxN_pos (f := fun l => lcn (fun x => nb x k = l + 1) xs) (n := 8)
    rw [← wk] at mp
    constructor
    · intro z
      obtain ⟨l, hl, pl⟩ := mp.mp (by omega)
      obtain ⟨x, hx2, ex⟩ := lcn_pos.mp pl
      have := List.length_pos_of_mem hx2
      exact ⟨by omega, (kn_pl hw).mp (((xok x hx2).2.1 k hk).mp (by omega))⟩
    · rintro ⟨z, pk⟩
      cases exs2 : xs with
      | nil => rw [exs2] at z; exact absurd rfl z
      | cons x ys =>
        have hx2 : x ∈ xs := by rw [exs2]; exact List.mem_cons_self ..
        have nn := ((xok x hx2).2.1 k hk).mpr ((kn_pl hw).mpr pk)
        have n8 := x8 x hx2 k hk
        have := mp.mpr ⟨nb x k - 1, by omega, lcn_pos.mpr ⟨x, hx2, by show nb x k = nb x k - 1 + 1; omega⟩⟩
        omega
  have model : ∀ (I1 : sI) (J1 : sJ) (r : Int32), (∀ p, ¬ (p = 134 ∨ (136 ≤ p ∧ p ≤ 137) ∨ (142 ≤ p ∧ p ≤ 223)) → I1 p = I p) → (∀ p, ¬ (p = 135 ∨ (142 ≤ p ∧ p ≤ 223)) → J1 p = J p) → ((20000 < T ∧ r = -3 ∧ I1 134 1 = I 134 1 ∧ J1 135 = J 135) ∨ (T ≤ 20000 ∧ (((nxS w 12).1 = 0 ∧ r = -2 ∧ I1 134 1 = I 134 1 ∧ J1 135 = J 135) ∨ (1 ≤ (nxS w 12).1 ∧ r = nI ((nxS w 12).1 - 1) ∧ I1 134 1 = nI 1 ∧ J1 135 0 = (nI (nxS w 12).2).toInt64)))) → w_X12_next (nI t) I1 J1 (fun r2 I2 J2 => r = r2 ∧ RR0 I2 J2) := by
    intro I1 J1 r ra ja hr
    unfold w_X12_next
    rintro _ rfl
    obtain ⟨m1, m2, m3⟩ := mset hm e2 hmw (I1 := I1) (fun p hp => ra p (by omega))
    refine q_isAsked hG m1.1 (fun _ _ => b3 (by decide) ?_) (fun q => absurd ⟨⟨t, ht, rfl⟩, g1⟩ q)
    refine q_all hw m1 g1 hx m2 hww m3 ht (fun I2 J2 F r2 s2 j2 t2 e30 e32 f2 o2 _ => b3 (by decide) ?_) (fun I2 J2 r2 s2 j2 t2 e30 => b4 rfl ?_)
    · have len := lev_len g1 t2
      rw [← exs] at e32 f2 o2 len
      rw [← eT] at t2
      rcases hr with ⟨c, _⟩ | ⟨_, hr⟩
      · omega
      have wB : ∀ k, w k ≤ 20000 := fun k => by
        rw [wk]; exact mxN_le (fun l _ => Nat.le_trans lcn_le len)
      rw [e32, pf_eq0 (by omega)]
      have no : (nxS w 12).1 = 0 → r = -2 ∧ RR0 I2 J2 := by
        intro z
        rcases hr with ⟨l0, hr, h134, hj⟩ | ⟨l1, _⟩
        · exact ⟨hr, fin_all hR0 ra h134 hj (ja 249 (by omega)) (fun p hp => by rw [r2 p (by omega), sUI_ne (by omega)]) (fun k hk => by rw [s2 k (by omega), pf_uis, if_neg (by omega)]) j2⟩
        · omega
      refine ⟨fun lz => ?_, fun lz => ?_⟩
      rotate_left
      · have all0 : ∀ n, n ≤ 12 → nxS w n = (0, 0) := by
          intro n
          induction n with
          | zero => intro _; rfl
          | succ n ih =>
            intro hn
            have : w n = 0 := by
              by_cases y : w n = 0
              · exact y
              · exact absurd lz ((w0 n (by omega)).mp y).1
            rw [nxS_0 this]; exact ih (by omega)
        exact no (by rw [all0 12 (by omega)])
      · have m2' : mD G P s κ I2 := mD_congr m1 (s2 11 (by omega)) (s2 12 (by omega)) (r2 253 (by omega)) (r2 254 (by omega))
        obtain ⟨post, ep⟩ : ∃ post : Int32 → sI → sJ → Prop, post = fun r2 I2 J2 => r = r2 ∧ RR0 I2 J2 := ⟨_, rfl⟩
        rw [← ep]
        have outer : ∀ fu k (x2 : Int32), k ≤ 12 → 12 - k < fu → (((nxS w k).1 = 0 ∧ x2 = -1) ∨ (1 ≤ (nxS w k).1 ∧ x2 = nI ((nxS w k).1 - 1))) → w_X12_next_43_n post fu x2 (nI (nxS w k).2) (nI k) I2 J2 := by
          intro fu
          induction fu with
          | zero => intro k _ _ h; omega
          | succ fu ih =>
            intro k x2 hk hfu hx2
            have nb' := nxS_b (w := w) (B := 20000) (k := k) (fun i _ => wB i)
            show w_X12_next_43_s post (w_X12_next_43_n post fu) _ _ _ I2 J2
            unfold w_X12_next_43_s
            rw [show (12 : Int32) = nI 12 from rfl, pf_le (by omega) (by omega)]
            refine ⟨fun e => ?_, fun e => ?_⟩
            · have k12 : k = 12 := by omega
              subst k12
              rcases hx2 with ⟨x1', rfl⟩ | ⟨x1', rfl⟩
              · refine b2 (by decide) ?_
                rw [ep]
                obtain ⟨y1, y2⟩ := no x1'
                exact ⟨y1, y2⟩
              · refine b1 (pf_ge0 (by omega)) ?_
                rintro _ rfl
                refine q_enters (k := 0) (by rw [pf_uis, if_pos rfl]; rfl) (by omega) ?_
                rw [ep]
                rcases hr with ⟨l0, _⟩ | ⟨l1, hr, h134, hj⟩
                · omega
                · refine ⟨hr, fin_row hR0 ra (fun p hp => by rw [sUI_ne (by omega), sUI_ne (by omega), r2 p (by omega), sUI_ne (by omega)]) (fun k hk => by rw [pf_uis, if_neg (by omega), pf_uis, if_neg (by omega), s2 k (by omega), pf_uis, if_neg (by omega)]) (RR_1 (x := (nI (nxS w 12).2).toInt64) ?_ ?_ ?_ ?_)⟩
                  · rw [sUI_ne (by omega), sUI_ne (by omega), r2 134 (by omega), sUI_ne (by omega)]; exact h134
                  · rw [pf_uis, if_pos rfl]
                  · rw [pf_uj, if_neg (by omega), j2 135 (by omega)]; exact hj
                  · rw [pf_ujs, if_pos rfl]
            · have k12 : k < 12 := by omega
              have wz := w0 k k12
              refine q_hasKind hw m2' (by omega) (fun pk => b3 (by decide) ?_) (fun pk => b4 rfl ?_)
              · have wn : w k ≠ 0 := wz.mpr ⟨lz, pk⟩
                have lets : ∀ fu2 l, l ≤ 8 → 8 - l < fu2 → w_X12_next_68_n post (w_X12_next_43_n post fu) fu2 x2 (nI (nxS w k).2) (nI k) (nI (mxN (fun l => lcn (fun x => nb x k = l + 1) xs) l)) (nI l) I2 J2 := by
                  intro fu2
                  induction fu2 with
                  | zero => intro l _ h; omega
                  | succ fu2 ih2 =>
                    intro l hl hfu2
                    have ml : mxN (fun l => lcn (fun x => nb x k = l + 1) xs) l ≤ 20000 := mxN_le (fun l _ => Nat.le_trans lcn_le len)
                    show w_X12_next_68_s post (w_X12_next_43_n post fu) (w_X12_next_68_n post (w_X12_next_43_n post fu) fu2) _ _ _ _ _ I2 J2
                    unfold w_X12_next_68_s w_X12_next_151 w_X12_next_157
                    rw [show (8 : Int32) = nI 8 from rfl, pf_le (by omega) (by omega), nI_1]
                    refine ⟨fun e5 => ?_, fun e5 => ?_⟩
                    · rw [show l = 8 by omega, ← wk]
                      have wkB := wB k
                      have take : (nxS w k).1 = 0 ∨ w k < (nxS w k).2 → ∀ v : Int32, v = nI (k + 1) → w_X12_next_43_n post fu (nI k) (nI (w k)) v I2 J2 := by
                        rintro g _ rfl
                        have := ih (k + 1) (nI k) (by omega) (by omega) (Or.inr (by rw [nxS_y wn g]; exact ⟨by show 1 ≤ k + 1; omega, rfl⟩))
                        rw [nxS_y wn g] at this
                        exact this
                      rcases hx2 with ⟨x1', rfl⟩ | ⟨x1', rfl⟩
                      · exact b1 (by decide) (take (Or.inl x1'))
                      · refine b2 (pf_lt0 (by omega)) ?_
                        rw [pf_le (by omega) (by omega)]
                        refine ⟨fun y => ?_, fun y => take (Or.inr (by omega))⟩
                        rintro _ rfl
                        have g : ¬ ((nxS w k).1 = 0 ∨ w k < (nxS w k).2) := by omega
                        have := ih (k + 1) (nI ((nxS w k).1 - 1)) (by omega) (by omega) (Or.inr (by rw [nxS_n wn g]; exact ⟨x1', rfl⟩))
                        rw [nxS_n wn g] at this
                        exact this
                    · have cntr : ∀ fu3 r, r ≤ xs.length → xs.length - r < fu3 → w_X12_next_81_n post (w_X12_next_43_n post fu) (w_X12_next_68_n post (w_X12_next_43_n post fu) fu2) fu3 x2 (nI (nxS w k).2) (nI k) (nI (mxN (fun l => lcn (fun x => nb x k = l + 1) xs) l)) (nI l) (nI (cnt (fun j => nb (F j) k = l + 1) r)) (nI r) I2 J2 := by
                        intro fu3
                        induction fu3 with
                        | zero => intro r _ h; omega
                        | succ fu3 ih3 =>
                          intro r hr1 hfu3
                          have cl := cnt_le (fun j => nb (F j) k = l + 1) r
                          show w_X12_next_81_s post (w_X12_next_43_n post fu) (w_X12_next_68_n post (w_X12_next_43_n post fu) fu2) (w_X12_next_81_n post (w_X12_next_43_n post fu) (w_X12_next_68_n post (w_X12_next_43_n post fu) fu2) fu3) _ _ _ _ _ _ _ I2 J2
                          unfold w_X12_next_81_s w_X12_next_114
                          rw [e32, pf_le (by omega) (by omega), pf_cl (by omega)]
                          refine ⟨fun e6 => ?_, fun e6 => ⟨vp_in_nI (by omega) (by omega), ?_⟩⟩
                          · rw [show r = xs.length by omega, o2.2 (fun x => nb x k = l + 1)]
                            have lcl : lcn (fun x => nb x k = l + 1) xs ≤ 20000 := Nat.le_trans lcn_le len
                            refine q_maxT (by omega) (by omega) ?_
                            rw [nI_1]
                            rintro _ rfl
                            exact ih2 (l + 1) (by omega) (by omega)
                          · have fm := sr_mem o2 (show r < xs.length by omega)
                            rw [(f2 r (by omega)).1]
                            refine q_letterOf (xok _ fm).1 k12 ?_
                            rw [lt_l nb_lt (by omega), nI_1]
                            refine ⟨fun y => ?_, fun y => ?_⟩
                            · refine q_flag (fun _ => ?_) (fun x => absurd rfl x)
                              rw [Int32.add_zero]
                              rintro _ rfl _ rfl
                              have := ih3 (r + 1) (by omega) (by omega)
                              rw [cnt_n (p := fun j => nb (F j) k = l + 1) y] at this
                              exact this
                            · refine q_flag (fun x => absurd x (by decide)) (fun _ => ?_)
                              rw [nI_1]
                              rintro _ rfl _ rfl
                              have := ih3 (r + 1) (by omega) (by omega)
                              rw [cnt_s (p := fun j => nb (F j) k = l + 1) y] at this
                              exact this
                      exact ⟨xs.length + 1, cntr (xs.length + 1) 0 (by omega) (by omega)⟩
                exact ⟨9, lets 9 0 (by omega) (by omega)⟩
              · have wz0 : w k = 0 := by
                  by_cases y : w k = 0
                  · exact y
                  · exact absurd (wz.mp y).2 pk
                unfold w_X12_next_157
                rw [nI_1]
                rintro _ rfl
                have := ih (k + 1) x2 (by omega) (by omega) (by rw [nxS_0 wz0]; exact hx2)
                rw [nxS_0 wz0] at this
                exact this
        exact ⟨13, outer 13 0 (-1) (by omega) (by omega) (Or.inl ⟨rfl, rfl⟩)⟩
    · rw [← eT] at t2
      rcases hr with ⟨_, hr, h134, hj⟩ | ⟨c, _⟩
      · exact ⟨hr, fin_all hR0 ra h134 hj (ja 249 (by omega)) (fun p hp => by rw [r2 p (by omega), sUI_ne (by omega)]) (fun k hk => by rw [s2 k (by omega), pf_uis, if_neg (by omega)]) j2⟩
      · omega
  refine q_read (mode := 1) (det := 0) (MS := ms_1) (by decide) hw hc g1 hx e3 hww hcw ht (by omega) (by omega) (tk_1 hq (Nat.le_refl _)) (fun T S z k l hk hl => by rw [z _ (by omega)]; rfl) (fun I1 J1 r1 j1 t1 e1 rd1 => ?_) (fun I1 J1 r1 j1 t1 e1 => ?_)
  · have len := lev_len g1 t1
    rw [← exs] at rd1 len
    rw [← eT] at t1 e1
    have wB : ∀ k, w k ≤ 20000 := fun k => by
      rw [wk]; exact mxN_le (fun l _ => Nat.le_trans lcn_le len)
    refine q_many0 (n := T) (by omega) e1 (fun _ => b1 rfl ?_) (fun z => by omega)
    obtain ⟨u1, u2, u3, u4, u5, u6, u7⟩ := rd1
    obtain ⟨post, ep⟩ : ∃ post : Int32 → sI → sJ → Prop, post = fun r I1 J1 => w_X12_next (nI t) I1 J1 (fun r2 I2 J2 => r = r2 ∧ RR0 I2 J2) := ⟨_, rfl⟩
    rw [← ep]
    have loop : ∀ fu k (x2 : Int32), k ≤ 12 → 12 - k < fu → (((nxS w k).1 = 0 ∧ x2 = -2) ∨ (1 ≤ (nxS w k).1 ∧ x2 = nI ((nxS w k).1 - 1))) → w_X11_next_45_n post fu x2 (nI (nxS w k).2) (nI k) I1 J1 := by
      intro fu
      induction fu with
      | zero => intro k _ _ h; omega
      | succ fu ih =>
        intro k x2 hk hfu hx2
        have nb' := nxS_b (w := w) (B := 20000) (k := k) (fun i _ => wB i)
        have ne2 : ∀ n, n < 20 → ¬ nI n = -2 := by decide
        show w_X11_next_45_s post (w_X11_next_45_n post fu) _ _ _ I1 J1
        unfold w_X11_next_45_s w_X11_next_80 w_X11_next_86
        rw [show (12 : Int32) = nI 12 from rfl, pf_le (by omega) (by omega), nI_1]
        refine ⟨fun e => ?_, fun e => ?_⟩
        · have k12 : k = 12 := by omega
          subst k12
          rcases hx2 with ⟨x1', rfl⟩ | ⟨x1', rfl⟩
          · refine b1 rfl ?_
            rw [ep]
            exact model I1 J1 (-2) (fun p hp => r1 p (by omega)) (fun p hp => j1 p (by omega)) (Or.inr ⟨t1, Or.inl ⟨x1', rfl, by rw [r1 134 (by omega)], j1 135 (by omega)⟩⟩)
          · refine b2 (ne2 _ (by omega)) ?_
            refine q_X6_tell ?_
            rw [ep]
            exact model _ _ _ (fun p hp => by rw [sUI_ne (by omega), sUI_ne (by omega), r1 p (by omega)]) (fun p hp => by funext x; rw [pf_uj, if_neg (by omega), j1 p (by omega)]) (Or.inr ⟨t1, Or.inr ⟨x1', rfl, by rw [pf_uis, if_pos rfl], by rw [pf_ujs, if_pos rfl]⟩⟩)
        · have k12 : k < 12 := by omega
          refine q_worstOf (f := fun l => lcn (fun x => nb x k = l + 1) xs) k12 (fun l hl => ⟨by have := lcn_le (p := fun x => nb x k = l + 1) (xs := xs); show lcn (fun x => nb x k = l + 1) xs ≤ 20000; omega, u7 k l k12 hl⟩) ?_
          have wkB := wB k
          rw [← wk, pf_le0 (by omega), pf_le (by omega) (by omega)]
          refine ⟨fun wz0 => ?_, fun wn => ?_⟩
          · rintro _ rfl
            have := ih (k + 1) x2 (by omega) (by omega) (by rw [nxS_0 wz0]; exact hx2)
            rw [nxS_0 wz0] at this
            exact this
          · have take : (nxS w k).1 = 0 ∨ w k < (nxS w k).2 → ∀ v : Int32, v = nI (k + 1) → w_X11_next_45_n post fu (nI k) (nI (w k)) v I1 J1 := by
              rintro g _ rfl
              have := ih (k + 1) (nI k) (by omega) (by omega) (Or.inr (by rw [nxS_y wn g]; exact ⟨by show 1 ≤ k + 1; omega, rfl⟩))
              rw [nxS_y wn g] at this
              exact this
            rcases hx2 with ⟨x1', rfl⟩ | ⟨x1', rfl⟩
            · exact b1 rfl (take (Or.inl x1'))
            · refine b2 (ne2 _ (by omega)) ⟨fun y => ?_, fun y => take (Or.inr (by omega))⟩
              rintro _ rfl
              have g : ¬ ((nxS w k).1 = 0 ∨ w k < (nxS w k).2) := by omega
              have := ih (k + 1) (nI ((nxS w k).1 - 1)) (by omega) (by omega) (Or.inr (by rw [nxS_n wn g]; exact ⟨x1', rfl⟩))
              rw [nxS_n wn g] at this
              exact this
    exact ⟨13, loop 13 0 (-2) (by omega) (by omega) (Or.inl ⟨rfl, rfl⟩)⟩
  · rw [← eT] at t1
    refine q_many0 (n := 20001) (by omega) e1 (fun z => by omega) (fun _ => b2 (by decide) ?_)
    exact model I1 J1 (-3) (fun p hp => r1 p (by omega)) (fun p hp => j1 p (by omega)) (Or.inl ⟨t1, rfl, by rw [r1 134 (by omega)], j1 135 (by omega)⟩)
