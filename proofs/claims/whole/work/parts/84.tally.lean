theorem kn_pl {h d bk nw G P : Nat} {wl : Nat → Nat} {wt : Nat → Nat → Nat} {s κ : Nat → Nat} (hw : tWD G P s κ) {k : Nat} : knF (dQ h d bk nw wl wt s κ) G k ↔ ∃ p, p < P ∧ κ p = k := by
  constructor
  · rintro ⟨g, hg, j, hj, ej⟩
    have hj : j < s (g + 1) - s g := hj
    have ej : κ (if bk = 0 then s g + j else s (g + 1) - 1 - j) = k := ej
    have l3 := s_le hw (show g + 1 ≤ G by omega)
    exact ⟨_, by split <;> omega, ej⟩
  · rintro ⟨p, hp, ep⟩
    obtain ⟨g, hg, p1, p2⟩ := gof_ex hw hp
    by_cases b0 : bk = 0
    · refine ⟨g, hg, p - s g, by show p - s g < s (g + 1) - s g; omega, ?_⟩
      show κ (if bk = 0 then s g + (p - s g) else s (g + 1) - 1 - (p - s g)) = k
      rw [if_pos b0, show s g + (p - s g) = p by omega]; exact ep
    · refine ⟨g, hg, s (g + 1) - 1 - p, by show s (g + 1) - 1 - p < s (g + 1) - s g; omega, ?_⟩
      show κ (if bk = 0 then s g + (s (g + 1) - 1 - p) else s (g + 1) - 1 - (s (g + 1) - 1 - p)) = k
      rw [if_neg b0, show s (g + 1) - 1 - (s (g + 1) - 1 - p) = p by omega]; exact ep
theorem q_lettersOf {I : sI} {J : sJ} {post : Int32 → sI → sJ → Prop} {k : Nat} {f : Nat → Nat} (hk : k < 12) (hT : ∀ l, l < 8 → f l ≤ 20000 ∧ I 222 (k * 8 + l) = nI (f l)) (h : post (nI (msk (fun l => 0 < f l) 8)) I J) : w_X5_lettersOf (nI k) I J post := by
  have loop : ∀ m l, l ≤ 8 → 8 - l < m → w_X5_lettersOf_4_n post m (nI k) (nI (msk (fun l => 0 < f l) l)) (nI l) I J := by
    intro m
    induction m with
    | zero => intro l _ h; omega
    | succ m ih =>
      intro l hl hm
      show w_X5_lettersOf_4_s post (w_X5_lettersOf_4_n post m) _ _ _ I J
      unfold w_X5_lettersOf_4_s w_X5_lettersOf_32
      rw [show (8 : Int32) = nI 8 from rfl, pf_le (by omega) (by omega), pk_mul, nI_add, nI_1, pf_cl (by omega)]
      refine ⟨fun e => ?_, fun e => ⟨vp_in_nI (by omega) (by omega), ?_⟩⟩
      · rw [show l = 8 by omega]; exact h
      · obtain ⟨f1, f2⟩ := hT l (by omega)
        rw [f2, pf_le0 (by omega), sh1 l (by omega)]
        refine ⟨fun z => ?_, fun z => ?_⟩
        · rw [m_or0 (p := fun l => 0 < f l) (by show ¬ 0 < f l; omega)]
          rintro _ rfl _ rfl
          exact ih (l + 1) (by omega) (by omega)
        · rw [m_or (p := fun l => 0 < f l) (by show 0 < f l; omega)]
          rintro _ rfl _ rfl
          exact ih (l + 1) (by omega) (by omega)
  exact ⟨9, loop 9 0 (by omega) (by omega)⟩
def mxN (f : Nat → Nat) : Nat → Nat
  | 0 => 0
  | n + 1 => max (mxN f n) (f n)
theorem mxN_le {f : Nat → Nat} {B : Nat} : ∀ {n}, (∀ i, i < n → f i ≤ B) → mxN f n ≤ B
  | 0, _ => Nat.zero_le _
  | n + 1, h => Nat.max_le.mpr ⟨mxN_le (fun i hi => h i (by omega)), h n (by omega)⟩
theorem mxN_pos {f : Nat → Nat} : ∀ {n}, 0 < mxN f n ↔ ∃ i, i < n ∧ 0 < f i
  | 0 => ⟨fun h => absurd h (Nat.lt_irrefl 0), fun ⟨i, hi, _⟩ => by omega⟩
  | n + 1 => by
    have ih := mxN_pos (f := f) (n := n)
    rw [mxN]
    constructor
    · intro h
      by_cases z : 0 < f n
      · exact ⟨n, by omega, z⟩
      · obtain ⟨i, a, b⟩ := ih.mp (by omega)
        exact ⟨i, by omega, b⟩
    · rintro ⟨i, hi, a⟩
      by_cases z : i = n
      · subst z; omega
      · have := ih.mpr ⟨i, by omega, a⟩; omega
theorem q_maxT {I : sI} {J : sJ} {post : Int32 → sI → sJ → Prop} {a b : Nat} (ha : a < 2147483648) (hb : b < 2147483648) (h : post (nI (max a b)) I J) : w_J9_max_7cf53 (nI a) (nI b) I J post := by
  unfold w_J9_max_7cf53
  rw [pf_lt ha hb]
  refine ⟨fun z => ?_, fun z => ?_⟩
  · rw [Nat.max_eq_right (by omega)] at h; exact h
  · rw [Nat.max_eq_left (by omega)] at h; exact h
theorem q_worstOf {I : sI} {J : sJ} {post : Int32 → sI → sJ → Prop} {k : Nat} {f : Nat → Nat} (hk : k < 12) (hT : ∀ l, l < 8 → f l ≤ 20000 ∧ I 222 (k * 8 + l) = nI (f l)) (h : post (nI (mxN f 8)) I J) : w_X5_worstOf (nI k) I J post := by
  have loop : ∀ m l, l ≤ 8 → 8 - l < m → w_X5_worstOf_4_n post m (nI k) (nI (mxN f l)) (nI l) I J := by
    intro m
    induction m with
    | zero => intro l _ h; omega
    | succ m ih =>
      intro l hl hm
      show w_X5_worstOf_4_s post (w_X5_worstOf_4_n post m) _ _ _ I J
      unfold w_X5_worstOf_4_s
      have ml := mxN_le (f := f) (n := l) (fun i hi => (hT i (by omega)).1)
      rw [show (8 : Int32) = nI 8 from rfl, pf_le (by omega) (by omega), pk_mul, nI_add, pf_cl (by omega)]
      refine ⟨fun e => ?_, fun e => ⟨vp_in_nI (by omega) (by omega), ?_⟩⟩
      · rw [show l = 8 by omega]; exact h
      · obtain ⟨f1, f2⟩ := hT l (by omega)
        rw [f2]
        refine q_maxT (by omega) (by omega) ?_
        rw [nI_1]
        rintro _ rfl
        exact ih (l + 1) (by omega) (by omega)
  exact ⟨9, loop 9 0 (by omega) (by omega)⟩
theorem q_hasKind {I : sI} {J : sJ} {post : Int32 → sI → sJ → Prop} {G P k : Nat} {s κ : Nat → Nat} (hw : tWD G P s κ) (hm : mD G P s κ I) (hk : k < 100) (h1 : (∃ p, p < P ∧ κ p = k) → post 1 I J) (h0 : ¬ (∃ p, p < P ∧ κ p = k) → post 0 I J) : w_X12_hasKind (nI k) I J post := by
  have hP := hw.2.1
  have hκ := hw.2.2.2.2.2
  have loop : ∀ m p (x2 : Int32), p ≤ P → P - p < m → ((x2 = 1 ∧ ∃ p, p < P ∧ κ p = k) ∨ (x2 = 0 ∧ ∀ p2, p2 < p → κ p2 ≠ k)) → w_X12_hasKind_4_n post m (nI k) x2 (nI p) I J := by
    intro m
    induction m with
    | zero => intro p _ _ h; omega
    | succ m ih =>
      intro p x2 hp hm2 hx
      show w_X12_hasKind_4_s post (w_X12_hasKind_4_n post m) _ _ _ I J
      unfold w_X12_hasKind_4_s w_X12_hasKind_26 w_X12_hasKind_31
      rw [hm.2.1, pf_le (by omega) (by omega), nI_1, pf_cl (by omega)]
      rcases hx with ⟨rfl, hx⟩ | ⟨rfl, hx⟩
      · refine ⟨fun _ => ⟨Or.inr rfl, h1 hx⟩, fun e => b3 (by decide) ?_⟩
        rintro _ rfl
        exact ih (p + 1) 1 (by omega) (by omega) (Or.inl ⟨rfl, hx⟩)
      · refine ⟨fun e => ⟨Or.inl rfl, h0 (fun ⟨p2, a, b⟩ => hx p2 (by omega) b)⟩, fun e => b4 rfl ⟨vp_in_nI (by omega) (by omega), ?_⟩⟩
        have k1 := hκ p (by omega)
        rw [hm.2.2.2 p (by omega), pf_eq (by omega) (by omega)]
        refine ⟨fun z => ?_, fun z => ?_⟩
        · rintro _ rfl
          refine ih (p + 1) 0 (by omega) (by omega) (Or.inr ⟨rfl, fun p2 hp2 => ?_⟩)
          by_cases e2 : p2 = p
          · rw [e2]; exact z
          · exact hx p2 (by omega)
        · rintro _ rfl
          exact ih (p + 1) 1 (by omega) (by omega) (Or.inl ⟨rfl, p, by omega, z⟩)
  exact ⟨P + 1, loop (P + 1) 0 0 (by omega) (by omega) (Or.inr ⟨rfl, fun p2 hp2 => by omega⟩)⟩
theorem q_kindBits {I : sI} {J : sJ} {post : Int32 → sI → sJ → Prop} {G P : Nat} {s κ : Nat → Nat} (hw : tWD G P s κ) (hc : cD G P s κ 4 I) (h : post (nI (msk (fun k => ∃ p, p < P ∧ κ p = k) 13)) I J) : w_X2_kindBits 4 I J post := by
  have hP := hw.2.1
  have hκ := hw.2.2.2.2.2
  have e5 := (sRdisc 4 (by decide)).1
  have loop : ∀ m p, p ≤ P → P - p < m → w_X2_kindBits_4_n 4 post m (nI (msk (fun k => ∃ p2, p2 < p ∧ κ p2 = k) 13)) (nI p) I J := by
    intro m
    induction m with
    | zero => intro p _ h; omega
    | succ m ih =>
      intro p hp hm2
      show w_X2_kindBits_4_s 4 post (w_X2_kindBits_4_n 4 post m) _ _ I J
      unfold w_X2_kindBits_4_s
      rw [e5, hc.2.1, pf_le (by omega) (by omega), nI_1, pf_cl (by omega)]
      refine ⟨fun e => ?_, fun e => ⟨vp_in_nI (by omega) (by omega), ?_⟩⟩
      · rw [show p = P by omega]; exact h
      · have k1 := hκ p (by omega)
        rw [hc.2.2.2.1 p (by omega), sh1 _ (by omega), m_or1 (by omega)]
        rintro _ rfl _ rfl
        have nx := ih (p + 1) (by omega) (by omega)
        rw [msk_congr (p := fun k => ∃ p2, p2 < p + 1 ∧ κ p2 = k) (q := fun k => (∃ p2, p2 < p ∧ κ p2 = k) ∨ k = κ p) (n := 13) (fun k _ => ?_)] at nx
        · exact nx
        · constructor
          · rintro ⟨p2, a, b⟩
            by_cases e2 : p2 = p
            · rw [e2] at b; exact Or.inr b.symm
            · exact Or.inl ⟨p2, by omega, b⟩
          · rintro (⟨p2, a, b⟩ | e2)
            · exact ⟨p2, by omega, b⟩
            · exact ⟨p, by omega, e2.symm⟩
  have := loop (P + 1) 0 (by omega) (by omega)
  rw [(msk_zero (p := fun k => ∃ p2, p2 < 0 ∧ κ p2 = k) (n := 13)).mpr (fun i _ ⟨p2, a, _⟩ => by omega)] at this
  exact ⟨P + 1, this⟩
theorem cnt_1u {p : Nat → Prop} {n a b : Nat} (h : cnt p n = 1) (ha : a < n) (hb : b < n) (pa : p a) (pb : p b) : a = b := by
  by_cases e : a = b
  · exact e
  · have x := cnt_lt (p := fun k => p k ∧ k ≠ a) (q := p) (k := a) pa (fun z => z.2 rfl) ha (fun _ _ z => z.1)
    have y := cnt_ex (p := fun k => p k ∧ k ≠ a) (k := b) hb ⟨pb, fun z => e z.symm⟩
    omega
theorem cnt_1e {p : Nat → Prop} {n a : Nat} (ha : a < n) (pa : p a) (h : ∀ b, b < n → p b → b = a) : cnt p n = 1 := by
  rw [cnt_congr (q := fun k => k = a) (fun k hk => ⟨fun z => h k hk z, fun z => by rw [z]; exact pa⟩), cnt_one (p := fun k => k = a) (q := fun _ => False) (n := a) rfl (fun z => z) (fun i hi => ⟨fun z => absurd z hi, fun z => z.elim⟩) ha, cnt_0 (fun _ _ z => z)]
noncomputable def smK (xs : List Nat) (k : Nat) : Prop := cnt (fun l => 0 < lcn (fun x => nb x k = l + 1) xs) 8 = 1
theorem smK_iff {xs : List Nat} {k v : Nat} (hv : v ∈ xs) (hA : ∀ x, x ∈ xs → (nb x k ≠ 0 ↔ nb v k ≠ 0)) (hB : ∀ x, x ∈ xs → nb x k ≤ 8) : smK xs k ↔ (nb v k ≠ 0 ∧ ∀ x, x ∈ xs → nb x k = nb v k) := by
  constructor
  · intro h
    have h : cnt (fun l => 0 < lcn (fun x => nb x k = l + 1) xs) 8 = 1 := h
    obtain ⟨l, hl, pl⟩ := cnt_pos (show 0 < cnt (fun l => 0 < lcn (fun x => nb x k = l + 1) xs) 8 by omega)
    obtain ⟨x, hx, ex⟩ := lcn_pos.mp pl
    have nv : nb v k ≠ 0 := (hA x hx).mp (by omega)
    refine ⟨nv, fun y hy => ?_⟩
    have ny := (hA y hy).mpr nv
    have b1 := hB y hy
    have b2 := hB v hv
    have := cnt_1u h (a := nb y k - 1) (b := nb v k - 1) (by omega) (by omega) (lcn_pos.mpr ⟨y, hy, by show nb y k = nb y k - 1 + 1; omega⟩) (lcn_pos.mpr ⟨v, hv, by show nb v k = nb v k - 1 + 1; omega⟩)
    omega
  · rintro ⟨nv, h⟩
    have b2 := hB v hv
    refine cnt_1e (a := nb v k - 1) (by omega) (lcn_pos.mpr ⟨v, hv, by show nb v k = nb v k - 1 + 1; omega⟩) (fun l hl pl => ?_)
    obtain ⟨x, hx, ex⟩ := lcn_pos.mp pl
    have := h x hx
    omega
theorem S_sure {I : sI} {J : sJ} (a1 : Int32) (hR : RR0 I J) : St (w_X11_sure a1) (w_X12_sure a1) I J := by
  have hR0 := hR
  obtain ⟨hT, hD, hK, hW, hC, hQ, hX⟩ := hR
  obtain ⟨G, P, s, κ, h, d, bk, nw, wl, wt, hw, hx, hww, hc, hm, e3, e2, hcw, hmw⟩ := rd_get hD hW
  have hG := hw.1
  show w_X11_sure a1 I J _
  unfold w_X11_sure
  refine q_cannotR hG hc.1 (fun z g1 => b1 rfl ?_) (fun z => b2 (by decide) ?_)
  rotate_left
  · unfold w_X12_sure
    rintro _ rfl
    refine q_isAsked hG hm.1 (fun a b => absurd ⟨a, b⟩ z) (fun _ => b4 rfl ?_)
    exact ⟨rfl, (RT_congr hT rfl rfl rfl rfl), (RD_congr hD (fun q h1 h2 => by repeat rw [sUI_ne (by omega)]) rfl rfl rfl rfl rfl rfl rfl rfl rfl rfl rfl), (RK_congr hK (fun q h1 h2 => by repeat rw [sUI_ne (by omega)]) rfl rfl), (RW_congr hW (fun q h1 h2 => by repeat rw [sUI_ne (by omega)]) rfl rfl rfl), (RC_congr hC (fun q h1 h2 => by repeat rw [sUI_ne (by omega)]) rfl rfl rfl), (RR_congr hQ rfl rfl rfl rfl), (RX_congr hX rfl rfl rfl rfl rfl)⟩
  obtain ⟨t, ht, rfl⟩ := z
  have hq := dQ_O hw hx hww ht
  obtain ⟨xs, exs⟩ : ∃ xs, xs = lev (chF (dQ h d bk (nw t) (wl t) (wt t) s κ)) G := ⟨_, rfl⟩
  obtain ⟨T, eT⟩ : ∃ T, T = tot (chF (dQ h d bk (nw t) (wl t) (wt t) s κ)) G := ⟨_, rfl⟩
  have xok : ∀ x, x ∈ xs → ndO (knF (dQ h d bk (nw t) (wl t) (wt t) s κ) G) (qH (dQ h d bk (nw t) (wl t) (wt t) s κ)) x := fun x hx2 => lev_ok hq (Nat.le_refl _) (by rw [← exs]; exact hx2)
  have x8 : ∀ x, x ∈ xs → ∀ k, k < 12 → nb x k ≤ 8 := fun x hx2 => lev_8 hq (Nat.le_refl _) (by rw [← exs]; exact hx2)
  have smi : ∀ v, v ∈ xs → ∀ k, k < 12 → (smK xs k ↔ (nb v k ≠ 0 ∧ ∀ x, x ∈ xs → nb x k = nb v k)) := fun v hv k hk => smK_iff hv (fun x hx2 => ((xok x hx2).2.1 k hk).trans ((xok v hv).2.1 k hk).symm) (fun x hx2 => x8 x hx2 k hk)
  have model : ∀ (I1 : sI) (J1 : sJ) (r : Int32), (∀ p, ¬ (p = 134 ∨ (136 ≤ p ∧ p ≤ 137) ∨ (142 ≤ p ∧ p ≤ 223)) → I1 p = I p) → (∀ p, ¬ (p = 135 ∨ (142 ≤ p ∧ p ≤ 223)) → J1 p = J p) → ((20000 < T ∧ r = -3 ∧ I1 134 1 = I 134 1 ∧ J1 135 = J 135) ∨ (T ≤ 20000 ∧ ((xs.length = 0 ∧ r = -2 ∧ I1 134 1 = I 134 1 ∧ J1 135 = J 135) ∨ (1 ≤ xs.length ∧ r = nI (msk (smK xs) 12) ∧ I1 134 1 = nI 12 ∧ ∃ v, v ∈ xs ∧ (∀ x, x ∈ xs → v ≤ x) ∧ ∀ k, k < 12 → J1 135 k = if bp (smK xs k) = true then (nI (nb v k) - 1).toInt64 else -1)))) → w_X12_sure (nI t) I1 J1 (fun r2 I2 J2 => r = r2 ∧ RR0 I2 J2) := by
    intro I1 J1 r ra ja hr
    unfold w_X12_sure
    rintro _ rfl
    obtain ⟨m1, m2, m3⟩ := mset hm e2 hmw (I1 := I1) (fun p hp => ra p (by omega))
    refine q_isAsked hG m1.1 (fun _ _ => b3 (by decide) ?_) (fun q => absurd ⟨⟨t, ht, rfl⟩, g1⟩ q)
    refine q_all hw m1 g1 hx m2 hww m3 ht (fun I2 J2 F r2 s2 j2 t2 e30 e32 f2 o2 _ => b3 (by decide) ?_) (fun I2 J2 r2 s2 j2 t2 e30 => b4 rfl ?_)
    · have len := lev_len g1 t2
      rw [← exs] at e32 f2 o2 len
      rw [← eT] at t2
      rcases hr with ⟨c, _⟩ | ⟨_, hr⟩
      · omega
      rw [e32, pf_eq0 (by omega)]
      rcases hr with ⟨l0, hr, h134, hj⟩ | ⟨l1, hr, h134, v, v1, v2, v3⟩
      · exact b4 l0 ⟨hr, fin_all hR0 ra h134 hj (ja 249 (by omega)) (fun p hp => by rw [r2 p (by omega), sUI_ne (by omega)]) (fun k hk => by rw [s2 k (by omega), pf_uis, if_neg (by omega)]) j2⟩
      · refine b3 (by omega) ?_
        rintro _ rfl
        have F0 := sr_least o2 v1 v2
        have v48 := (xok v v1).1
        obtain ⟨post, ep⟩ : ∃ post : Int32 → sI → sJ → Prop, post = fun r2 I2 J2 => r = r2 ∧ RR0 I2 J2 := ⟨_, rfl⟩
        rw [← ep]
        have J0 : ∀ J3 : sJ, J3 265 = J2 265 → J3 265 0 = lN v := fun J3 e => by rw [e, (f2 0 (by omega)).1, F0]
        have outer : ∀ f k (I3 : sI) (J3 : sJ), k ≤ 12 → 12 - k < f → (∀ p, ¬ p = 248 → I3 p = I2 p) → (∀ k, ¬ k = 1 → I3 248 k = I2 248 k) → I3 248 1 = nI k → (∀ p, ¬ p = 249 → J3 p = J2 p) → (∀ j, j < k → J3 249 j = if bp (smK xs j) = true then (nI (nb v j) - 1).toInt64 else -1) → w_X12_sure_45_n post f (nI (msk (smK xs) k)) (nI k) I3 J3 := by
          intro f
          induction f with
          | zero => intro k _ _ _ h; omega
          | succ f ih =>
            intro k I3 J3 hk hf r3 s3 e3' j3 c3
            show w_X12_sure_45_s post (w_X12_sure_45_n post f) _ _ I3 J3
            unfold w_X12_sure_45_s
            rw [show (12 : Int32) = nI 12 from rfl, pf_le (by omega) (by omega), c_z, J0 J3 (j3 265 (by omega))]
            refine ⟨fun e => ?_, fun e => ⟨vp_in_nI (n := 0) (by omega) (by omega), ?_⟩⟩
            · rw [show k = 12 by omega] at e3' c3 ⊢
              rw [ep]
              refine ⟨hr, fin_row hR0 ra (fun p hp => by rw [r3 p (by omega), r2 p (by omega), sUI_ne (by omega)]) (fun k hk => by rw [s3 k (by omega), s2 k (by omega), pf_uis, if_neg (by omega)]) (RR_12 (by rw [r3 134 (by omega), r2 134 (by omega), sUI_ne (by omega)]; exact h134) e3' (fun k hk => ?_))⟩
              rw [j3 135 (by omega), j2 135 (by omega), v3 k hk, c3 k hk]
            · have k12 : k < 12 := by omega
              have tail : ∀ x4 : Int32, ((x4 = 1 ∧ smK xs k) ∨ (x4 = 0 ∧ ¬ smK xs k)) → w_X12_sure_125 post (w_X12_sure_45_n post f) (nI (msk (smK xs) k)) (nI k) x4 I3 J3 := by
                intro x4 hx4
                unfold w_X12_sure_125 w_X12_sure_148 w_X12_sure_164
                rw [c_z, J0 J3 (j3 265 (by omega)), nI_1, sh1 k (by omega)]
                rcases hx4 with ⟨rfl, sm⟩ | ⟨rfl, sm⟩
                · refine b2 (by decide) ⟨vp_in_nI (n := 0) (by omega) (by omega), ?_⟩
                  refine q_letterOf v48 k12 ?_
                  refine q_enters e3' (by omega) (b2 (by decide) ?_)
                  rw [m_or sm]
                  rintro _ rfl _ rfl
                  refine ih (k + 1) _ _ (by omega) (by omega) (fun p hp => by rw [sUI_ne hp, r3 p hp]) (fun j hj => by rw [pf_uis, if_neg hj, s3 j hj]) (by rw [pf_uis, if_pos rfl]) (fun p hp => by funext x; rw [pf_uj, if_neg (by omega), j3 p hp]) (fun j hj => ?_)
                  rw [pf_ujs]
                  by_cases z2 : j = k
                  · rw [if_pos z2, z2, if_pos (bp_t.mpr sm)]
                  · rw [if_neg z2, c3 j (by omega)]
                · refine b1 rfl ?_
                  refine q_enters e3' (by omega) (b1 rfl ?_)
                  rw [m_or0 sm]
                  rintro _ rfl _ rfl
                  refine ih (k + 1) _ _ (by omega) (by omega) (fun p hp => by rw [sUI_ne hp, r3 p hp]) (fun j hj => by rw [pf_uis, if_neg hj, s3 j hj]) (by rw [pf_uis, if_pos rfl]) (fun p hp => by funext x; rw [pf_uj, if_neg (by omega), j3 p hp]) (fun j hj => ?_)
                  rw [pf_ujs]
                  by_cases z2 : j = k
                  · rw [if_pos z2, z2, if_neg (fun y => sm (bp_t.mp y))]
                  · rw [if_neg z2, c3 j (by omega)]
              have cmp : ∀ fu r (x4 : Int32), r ≤ xs.length → 1 ≤ r → xs.length - r < fu → ((x4 = 1 ∧ nb v k ≠ 0 ∧ ∀ j, j < r → nb (F j) k = nb v k) ∨ (x4 = 0 ∧ ¬ smK xs k)) → w_X12_sure_74_n post (w_X12_sure_45_n post f) fu (nI (msk (smK xs) k)) (nI k) x4 (nI r) I3 J3 := by
                intro fu
                induction fu with
                | zero => intro r _ _ _ h; omega
                | succ fu ih2 =>
                  intro r x4 hr1 hr2 hfu hx4
                  show w_X12_sure_74_s post (w_X12_sure_45_n post f) (w_X12_sure_74_n post (w_X12_sure_45_n post f) fu) _ _ _ _ I3 J3
                  unfold w_X12_sure_74_s w_X12_sure_117
                  rw [s3 32 (by omega), e32, pf_le (by omega) (by omega)]
                  rcases hx4 with ⟨rfl, nv, al⟩ | ⟨rfl, sm⟩
                  · refine ⟨fun e5 => tail 1 (Or.inl ⟨rfl, (smi v v1 k k12).mpr ⟨nv, fun x hx2 => ?_⟩⟩), fun e5 => b2 (by decide) ?_⟩
                    · obtain ⟨j, hj, ej⟩ := sr_ix o2 hx2
                      rw [← ej]; exact al j (by omega)
                    · rw [pf_cl (by omega), j3 265 (by omega), (f2 r (by omega)).1]
                      refine ⟨vp_in_nI (by omega) (by omega), ?_⟩
                      have fr48 := (xok _ (sr_mem o2 (show r < xs.length by omega))).1
                      refine q_letterOf fr48 k12 ?_
                      rw [c_z, J0 J3 (j3 265 (by omega))]
                      refine ⟨vp_in_nI (n := 0) (by omega) (by omega), ?_⟩
                      refine q_letterOf v48 k12 ?_
                      rw [nI_1]
                      obtain ⟨u, eu⟩ : ∃ u, nb v k = u + 1 := ⟨nb v k - 1, by omega⟩
                      have u15 := nb_lt (c := v) (k := k)
                      rw [eu, nI_p (n := u + 1) (by omega), Nat.add_sub_cancel, lt_l nb_lt (by omega)]
                      refine ⟨fun y => ?_, fun y => ?_⟩
                      · rintro _ rfl
                        refine ih2 (r + 1) 0 (by omega) (by omega) (by omega) (Or.inr ⟨rfl, fun sm => y ?_⟩)
                        rw [← eu]
                        exact ((smi v v1 k k12).mp sm).2 _ (sr_mem o2 (by omega))
                      · rintro _ rfl
                        refine ih2 (r + 1) 1 (by omega) (by omega) (by omega) (Or.inl ⟨rfl, nv, fun j hj => ?_⟩)
                        by_cases ej : j = r
                        · rw [ej, y, eu]
                        · exact al j (by omega)
                  · exact ⟨fun _ => tail 0 (Or.inr ⟨rfl, sm⟩), fun _ => b1 rfl (tail 0 (Or.inr ⟨rfl, sm⟩))⟩
              refine q_letterOf v48 k12 ?_
              unfold w_X12_sure_69
              by_cases nv : nb v k = 0
              · rw [ltz nv]
                refine b1 (by decide) ⟨xs.length + 1, cmp (xs.length + 1) 1 0 (by omega) (by omega) (by omega) (Or.inr ⟨rfl, fun sm => ((smi v v1 k k12).mp sm).1 nv⟩)⟩
              · refine b2 (by rw [nI_p (by omega)]; exact pf_lt0 (by have := nb_lt (c := v) (k := k); omega)) ⟨xs.length + 1, cmp (xs.length + 1) 1 1 (by omega) (by omega) (by omega) (Or.inl ⟨rfl, nv, fun j hj => by rw [show j = 0 by omega, F0]⟩)⟩
        refine ⟨13, outer 13 0 _ J2 (by omega) (by omega) (fun p hp => sUI_ne hp) (fun k hk => by rw [pf_uis, if_neg hk]) (by rw [pf_uis, if_pos rfl]; rfl) (fun _ _ => rfl) (fun j hj => by omega)⟩
    · rw [← eT] at t2
      rcases hr with ⟨_, hr, h134, hj⟩ | ⟨c, _⟩
      · exact ⟨hr, fin_all hR0 ra h134 hj (ja 249 (by omega)) (fun p hp => by rw [r2 p (by omega), sUI_ne (by omega)]) (fun k hk => by rw [s2 k (by omega), pf_uis, if_neg (by omega)]) j2⟩
      · omega
  refine q_read (mode := 1) (det := 0) (MS := ms_1) (by decide) hw hc g1 hx e3 hww hcw ht (by omega) (by omega) (tk_1 hq (Nat.le_refl _)) (fun T S z k l hk hl => by rw [z _ (by omega)]; rfl) (fun I1 J1 r1 j1 t1 e1 rd1 => ?_) (fun I1 J1 r1 j1 t1 e1 => ?_)
  · have len := lev_len g1 t1
    rw [← exs] at rd1 len
    rw [← eT] at t1 e1
    refine q_many0 (n := T) (by omega) e1 (fun _ => b1 rfl ?_) (fun z => by omega)
    obtain ⟨u1, u2, u3, u4, u5, u6, u7⟩ := rd1
    rw [u1, pf_eq0 (by omega)]
    refine ⟨fun z => ?_, fun z => ?_⟩
    · rintro _ rfl
      obtain ⟨v, v0, v1, v2⟩ := u6 (fun e => z (by rw [e]; rfl))
      have v48 := (xok v v1).1
      obtain ⟨post, ep⟩ : ∃ post : Int32 → sI → sJ → Prop, post = fun r I1 J1 => w_X12_sure (nI t) I1 J1 (fun r2 I2 J2 => r = r2 ∧ RR0 I2 J2) := ⟨_, rfl⟩
      rw [← ep]
      have loop : ∀ f k (I3 : sI) (J3 : sJ), k ≤ 12 → 12 - k < f → (∀ p, ¬ p = 134 → I3 p = I1 p) → I3 134 1 = nI k → (∀ p, ¬ p = 135 → J3 p = J1 p) → (∀ j, j < k → J3 135 j = if bp (smK xs j) = true then (nI (nb v j) - 1).toInt64 else -1) → w_X11_sure_62_n post f (nI (msk (smK xs) k)) (nI k) I3 J3 := by
        intro f
        induction f with
        | zero => intro k _ _ _ h; omega
        | succ f ih =>
          intro k I3 J3 hk hf r3 e3' j3 c3
          show w_X11_sure_62_s post (w_X11_sure_62_n post f) _ _ I3 J3
          unfold w_X11_sure_62_s w_X11_sure_88 w_X11_sure_103 w_X11_sure_132
          rw [show (12 : Int32) = nI 12 from rfl, pf_le (by omega) (by omega)]
          refine ⟨fun e => ?_, fun e => ?_⟩
          · rw [show k = 12 by omega] at e3' c3 ⊢
            rw [ep]
            exact model I3 J3 _ (fun p hp => by rw [r3 p (by omega), r1 p (by omega)]) (fun p hp => by rw [j3 p (by omega), j1 p (by omega)]) (Or.inr ⟨t1, Or.inr ⟨by omega, rfl, e3', v, v1, v2, c3⟩⟩)
          · have k12 : k < 12 := by omega
            refine q_lettersOf (f := fun l => lcn (fun x => nb x k = l + 1) xs) k12 (fun l hl => ⟨by have := lcn_le (p := fun x => nb x k = l + 1) (xs := xs); show lcn (fun x => nb x k = l + 1) xs ≤ 20000; omega, by rw [r3 222 (by omega)]; exact u7 k l k12 hl⟩) ?_
            refine q_bitCount (by omega) ?_
            have cl := cnt_le (fun l => 0 < lcn (fun x => nb x k = l + 1) xs) 8
            rw [show (1 : Int32) = nI 1 from rfl, pf_eq (by omega) (by omega), j3 220 (by omega), v0]
            refine ⟨fun sm => b1 rfl ?_, fun sm => b2 (by decide) ?_⟩
            · have sm : ¬ smK xs k := sm
              rw [m_or0 sm]
              rintro _ rfl
              refine b1 rfl ?_
              refine q_X6_put (by decide) e3' (by omega) ?_
              rintro _ rfl
              have : nI k + nI 1 = nI (k + 1) := by rw [nI_add]
              rw [this]
              refine ih (k + 1) _ _ (by omega) (by omega) (fun p hp => by rw [sUI_ne hp, r3 p hp]) (by rw [pf_uis, if_pos rfl]) (fun p hp => by funext x; rw [pf_uj, if_neg (by omega), j3 p hp]) (fun j hj => ?_)
              rw [pf_ujs]
              by_cases z2 : j = k
              · rw [if_pos z2, z2, if_neg (fun y => sm (bp_t.mp y))]
              · rw [if_neg z2, c3 j (by omega)]
            · have sm : smK xs k := sm
              rw [show (nI 1 : Int32) <<< (nI k &&& 31) = nI (2 ^ k) from sh1 k (by omega), m_or sm]
              rintro _ rfl
              refine b2 (by decide) ?_
              refine q_letterIn v48 k12 ?_
              refine q_X6_put (by decide) e3' (by omega) ?_
              rintro _ rfl
              have : nI k + nI 1 = nI (k + 1) := by rw [nI_add]
              rw [this]
              refine ih (k + 1) _ _ (by omega) (by omega) (fun p hp => by rw [sUI_ne hp, r3 p hp]) (by rw [pf_uis, if_pos rfl]) (fun p hp => by funext x; rw [pf_uj, if_neg (by omega), j3 p hp]) (fun j hj => ?_)
              rw [pf_ujs]
              by_cases z2 : j = k
              · rw [if_pos z2, z2, if_pos (bp_t.mpr sm)]
              · rw [if_neg z2, c3 j (by omega)]
      exact ⟨13, loop 13 0 _ J1 (by omega) (by omega) (fun p hp => sUI_ne hp) (by rw [pf_uis, if_pos rfl]; rfl) (fun _ _ => rfl) (fun j hj => by omega)⟩
    · exact model I1 J1 (-2) (fun p hp => r1 p (by omega)) (fun p hp => j1 p (by omega)) (Or.inr ⟨t1, Or.inl ⟨z, rfl, by rw [r1 134 (by omega)], j1 135 (by omega)⟩⟩)
  · rw [← eT] at t1
    refine q_many0 (n := 20001) (by omega) e1 (fun z => by omega) (fun _ => b2 (by decide) ?_)
    exact model I1 J1 (-3) (fun p hp => r1 p (by omega)) (fun p hp => j1 p (by omega)) (Or.inl ⟨t1, rfl, by rw [r1 134 (by omega)], j1 135 (by omega)⟩)
