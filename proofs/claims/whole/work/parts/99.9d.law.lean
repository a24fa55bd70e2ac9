/-- the table -/
theorem l_table {X : sX} {L ce sl : Nat} {xs : Nat → Int32} {i y : Int32} {I : sI} {J : sJ} (hc : ce + 1 ≤ 601024 ∧ sl + 6 ≤ 7293034) (h0 : sOK X cL_law RL 8 40 1200) (ho0 : lO X L xs) (h : sOK (xC X ce sl) cL_law RL 8 40 1200) (ho : lO (xC X ce sl) L xs) (v1 : vp_in (i + 1) L) (v2 : vp_in (i + 2) L) (v3 : vp_in (i + 3) L) (v4 : vp_in (i + 4) L) (v5 : vp_in (i + 5) L) (hR : RR0 I J) (kk0 : ∀ I1 J1, RR0 I1 J1 → sG (xC X ce sl) 8 1533 [(0, .ref 282), (1, .ref 0), (2, .ref 248), (3, .ref 281), (4, .int i)] [] I1 J1) (kk1 : ∀ I1 J1, RR0 I1 J1 → sG (xC X (ce + 1) (sl + 6)) 8 1533 [(0, .ref 282), (1, .ref 0), (2, .ref 248), (3, .ref 281), (4, .int i)] [] I1 J1) : sG (xC X ce sl) 8 40 [(0, .ref 282), (1, .ref 0), (2, .ref 248), (3, .ref 281), (4, .int i)] [.int y] I J := by
  by_cases z : y.toInt < 0 ∨ 47 < y.toInt
  · exact l_tabOut h dL_law_40 z (by decide) (kk0 I J hR)
  · have z1 : ¬ y.toInt < 0 := fun q => z (Or.inl q)
    have z2 : ¬ 47 < y.toInt := fun q => z (Or.inr q)
    obtain ⟨n, e⟩ : ∃ n : Nat, y.toInt = (n : Int) := ⟨y.toInt.toNat, by omega⟩
    have hn : n < 48 := by omega
    have key : ∀ (off : Int) (tgt : Nat), (#[208, 233, 258, 271, 296, 309, 334, 390, 415, 452, 477, 514, 551, 564, 589, 614, 639, 676, 701, 738, 775, 788, 825, 850, 863, 876, 889, 902, 915, 952, 965, 978, 1015, 1076, 1089, 1138, 1211, 1248, 1261, 1286, 1299, 1312, 1325, 1338, 1363, 1388, 1413, 1438] : Array Int)[n]? = some off → ((40 : Nat) : Int) + off = (tgt : Int) → sG (xC X ce sl) 8 tgt [(0, .ref 282), (1, .ref 0), (2, .ref 248), (3, .ref 281), (4, .int i)] [] I J → sG (xC X ce sl) 8 40 [(0, .ref 282), (1, .ref 0), (2, .ref 248), (3, .ref 281), (4, .int i)] [.int y] I J := fun off tgt ho2 ht k => l_tabIn h dL_law_40 z1 z2 (by rw [show (y.toInt - 0).toNat = n by omega]; exact ho2) ht k
    match n, hn, key with
    | 0, _, key => exact key 208 248 rfl (by decide) (k_0 h ho v1 v2 v3 v4 v5 hR kk0)
    | 1, _, key => exact key 233 273 rfl (by decide) (k_1 h ho v1 v2 v3 v4 v5 hR kk0)
    | 2, _, key => exact key 258 298 rfl (by decide) (k_2 h ho v1 v2 v3 v4 v5 hR kk0)
    | 3, _, key => exact key 271 311 rfl (by decide) (k_3 h ho v1 v2 v3 v4 v5 hR kk0)
    | 4, _, key => exact key 296 336 rfl (by decide) (k_4 h ho v1 v2 v3 v4 v5 hR kk0)
    | 5, _, key => exact key 309 349 rfl (by decide) (k_5 h ho v1 v2 v3 v4 v5 hR kk0)
    | 6, _, key => exact key 334 374 rfl (by decide) (k_6 h0 ho0 hc h ho v1 v2 v3 v4 v5 hR kk1)
    | 7, _, key => exact key 390 430 rfl (by decide) (k_7 h ho v1 v2 v3 v4 v5 hR kk0)
    | 8, _, key => exact key 415 455 rfl (by decide) (k_8 h ho v1 v2 v3 v4 v5 hR kk0)
    | 9, _, key => exact key 452 492 rfl (by decide) (k_9 h ho v1 v2 v3 v4 v5 hR kk0)
    | 10, _, key => exact key 477 517 rfl (by decide) (k_10 h ho v1 v2 v3 v4 v5 hR kk0)
    | 11, _, key => exact key 514 554 rfl (by decide) (k_11 h ho v1 v2 v3 v4 v5 hR kk0)
    | 12, _, key => exact key 551 591 rfl (by decide) (k_12 h ho v1 v2 v3 v4 v5 hR kk0)
    | 13, _, key => exact key 564 604 rfl (by decide) (k_13 h ho v1 v2 v3 v4 v5 hR kk0)
    | 14, _, key => exact key 589 629 rfl (by decide) (k_14 h ho v1 v2 v3 v4 v5 hR kk0)
    | 15, _, key => exact key 614 654 rfl (by decide) (k_15 h ho v1 v2 v3 v4 v5 hR kk0)
    | 16, _, key => exact key 639 679 rfl (by decide) (k_16 h ho v1 v2 v3 v4 v5 hR kk0)
    | 17, _, key => exact key 676 716 rfl (by decide) (k_17 h ho v1 v2 v3 v4 v5 hR kk0)
    | 18, _, key => exact key 701 741 rfl (by decide) (k_18 h ho v1 v2 v3 v4 v5 hR kk0)
    | 19, _, key => exact key 738 778 rfl (by decide) (k_19 h ho v1 v2 v3 v4 v5 hR kk0)
    | 20, _, key => exact key 775 815 rfl (by decide) (k_20 h ho v1 v2 v3 v4 v5 hR kk0)
    | 21, _, key => exact key 788 828 rfl (by decide) (k_21 h ho v1 v2 v3 v4 v5 hR kk0)
    | 22, _, key => exact key 825 865 rfl (by decide) (k_22 h ho v1 v2 v3 v4 v5 hR kk0)
    | 23, _, key => exact key 850 890 rfl (by decide) (k_23 h ho v1 v2 v3 v4 v5 hR kk0)
    | 24, _, key => exact key 863 903 rfl (by decide) (k_24 h ho v1 v2 v3 v4 v5 hR kk0)
    | 25, _, key => exact key 876 916 rfl (by decide) (k_25 h ho v1 v2 v3 v4 v5 hR kk0)
    | 26, _, key => exact key 889 929 rfl (by decide) (k_26 h ho v1 v2 v3 v4 v5 hR kk0)
    | 27, _, key => exact key 902 942 rfl (by decide) (k_27 h ho v1 v2 v3 v4 v5 hR kk0)
    | 28, _, key => exact key 915 955 rfl (by decide) (k_28 h ho v1 v2 v3 v4 v5 hR kk0)
    | 29, _, key => exact key 952 992 rfl (by decide) (k_29 h ho v1 v2 v3 v4 v5 hR kk0)
    | 30, _, key => exact key 965 1005 rfl (by decide) (k_30 h ho v1 v2 v3 v4 v5 hR kk0)
    | 31, _, key => exact key 978 1018 rfl (by decide) (k_31 h ho v1 v2 v3 v4 v5 hR kk0)
    | 32, _, key => exact key 1015 1055 rfl (by decide) (k_32 h ho v1 v2 v3 v4 v5 hR kk0)
    | 33, _, key => exact key 1076 1116 rfl (by decide) (k_33 h ho v1 v2 v3 v4 v5 hR kk0)
    | 34, _, key => exact key 1089 1129 rfl (by decide) (k_34 h ho v1 v2 v3 v4 v5 hR kk0)
    | 35, _, key => exact key 1138 1178 rfl (by decide) (k_35 h ho v1 v2 v3 v4 v5 hR kk0)
    | 36, _, key => exact key 1211 1251 rfl (by decide) (k_36 h ho v1 v2 v3 v4 v5 hR kk0)
    | 37, _, key => exact key 1248 1288 rfl (by decide) (k_37 h ho v1 v2 v3 v4 v5 hR kk0)
    | 38, _, key => exact key 1261 1301 rfl (by decide) (k_38 h ho v1 v2 v3 v4 v5 hR kk0)
    | 39, _, key => exact key 1286 1326 rfl (by decide) (k_39 h ho v1 v2 v3 v4 v5 hR kk0)
    | 40, _, key => exact key 1299 1339 rfl (by decide) (k_40 h ho v1 v2 v3 v4 v5 hR kk0)
    | 41, _, key => exact key 1312 1352 rfl (by decide) (k_41 h ho v1 v2 v3 v4 v5 hR kk0)
    | 42, _, key => exact key 1325 1365 rfl (by decide) (k_42 h ho v1 v2 v3 v4 v5 hR kk0)
    | 43, _, key => exact key 1338 1378 rfl (by decide) (k_43 h ho v1 v2 v3 v4 v5 hR kk0)
    | 44, _, key => exact key 1363 1403 rfl (by decide) (k_44 h ho v1 v2 v3 v4 v5 hR kk0)
    | 45, _, key => exact key 1388 1428 rfl (by decide) (k_45 h ho v1 v2 v3 v4 v5 hR kk0)
    | 46, _, key => exact key 1413 1453 rfl (by decide) (k_46 h ho v1 v2 v3 v4 v5 hR kk0)
    | 47, _, key => exact key 1438 1478 rfl (by decide) (k_47 h0 ho0 hc h ho v1 v2 v3 v4 v5 hR kk1)
    | n + 48, hn, _ => exact absurd hn (by omega)
/-! the law's loop -/
theorem l_step {L k : Nat} (hL : L ≤ 3072) (hk : 6 * k ≤ L) (h : ¬ nI L - 6 < nI (6 * k)) : 6 * k + 6 ≤ L := by
  by_cases h6 : 6 ≤ L
  · have e : nI L - 6 = nI (L - 6) := by
      have : nI (L - 6) + nI 6 = nI L := by rw [nI_add, Nat.sub_add_cancel h6]
      rw [← this, show nI 6 = (6 : Int32) by decide]
      exact Int32.add_sub_cancel _ _
    rw [e, nI_ltI (by omega) (by omega)] at h
    omega
  · exfalso
    have k0 : k = 0 := by omega
    subst k0
    apply h
    rcases (show L = 0 ∨ L = 1 ∨ L = 2 ∨ L = 3 ∨ L = 4 ∨ L = 5 by omega) with rfl | rfl | rfl | rfl | rfl | rfl <;> decide
theorem l_loop {X : sX} {L : Nat} {xs : Nat → Int32} (hL : L ≤ 3072) (h0 : sOK X cL_law RL 8 40 1200) (ho0 : lO X L xs) : ∀ (n k ce sl : Nat) (I : sI) (J : sJ), L + 1 ≤ 6 * k + n → 6 * k ≤ L → ce = 282 + k → sl = 126449 + 6 * k → RR0 I J → sG (xC X ce sl) 8 23 [(0, .ref 282), (1, .ref 0), (2, .ref 248), (3, .ref 281), (4, .int (nI (6 * k)))] [] I J := by
  intro n
  induction n with
  | zero =>
    intro k ce sl I J h1 h2
    exact absurd h1 (by omega)
  | succ n ih =>
    intro k ce sl I J h1 h2 hce hsl hR
    obtain ⟨h, ho⟩ := xC_ok (ce := ce) (sl := sl) h0 ho0 (by omega) (by omega)
    refine g_iload h 4 rfl dL_law_23 ?_
    refine g_aload_n h rfl 0 rfl dL_law_25 ?_
    refine l_slen h ho dL_law_26 ?_
    refine g_bipush (v := 6) h (by decide) dL_law_27 ?_
    refine g_isub h dL_law_29 ?_
    refine g_icmp_gt (tgt := 1539) h (by decide) dL_law_30 (fun _ => ?_) (fun z => ?_)
    · refine g_iconst (v := 1) h (by decide) dL_law_1539 ?_
      exact l_end h ho dL_law_1540
    · have hs := l_step hL h2 z
      have vj : ∀ j : Nat, j ≤ 5 → vp_in (nI (6 * k) + nI j) L := fun j hj => by rw [nI_add]; exact vp_in_nI (by omega) (by omega)
      have v0 : vp_in (nI (6 * k)) L := vp_in_nI (by omega) (by omega)
      have v1 : vp_in (nI (6 * k) + 1) L := vj 1 (by decide)
      have v2 : vp_in (nI (6 * k) + 2) L := vj 2 (by decide)
      have v3 : vp_in (nI (6 * k) + 3) L := vj 3 (by decide)
      have v4 : vp_in (nI (6 * k) + 4) L := vj 4 (by decide)
      have v5 : vp_in (nI (6 * k) + 5) L := vj 5 (by decide)
      have hc : ce + 1 ≤ 601024 ∧ sl + 6 ≤ 7293034 := ⟨by omega, by omega⟩
      have kk1 : ∀ I1 J1, RR0 I1 J1 → sG (xC X (ce + 1) (sl + 6)) 8 1533 [(0, .ref 282), (1, .ref 0), (2, .ref 248), (3, .ref 281), (4, .int (nI (6 * k)))] [] I1 J1 := fun I1 J1 hR1 => by
        obtain ⟨h, ho⟩ := xC_ok (ce := ce + 1) (sl := sl + 6) h0 ho0 hc.1 hc.2
        refine g_iinc (lo2 := [(4, .int (nI (6 * (k + 1)))), (0, .ref 282), (1, .ref 0), (2, .ref 248), (3, .ref 281)]) h 4 rfl (by rw [show Int32.ofInt 6 = nI 6 by decide, nI_add]; rfl) (by decide) rfl dL_law_1533 ?_
        refine g_goto (tgt := 23) h (by decide) dL_law_1536 ?_
        refine g_sub (lo2 := [(0, .ref 282), (1, .ref 0), (2, .ref 248), (3, .ref 281), (4, .int (nI (6 * (k + 1))))]) [1, 2, 3, 4, 0] rfl ?_
        exact ih (k + 1) (ce + 1) (sl + 6) I1 J1 (by omega) (by omega) (by omega) (by omega) hR1
      have kk0 : ∀ I1 J1, RR0 I1 J1 → sG (xC X ce sl) 8 1533 [(0, .ref 282), (1, .ref 0), (2, .ref 248), (3, .ref 281), (4, .int (nI (6 * k)))] [] I1 J1 := fun I1 J1 hR1 => l_wide (Nat.le_succ _) (Nat.le_add_right _ _) (kk1 I1 J1 hR1)
      refine g_aload_n h rfl 0 rfl dL_law_33 ?_
      refine g_iload h 4 rfl dL_law_34 ?_
      refine l_sld h ho v0 dL_law_36 ?_
      refine g_bipush (v := 63) h (by decide) dL_law_37 ?_
      refine g_iand h dL_law_39 ?_
      exact l_table hc h0 ho0 h ho v1 v2 v3 v4 v5 hR kk0 kk1
