/-! the law's cases -/
theorem T_at' {I : sI} {J : sJ} (a1 : Int32) (hR : RR0 I J) : w_L_at a1 I J (fun k I1 J1 => w_X12_at a1 I1 J1 (fun b I2 J2 => I2 248 0 = k ∧ (k = 0 → J2 281 0 = b.toInt64) ∧ RR0 I2 J2)) := by
  unfold w_L_at
  exact T_at a1 hR
theorem T_row' {I : sI} {J : sJ} (a1 : Int32) (hR : RR0 I J) : w_L_row a1 I J (fun k I1 J1 => w_X12_row a1 I1 J1 (fun b I2 J2 => I2 248 0 = k ∧ (k = 0 → J2 281 0 = b) ∧ RR0 I2 J2)) := by
  unfold w_L_row
  exact T_row a1 hR
theorem k_0 {X : sX} {L : Nat} {xs : Nat → Int32} {i : Int32} {I : sI} {J : sJ} (h : sOK X cL_law RL 8 40 1200) (ho : lO X L xs) (v1 : vp_in (i + 1) L) (v2 : vp_in (i + 2) L) (v3 : vp_in (i + 3) L) (v4 : vp_in (i + 4) L) (v5 : vp_in (i + 5) L) (hR : RR0 I J) (kk : ∀ I1 J1, RR0 I1 J1 → sG X 8 1533 [(0, .ref 282), (1, .ref 0), (2, .ref 248), (3, .ref 281), (4, .int i)] [] I1 J1) : sG X 8 248 [(0, .ref 282), (1, .ref 0), (2, .ref 248), (3, .ref 281), (4, .int i)] [] I J := by
  refine g_aload_n h rfl 1 rfl dL_law_248 ?_
  refine g_aload_n h rfl 0 rfl dL_law_249 ?_
  refine g_iload h 4 rfl dL_law_250 ?_
  refine g_iconst (v := 1) h (by decide) dL_law_252 ?_
  refine g_iadd h dL_law_253 ?_
  refine l_sld h ho v1 dL_law_254 ?_
  refine g_callV [.int (xs (i + 1).toNatClampNeg)] h (c_X11_sign X (St_use (S_sign _ hR))) sPi_v mw_X11_sign lk_L_23 is_0 rfl rfl ⟨by decide, by decide⟩ (Nat.le_of_ble_eq_true rfl) dL_law_255 (sPi_k (fun r I1 J1 hw => ?_))
  refine g_aload_n h rfl 2 rfl dL_law_258 ?_
  refine g_aload_n h rfl 0 rfl dL_law_259 ?_
  refine g_iload h 4 rfl dL_law_260 ?_
  refine g_iconst (v := 1) h (by decide) dL_law_262 ?_
  refine g_iadd h dL_law_263 ?_
  refine l_sld h ho v1 dL_law_264 ?_
  refine g_callV [.int (xs (i + 1).toNatClampNeg)] h (c_X12_sign X hw) sPi_v mw_X12_sign lk_L_26 is_248 rfl rfl ⟨by decide, by decide⟩ (Nat.le_of_ble_eq_true rfl) dL_law_265 (sPi_k (fun r2 I2 J2 hw => ?_))
  exact g_icmp_eq (tgt := 1533) h (by decide) dL_law_268 (fun _ => kk I2 J2 hw.2) (fun z => absurd hw.1 z)
theorem k_1 {X : sX} {L : Nat} {xs : Nat → Int32} {i : Int32} {I : sI} {J : sJ} (h : sOK X cL_law RL 8 40 1200) (ho : lO X L xs) (v1 : vp_in (i + 1) L) (v2 : vp_in (i + 2) L) (v3 : vp_in (i + 3) L) (v4 : vp_in (i + 4) L) (v5 : vp_in (i + 5) L) (hR : RR0 I J) (kk : ∀ I1 J1, RR0 I1 J1 → sG X 8 1533 [(0, .ref 282), (1, .ref 0), (2, .ref 248), (3, .ref 281), (4, .int i)] [] I1 J1) : sG X 8 273 [(0, .ref 282), (1, .ref 0), (2, .ref 248), (3, .ref 281), (4, .int i)] [] I J := by
  refine g_aload_n h rfl 1 rfl dL_law_273 ?_
  refine g_aload_n h rfl 0 rfl dL_law_274 ?_
  refine g_iload h 4 rfl dL_law_275 ?_
  refine g_iconst (v := 1) h (by decide) dL_law_277 ?_
  refine g_iadd h dL_law_278 ?_
  refine l_sld h ho v1 dL_law_279 ?_
  refine g_callV [.int (xs (i + 1).toNatClampNeg)] h (c_X11_end X (St_use (S_end _ hR))) sPi_v mw_X11_end lk_L_27 is_0 rfl rfl ⟨by decide, by decide⟩ (Nat.le_of_ble_eq_true rfl) dL_law_280 (sPi_k (fun r I1 J1 hw => ?_))
  refine g_aload_n h rfl 2 rfl dL_law_283 ?_
  refine g_aload_n h rfl 0 rfl dL_law_284 ?_
  refine g_iload h 4 rfl dL_law_285 ?_
  refine g_iconst (v := 1) h (by decide) dL_law_287 ?_
  refine g_iadd h dL_law_288 ?_
  refine l_sld h ho v1 dL_law_289 ?_
  refine g_callV [.int (xs (i + 1).toNatClampNeg)] h (c_X12_end X hw) sPi_v mw_X12_end lk_L_31 is_248 rfl rfl ⟨by decide, by decide⟩ (Nat.le_of_ble_eq_true rfl) dL_law_290 (sPi_k (fun r2 I2 J2 hw => ?_))
  exact g_icmp_eq (tgt := 1533) h (by decide) dL_law_293 (fun _ => kk I2 J2 hw.2) (fun z => absurd hw.1 z)
theorem k_2 {X : sX} {L : Nat} {xs : Nat → Int32} {i : Int32} {I : sI} {J : sJ} (h : sOK X cL_law RL 8 40 1200) (ho : lO X L xs) (v1 : vp_in (i + 1) L) (v2 : vp_in (i + 2) L) (v3 : vp_in (i + 3) L) (v4 : vp_in (i + 4) L) (v5 : vp_in (i + 5) L) (hR : RR0 I J) (kk : ∀ I1 J1, RR0 I1 J1 → sG X 8 1533 [(0, .ref 282), (1, .ref 0), (2, .ref 248), (3, .ref 281), (4, .int i)] [] I1 J1) : sG X 8 298 [(0, .ref 282), (1, .ref 0), (2, .ref 248), (3, .ref 281), (4, .int i)] [] I J := by
  refine g_aload_n h rfl 1 rfl dL_law_298 ?_
  refine g_callV [] h (c_X11_disc X (St_use (S_disc  hR))) sPi_v mw_X11_disc lk_L_32 is_0 rfl rfl ⟨by decide, by decide⟩ (Nat.le_of_ble_eq_true rfl) dL_law_299 (sPi_k (fun r I1 J1 hw => ?_))
  refine g_aload_n h rfl 2 rfl dL_law_302 ?_
  refine g_callV [] h (c_X12_disc X hw) sPi_v mw_X12_disc lk_L_36 is_248 rfl rfl ⟨by decide, by decide⟩ (Nat.le_of_ble_eq_true rfl) dL_law_303 (sPi_k (fun r2 I2 J2 hw => ?_))
  exact g_icmp_eq (tgt := 1533) h (by decide) dL_law_306 (fun _ => kk I2 J2 hw.2) (fun z => absurd hw.1 z)
theorem k_3 {X : sX} {L : Nat} {xs : Nat → Int32} {i : Int32} {I : sI} {J : sJ} (h : sOK X cL_law RL 8 40 1200) (ho : lO X L xs) (v1 : vp_in (i + 1) L) (v2 : vp_in (i + 2) L) (v3 : vp_in (i + 3) L) (v4 : vp_in (i + 4) L) (v5 : vp_in (i + 5) L) (hR : RR0 I J) (kk : ∀ I1 J1, RR0 I1 J1 → sG X 8 1533 [(0, .ref 282), (1, .ref 0), (2, .ref 248), (3, .ref 281), (4, .int i)] [] I1 J1) : sG X 8 311 [(0, .ref 282), (1, .ref 0), (2, .ref 248), (3, .ref 281), (4, .int i)] [] I J := by
  refine g_aload_n h rfl 1 rfl dL_law_311 ?_
  refine g_aload_n h rfl 0 rfl dL_law_312 ?_
  refine g_iload h 4 rfl dL_law_313 ?_
  refine g_iconst (v := 1) h (by decide) dL_law_315 ?_
  refine g_iadd h dL_law_316 ?_
  refine l_sld h ho v1 dL_law_317 ?_
  refine g_callV [.int (xs (i + 1).toNatClampNeg)] h (c_X11_word X (St_use (S_word _ hR))) sPi_v mw_X11_word lk_L_37 is_0 rfl rfl ⟨by decide, by decide⟩ (Nat.le_of_ble_eq_true rfl) dL_law_318 (sPi_k (fun r I1 J1 hw => ?_))
  refine g_aload_n h rfl 2 rfl dL_law_321 ?_
  refine g_aload_n h rfl 0 rfl dL_law_322 ?_
  refine g_iload h 4 rfl dL_law_323 ?_
  refine g_iconst (v := 1) h (by decide) dL_law_325 ?_
  refine g_iadd h dL_law_326 ?_
  refine l_sld h ho v1 dL_law_327 ?_
  refine g_callV [.int (xs (i + 1).toNatClampNeg)] h (c_X12_word X hw) sPi_v mw_X12_word lk_L_40 is_248 rfl rfl ⟨by decide, by decide⟩ (Nat.le_of_ble_eq_true rfl) dL_law_328 (sPi_k (fun r2 I2 J2 hw => ?_))
  exact g_icmp_eq (tgt := 1533) h (by decide) dL_law_331 (fun _ => kk I2 J2 hw.2) (fun z => absurd hw.1 z)
theorem k_4 {X : sX} {L : Nat} {xs : Nat → Int32} {i : Int32} {I : sI} {J : sJ} (h : sOK X cL_law RL 8 40 1200) (ho : lO X L xs) (v1 : vp_in (i + 1) L) (v2 : vp_in (i + 2) L) (v3 : vp_in (i + 3) L) (v4 : vp_in (i + 4) L) (v5 : vp_in (i + 5) L) (hR : RR0 I J) (kk : ∀ I1 J1, RR0 I1 J1 → sG X 8 1533 [(0, .ref 282), (1, .ref 0), (2, .ref 248), (3, .ref 281), (4, .int i)] [] I1 J1) : sG X 8 336 [(0, .ref 282), (1, .ref 0), (2, .ref 248), (3, .ref 281), (4, .int i)] [] I J := by
  refine g_aload_n h rfl 1 rfl dL_law_336 ?_
  refine g_callV [] h (c_X11_laxness X (St_use (S_laxness  hR))) sPi_v mw_X11_laxness lk_L_41 is_0 rfl rfl ⟨by decide, by decide⟩ (Nat.le_of_ble_eq_true rfl) dL_law_337 (sPi_k (fun r I1 J1 hw => ?_))
  refine g_aload_n h rfl 2 rfl dL_law_340 ?_
  refine g_callV [] h (c_X12_laxness X hw) sPi_v mw_X12_laxness lk_L_44 is_248 rfl rfl ⟨by decide, by decide⟩ (Nat.le_of_ble_eq_true rfl) dL_law_341 (sPi_k (fun r2 I2 J2 hw => ?_))
  exact g_icmp_eq (tgt := 1533) h (by decide) dL_law_344 (fun _ => kk I2 J2 hw.2) (fun z => absurd hw.1 z)
theorem k_5 {X : sX} {L : Nat} {xs : Nat → Int32} {i : Int32} {I : sI} {J : sJ} (h : sOK X cL_law RL 8 40 1200) (ho : lO X L xs) (v1 : vp_in (i + 1) L) (v2 : vp_in (i + 2) L) (v3 : vp_in (i + 3) L) (v4 : vp_in (i + 4) L) (v5 : vp_in (i + 5) L) (hR : RR0 I J) (kk : ∀ I1 J1, RR0 I1 J1 → sG X 8 1533 [(0, .ref 282), (1, .ref 0), (2, .ref 248), (3, .ref 281), (4, .int i)] [] I1 J1) : sG X 8 349 [(0, .ref 282), (1, .ref 0), (2, .ref 248), (3, .ref 281), (4, .int i)] [] I J := by
  refine g_aload_n h rfl 1 rfl dL_law_349 ?_
  refine g_aload_n h rfl 0 rfl dL_law_350 ?_
  refine g_iload h 4 rfl dL_law_351 ?_
  refine g_iconst (v := 1) h (by decide) dL_law_353 ?_
  refine g_iadd h dL_law_354 ?_
  refine l_sld h ho v1 dL_law_355 ?_
  refine g_callV [.int (xs (i + 1).toNatClampNeg)] h (c_X11_forget X (St_use (S_forget _ hR))) sPi_v mw_X11_forget lk_L_45 is_0 rfl rfl ⟨by decide, by decide⟩ (Nat.le_of_ble_eq_true rfl) dL_law_356 (sPi_k (fun r I1 J1 hw => ?_))
  refine g_aload_n h rfl 2 rfl dL_law_359 ?_
  refine g_aload_n h rfl 0 rfl dL_law_360 ?_
  refine g_iload h 4 rfl dL_law_361 ?_
  refine g_iconst (v := 1) h (by decide) dL_law_363 ?_
  refine g_iadd h dL_law_364 ?_
  refine l_sld h ho v1 dL_law_365 ?_
  refine g_callV [.int (xs (i + 1).toNatClampNeg)] h (c_X12_forget X hw) sPi_v mw_X12_forget lk_L_48 is_248 rfl rfl ⟨by decide, by decide⟩ (Nat.le_of_ble_eq_true rfl) dL_law_366 (sPi_k (fun r2 I2 J2 hw => ?_))
  exact g_icmp_eq (tgt := 1533) h (by decide) dL_law_369 (fun _ => kk I2 J2 hw.2) (fun z => absurd hw.1 z)
theorem k_7 {X : sX} {L : Nat} {xs : Nat → Int32} {i : Int32} {I : sI} {J : sJ} (h : sOK X cL_law RL 8 40 1200) (ho : lO X L xs) (v1 : vp_in (i + 1) L) (v2 : vp_in (i + 2) L) (v3 : vp_in (i + 3) L) (v4 : vp_in (i + 4) L) (v5 : vp_in (i + 5) L) (hR : RR0 I J) (kk : ∀ I1 J1, RR0 I1 J1 → sG X 8 1533 [(0, .ref 282), (1, .ref 0), (2, .ref 248), (3, .ref 281), (4, .int i)] [] I1 J1) : sG X 8 430 [(0, .ref 282), (1, .ref 0), (2, .ref 248), (3, .ref 281), (4, .int i)] [] I J := by
  refine g_aload_n h rfl 1 rfl dL_law_430 ?_
  refine g_aload_n h rfl 0 rfl dL_law_431 ?_
  refine g_iload h 4 rfl dL_law_432 ?_
  refine g_iconst (v := 1) h (by decide) dL_law_434 ?_
  refine g_iadd h dL_law_435 ?_
  refine l_sld h ho v1 dL_law_436 ?_
  refine g_callV [.int (xs (i + 1).toNatClampNeg)] h (c_X11_readings X (St_use (S_readings _ hR))) sPi_v mw_X11_readings lk_L_58 is_0 rfl rfl ⟨by decide, by decide⟩ (Nat.le_of_ble_eq_true rfl) dL_law_437 (sPi_k (fun r I1 J1 hw => ?_))
  refine g_aload_n h rfl 2 rfl dL_law_440 ?_
  refine g_aload_n h rfl 0 rfl dL_law_441 ?_
  refine g_iload h 4 rfl dL_law_442 ?_
  refine g_iconst (v := 1) h (by decide) dL_law_444 ?_
  refine g_iadd h dL_law_445 ?_
  refine l_sld h ho v1 dL_law_446 ?_
  refine g_callV [.int (xs (i + 1).toNatClampNeg)] h (c_X12_readings X hw) sPi_v mw_X12_readings lk_L_61 is_248 rfl rfl ⟨by decide, by decide⟩ (Nat.le_of_ble_eq_true rfl) dL_law_447 (sPi_k (fun r2 I2 J2 hw => ?_))
  exact g_icmp_eq (tgt := 1533) h (by decide) dL_law_450 (fun _ => kk I2 J2 hw.2) (fun z => absurd hw.1 z)
theorem k_8 {X : sX} {L : Nat} {xs : Nat → Int32} {i : Int32} {I : sI} {J : sJ} (h : sOK X cL_law RL 8 40 1200) (ho : lO X L xs) (v1 : vp_in (i + 1) L) (v2 : vp_in (i + 2) L) (v3 : vp_in (i + 3) L) (v4 : vp_in (i + 4) L) (v5 : vp_in (i + 5) L) (hR : RR0 I J) (kk : ∀ I1 J1, RR0 I1 J1 → sG X 8 1533 [(0, .ref 282), (1, .ref 0), (2, .ref 248), (3, .ref 281), (4, .int i)] [] I1 J1) : sG X 8 455 [(0, .ref 282), (1, .ref 0), (2, .ref 248), (3, .ref 281), (4, .int i)] [] I J := by
  refine g_aload_n h rfl 1 rfl dL_law_455 ?_
  refine g_aload_n h rfl 0 rfl dL_law_456 ?_
  refine g_iload h 4 rfl dL_law_457 ?_
  refine g_iconst (v := 1) h (by decide) dL_law_459 ?_
  refine g_iadd h dL_law_460 ?_
  refine l_sld h ho v1 dL_law_461 ?_
  refine g_aload_n h rfl 0 rfl dL_law_462 ?_
  refine g_iload h 4 rfl dL_law_463 ?_
  refine g_iconst (v := 2) h (by decide) dL_law_465 ?_
  refine g_iadd h dL_law_466 ?_
  refine l_sld h ho v2 dL_law_467 ?_
  refine g_callV [.int (xs (i + 1).toNatClampNeg), .int (xs (i + 2).toNatClampNeg)] h (c_X11_reading X (St_use (S_reading _ _ hR))) sPi_v mw_X11_reading lk_L_62 is_0 rfl rfl ⟨by decide, by decide⟩ (Nat.le_of_ble_eq_true rfl) dL_law_468 (sPi_k (fun r I1 J1 hw => ?_))
  refine g_aload_n h rfl 2 rfl dL_law_471 ?_
  refine g_aload_n h rfl 0 rfl dL_law_472 ?_
  refine g_iload h 4 rfl dL_law_473 ?_
  refine g_iconst (v := 1) h (by decide) dL_law_475 ?_
  refine g_iadd h dL_law_476 ?_
  refine l_sld h ho v1 dL_law_477 ?_
  refine g_aload_n h rfl 0 rfl dL_law_478 ?_
  refine g_iload h 4 rfl dL_law_479 ?_
  refine g_iconst (v := 2) h (by decide) dL_law_481 ?_
  refine g_iadd h dL_law_482 ?_
  refine l_sld h ho v2 dL_law_483 ?_
  refine g_callV [.int (xs (i + 1).toNatClampNeg), .int (xs (i + 2).toNatClampNeg)] h (c_X12_reading X hw) sPi_v mw_X12_reading lk_L_66 is_248 rfl rfl ⟨by decide, by decide⟩ (Nat.le_of_ble_eq_true rfl) dL_law_484 (sPi_k (fun r2 I2 J2 hw => ?_))
  exact g_icmp_eq (tgt := 1533) h (by decide) dL_law_487 (fun _ => kk I2 J2 hw.2) (fun z => absurd hw.1 z)
theorem k_9 {X : sX} {L : Nat} {xs : Nat → Int32} {i : Int32} {I : sI} {J : sJ} (h : sOK X cL_law RL 8 40 1200) (ho : lO X L xs) (v1 : vp_in (i + 1) L) (v2 : vp_in (i + 2) L) (v3 : vp_in (i + 3) L) (v4 : vp_in (i + 4) L) (v5 : vp_in (i + 5) L) (hR : RR0 I J) (kk : ∀ I1 J1, RR0 I1 J1 → sG X 8 1533 [(0, .ref 282), (1, .ref 0), (2, .ref 248), (3, .ref 281), (4, .int i)] [] I1 J1) : sG X 8 492 [(0, .ref 282), (1, .ref 0), (2, .ref 248), (3, .ref 281), (4, .int i)] [] I J := by
  refine g_aload_n h rfl 1 rfl dL_law_492 ?_
  refine g_aload_n h rfl 0 rfl dL_law_493 ?_
  refine g_iload h 4 rfl dL_law_494 ?_
  refine g_iconst (v := 1) h (by decide) dL_law_496 ?_
  refine g_iadd h dL_law_497 ?_
  refine l_sld h ho v1 dL_law_498 ?_
  refine g_callV [.int (xs (i + 1).toNatClampNeg)] h (c_X11_sure X (St_use (S_sure _ hR))) sPi_v mw_X11_sure lk_L_67 is_0 rfl rfl ⟨by decide, by decide⟩ (Nat.le_of_ble_eq_true rfl) dL_law_499 (sPi_k (fun r I1 J1 hw => ?_))
  refine g_aload_n h rfl 2 rfl dL_law_502 ?_
  refine g_aload_n h rfl 0 rfl dL_law_503 ?_
  refine g_iload h 4 rfl dL_law_504 ?_
  refine g_iconst (v := 1) h (by decide) dL_law_506 ?_
  refine g_iadd h dL_law_507 ?_
  refine l_sld h ho v1 dL_law_508 ?_
  refine g_callV [.int (xs (i + 1).toNatClampNeg)] h (c_X12_sure X hw) sPi_v mw_X12_sure lk_L_70 is_248 rfl rfl ⟨by decide, by decide⟩ (Nat.le_of_ble_eq_true rfl) dL_law_509 (sPi_k (fun r2 I2 J2 hw => ?_))
  exact g_icmp_eq (tgt := 1533) h (by decide) dL_law_512 (fun _ => kk I2 J2 hw.2) (fun z => absurd hw.1 z)
theorem k_10 {X : sX} {L : Nat} {xs : Nat → Int32} {i : Int32} {I : sI} {J : sJ} (h : sOK X cL_law RL 8 40 1200) (ho : lO X L xs) (v1 : vp_in (i + 1) L) (v2 : vp_in (i + 2) L) (v3 : vp_in (i + 3) L) (v4 : vp_in (i + 4) L) (v5 : vp_in (i + 5) L) (hR : RR0 I J) (kk : ∀ I1 J1, RR0 I1 J1 → sG X 8 1533 [(0, .ref 282), (1, .ref 0), (2, .ref 248), (3, .ref 281), (4, .int i)] [] I1 J1) : sG X 8 517 [(0, .ref 282), (1, .ref 0), (2, .ref 248), (3, .ref 281), (4, .int i)] [] I J := by
  refine g_aload_n h rfl 1 rfl dL_law_517 ?_
  refine g_aload_n h rfl 0 rfl dL_law_518 ?_
  refine g_iload h 4 rfl dL_law_519 ?_
  refine g_iconst (v := 1) h (by decide) dL_law_521 ?_
  refine g_iadd h dL_law_522 ?_
  refine l_sld h ho v1 dL_law_523 ?_
  refine g_aload_n h rfl 0 rfl dL_law_524 ?_
  refine g_iload h 4 rfl dL_law_525 ?_
  refine g_iconst (v := 2) h (by decide) dL_law_527 ?_
  refine g_iadd h dL_law_528 ?_
  refine l_sld h ho v2 dL_law_529 ?_
  refine g_callV [.int (xs (i + 1).toNatClampNeg), .int (xs (i + 2).toNatClampNeg)] h (c_X11_letters X (St_use (S_letters _ _ hR))) sPi_v mw_X11_letters lk_L_71 is_0 rfl rfl ⟨by decide, by decide⟩ (Nat.le_of_ble_eq_true rfl) dL_law_530 (sPi_k (fun r I1 J1 hw => ?_))
  refine g_aload_n h rfl 2 rfl dL_law_533 ?_
  refine g_aload_n h rfl 0 rfl dL_law_534 ?_
  refine g_iload h 4 rfl dL_law_535 ?_
  refine g_iconst (v := 1) h (by decide) dL_law_537 ?_
  refine g_iadd h dL_law_538 ?_
  refine l_sld h ho v1 dL_law_539 ?_
  refine g_aload_n h rfl 0 rfl dL_law_540 ?_
  refine g_iload h 4 rfl dL_law_541 ?_
  refine g_iconst (v := 2) h (by decide) dL_law_543 ?_
  refine g_iadd h dL_law_544 ?_
  refine l_sld h ho v2 dL_law_545 ?_
  refine g_callV [.int (xs (i + 1).toNatClampNeg), .int (xs (i + 2).toNatClampNeg)] h (c_X12_letters X hw) sPi_v mw_X12_letters lk_L_74 is_248 rfl rfl ⟨by decide, by decide⟩ (Nat.le_of_ble_eq_true rfl) dL_law_546 (sPi_k (fun r2 I2 J2 hw => ?_))
  exact g_icmp_eq (tgt := 1533) h (by decide) dL_law_549 (fun _ => kk I2 J2 hw.2) (fun z => absurd hw.1 z)
theorem k_11 {X : sX} {L : Nat} {xs : Nat → Int32} {i : Int32} {I : sI} {J : sJ} (h : sOK X cL_law RL 8 40 1200) (ho : lO X L xs) (v1 : vp_in (i + 1) L) (v2 : vp_in (i + 2) L) (v3 : vp_in (i + 3) L) (v4 : vp_in (i + 4) L) (v5 : vp_in (i + 5) L) (hR : RR0 I J) (kk : ∀ I1 J1, RR0 I1 J1 → sG X 8 1533 [(0, .ref 282), (1, .ref 0), (2, .ref 248), (3, .ref 281), (4, .int i)] [] I1 J1) : sG X 8 554 [(0, .ref 282), (1, .ref 0), (2, .ref 248), (3, .ref 281), (4, .int i)] [] I J := by
  refine g_aload_n h rfl 1 rfl dL_law_554 ?_
  refine g_aload_n h rfl 0 rfl dL_law_555 ?_
  refine g_iload h 4 rfl dL_law_556 ?_
  refine g_iconst (v := 1) h (by decide) dL_law_558 ?_
  refine g_iadd h dL_law_559 ?_
  refine l_sld h ho v1 dL_law_560 ?_
  refine g_aload_n h rfl 0 rfl dL_law_561 ?_
  refine g_iload h 4 rfl dL_law_562 ?_
  refine g_iconst (v := 2) h (by decide) dL_law_564 ?_
  refine g_iadd h dL_law_565 ?_
  refine l_sld h ho v2 dL_law_566 ?_
  refine g_callV [.int (xs (i + 1).toNatClampNeg), .int (xs (i + 2).toNatClampNeg)] h (c_X11_means X (St_use (S_means _ _ hR))) sPi_v mw_X11_means lk_L_75 is_0 rfl rfl ⟨by decide, by decide⟩ (Nat.le_of_ble_eq_true rfl) dL_law_567 (sPi_k (fun r I1 J1 hw => ?_))
  refine g_aload_n h rfl 2 rfl dL_law_570 ?_
  refine g_aload_n h rfl 0 rfl dL_law_571 ?_
  refine g_iload h 4 rfl dL_law_572 ?_
  refine g_iconst (v := 1) h (by decide) dL_law_574 ?_
  refine g_iadd h dL_law_575 ?_
  refine l_sld h ho v1 dL_law_576 ?_
  refine g_aload_n h rfl 0 rfl dL_law_577 ?_
  refine g_iload h 4 rfl dL_law_578 ?_
  refine g_iconst (v := 2) h (by decide) dL_law_580 ?_
  refine g_iadd h dL_law_581 ?_
  refine l_sld h ho v2 dL_law_582 ?_
  refine g_callV [.int (xs (i + 1).toNatClampNeg), .int (xs (i + 2).toNatClampNeg)] h (c_X12_means X hw) sPi_v mw_X12_means lk_L_78 is_248 rfl rfl ⟨by decide, by decide⟩ (Nat.le_of_ble_eq_true rfl) dL_law_583 (sPi_k (fun r2 I2 J2 hw => ?_))
  exact g_icmp_eq (tgt := 1533) h (by decide) dL_law_586 (fun _ => kk I2 J2 hw.2) (fun z => absurd hw.1 z)
theorem k_12 {X : sX} {L : Nat} {xs : Nat → Int32} {i : Int32} {I : sI} {J : sJ} (h : sOK X cL_law RL 8 40 1200) (ho : lO X L xs) (v1 : vp_in (i + 1) L) (v2 : vp_in (i + 2) L) (v3 : vp_in (i + 3) L) (v4 : vp_in (i + 4) L) (v5 : vp_in (i + 5) L) (hR : RR0 I J) (kk : ∀ I1 J1, RR0 I1 J1 → sG X 8 1533 [(0, .ref 282), (1, .ref 0), (2, .ref 248), (3, .ref 281), (4, .int i)] [] I1 J1) : sG X 8 591 [(0, .ref 282), (1, .ref 0), (2, .ref 248), (3, .ref 281), (4, .int i)] [] I J := by
  refine g_aload_n h rfl 1 rfl dL_law_591 ?_
  refine g_callV [] h (c_X11_tongues X (St_use (S_tongues  hR))) sPi_v mw_X11_tongues lk_L_79 is_0 rfl rfl ⟨by decide, by decide⟩ (Nat.le_of_ble_eq_true rfl) dL_law_592 (sPi_k (fun r I1 J1 hw => ?_))
  refine g_aload_n h rfl 2 rfl dL_law_595 ?_
  refine g_callV [] h (c_X12_tongues X hw) sPi_v mw_X12_tongues lk_L_82 is_248 rfl rfl ⟨by decide, by decide⟩ (Nat.le_of_ble_eq_true rfl) dL_law_596 (sPi_k (fun r2 I2 J2 hw => ?_))
  exact g_icmp_eq (tgt := 1533) h (by decide) dL_law_599 (fun _ => kk I2 J2 hw.2) (fun z => absurd hw.1 z)
theorem k_13 {X : sX} {L : Nat} {xs : Nat → Int32} {i : Int32} {I : sI} {J : sJ} (h : sOK X cL_law RL 8 40 1200) (ho : lO X L xs) (v1 : vp_in (i + 1) L) (v2 : vp_in (i + 2) L) (v3 : vp_in (i + 3) L) (v4 : vp_in (i + 4) L) (v5 : vp_in (i + 5) L) (hR : RR0 I J) (kk : ∀ I1 J1, RR0 I1 J1 → sG X 8 1533 [(0, .ref 282), (1, .ref 0), (2, .ref 248), (3, .ref 281), (4, .int i)] [] I1 J1) : sG X 8 604 [(0, .ref 282), (1, .ref 0), (2, .ref 248), (3, .ref 281), (4, .int i)] [] I J := by
  refine g_aload_n h rfl 1 rfl dL_law_604 ?_
  refine g_aload_n h rfl 0 rfl dL_law_605 ?_
  refine g_iload h 4 rfl dL_law_606 ?_
  refine g_iconst (v := 1) h (by decide) dL_law_608 ?_
  refine g_iadd h dL_law_609 ?_
  refine l_sld h ho v1 dL_law_610 ?_
  refine g_callV [.int (xs (i + 1).toNatClampNeg)] h (c_X11_lax X (St_use (S_lax _ hR))) sPi_v mw_X11_lax lk_L_83 is_0 rfl rfl ⟨by decide, by decide⟩ (Nat.le_of_ble_eq_true rfl) dL_law_611 (sPi_k (fun r I1 J1 hw => ?_))
  refine g_aload_n h rfl 2 rfl dL_law_614 ?_
  refine g_aload_n h rfl 0 rfl dL_law_615 ?_
  refine g_iload h 4 rfl dL_law_616 ?_
  refine g_iconst (v := 1) h (by decide) dL_law_618 ?_
  refine g_iadd h dL_law_619 ?_
  refine l_sld h ho v1 dL_law_620 ?_
  refine g_callV [.int (xs (i + 1).toNatClampNeg)] h (c_X12_lax X hw) sPi_v mw_X12_lax lk_L_86 is_248 rfl rfl ⟨by decide, by decide⟩ (Nat.le_of_ble_eq_true rfl) dL_law_621 (sPi_k (fun r2 I2 J2 hw => ?_))
  exact g_icmp_eq (tgt := 1533) h (by decide) dL_law_624 (fun _ => kk I2 J2 hw.2) (fun z => absurd hw.1 z)
theorem k_14 {X : sX} {L : Nat} {xs : Nat → Int32} {i : Int32} {I : sI} {J : sJ} (h : sOK X cL_law RL 8 40 1200) (ho : lO X L xs) (v1 : vp_in (i + 1) L) (v2 : vp_in (i + 2) L) (v3 : vp_in (i + 3) L) (v4 : vp_in (i + 4) L) (v5 : vp_in (i + 5) L) (hR : RR0 I J) (kk : ∀ I1 J1, RR0 I1 J1 → sG X 8 1533 [(0, .ref 282), (1, .ref 0), (2, .ref 248), (3, .ref 281), (4, .int i)] [] I1 J1) : sG X 8 629 [(0, .ref 282), (1, .ref 0), (2, .ref 248), (3, .ref 281), (4, .int i)] [] I J := by
  refine g_aload_n h rfl 1 rfl dL_law_629 ?_
  refine g_aload_n h rfl 0 rfl dL_law_630 ?_
  refine g_iload h 4 rfl dL_law_631 ?_
  refine g_iconst (v := 1) h (by decide) dL_law_633 ?_
  refine g_iadd h dL_law_634 ?_
  refine l_sld h ho v1 dL_law_635 ?_
  refine g_callV [.int (xs (i + 1).toNatClampNeg)] h (c_X11_need X (St_use (S_need _ hR))) sPi_v mw_X11_need lk_L_87 is_0 rfl rfl ⟨by decide, by decide⟩ (Nat.le_of_ble_eq_true rfl) dL_law_636 (sPi_k (fun r I1 J1 hw => ?_))
  refine g_aload_n h rfl 2 rfl dL_law_639 ?_
  refine g_aload_n h rfl 0 rfl dL_law_640 ?_
  refine g_iload h 4 rfl dL_law_641 ?_
  refine g_iconst (v := 1) h (by decide) dL_law_643 ?_
  refine g_iadd h dL_law_644 ?_
  refine l_sld h ho v1 dL_law_645 ?_
  refine g_callV [.int (xs (i + 1).toNatClampNeg)] h (c_X12_need X hw) sPi_v mw_X12_need lk_L_90 is_248 rfl rfl ⟨by decide, by decide⟩ (Nat.le_of_ble_eq_true rfl) dL_law_646 (sPi_k (fun r2 I2 J2 hw => ?_))
  exact g_icmp_eq (tgt := 1533) h (by decide) dL_law_649 (fun _ => kk I2 J2 hw.2) (fun z => absurd hw.1 z)
theorem k_15 {X : sX} {L : Nat} {xs : Nat → Int32} {i : Int32} {I : sI} {J : sJ} (h : sOK X cL_law RL 8 40 1200) (ho : lO X L xs) (v1 : vp_in (i + 1) L) (v2 : vp_in (i + 2) L) (v3 : vp_in (i + 3) L) (v4 : vp_in (i + 4) L) (v5 : vp_in (i + 5) L) (hR : RR0 I J) (kk : ∀ I1 J1, RR0 I1 J1 → sG X 8 1533 [(0, .ref 282), (1, .ref 0), (2, .ref 248), (3, .ref 281), (4, .int i)] [] I1 J1) : sG X 8 654 [(0, .ref 282), (1, .ref 0), (2, .ref 248), (3, .ref 281), (4, .int i)] [] I J := by
  refine g_aload_n h rfl 1 rfl dL_law_654 ?_
  refine g_aload_n h rfl 0 rfl dL_law_655 ?_
  refine g_iload h 4 rfl dL_law_656 ?_
  refine g_iconst (v := 1) h (by decide) dL_law_658 ?_
  refine g_iadd h dL_law_659 ?_
  refine l_sld h ho v1 dL_law_660 ?_
  refine g_callV [.int (xs (i + 1).toNatClampNeg)] h (c_X11_second X (St_use (S_second _ hR))) sPi_v mw_X11_second lk_L_91 is_0 rfl rfl ⟨by decide, by decide⟩ (Nat.le_of_ble_eq_true rfl) dL_law_661 (sPi_k (fun r I1 J1 hw => ?_))
  refine g_aload_n h rfl 2 rfl dL_law_664 ?_
  refine g_aload_n h rfl 0 rfl dL_law_665 ?_
  refine g_iload h 4 rfl dL_law_666 ?_
  refine g_iconst (v := 1) h (by decide) dL_law_668 ?_
  refine g_iadd h dL_law_669 ?_
  refine l_sld h ho v1 dL_law_670 ?_
  refine g_callV [.int (xs (i + 1).toNatClampNeg)] h (c_X12_second X hw) sPi_v mw_X12_second lk_L_94 is_248 rfl rfl ⟨by decide, by decide⟩ (Nat.le_of_ble_eq_true rfl) dL_law_671 (sPi_k (fun r2 I2 J2 hw => ?_))
  exact g_icmp_eq (tgt := 1533) h (by decide) dL_law_674 (fun _ => kk I2 J2 hw.2) (fun z => absurd hw.1 z)
theorem k_16 {X : sX} {L : Nat} {xs : Nat → Int32} {i : Int32} {I : sI} {J : sJ} (h : sOK X cL_law RL 8 40 1200) (ho : lO X L xs) (v1 : vp_in (i + 1) L) (v2 : vp_in (i + 2) L) (v3 : vp_in (i + 3) L) (v4 : vp_in (i + 4) L) (v5 : vp_in (i + 5) L) (hR : RR0 I J) (kk : ∀ I1 J1, RR0 I1 J1 → sG X 8 1533 [(0, .ref 282), (1, .ref 0), (2, .ref 248), (3, .ref 281), (4, .int i)] [] I1 J1) : sG X 8 679 [(0, .ref 282), (1, .ref 0), (2, .ref 248), (3, .ref 281), (4, .int i)] [] I J := by
  refine g_aload_n h rfl 1 rfl dL_law_679 ?_
  refine g_aload_n h rfl 0 rfl dL_law_680 ?_
  refine g_iload h 4 rfl dL_law_681 ?_
  refine g_iconst (v := 1) h (by decide) dL_law_683 ?_
  refine g_iadd h dL_law_684 ?_
  refine l_sld h ho v1 dL_law_685 ?_
  refine g_aload_n h rfl 0 rfl dL_law_686 ?_
  refine g_iload h 4 rfl dL_law_687 ?_
  refine g_iconst (v := 2) h (by decide) dL_law_689 ?_
  refine g_iadd h dL_law_690 ?_
  refine l_sld h ho v2 dL_law_691 ?_
  refine g_callV [.int (xs (i + 1).toNatClampNeg), .int (xs (i + 2).toNatClampNeg)] h (c_X11_chance X (St_use (S_chance _ _ hR))) sPi_v mw_X11_chance lk_L_95 is_0 rfl rfl ⟨by decide, by decide⟩ (Nat.le_of_ble_eq_true rfl) dL_law_692 (sPi_k (fun r I1 J1 hw => ?_))
  refine g_aload_n h rfl 2 rfl dL_law_695 ?_
  refine g_aload_n h rfl 0 rfl dL_law_696 ?_
  refine g_iload h 4 rfl dL_law_697 ?_
  refine g_iconst (v := 1) h (by decide) dL_law_699 ?_
  refine g_iadd h dL_law_700 ?_
  refine l_sld h ho v1 dL_law_701 ?_
  refine g_aload_n h rfl 0 rfl dL_law_702 ?_
  refine g_iload h 4 rfl dL_law_703 ?_
  refine g_iconst (v := 2) h (by decide) dL_law_705 ?_
  refine g_iadd h dL_law_706 ?_
  refine l_sld h ho v2 dL_law_707 ?_
  refine g_callV [.int (xs (i + 1).toNatClampNeg), .int (xs (i + 2).toNatClampNeg)] h (c_X12_chance X hw) sPi_v mw_X12_chance lk_L_98 is_248 rfl rfl ⟨by decide, by decide⟩ (Nat.le_of_ble_eq_true rfl) dL_law_708 (sPi_k (fun r2 I2 J2 hw => ?_))
  exact g_icmp_eq (tgt := 1533) h (by decide) dL_law_711 (fun _ => kk I2 J2 hw.2) (fun z => absurd hw.1 z)
theorem k_17 {X : sX} {L : Nat} {xs : Nat → Int32} {i : Int32} {I : sI} {J : sJ} (h : sOK X cL_law RL 8 40 1200) (ho : lO X L xs) (v1 : vp_in (i + 1) L) (v2 : vp_in (i + 2) L) (v3 : vp_in (i + 3) L) (v4 : vp_in (i + 4) L) (v5 : vp_in (i + 5) L) (hR : RR0 I J) (kk : ∀ I1 J1, RR0 I1 J1 → sG X 8 1533 [(0, .ref 282), (1, .ref 0), (2, .ref 248), (3, .ref 281), (4, .int i)] [] I1 J1) : sG X 8 716 [(0, .ref 282), (1, .ref 0), (2, .ref 248), (3, .ref 281), (4, .int i)] [] I J := by
  refine g_aload_n h rfl 1 rfl dL_law_716 ?_
  refine g_aload_n h rfl 0 rfl dL_law_717 ?_
  refine g_iload h 4 rfl dL_law_718 ?_
  refine g_iconst (v := 1) h (by decide) dL_law_720 ?_
  refine g_iadd h dL_law_721 ?_
  refine l_sld h ho v1 dL_law_722 ?_
  refine g_callV [.int (xs (i + 1).toNatClampNeg)] h (c_X11_next X (St_use (S_next _ hR))) sPi_v mw_X11_next lk_L_99 is_0 rfl rfl ⟨by decide, by decide⟩ (Nat.le_of_ble_eq_true rfl) dL_law_723 (sPi_k (fun r I1 J1 hw => ?_))
  refine g_aload_n h rfl 2 rfl dL_law_726 ?_
  refine g_aload_n h rfl 0 rfl dL_law_727 ?_
  refine g_iload h 4 rfl dL_law_728 ?_
  refine g_iconst (v := 1) h (by decide) dL_law_730 ?_
  refine g_iadd h dL_law_731 ?_
  refine l_sld h ho v1 dL_law_732 ?_
  refine g_callV [.int (xs (i + 1).toNatClampNeg)] h (c_X12_next X hw) sPi_v mw_X12_next lk_L_102 is_248 rfl rfl ⟨by decide, by decide⟩ (Nat.le_of_ble_eq_true rfl) dL_law_733 (sPi_k (fun r2 I2 J2 hw => ?_))
  exact g_icmp_eq (tgt := 1533) h (by decide) dL_law_736 (fun _ => kk I2 J2 hw.2) (fun z => absurd hw.1 z)
theorem k_18 {X : sX} {L : Nat} {xs : Nat → Int32} {i : Int32} {I : sI} {J : sJ} (h : sOK X cL_law RL 8 40 1200) (ho : lO X L xs) (v1 : vp_in (i + 1) L) (v2 : vp_in (i + 2) L) (v3 : vp_in (i + 3) L) (v4 : vp_in (i + 4) L) (v5 : vp_in (i + 5) L) (hR : RR0 I J) (kk : ∀ I1 J1, RR0 I1 J1 → sG X 8 1533 [(0, .ref 282), (1, .ref 0), (2, .ref 248), (3, .ref 281), (4, .int i)] [] I1 J1) : sG X 8 741 [(0, .ref 282), (1, .ref 0), (2, .ref 248), (3, .ref 281), (4, .int i)] [] I J := by
  refine g_aload_n h rfl 1 rfl dL_law_741 ?_
  refine g_aload_n h rfl 0 rfl dL_law_742 ?_
  refine g_iload h 4 rfl dL_law_743 ?_
  refine g_iconst (v := 1) h (by decide) dL_law_745 ?_
  refine g_iadd h dL_law_746 ?_
  refine l_sld h ho v1 dL_law_747 ?_
  refine g_aload_n h rfl 0 rfl dL_law_748 ?_
  refine g_iload h 4 rfl dL_law_749 ?_
  refine g_iconst (v := 2) h (by decide) dL_law_751 ?_
  refine g_iadd h dL_law_752 ?_
  refine l_sld h ho v2 dL_law_753 ?_
  refine g_callV [.int (xs (i + 1).toNatClampNeg), .int (xs (i + 2).toNatClampNeg)] h (c_X11_blind X (St_use (S_blind _ _ hR))) sPi_v mw_X11_blind lk_L_103 is_0 rfl rfl ⟨by decide, by decide⟩ (Nat.le_of_ble_eq_true rfl) dL_law_754 (sPi_k (fun r I1 J1 hw => ?_))
  refine g_aload_n h rfl 2 rfl dL_law_757 ?_
  refine g_aload_n h rfl 0 rfl dL_law_758 ?_
  refine g_iload h 4 rfl dL_law_759 ?_
  refine g_iconst (v := 1) h (by decide) dL_law_761 ?_
  refine g_iadd h dL_law_762 ?_
  refine l_sld h ho v1 dL_law_763 ?_
  refine g_aload_n h rfl 0 rfl dL_law_764 ?_
  refine g_iload h 4 rfl dL_law_765 ?_
  refine g_iconst (v := 2) h (by decide) dL_law_767 ?_
  refine g_iadd h dL_law_768 ?_
  refine l_sld h ho v2 dL_law_769 ?_
  refine g_callV [.int (xs (i + 1).toNatClampNeg), .int (xs (i + 2).toNatClampNeg)] h (c_X12_blind X hw) sPi_v mw_X12_blind lk_L_106 is_248 rfl rfl ⟨by decide, by decide⟩ (Nat.le_of_ble_eq_true rfl) dL_law_770 (sPi_k (fun r2 I2 J2 hw => ?_))
  exact g_icmp_eq (tgt := 1533) h (by decide) dL_law_773 (fun _ => kk I2 J2 hw.2) (fun z => absurd hw.1 z)
theorem k_19 {X : sX} {L : Nat} {xs : Nat → Int32} {i : Int32} {I : sI} {J : sJ} (h : sOK X cL_law RL 8 40 1200) (ho : lO X L xs) (v1 : vp_in (i + 1) L) (v2 : vp_in (i + 2) L) (v3 : vp_in (i + 3) L) (v4 : vp_in (i + 4) L) (v5 : vp_in (i + 5) L) (hR : RR0 I J) (kk : ∀ I1 J1, RR0 I1 J1 → sG X 8 1533 [(0, .ref 282), (1, .ref 0), (2, .ref 248), (3, .ref 281), (4, .int i)] [] I1 J1) : sG X 8 778 [(0, .ref 282), (1, .ref 0), (2, .ref 248), (3, .ref 281), (4, .int i)] [] I J := by
  refine g_aload_n h rfl 1 rfl dL_law_778 ?_
  refine g_aload_n h rfl 0 rfl dL_law_779 ?_
  refine g_iload h 4 rfl dL_law_780 ?_
  refine g_iconst (v := 1) h (by decide) dL_law_782 ?_
  refine g_iadd h dL_law_783 ?_
  refine l_sld h ho v1 dL_law_784 ?_
  refine g_aload_n h rfl 0 rfl dL_law_785 ?_
  refine g_iload h 4 rfl dL_law_786 ?_
  refine g_iconst (v := 2) h (by decide) dL_law_788 ?_
  refine g_iadd h dL_law_789 ?_
  refine l_sld h ho v2 dL_law_790 ?_
  refine g_callV [.int (xs (i + 1).toNatClampNeg), .int (xs (i + 2).toNatClampNeg)] h (c_X11_over X (St_use (S_over _ _ hR))) sPi_v mw_X11_over lk_L_107 is_0 rfl rfl ⟨by decide, by decide⟩ (Nat.le_of_ble_eq_true rfl) dL_law_791 (sPi_k (fun r I1 J1 hw => ?_))
  refine g_aload_n h rfl 2 rfl dL_law_794 ?_
  refine g_aload_n h rfl 0 rfl dL_law_795 ?_
  refine g_iload h 4 rfl dL_law_796 ?_
  refine g_iconst (v := 1) h (by decide) dL_law_798 ?_
  refine g_iadd h dL_law_799 ?_
  refine l_sld h ho v1 dL_law_800 ?_
  refine g_aload_n h rfl 0 rfl dL_law_801 ?_
  refine g_iload h 4 rfl dL_law_802 ?_
  refine g_iconst (v := 2) h (by decide) dL_law_804 ?_
  refine g_iadd h dL_law_805 ?_
  refine l_sld h ho v2 dL_law_806 ?_
  refine g_callV [.int (xs (i + 1).toNatClampNeg), .int (xs (i + 2).toNatClampNeg)] h (c_X12_over X hw) sPi_v mw_X12_over lk_L_110 is_248 rfl rfl ⟨by decide, by decide⟩ (Nat.le_of_ble_eq_true rfl) dL_law_807 (sPi_k (fun r2 I2 J2 hw => ?_))
  exact g_icmp_eq (tgt := 1533) h (by decide) dL_law_810 (fun _ => kk I2 J2 hw.2) (fun z => absurd hw.1 z)
theorem k_20 {X : sX} {L : Nat} {xs : Nat → Int32} {i : Int32} {I : sI} {J : sJ} (h : sOK X cL_law RL 8 40 1200) (ho : lO X L xs) (v1 : vp_in (i + 1) L) (v2 : vp_in (i + 2) L) (v3 : vp_in (i + 3) L) (v4 : vp_in (i + 4) L) (v5 : vp_in (i + 5) L) (hR : RR0 I J) (kk : ∀ I1 J1, RR0 I1 J1 → sG X 8 1533 [(0, .ref 282), (1, .ref 0), (2, .ref 248), (3, .ref 281), (4, .int i)] [] I1 J1) : sG X 8 815 [(0, .ref 282), (1, .ref 0), (2, .ref 248), (3, .ref 281), (4, .int i)] [] I J := by
  refine g_aload_n h rfl 1 rfl dL_law_815 ?_
  refine g_callV [] h (c_X11_orders X (St_use (S_orders  hR))) sPi_v mw_X11_orders lk_L_111 is_0 rfl rfl ⟨by decide, by decide⟩ (Nat.le_of_ble_eq_true rfl) dL_law_816 (sPi_k (fun r I1 J1 hw => ?_))
  refine g_aload_n h rfl 2 rfl dL_law_819 ?_
  refine g_callV [] h (c_X12_orders X hw) sPi_v mw_X12_orders lk_L_114 is_248 rfl rfl ⟨by decide, by decide⟩ (Nat.le_of_ble_eq_true rfl) dL_law_820 (sPi_k (fun r2 I2 J2 hw => ?_))
  exact g_icmp_eq (tgt := 1533) h (by decide) dL_law_823 (fun _ => kk I2 J2 hw.2) (fun z => absurd hw.1 z)
theorem k_21 {X : sX} {L : Nat} {xs : Nat → Int32} {i : Int32} {I : sI} {J : sJ} (h : sOK X cL_law RL 8 40 1200) (ho : lO X L xs) (v1 : vp_in (i + 1) L) (v2 : vp_in (i + 2) L) (v3 : vp_in (i + 3) L) (v4 : vp_in (i + 4) L) (v5 : vp_in (i + 5) L) (hR : RR0 I J) (kk : ∀ I1 J1, RR0 I1 J1 → sG X 8 1533 [(0, .ref 282), (1, .ref 0), (2, .ref 248), (3, .ref 281), (4, .int i)] [] I1 J1) : sG X 8 828 [(0, .ref 282), (1, .ref 0), (2, .ref 248), (3, .ref 281), (4, .int i)] [] I J := by
  refine g_aload_n h rfl 1 rfl dL_law_828 ?_
  refine g_aload_n h rfl 0 rfl dL_law_829 ?_
  refine g_iload h 4 rfl dL_law_830 ?_
  refine g_iconst (v := 1) h (by decide) dL_law_832 ?_
  refine g_iadd h dL_law_833 ?_
  refine l_sld h ho v1 dL_law_834 ?_
  refine g_aload_n h rfl 0 rfl dL_law_835 ?_
  refine g_iload h 4 rfl dL_law_836 ?_
  refine g_iconst (v := 2) h (by decide) dL_law_838 ?_
  refine g_iadd h dL_law_839 ?_
  refine l_sld h ho v2 dL_law_840 ?_
  refine g_callV [.int (xs (i + 1).toNatClampNeg), .int (xs (i + 2).toNatClampNeg)] h (c_X11_ahead X (St_use (S_ahead _ _ hR))) sPi_v mw_X11_ahead lk_L_115 is_0 rfl rfl ⟨by decide, by decide⟩ (Nat.le_of_ble_eq_true rfl) dL_law_841 (sPi_k (fun r I1 J1 hw => ?_))
  refine g_aload_n h rfl 2 rfl dL_law_844 ?_
  refine g_aload_n h rfl 0 rfl dL_law_845 ?_
  refine g_iload h 4 rfl dL_law_846 ?_
  refine g_iconst (v := 1) h (by decide) dL_law_848 ?_
  refine g_iadd h dL_law_849 ?_
  refine l_sld h ho v1 dL_law_850 ?_
  refine g_aload_n h rfl 0 rfl dL_law_851 ?_
  refine g_iload h 4 rfl dL_law_852 ?_
  refine g_iconst (v := 2) h (by decide) dL_law_854 ?_
  refine g_iadd h dL_law_855 ?_
  refine l_sld h ho v2 dL_law_856 ?_
  refine g_callV [.int (xs (i + 1).toNatClampNeg), .int (xs (i + 2).toNatClampNeg)] h (c_X12_ahead X hw) sPi_v mw_X12_ahead lk_L_118 is_248 rfl rfl ⟨by decide, by decide⟩ (Nat.le_of_ble_eq_true rfl) dL_law_857 (sPi_k (fun r2 I2 J2 hw => ?_))
  exact g_icmp_eq (tgt := 1533) h (by decide) dL_law_860 (fun _ => kk I2 J2 hw.2) (fun z => absurd hw.1 z)
theorem k_22 {X : sX} {L : Nat} {xs : Nat → Int32} {i : Int32} {I : sI} {J : sJ} (h : sOK X cL_law RL 8 40 1200) (ho : lO X L xs) (v1 : vp_in (i + 1) L) (v2 : vp_in (i + 2) L) (v3 : vp_in (i + 3) L) (v4 : vp_in (i + 4) L) (v5 : vp_in (i + 5) L) (hR : RR0 I J) (kk : ∀ I1 J1, RR0 I1 J1 → sG X 8 1533 [(0, .ref 282), (1, .ref 0), (2, .ref 248), (3, .ref 281), (4, .int i)] [] I1 J1) : sG X 8 865 [(0, .ref 282), (1, .ref 0), (2, .ref 248), (3, .ref 281), (4, .int i)] [] I J := by
  refine g_aload_n h rfl 1 rfl dL_law_865 ?_
  refine g_aload_n h rfl 0 rfl dL_law_866 ?_
  refine g_iload h 4 rfl dL_law_867 ?_
  refine g_iconst (v := 1) h (by decide) dL_law_869 ?_
  refine g_iadd h dL_law_870 ?_
  refine l_sld h ho v1 dL_law_871 ?_
  refine g_callV [.int (xs (i + 1).toNatClampNeg)] h (c_X11_ends X (St_use (S_ends _ hR))) sPi_v mw_X11_ends lk_L_119 is_0 rfl rfl ⟨by decide, by decide⟩ (Nat.le_of_ble_eq_true rfl) dL_law_872 (sPi_k (fun r I1 J1 hw => ?_))
  refine g_aload_n h rfl 2 rfl dL_law_875 ?_
  refine g_aload_n h rfl 0 rfl dL_law_876 ?_
  refine g_iload h 4 rfl dL_law_877 ?_
  refine g_iconst (v := 1) h (by decide) dL_law_879 ?_
  refine g_iadd h dL_law_880 ?_
  refine l_sld h ho v1 dL_law_881 ?_
  refine g_callV [.int (xs (i + 1).toNatClampNeg)] h (c_X12_ends X hw) sPi_v mw_X12_ends lk_L_122 is_248 rfl rfl ⟨by decide, by decide⟩ (Nat.le_of_ble_eq_true rfl) dL_law_882 (sPi_k (fun r2 I2 J2 hw => ?_))
  exact g_icmp_eq (tgt := 1533) h (by decide) dL_law_885 (fun _ => kk I2 J2 hw.2) (fun z => absurd hw.1 z)
theorem k_23 {X : sX} {L : Nat} {xs : Nat → Int32} {i : Int32} {I : sI} {J : sJ} (h : sOK X cL_law RL 8 40 1200) (ho : lO X L xs) (v1 : vp_in (i + 1) L) (v2 : vp_in (i + 2) L) (v3 : vp_in (i + 3) L) (v4 : vp_in (i + 4) L) (v5 : vp_in (i + 5) L) (hR : RR0 I J) (kk : ∀ I1 J1, RR0 I1 J1 → sG X 8 1533 [(0, .ref 282), (1, .ref 0), (2, .ref 248), (3, .ref 281), (4, .int i)] [] I1 J1) : sG X 8 890 [(0, .ref 282), (1, .ref 0), (2, .ref 248), (3, .ref 281), (4, .int i)] [] I J := by
  refine g_aload_n h rfl 1 rfl dL_law_890 ?_
  refine g_callV [] h (c_X11_way X (St_use (S_way  hR))) sPi_v mw_X11_way lk_L_123 is_0 rfl rfl ⟨by decide, by decide⟩ (Nat.le_of_ble_eq_true rfl) dL_law_891 (sPi_k (fun r I1 J1 hw => ?_))
  refine g_aload_n h rfl 2 rfl dL_law_894 ?_
  refine g_callV [] h (c_X12_way X hw) sPi_v mw_X12_way lk_L_126 is_248 rfl rfl ⟨by decide, by decide⟩ (Nat.le_of_ble_eq_true rfl) dL_law_895 (sPi_k (fun r2 I2 J2 hw => ?_))
  exact g_icmp_eq (tgt := 1533) h (by decide) dL_law_898 (fun _ => kk I2 J2 hw.2) (fun z => absurd hw.1 z)
theorem k_24 {X : sX} {L : Nat} {xs : Nat → Int32} {i : Int32} {I : sI} {J : sJ} (h : sOK X cL_law RL 8 40 1200) (ho : lO X L xs) (v1 : vp_in (i + 1) L) (v2 : vp_in (i + 2) L) (v3 : vp_in (i + 3) L) (v4 : vp_in (i + 4) L) (v5 : vp_in (i + 5) L) (hR : RR0 I J) (kk : ∀ I1 J1, RR0 I1 J1 → sG X 8 1533 [(0, .ref 282), (1, .ref 0), (2, .ref 248), (3, .ref 281), (4, .int i)] [] I1 J1) : sG X 8 903 [(0, .ref 282), (1, .ref 0), (2, .ref 248), (3, .ref 281), (4, .int i)] [] I J := by
  refine g_aload_n h rfl 1 rfl dL_law_903 ?_
  refine g_callV [] h (c_X11_lot X (St_use (S_lot  hR))) sPi_v mw_X11_lot lk_L_127 is_0 rfl rfl ⟨by decide, by decide⟩ (Nat.le_of_ble_eq_true rfl) dL_law_904 (sPi_k (fun r I1 J1 hw => ?_))
  refine g_aload_n h rfl 2 rfl dL_law_907 ?_
  refine g_callV [] h (c_X12_lot X hw) sPi_v mw_X12_lot lk_L_130 is_248 rfl rfl ⟨by decide, by decide⟩ (Nat.le_of_ble_eq_true rfl) dL_law_908 (sPi_k (fun r2 I2 J2 hw => ?_))
  exact g_icmp_eq (tgt := 1533) h (by decide) dL_law_911 (fun _ => kk I2 J2 hw.2) (fun z => absurd hw.1 z)
theorem k_25 {X : sX} {L : Nat} {xs : Nat → Int32} {i : Int32} {I : sI} {J : sJ} (h : sOK X cL_law RL 8 40 1200) (ho : lO X L xs) (v1 : vp_in (i + 1) L) (v2 : vp_in (i + 2) L) (v3 : vp_in (i + 3) L) (v4 : vp_in (i + 4) L) (v5 : vp_in (i + 5) L) (hR : RR0 I J) (kk : ∀ I1 J1, RR0 I1 J1 → sG X 8 1533 [(0, .ref 282), (1, .ref 0), (2, .ref 248), (3, .ref 281), (4, .int i)] [] I1 J1) : sG X 8 916 [(0, .ref 282), (1, .ref 0), (2, .ref 248), (3, .ref 281), (4, .int i)] [] I J := by
  refine g_aload_n h rfl 1 rfl dL_law_916 ?_
  refine g_callV [] h (c_X11_mend X (St_use (S_mend  hR))) sPi_v mw_X11_mend lk_L_131 is_0 rfl rfl ⟨by decide, by decide⟩ (Nat.le_of_ble_eq_true rfl) dL_law_917 (sPi_k (fun r I1 J1 hw => ?_))
  refine g_aload_n h rfl 2 rfl dL_law_920 ?_
  refine g_callV [] h (c_X12_mend X hw) sPi_v mw_X12_mend lk_L_134 is_248 rfl rfl ⟨by decide, by decide⟩ (Nat.le_of_ble_eq_true rfl) dL_law_921 (sPi_k (fun r2 I2 J2 hw => ?_))
  exact g_icmp_eq (tgt := 1533) h (by decide) dL_law_924 (fun _ => kk I2 J2 hw.2) (fun z => absurd hw.1 z)
theorem k_26 {X : sX} {L : Nat} {xs : Nat → Int32} {i : Int32} {I : sI} {J : sJ} (h : sOK X cL_law RL 8 40 1200) (ho : lO X L xs) (v1 : vp_in (i + 1) L) (v2 : vp_in (i + 2) L) (v3 : vp_in (i + 3) L) (v4 : vp_in (i + 4) L) (v5 : vp_in (i + 5) L) (hR : RR0 I J) (kk : ∀ I1 J1, RR0 I1 J1 → sG X 8 1533 [(0, .ref 282), (1, .ref 0), (2, .ref 248), (3, .ref 281), (4, .int i)] [] I1 J1) : sG X 8 929 [(0, .ref 282), (1, .ref 0), (2, .ref 248), (3, .ref 281), (4, .int i)] [] I J := by
  refine g_aload_n h rfl 1 rfl dL_law_929 ?_
  refine g_callV [] h (c_X11_kinds X (St_use (S_kinds  hR))) sPi_v mw_X11_kinds lk_L_135 is_0 rfl rfl ⟨by decide, by decide⟩ (Nat.le_of_ble_eq_true rfl) dL_law_930 (sPi_k (fun r I1 J1 hw => ?_))
  refine g_aload_n h rfl 2 rfl dL_law_933 ?_
  refine g_callV [] h (c_X12_kinds X hw) sPi_v mw_X12_kinds lk_L_138 is_248 rfl rfl ⟨by decide, by decide⟩ (Nat.le_of_ble_eq_true rfl) dL_law_934 (sPi_k (fun r2 I2 J2 hw => ?_))
  exact g_icmp_eq (tgt := 1533) h (by decide) dL_law_937 (fun _ => kk I2 J2 hw.2) (fun z => absurd hw.1 z)
theorem k_27 {X : sX} {L : Nat} {xs : Nat → Int32} {i : Int32} {I : sI} {J : sJ} (h : sOK X cL_law RL 8 40 1200) (ho : lO X L xs) (v1 : vp_in (i + 1) L) (v2 : vp_in (i + 2) L) (v3 : vp_in (i + 3) L) (v4 : vp_in (i + 4) L) (v5 : vp_in (i + 5) L) (hR : RR0 I J) (kk : ∀ I1 J1, RR0 I1 J1 → sG X 8 1533 [(0, .ref 282), (1, .ref 0), (2, .ref 248), (3, .ref 281), (4, .int i)] [] I1 J1) : sG X 8 942 [(0, .ref 282), (1, .ref 0), (2, .ref 248), (3, .ref 281), (4, .int i)] [] I J := by
  refine g_aload_n h rfl 1 rfl dL_law_942 ?_
  refine g_callV [] h (c_X11_many X (St_use (S_many  hR))) sPi_v mw_X11_many lk_L_139 is_0 rfl rfl ⟨by decide, by decide⟩ (Nat.le_of_ble_eq_true rfl) dL_law_943 (sPi_k (fun r I1 J1 hw => ?_))
  refine g_aload_n h rfl 2 rfl dL_law_946 ?_
  refine g_callV [] h (c_X12_many X hw) sPi_v mw_X12_many lk_L_142 is_248 rfl rfl ⟨by decide, by decide⟩ (Nat.le_of_ble_eq_true rfl) dL_law_947 (sPi_k (fun r2 I2 J2 hw => ?_))
  exact g_icmp_eq (tgt := 1533) h (by decide) dL_law_950 (fun _ => kk I2 J2 hw.2) (fun z => absurd hw.1 z)
theorem k_28 {X : sX} {L : Nat} {xs : Nat → Int32} {i : Int32} {I : sI} {J : sJ} (h : sOK X cL_law RL 8 40 1200) (ho : lO X L xs) (v1 : vp_in (i + 1) L) (v2 : vp_in (i + 2) L) (v3 : vp_in (i + 3) L) (v4 : vp_in (i + 4) L) (v5 : vp_in (i + 5) L) (hR : RR0 I J) (kk : ∀ I1 J1, RR0 I1 J1 → sG X 8 1533 [(0, .ref 282), (1, .ref 0), (2, .ref 248), (3, .ref 281), (4, .int i)] [] I1 J1) : sG X 8 955 [(0, .ref 282), (1, .ref 0), (2, .ref 248), (3, .ref 281), (4, .int i)] [] I J := by
  refine g_aload_n h rfl 1 rfl dL_law_955 ?_
  refine g_aload_n h rfl 0 rfl dL_law_956 ?_
  refine g_iload h 4 rfl dL_law_957 ?_
  refine g_iconst (v := 1) h (by decide) dL_law_959 ?_
  refine g_iadd h dL_law_960 ?_
  refine l_sld h ho v1 dL_law_961 ?_
  refine g_aload_n h rfl 0 rfl dL_law_962 ?_
  refine g_iload h 4 rfl dL_law_963 ?_
  refine g_iconst (v := 2) h (by decide) dL_law_965 ?_
  refine g_iadd h dL_law_966 ?_
  refine l_sld h ho v2 dL_law_967 ?_
  refine g_callV [.int (xs (i + 1).toNatClampNeg), .int (xs (i + 2).toNatClampNeg)] h (c_X11_script X (St_use (S_script _ _ hR))) sPi_v mw_X11_script lk_L_143 is_0 rfl rfl ⟨by decide, by decide⟩ (Nat.le_of_ble_eq_true rfl) dL_law_968 (sPi_k (fun r I1 J1 hw => ?_))
  refine g_aload_n h rfl 2 rfl dL_law_971 ?_
  refine g_aload_n h rfl 0 rfl dL_law_972 ?_
  refine g_iload h 4 rfl dL_law_973 ?_
  refine g_iconst (v := 1) h (by decide) dL_law_975 ?_
  refine g_iadd h dL_law_976 ?_
  refine l_sld h ho v1 dL_law_977 ?_
  refine g_aload_n h rfl 0 rfl dL_law_978 ?_
  refine g_iload h 4 rfl dL_law_979 ?_
  refine g_iconst (v := 2) h (by decide) dL_law_981 ?_
  refine g_iadd h dL_law_982 ?_
  refine l_sld h ho v2 dL_law_983 ?_
  refine g_callV [.int (xs (i + 1).toNatClampNeg), .int (xs (i + 2).toNatClampNeg)] h (c_X12_script X hw) sPi_v mw_X12_script lk_L_146 is_248 rfl rfl ⟨by decide, by decide⟩ (Nat.le_of_ble_eq_true rfl) dL_law_984 (sPi_k (fun r2 I2 J2 hw => ?_))
  exact g_icmp_eq (tgt := 1533) h (by decide) dL_law_987 (fun _ => kk I2 J2 hw.2) (fun z => absurd hw.1 z)
theorem k_29 {X : sX} {L : Nat} {xs : Nat → Int32} {i : Int32} {I : sI} {J : sJ} (h : sOK X cL_law RL 8 40 1200) (ho : lO X L xs) (v1 : vp_in (i + 1) L) (v2 : vp_in (i + 2) L) (v3 : vp_in (i + 3) L) (v4 : vp_in (i + 4) L) (v5 : vp_in (i + 5) L) (hR : RR0 I J) (kk : ∀ I1 J1, RR0 I1 J1 → sG X 8 1533 [(0, .ref 282), (1, .ref 0), (2, .ref 248), (3, .ref 281), (4, .int i)] [] I1 J1) : sG X 8 992 [(0, .ref 282), (1, .ref 0), (2, .ref 248), (3, .ref 281), (4, .int i)] [] I J := by
  refine g_aload_n h rfl 1 rfl dL_law_992 ?_
  refine g_callV [] h (c_X11_like X (St_use (S_like  hR))) sPi_v mw_X11_like lk_L_147 is_0 rfl rfl ⟨by decide, by decide⟩ (Nat.le_of_ble_eq_true rfl) dL_law_993 (sPi_k (fun r I1 J1 hw => ?_))
  refine g_aload_n h rfl 2 rfl dL_law_996 ?_
  refine g_callV [] h (c_X12_like X hw) sPi_v mw_X12_like lk_L_150 is_248 rfl rfl ⟨by decide, by decide⟩ (Nat.le_of_ble_eq_true rfl) dL_law_997 (sPi_k (fun r2 I2 J2 hw => ?_))
  exact g_icmp_eq (tgt := 1533) h (by decide) dL_law_1000 (fun _ => kk I2 J2 hw.2) (fun z => absurd hw.1 z)
theorem k_30 {X : sX} {L : Nat} {xs : Nat → Int32} {i : Int32} {I : sI} {J : sJ} (h : sOK X cL_law RL 8 40 1200) (ho : lO X L xs) (v1 : vp_in (i + 1) L) (v2 : vp_in (i + 2) L) (v3 : vp_in (i + 3) L) (v4 : vp_in (i + 4) L) (v5 : vp_in (i + 5) L) (hR : RR0 I J) (kk : ∀ I1 J1, RR0 I1 J1 → sG X 8 1533 [(0, .ref 282), (1, .ref 0), (2, .ref 248), (3, .ref 281), (4, .int i)] [] I1 J1) : sG X 8 1005 [(0, .ref 282), (1, .ref 0), (2, .ref 248), (3, .ref 281), (4, .int i)] [] I J := by
  refine g_aload_n h rfl 1 rfl dL_law_1005 ?_
  refine g_callV [] h (c_X11_repeat X (St_use (S_repeat  hR))) sPi_v mw_X11_repeat lk_L_151 is_0 rfl rfl ⟨by decide, by decide⟩ (Nat.le_of_ble_eq_true rfl) dL_law_1006 (sPi_k (fun r I1 J1 hw => ?_))
  refine g_aload_n h rfl 2 rfl dL_law_1009 ?_
  refine g_callV [] h (c_X12_repeat X hw) sPi_v mw_X12_repeat lk_L_154 is_248 rfl rfl ⟨by decide, by decide⟩ (Nat.le_of_ble_eq_true rfl) dL_law_1010 (sPi_k (fun r2 I2 J2 hw => ?_))
  exact g_icmp_eq (tgt := 1533) h (by decide) dL_law_1013 (fun _ => kk I2 J2 hw.2) (fun z => absurd hw.1 z)
theorem k_31 {X : sX} {L : Nat} {xs : Nat → Int32} {i : Int32} {I : sI} {J : sJ} (h : sOK X cL_law RL 8 40 1200) (ho : lO X L xs) (v1 : vp_in (i + 1) L) (v2 : vp_in (i + 2) L) (v3 : vp_in (i + 3) L) (v4 : vp_in (i + 4) L) (v5 : vp_in (i + 5) L) (hR : RR0 I J) (kk : ∀ I1 J1, RR0 I1 J1 → sG X 8 1533 [(0, .ref 282), (1, .ref 0), (2, .ref 248), (3, .ref 281), (4, .int i)] [] I1 J1) : sG X 8 1018 [(0, .ref 282), (1, .ref 0), (2, .ref 248), (3, .ref 281), (4, .int i)] [] I J := by
  refine g_aload_n h rfl 1 rfl dL_law_1018 ?_
  refine g_aload_n h rfl 0 rfl dL_law_1019 ?_
  refine g_iload h 4 rfl dL_law_1020 ?_
  refine g_iconst (v := 1) h (by decide) dL_law_1022 ?_
  refine g_iadd h dL_law_1023 ?_
  refine l_sld h ho v1 dL_law_1024 ?_
  refine g_aload_n h rfl 0 rfl dL_law_1025 ?_
  refine g_iload h 4 rfl dL_law_1026 ?_
  refine g_iconst (v := 2) h (by decide) dL_law_1028 ?_
  refine g_iadd h dL_law_1029 ?_
  refine l_sld h ho v2 dL_law_1030 ?_
  refine g_callV [.int (xs (i + 1).toNatClampNeg), .int (xs (i + 2).toNatClampNeg)] h (c_X11_rhyme X (St_use (S_rhyme _ _ hR))) sPi_v mw_X11_rhyme lk_L_155 is_0 rfl rfl ⟨by decide, by decide⟩ (Nat.le_of_ble_eq_true rfl) dL_law_1031 (sPi_k (fun r I1 J1 hw => ?_))
  refine g_aload_n h rfl 2 rfl dL_law_1034 ?_
  refine g_aload_n h rfl 0 rfl dL_law_1035 ?_
  refine g_iload h 4 rfl dL_law_1036 ?_
  refine g_iconst (v := 1) h (by decide) dL_law_1038 ?_
  refine g_iadd h dL_law_1039 ?_
  refine l_sld h ho v1 dL_law_1040 ?_
  refine g_aload_n h rfl 0 rfl dL_law_1041 ?_
  refine g_iload h 4 rfl dL_law_1042 ?_
  refine g_iconst (v := 2) h (by decide) dL_law_1044 ?_
  refine g_iadd h dL_law_1045 ?_
  refine l_sld h ho v2 dL_law_1046 ?_
  refine g_callV [.int (xs (i + 1).toNatClampNeg), .int (xs (i + 2).toNatClampNeg)] h (c_X12_rhyme X hw) sPi_v mw_X12_rhyme lk_L_158 is_248 rfl rfl ⟨by decide, by decide⟩ (Nat.le_of_ble_eq_true rfl) dL_law_1047 (sPi_k (fun r2 I2 J2 hw => ?_))
  exact g_icmp_eq (tgt := 1533) h (by decide) dL_law_1050 (fun _ => kk I2 J2 hw.2) (fun z => absurd hw.1 z)
theorem k_32 {X : sX} {L : Nat} {xs : Nat → Int32} {i : Int32} {I : sI} {J : sJ} (h : sOK X cL_law RL 8 40 1200) (ho : lO X L xs) (v1 : vp_in (i + 1) L) (v2 : vp_in (i + 2) L) (v3 : vp_in (i + 3) L) (v4 : vp_in (i + 4) L) (v5 : vp_in (i + 5) L) (hR : RR0 I J) (kk : ∀ I1 J1, RR0 I1 J1 → sG X 8 1533 [(0, .ref 282), (1, .ref 0), (2, .ref 248), (3, .ref 281), (4, .int i)] [] I1 J1) : sG X 8 1055 [(0, .ref 282), (1, .ref 0), (2, .ref 248), (3, .ref 281), (4, .int i)] [] I J := by
  refine g_aload_n h rfl 1 rfl dL_law_1055 ?_
  refine g_aload_n h rfl 0 rfl dL_law_1056 ?_
  refine g_iload h 4 rfl dL_law_1057 ?_
  refine g_iconst (v := 1) h (by decide) dL_law_1059 ?_
  refine g_iadd h dL_law_1060 ?_
  refine l_sld h ho v1 dL_law_1061 ?_
  refine g_aload_n h rfl 0 rfl dL_law_1062 ?_
  refine g_iload h 4 rfl dL_law_1063 ?_
  refine g_iconst (v := 2) h (by decide) dL_law_1065 ?_
  refine g_iadd h dL_law_1066 ?_
  refine l_sld h ho v2 dL_law_1067 ?_
  refine g_aload_n h rfl 0 rfl dL_law_1068 ?_
  refine g_iload h 4 rfl dL_law_1069 ?_
  refine g_iconst (v := 3) h (by decide) dL_law_1071 ?_
  refine g_iadd h dL_law_1072 ?_
  refine l_sld h ho v3 dL_law_1073 ?_
  refine g_aload_n h rfl 0 rfl dL_law_1074 ?_
  refine g_iload h 4 rfl dL_law_1075 ?_
  refine g_iconst (v := 4) h (by decide) dL_law_1077 ?_
  refine g_iadd h dL_law_1078 ?_
  refine l_sld h ho v4 dL_law_1079 ?_
  refine g_callV [.int (xs (i + 1).toNatClampNeg), .int (xs (i + 2).toNatClampNeg), .int (xs (i + 3).toNatClampNeg), .int (xs (i + 4).toNatClampNeg)] h (c_X11_axe X (St_use (S_axe _ _ _ _ hR))) sPi_v mw_X11_axe lk_L_159 is_0 rfl rfl ⟨by decide, by decide⟩ (Nat.le_of_ble_eq_true rfl) dL_law_1080 (sPi_k (fun r I1 J1 hw => ?_))
  refine g_aload_n h rfl 2 rfl dL_law_1083 ?_
  refine g_aload_n h rfl 0 rfl dL_law_1084 ?_
  refine g_iload h 4 rfl dL_law_1085 ?_
  refine g_iconst (v := 1) h (by decide) dL_law_1087 ?_
  refine g_iadd h dL_law_1088 ?_
  refine l_sld h ho v1 dL_law_1089 ?_
  refine g_aload_n h rfl 0 rfl dL_law_1090 ?_
  refine g_iload h 4 rfl dL_law_1091 ?_
  refine g_iconst (v := 2) h (by decide) dL_law_1093 ?_
  refine g_iadd h dL_law_1094 ?_
  refine l_sld h ho v2 dL_law_1095 ?_
  refine g_aload_n h rfl 0 rfl dL_law_1096 ?_
  refine g_iload h 4 rfl dL_law_1097 ?_
  refine g_iconst (v := 3) h (by decide) dL_law_1099 ?_
  refine g_iadd h dL_law_1100 ?_
  refine l_sld h ho v3 dL_law_1101 ?_
  refine g_aload_n h rfl 0 rfl dL_law_1102 ?_
  refine g_iload h 4 rfl dL_law_1103 ?_
  refine g_iconst (v := 4) h (by decide) dL_law_1105 ?_
  refine g_iadd h dL_law_1106 ?_
  refine l_sld h ho v4 dL_law_1107 ?_
  refine g_callV [.int (xs (i + 1).toNatClampNeg), .int (xs (i + 2).toNatClampNeg), .int (xs (i + 3).toNatClampNeg), .int (xs (i + 4).toNatClampNeg)] h (c_X12_axe X hw) sPi_v mw_X12_axe lk_L_163 is_248 rfl rfl ⟨by decide, by decide⟩ (Nat.le_of_ble_eq_true rfl) dL_law_1108 (sPi_k (fun r2 I2 J2 hw => ?_))
  exact g_icmp_eq (tgt := 1533) h (by decide) dL_law_1111 (fun _ => kk I2 J2 hw.2) (fun z => absurd hw.1 z)
theorem k_33 {X : sX} {L : Nat} {xs : Nat → Int32} {i : Int32} {I : sI} {J : sJ} (h : sOK X cL_law RL 8 40 1200) (ho : lO X L xs) (v1 : vp_in (i + 1) L) (v2 : vp_in (i + 2) L) (v3 : vp_in (i + 3) L) (v4 : vp_in (i + 4) L) (v5 : vp_in (i + 5) L) (hR : RR0 I J) (kk : ∀ I1 J1, RR0 I1 J1 → sG X 8 1533 [(0, .ref 282), (1, .ref 0), (2, .ref 248), (3, .ref 281), (4, .int i)] [] I1 J1) : sG X 8 1116 [(0, .ref 282), (1, .ref 0), (2, .ref 248), (3, .ref 281), (4, .int i)] [] I J := by
  refine g_aload_n h rfl 1 rfl dL_law_1116 ?_
  refine g_callV [] h (c_X11_claim X (St_use (S_claim  hR))) sPi_v mw_X11_claim lk_L_164 is_0 rfl rfl ⟨by decide, by decide⟩ (Nat.le_of_ble_eq_true rfl) dL_law_1117 (sPi_k (fun r I1 J1 hw => ?_))
  refine g_aload_n h rfl 2 rfl dL_law_1120 ?_
  refine g_callV [] h (c_X12_claim X hw) sPi_v mw_X12_claim lk_L_167 is_248 rfl rfl ⟨by decide, by decide⟩ (Nat.le_of_ble_eq_true rfl) dL_law_1121 (sPi_k (fun r2 I2 J2 hw => ?_))
  exact g_icmp_eq (tgt := 1533) h (by decide) dL_law_1124 (fun _ => kk I2 J2 hw.2) (fun z => absurd hw.1 z)
theorem k_34 {X : sX} {L : Nat} {xs : Nat → Int32} {i : Int32} {I : sI} {J : sJ} (h : sOK X cL_law RL 8 40 1200) (ho : lO X L xs) (v1 : vp_in (i + 1) L) (v2 : vp_in (i + 2) L) (v3 : vp_in (i + 3) L) (v4 : vp_in (i + 4) L) (v5 : vp_in (i + 5) L) (hR : RR0 I J) (kk : ∀ I1 J1, RR0 I1 J1 → sG X 8 1533 [(0, .ref 282), (1, .ref 0), (2, .ref 248), (3, .ref 281), (4, .int i)] [] I1 J1) : sG X 8 1129 [(0, .ref 282), (1, .ref 0), (2, .ref 248), (3, .ref 281), (4, .int i)] [] I J := by
  refine g_aload_n h rfl 1 rfl dL_law_1129 ?_
  refine g_aload_n h rfl 0 rfl dL_law_1130 ?_
  refine g_iload h 4 rfl dL_law_1131 ?_
  refine g_iconst (v := 1) h (by decide) dL_law_1133 ?_
  refine g_iadd h dL_law_1134 ?_
  refine l_sld h ho v1 dL_law_1135 ?_
  refine g_aload_n h rfl 0 rfl dL_law_1136 ?_
  refine g_iload h 4 rfl dL_law_1137 ?_
  refine g_iconst (v := 2) h (by decide) dL_law_1139 ?_
  refine g_iadd h dL_law_1140 ?_
  refine l_sld h ho v2 dL_law_1141 ?_
  refine g_aload_n h rfl 0 rfl dL_law_1142 ?_
  refine g_iload h 4 rfl dL_law_1143 ?_
  refine g_iconst (v := 3) h (by decide) dL_law_1145 ?_
  refine g_iadd h dL_law_1146 ?_
  refine l_sld h ho v3 dL_law_1147 ?_
  refine g_callV [.int (xs (i + 1).toNatClampNeg), .int (xs (i + 2).toNatClampNeg), .int (xs (i + 3).toNatClampNeg)] h (c_X11_says X (St_use (S_says _ _ _ hR))) sPi_v mw_X11_says lk_L_168 is_0 rfl rfl ⟨by decide, by decide⟩ (Nat.le_of_ble_eq_true rfl) dL_law_1148 (sPi_k (fun r I1 J1 hw => ?_))
  refine g_aload_n h rfl 2 rfl dL_law_1151 ?_
  refine g_aload_n h rfl 0 rfl dL_law_1152 ?_
  refine g_iload h 4 rfl dL_law_1153 ?_
  refine g_iconst (v := 1) h (by decide) dL_law_1155 ?_
  refine g_iadd h dL_law_1156 ?_
  refine l_sld h ho v1 dL_law_1157 ?_
  refine g_aload_n h rfl 0 rfl dL_law_1158 ?_
  refine g_iload h 4 rfl dL_law_1159 ?_
  refine g_iconst (v := 2) h (by decide) dL_law_1161 ?_
  refine g_iadd h dL_law_1162 ?_
  refine l_sld h ho v2 dL_law_1163 ?_
  refine g_aload_n h rfl 0 rfl dL_law_1164 ?_
  refine g_iload h 4 rfl dL_law_1165 ?_
  refine g_iconst (v := 3) h (by decide) dL_law_1167 ?_
  refine g_iadd h dL_law_1168 ?_
  refine l_sld h ho v3 dL_law_1169 ?_
  refine g_callV [.int (xs (i + 1).toNatClampNeg), .int (xs (i + 2).toNatClampNeg), .int (xs (i + 3).toNatClampNeg)] h (c_X12_says X hw) sPi_v mw_X12_says lk_L_172 is_248 rfl rfl ⟨by decide, by decide⟩ (Nat.le_of_ble_eq_true rfl) dL_law_1170 (sPi_k (fun r2 I2 J2 hw => ?_))
  exact g_icmp_eq (tgt := 1533) h (by decide) dL_law_1173 (fun _ => kk I2 J2 hw.2) (fun z => absurd hw.1 z)
theorem k_35 {X : sX} {L : Nat} {xs : Nat → Int32} {i : Int32} {I : sI} {J : sJ} (h : sOK X cL_law RL 8 40 1200) (ho : lO X L xs) (v1 : vp_in (i + 1) L) (v2 : vp_in (i + 2) L) (v3 : vp_in (i + 3) L) (v4 : vp_in (i + 4) L) (v5 : vp_in (i + 5) L) (hR : RR0 I J) (kk : ∀ I1 J1, RR0 I1 J1 → sG X 8 1533 [(0, .ref 282), (1, .ref 0), (2, .ref 248), (3, .ref 281), (4, .int i)] [] I1 J1) : sG X 8 1178 [(0, .ref 282), (1, .ref 0), (2, .ref 248), (3, .ref 281), (4, .int i)] [] I J := by
  refine g_aload_n h rfl 1 rfl dL_law_1178 ?_
  refine g_aload_n h rfl 0 rfl dL_law_1179 ?_
  refine g_iload h 4 rfl dL_law_1180 ?_
  refine g_iconst (v := 1) h (by decide) dL_law_1182 ?_
  refine g_iadd h dL_law_1183 ?_
  refine l_sld h ho v1 dL_law_1184 ?_
  refine g_aload_n h rfl 0 rfl dL_law_1185 ?_
  refine g_iload h 4 rfl dL_law_1186 ?_
  refine g_iconst (v := 2) h (by decide) dL_law_1188 ?_
  refine g_iadd h dL_law_1189 ?_
  refine l_sld h ho v2 dL_law_1190 ?_
  refine g_aload_n h rfl 0 rfl dL_law_1191 ?_
  refine g_iload h 4 rfl dL_law_1192 ?_
  refine g_iconst (v := 3) h (by decide) dL_law_1194 ?_
  refine g_iadd h dL_law_1195 ?_
  refine l_sld h ho v3 dL_law_1196 ?_
  refine g_aload_n h rfl 0 rfl dL_law_1197 ?_
  refine g_iload h 4 rfl dL_law_1198 ?_
  refine g_iconst (v := 4) h (by decide) dL_law_1200 ?_
  refine g_iadd h dL_law_1201 ?_
  refine l_sld h ho v4 dL_law_1202 ?_
  refine g_aload_n h rfl 0 rfl dL_law_1203 ?_
  refine g_iload h 4 rfl dL_law_1204 ?_
  refine g_iconst (v := 5) h (by decide) dL_law_1206 ?_
  refine g_iadd h dL_law_1207 ?_
  refine l_sld h ho v5 dL_law_1208 ?_
  refine g_callV [.int (xs (i + 1).toNatClampNeg), .int (xs (i + 2).toNatClampNeg), .int (xs (i + 3).toNatClampNeg), .int (xs (i + 4).toNatClampNeg), .int (xs (i + 5).toNatClampNeg)] h (c_X11_sheet X (St_use (S_sheet _ _ _ _ _ hR))) sPi_v mw_X11_sheet lk_L_173 is_0 rfl rfl ⟨by decide, by decide⟩ (Nat.le_of_ble_eq_true rfl) dL_law_1209 (sPi_k (fun r I1 J1 hw => ?_))
  refine g_aload_n h rfl 2 rfl dL_law_1212 ?_
  refine g_aload_n h rfl 0 rfl dL_law_1213 ?_
  refine g_iload h 4 rfl dL_law_1214 ?_
  refine g_iconst (v := 1) h (by decide) dL_law_1216 ?_
  refine g_iadd h dL_law_1217 ?_
  refine l_sld h ho v1 dL_law_1218 ?_
  refine g_aload_n h rfl 0 rfl dL_law_1219 ?_
  refine g_iload h 4 rfl dL_law_1220 ?_
  refine g_iconst (v := 2) h (by decide) dL_law_1222 ?_
  refine g_iadd h dL_law_1223 ?_
  refine l_sld h ho v2 dL_law_1224 ?_
  refine g_aload_n h rfl 0 rfl dL_law_1225 ?_
  refine g_iload h 4 rfl dL_law_1226 ?_
  refine g_iconst (v := 3) h (by decide) dL_law_1228 ?_
  refine g_iadd h dL_law_1229 ?_
  refine l_sld h ho v3 dL_law_1230 ?_
  refine g_aload_n h rfl 0 rfl dL_law_1231 ?_
  refine g_iload h 4 rfl dL_law_1232 ?_
  refine g_iconst (v := 4) h (by decide) dL_law_1234 ?_
  refine g_iadd h dL_law_1235 ?_
  refine l_sld h ho v4 dL_law_1236 ?_
  refine g_aload_n h rfl 0 rfl dL_law_1237 ?_
  refine g_iload h 4 rfl dL_law_1238 ?_
  refine g_iconst (v := 5) h (by decide) dL_law_1240 ?_
  refine g_iadd h dL_law_1241 ?_
  refine l_sld h ho v5 dL_law_1242 ?_
  refine g_callV [.int (xs (i + 1).toNatClampNeg), .int (xs (i + 2).toNatClampNeg), .int (xs (i + 3).toNatClampNeg), .int (xs (i + 4).toNatClampNeg), .int (xs (i + 5).toNatClampNeg)] h (c_X12_sheet X hw) sPi_v mw_X12_sheet lk_L_177 is_248 rfl rfl ⟨by decide, by decide⟩ (Nat.le_of_ble_eq_true rfl) dL_law_1243 (sPi_k (fun r2 I2 J2 hw => ?_))
  exact g_icmp_eq (tgt := 1533) h (by decide) dL_law_1246 (fun _ => kk I2 J2 hw.2) (fun z => absurd hw.1 z)
theorem k_36 {X : sX} {L : Nat} {xs : Nat → Int32} {i : Int32} {I : sI} {J : sJ} (h : sOK X cL_law RL 8 40 1200) (ho : lO X L xs) (v1 : vp_in (i + 1) L) (v2 : vp_in (i + 2) L) (v3 : vp_in (i + 3) L) (v4 : vp_in (i + 4) L) (v5 : vp_in (i + 5) L) (hR : RR0 I J) (kk : ∀ I1 J1, RR0 I1 J1 → sG X 8 1533 [(0, .ref 282), (1, .ref 0), (2, .ref 248), (3, .ref 281), (4, .int i)] [] I1 J1) : sG X 8 1251 [(0, .ref 282), (1, .ref 0), (2, .ref 248), (3, .ref 281), (4, .int i)] [] I J := by
  refine g_aload_n h rfl 1 rfl dL_law_1251 ?_
  refine g_aload_n h rfl 0 rfl dL_law_1252 ?_
  refine g_iload h 4 rfl dL_law_1253 ?_
  refine g_iconst (v := 1) h (by decide) dL_law_1255 ?_
  refine g_iadd h dL_law_1256 ?_
  refine l_sld h ho v1 dL_law_1257 ?_
  refine g_aload_n h rfl 0 rfl dL_law_1258 ?_
  refine g_iload h 4 rfl dL_law_1259 ?_
  refine g_iconst (v := 2) h (by decide) dL_law_1261 ?_
  refine g_iadd h dL_law_1262 ?_
  refine l_sld h ho v2 dL_law_1263 ?_
  refine g_callV [.int (xs (i + 1).toNatClampNeg), .int (xs (i + 2).toNatClampNeg)] h (c_X11_find X (St_use (S_find _ _ hR))) sPi_v mw_X11_find lk_L_178 is_0 rfl rfl ⟨by decide, by decide⟩ (Nat.le_of_ble_eq_true rfl) dL_law_1264 (sPi_k (fun r I1 J1 hw => ?_))
  refine g_aload_n h rfl 2 rfl dL_law_1267 ?_
  refine g_aload_n h rfl 0 rfl dL_law_1268 ?_
  refine g_iload h 4 rfl dL_law_1269 ?_
  refine g_iconst (v := 1) h (by decide) dL_law_1271 ?_
  refine g_iadd h dL_law_1272 ?_
  refine l_sld h ho v1 dL_law_1273 ?_
  refine g_aload_n h rfl 0 rfl dL_law_1274 ?_
  refine g_iload h 4 rfl dL_law_1275 ?_
  refine g_iconst (v := 2) h (by decide) dL_law_1277 ?_
  refine g_iadd h dL_law_1278 ?_
  refine l_sld h ho v2 dL_law_1279 ?_
  refine g_callV [.int (xs (i + 1).toNatClampNeg), .int (xs (i + 2).toNatClampNeg)] h (c_X12_find X hw) sPi_v mw_X12_find lk_L_181 is_248 rfl rfl ⟨by decide, by decide⟩ (Nat.le_of_ble_eq_true rfl) dL_law_1280 (sPi_k (fun r2 I2 J2 hw => ?_))
  exact g_icmp_eq (tgt := 1533) h (by decide) dL_law_1283 (fun _ => kk I2 J2 hw.2) (fun z => absurd hw.1 z)
theorem k_37 {X : sX} {L : Nat} {xs : Nat → Int32} {i : Int32} {I : sI} {J : sJ} (h : sOK X cL_law RL 8 40 1200) (ho : lO X L xs) (v1 : vp_in (i + 1) L) (v2 : vp_in (i + 2) L) (v3 : vp_in (i + 3) L) (v4 : vp_in (i + 4) L) (v5 : vp_in (i + 5) L) (hR : RR0 I J) (kk : ∀ I1 J1, RR0 I1 J1 → sG X 8 1533 [(0, .ref 282), (1, .ref 0), (2, .ref 248), (3, .ref 281), (4, .int i)] [] I1 J1) : sG X 8 1288 [(0, .ref 282), (1, .ref 0), (2, .ref 248), (3, .ref 281), (4, .int i)] [] I J := by
  refine g_aload_n h rfl 1 rfl dL_law_1288 ?_
  refine g_callV [] h (c_X11_stand X (St_use (S_stand  hR))) sPi_v mw_X11_stand lk_L_182 is_0 rfl rfl ⟨by decide, by decide⟩ (Nat.le_of_ble_eq_true rfl) dL_law_1289 (sPi_k (fun r I1 J1 hw => ?_))
  refine g_aload_n h rfl 2 rfl dL_law_1292 ?_
  refine g_callV [] h (c_X12_stand X hw) sPi_v mw_X12_stand lk_L_185 is_248 rfl rfl ⟨by decide, by decide⟩ (Nat.le_of_ble_eq_true rfl) dL_law_1293 (sPi_k (fun r2 I2 J2 hw => ?_))
  exact g_icmp_eq (tgt := 1533) h (by decide) dL_law_1296 (fun _ => kk I2 J2 hw.2) (fun z => absurd hw.1 z)
theorem k_38 {X : sX} {L : Nat} {xs : Nat → Int32} {i : Int32} {I : sI} {J : sJ} (h : sOK X cL_law RL 8 40 1200) (ho : lO X L xs) (v1 : vp_in (i + 1) L) (v2 : vp_in (i + 2) L) (v3 : vp_in (i + 3) L) (v4 : vp_in (i + 4) L) (v5 : vp_in (i + 5) L) (hR : RR0 I J) (kk : ∀ I1 J1, RR0 I1 J1 → sG X 8 1533 [(0, .ref 282), (1, .ref 0), (2, .ref 248), (3, .ref 281), (4, .int i)] [] I1 J1) : sG X 8 1301 [(0, .ref 282), (1, .ref 0), (2, .ref 248), (3, .ref 281), (4, .int i)] [] I J := by
  refine g_aload_n h rfl 1 rfl dL_law_1301 ?_
  refine g_aload_n h rfl 0 rfl dL_law_1302 ?_
  refine g_iload h 4 rfl dL_law_1303 ?_
  refine g_iconst (v := 1) h (by decide) dL_law_1305 ?_
  refine g_iadd h dL_law_1306 ?_
  refine l_sld h ho v1 dL_law_1307 ?_
  refine g_callV [.int (xs (i + 1).toNatClampNeg)] h (c_X11_risks X (St_use (S_risks _ hR))) sPi_v mw_X11_risks lk_L_186 is_0 rfl rfl ⟨by decide, by decide⟩ (Nat.le_of_ble_eq_true rfl) dL_law_1308 (sPi_k (fun r I1 J1 hw => ?_))
  refine g_aload_n h rfl 2 rfl dL_law_1311 ?_
  refine g_aload_n h rfl 0 rfl dL_law_1312 ?_
  refine g_iload h 4 rfl dL_law_1313 ?_
  refine g_iconst (v := 1) h (by decide) dL_law_1315 ?_
  refine g_iadd h dL_law_1316 ?_
  refine l_sld h ho v1 dL_law_1317 ?_
  refine g_callV [.int (xs (i + 1).toNatClampNeg)] h (c_X12_risks X hw) sPi_v mw_X12_risks lk_L_189 is_248 rfl rfl ⟨by decide, by decide⟩ (Nat.le_of_ble_eq_true rfl) dL_law_1318 (sPi_k (fun r2 I2 J2 hw => ?_))
  exact g_icmp_eq (tgt := 1533) h (by decide) dL_law_1321 (fun _ => kk I2 J2 hw.2) (fun z => absurd hw.1 z)
theorem k_39 {X : sX} {L : Nat} {xs : Nat → Int32} {i : Int32} {I : sI} {J : sJ} (h : sOK X cL_law RL 8 40 1200) (ho : lO X L xs) (v1 : vp_in (i + 1) L) (v2 : vp_in (i + 2) L) (v3 : vp_in (i + 3) L) (v4 : vp_in (i + 4) L) (v5 : vp_in (i + 5) L) (hR : RR0 I J) (kk : ∀ I1 J1, RR0 I1 J1 → sG X 8 1533 [(0, .ref 282), (1, .ref 0), (2, .ref 248), (3, .ref 281), (4, .int i)] [] I1 J1) : sG X 8 1326 [(0, .ref 282), (1, .ref 0), (2, .ref 248), (3, .ref 281), (4, .int i)] [] I J := by
  refine g_aload_n h rfl 1 rfl dL_law_1326 ?_
  refine g_callV [] h (c_X11_idle X (St_use (S_idle  hR))) sPi_v mw_X11_idle lk_L_190 is_0 rfl rfl ⟨by decide, by decide⟩ (Nat.le_of_ble_eq_true rfl) dL_law_1327 (sPi_k (fun r I1 J1 hw => ?_))
  refine g_aload_n h rfl 2 rfl dL_law_1330 ?_
  refine g_callV [] h (c_X12_idle X hw) sPi_v mw_X12_idle lk_L_193 is_248 rfl rfl ⟨by decide, by decide⟩ (Nat.le_of_ble_eq_true rfl) dL_law_1331 (sPi_k (fun r2 I2 J2 hw => ?_))
  exact g_icmp_eq (tgt := 1533) h (by decide) dL_law_1334 (fun _ => kk I2 J2 hw.2) (fun z => absurd hw.1 z)
theorem k_40 {X : sX} {L : Nat} {xs : Nat → Int32} {i : Int32} {I : sI} {J : sJ} (h : sOK X cL_law RL 8 40 1200) (ho : lO X L xs) (v1 : vp_in (i + 1) L) (v2 : vp_in (i + 2) L) (v3 : vp_in (i + 3) L) (v4 : vp_in (i + 4) L) (v5 : vp_in (i + 5) L) (hR : RR0 I J) (kk : ∀ I1 J1, RR0 I1 J1 → sG X 8 1533 [(0, .ref 282), (1, .ref 0), (2, .ref 248), (3, .ref 281), (4, .int i)] [] I1 J1) : sG X 8 1339 [(0, .ref 282), (1, .ref 0), (2, .ref 248), (3, .ref 281), (4, .int i)] [] I J := by
  refine g_aload_n h rfl 1 rfl dL_law_1339 ?_
  refine g_callV [] h (c_X11_seek X (St_use (S_seek  hR))) sPi_v mw_X11_seek lk_L_194 is_0 rfl rfl ⟨by decide, by decide⟩ (Nat.le_of_ble_eq_true rfl) dL_law_1340 (sPi_k (fun r I1 J1 hw => ?_))
  refine g_aload_n h rfl 2 rfl dL_law_1343 ?_
  refine g_callV [] h (c_X12_seek X hw) sPi_v mw_X12_seek lk_L_197 is_248 rfl rfl ⟨by decide, by decide⟩ (Nat.le_of_ble_eq_true rfl) dL_law_1344 (sPi_k (fun r2 I2 J2 hw => ?_))
  exact g_icmp_eq (tgt := 1533) h (by decide) dL_law_1347 (fun _ => kk I2 J2 hw.2) (fun z => absurd hw.1 z)
theorem k_41 {X : sX} {L : Nat} {xs : Nat → Int32} {i : Int32} {I : sI} {J : sJ} (h : sOK X cL_law RL 8 40 1200) (ho : lO X L xs) (v1 : vp_in (i + 1) L) (v2 : vp_in (i + 2) L) (v3 : vp_in (i + 3) L) (v4 : vp_in (i + 4) L) (v5 : vp_in (i + 5) L) (hR : RR0 I J) (kk : ∀ I1 J1, RR0 I1 J1 → sG X 8 1533 [(0, .ref 282), (1, .ref 0), (2, .ref 248), (3, .ref 281), (4, .int i)] [] I1 J1) : sG X 8 1352 [(0, .ref 282), (1, .ref 0), (2, .ref 248), (3, .ref 281), (4, .int i)] [] I J := by
  refine g_aload_n h rfl 1 rfl dL_law_1352 ?_
  refine g_callV [] h (c_X11_part X (St_use (S_part  hR))) sPi_v mw_X11_part lk_L_198 is_0 rfl rfl ⟨by decide, by decide⟩ (Nat.le_of_ble_eq_true rfl) dL_law_1353 (sPi_k (fun r I1 J1 hw => ?_))
  refine g_aload_n h rfl 2 rfl dL_law_1356 ?_
  refine g_callV [] h (c_X12_part X hw) sPi_v mw_X12_part lk_L_201 is_248 rfl rfl ⟨by decide, by decide⟩ (Nat.le_of_ble_eq_true rfl) dL_law_1357 (sPi_k (fun r2 I2 J2 hw => ?_))
  exact g_icmp_eq (tgt := 1533) h (by decide) dL_law_1360 (fun _ => kk I2 J2 hw.2) (fun z => absurd hw.1 z)
theorem k_42 {X : sX} {L : Nat} {xs : Nat → Int32} {i : Int32} {I : sI} {J : sJ} (h : sOK X cL_law RL 8 40 1200) (ho : lO X L xs) (v1 : vp_in (i + 1) L) (v2 : vp_in (i + 2) L) (v3 : vp_in (i + 3) L) (v4 : vp_in (i + 4) L) (v5 : vp_in (i + 5) L) (hR : RR0 I J) (kk : ∀ I1 J1, RR0 I1 J1 → sG X 8 1533 [(0, .ref 282), (1, .ref 0), (2, .ref 248), (3, .ref 281), (4, .int i)] [] I1 J1) : sG X 8 1365 [(0, .ref 282), (1, .ref 0), (2, .ref 248), (3, .ref 281), (4, .int i)] [] I J := by
  refine g_aload_n h rfl 1 rfl dL_law_1365 ?_
  refine g_callV [] h (c_X11_plan X (St_use (S_plan  hR))) sPi_v mw_X11_plan lk_L_202 is_0 rfl rfl ⟨by decide, by decide⟩ (Nat.le_of_ble_eq_true rfl) dL_law_1366 (sPi_k (fun r I1 J1 hw => ?_))
  refine g_aload_n h rfl 2 rfl dL_law_1369 ?_
  refine g_callV [] h (c_X12_plan X hw) sPi_v mw_X12_plan lk_L_205 is_248 rfl rfl ⟨by decide, by decide⟩ (Nat.le_of_ble_eq_true rfl) dL_law_1370 (sPi_k (fun r2 I2 J2 hw => ?_))
  exact g_icmp_eq (tgt := 1533) h (by decide) dL_law_1373 (fun _ => kk I2 J2 hw.2) (fun z => absurd hw.1 z)
theorem k_43 {X : sX} {L : Nat} {xs : Nat → Int32} {i : Int32} {I : sI} {J : sJ} (h : sOK X cL_law RL 8 40 1200) (ho : lO X L xs) (v1 : vp_in (i + 1) L) (v2 : vp_in (i + 2) L) (v3 : vp_in (i + 3) L) (v4 : vp_in (i + 4) L) (v5 : vp_in (i + 5) L) (hR : RR0 I J) (kk : ∀ I1 J1, RR0 I1 J1 → sG X 8 1533 [(0, .ref 282), (1, .ref 0), (2, .ref 248), (3, .ref 281), (4, .int i)] [] I1 J1) : sG X 8 1378 [(0, .ref 282), (1, .ref 0), (2, .ref 248), (3, .ref 281), (4, .int i)] [] I J := by
  refine g_aload_n h rfl 1 rfl dL_law_1378 ?_
  refine g_aload_n h rfl 0 rfl dL_law_1379 ?_
  refine g_iload h 4 rfl dL_law_1380 ?_
  refine g_iconst (v := 1) h (by decide) dL_law_1382 ?_
  refine g_iadd h dL_law_1383 ?_
  refine l_sld h ho v1 dL_law_1384 ?_
  refine g_callV [.int (xs (i + 1).toNatClampNeg)] h (c_X11_seed X (St_use (S_seed _ hR))) sPi_v mw_X11_seed lk_L_206 is_0 rfl rfl ⟨by decide, by decide⟩ (Nat.le_of_ble_eq_true rfl) dL_law_1385 (sPi_k (fun r I1 J1 hw => ?_))
  refine g_aload_n h rfl 2 rfl dL_law_1388 ?_
  refine g_aload_n h rfl 0 rfl dL_law_1389 ?_
  refine g_iload h 4 rfl dL_law_1390 ?_
  refine g_iconst (v := 1) h (by decide) dL_law_1392 ?_
  refine g_iadd h dL_law_1393 ?_
  refine l_sld h ho v1 dL_law_1394 ?_
  refine g_callV [.int (xs (i + 1).toNatClampNeg)] h (c_X12_seed X hw) sPi_v mw_X12_seed lk_L_209 is_248 rfl rfl ⟨by decide, by decide⟩ (Nat.le_of_ble_eq_true rfl) dL_law_1395 (sPi_k (fun r2 I2 J2 hw => ?_))
  exact g_icmp_eq (tgt := 1533) h (by decide) dL_law_1398 (fun _ => kk I2 J2 hw.2) (fun z => absurd hw.1 z)
theorem k_44 {X : sX} {L : Nat} {xs : Nat → Int32} {i : Int32} {I : sI} {J : sJ} (h : sOK X cL_law RL 8 40 1200) (ho : lO X L xs) (v1 : vp_in (i + 1) L) (v2 : vp_in (i + 2) L) (v3 : vp_in (i + 3) L) (v4 : vp_in (i + 4) L) (v5 : vp_in (i + 5) L) (hR : RR0 I J) (kk : ∀ I1 J1, RR0 I1 J1 → sG X 8 1533 [(0, .ref 282), (1, .ref 0), (2, .ref 248), (3, .ref 281), (4, .int i)] [] I1 J1) : sG X 8 1403 [(0, .ref 282), (1, .ref 0), (2, .ref 248), (3, .ref 281), (4, .int i)] [] I J := by
  refine g_aload_n h rfl 1 rfl dL_law_1403 ?_
  refine g_aload_n h rfl 0 rfl dL_law_1404 ?_
  refine g_iload h 4 rfl dL_law_1405 ?_
  refine g_iconst (v := 1) h (by decide) dL_law_1407 ?_
  refine g_iadd h dL_law_1408 ?_
  refine l_sld h ho v1 dL_law_1409 ?_
  refine g_callV [.int (xs (i + 1).toNatClampNeg)] h (c_X11_keep X (St_use (S_keep _ hR))) sPi_v mw_X11_keep lk_L_210 is_0 rfl rfl ⟨by decide, by decide⟩ (Nat.le_of_ble_eq_true rfl) dL_law_1410 (sPi_k (fun r I1 J1 hw => ?_))
  refine g_aload_n h rfl 2 rfl dL_law_1413 ?_
  refine g_aload_n h rfl 0 rfl dL_law_1414 ?_
  refine g_iload h 4 rfl dL_law_1415 ?_
  refine g_iconst (v := 1) h (by decide) dL_law_1417 ?_
  refine g_iadd h dL_law_1418 ?_
  refine l_sld h ho v1 dL_law_1419 ?_
  refine g_callV [.int (xs (i + 1).toNatClampNeg)] h (c_X12_keep X hw) sPi_v mw_X12_keep lk_L_213 is_248 rfl rfl ⟨by decide, by decide⟩ (Nat.le_of_ble_eq_true rfl) dL_law_1420 (sPi_k (fun r2 I2 J2 hw => ?_))
  exact g_icmp_eq (tgt := 1533) h (by decide) dL_law_1423 (fun _ => kk I2 J2 hw.2) (fun z => absurd hw.1 z)
theorem k_45 {X : sX} {L : Nat} {xs : Nat → Int32} {i : Int32} {I : sI} {J : sJ} (h : sOK X cL_law RL 8 40 1200) (ho : lO X L xs) (v1 : vp_in (i + 1) L) (v2 : vp_in (i + 2) L) (v3 : vp_in (i + 3) L) (v4 : vp_in (i + 4) L) (v5 : vp_in (i + 5) L) (hR : RR0 I J) (kk : ∀ I1 J1, RR0 I1 J1 → sG X 8 1533 [(0, .ref 282), (1, .ref 0), (2, .ref 248), (3, .ref 281), (4, .int i)] [] I1 J1) : sG X 8 1428 [(0, .ref 282), (1, .ref 0), (2, .ref 248), (3, .ref 281), (4, .int i)] [] I J := by
  refine g_aload_n h rfl 1 rfl dL_law_1428 ?_
  refine g_aload_n h rfl 0 rfl dL_law_1429 ?_
  refine g_iload h 4 rfl dL_law_1430 ?_
  refine g_iconst (v := 1) h (by decide) dL_law_1432 ?_
  refine g_iadd h dL_law_1433 ?_
  refine l_sld h ho v1 dL_law_1434 ?_
  refine g_callV [.int (xs (i + 1).toNatClampNeg)] h (c_X11_again X (St_use (S_again _ hR))) sPi_v mw_X11_again lk_L_214 is_0 rfl rfl ⟨by decide, by decide⟩ (Nat.le_of_ble_eq_true rfl) dL_law_1435 (sPi_k (fun r I1 J1 hw => ?_))
  refine g_aload_n h rfl 2 rfl dL_law_1438 ?_
  refine g_aload_n h rfl 0 rfl dL_law_1439 ?_
  refine g_iload h 4 rfl dL_law_1440 ?_
  refine g_iconst (v := 1) h (by decide) dL_law_1442 ?_
  refine g_iadd h dL_law_1443 ?_
  refine l_sld h ho v1 dL_law_1444 ?_
  refine g_callV [.int (xs (i + 1).toNatClampNeg)] h (c_X12_again X hw) sPi_v mw_X12_again lk_L_217 is_248 rfl rfl ⟨by decide, by decide⟩ (Nat.le_of_ble_eq_true rfl) dL_law_1445 (sPi_k (fun r2 I2 J2 hw => ?_))
  exact g_icmp_eq (tgt := 1533) h (by decide) dL_law_1448 (fun _ => kk I2 J2 hw.2) (fun z => absurd hw.1 z)
theorem k_46 {X : sX} {L : Nat} {xs : Nat → Int32} {i : Int32} {I : sI} {J : sJ} (h : sOK X cL_law RL 8 40 1200) (ho : lO X L xs) (v1 : vp_in (i + 1) L) (v2 : vp_in (i + 2) L) (v3 : vp_in (i + 3) L) (v4 : vp_in (i + 4) L) (v5 : vp_in (i + 5) L) (hR : RR0 I J) (kk : ∀ I1 J1, RR0 I1 J1 → sG X 8 1533 [(0, .ref 282), (1, .ref 0), (2, .ref 248), (3, .ref 281), (4, .int i)] [] I1 J1) : sG X 8 1453 [(0, .ref 282), (1, .ref 0), (2, .ref 248), (3, .ref 281), (4, .int i)] [] I J := by
  refine g_aload_n h rfl 1 rfl dL_law_1453 ?_
  refine g_aload_n h rfl 0 rfl dL_law_1454 ?_
  refine g_iload h 4 rfl dL_law_1455 ?_
  refine g_iconst (v := 1) h (by decide) dL_law_1457 ?_
  refine g_iadd h dL_law_1458 ?_
  refine l_sld h ho v1 dL_law_1459 ?_
  refine g_callV [.int (xs (i + 1).toNatClampNeg)] h (c_X11_count X (St_use (S_count _ hR))) sPi_v mw_X11_count lk_L_218 is_0 rfl rfl ⟨by decide, by decide⟩ (Nat.le_of_ble_eq_true rfl) dL_law_1460 (sPi_k (fun r I1 J1 hw => ?_))
  refine g_aload_n h rfl 2 rfl dL_law_1463 ?_
  refine g_aload_n h rfl 0 rfl dL_law_1464 ?_
  refine g_iload h 4 rfl dL_law_1465 ?_
  refine g_iconst (v := 1) h (by decide) dL_law_1467 ?_
  refine g_iadd h dL_law_1468 ?_
  refine l_sld h ho v1 dL_law_1469 ?_
  refine g_callV [.int (xs (i + 1).toNatClampNeg)] h (c_X12_count X hw) sPi_v mw_X12_count lk_L_221 is_248 rfl rfl ⟨by decide, by decide⟩ (Nat.le_of_ble_eq_true rfl) dL_law_1470 (sPi_k (fun r2 I2 J2 hw => ?_))
  exact g_icmp_eq (tgt := 1533) h (by decide) dL_law_1473 (fun _ => kk I2 J2 hw.2) (fun z => absurd hw.1 z)
theorem k_6 {X : sX} {L : Nat} {xs : Nat → Int32} {i : Int32} {I : sI} {J : sJ} {ce sl : Nat} (h0 : sOK X cL_law RL 8 40 1200) (ho0 : lO X L xs) (hc : ce + 1 ≤ 601024 ∧ sl + 6 ≤ 7293034) (h : sOK (xC X ce sl) cL_law RL 8 40 1200) (ho : lO (xC X ce sl) L xs) (v1 : vp_in (i + 1) L) (v2 : vp_in (i + 2) L) (v3 : vp_in (i + 3) L) (v4 : vp_in (i + 4) L) (v5 : vp_in (i + 5) L) (hR : RR0 I J) (kk : ∀ I1 J1, RR0 I1 J1 → sG (xC X (ce + 1) (sl + 6)) 8 1533 [(0, .ref 282), (1, .ref 0), (2, .ref 248), (3, .ref 281), (4, .int i)] [] I1 J1) : sG (xC X ce sl) 8 374 [(0, .ref 282), (1, .ref 0), (2, .ref 248), (3, .ref 281), (4, .int i)] [] I J := by
  refine g_aload_n h rfl 1 rfl dL_law_374 ?_
  refine g_aload_n h rfl 0 rfl dL_law_375 ?_
  refine g_iload h 4 rfl dL_law_376 ?_
  refine g_iconst (v := 1) h (by decide) dL_law_378 ?_
  refine g_iadd h dL_law_379 ?_
  refine l_sld h ho v1 dL_law_380 ?_
  refine g_aload_n h rfl 3 rfl dL_law_381 ?_
  refine l_callL (st := []) [.ref 0, .int (xs (i + 1).toNatClampNeg), .ref 281] h ho (fun l D cy ad hst => c_L_at hst (T_at' _ hR)) sPi_v lMw_at rfl ⟨by decide, by decide⟩ hc (Nat.le_of_ble_eq_true rfl) dL_law_382 (sPi_k (fun r I1 J1 hw => ?_))
  have hh := xC_ok (X := X) (ce := ce + 1) (sl := sl + 6) h0 ho0 hc.1 hc.2
  have h := hh.1
  have ho := hh.2
  refine g_istore (lo2 := [(5, .int r), (0, .ref 282), (1, .ref 0), (2, .ref 248), (3, .ref 281), (4, .int i)]) h (by decide) rfl dL_law_385 ?_
  refine g_aload_n h rfl 3 rfl dL_law_387 ?_
  refine g_aload_n h rfl 1 rfl dL_law_388 ?_
  refine g_iload h 5 rfl dL_law_389 ?_
  refine g_iconst (v := 1) h (by decide) dL_law_391 ?_
  refine g_iadd h dL_law_392 ?_
  refine l_sld h ho v1 dL_law_393 ?_
  refine g_callV [.int (xs (i + 1).toNatClampNeg)] h (c_X12_at _ hw) sPi_v mw_X12_at lk_L_54 is_248 rfl rfl ⟨by decide, by decide⟩ (Nat.le_of_ble_eq_true rfl) dL_law_394 (sPi_k (fun b I2 J2 hw => ?_))
  refine g_istore (lo2 := [(6, .int b), (5, .int r), (0, .ref 282), (1, .ref 0), (2, .ref 248), (3, .ref 281), (4, .int i)]) h (by decide) rfl dL_law_397 ?_
  refine g_aload_n h rfl 4 rfl dL_law_399 ?_
  refine g_callV [] h (c_X12_thrown _ (post := fun t I3 J3 => t = r ∧ (r = 0 → J3 281 0 = b.toInt64) ∧ RR0 I3 J3) hw) sPi_v mw_X12_thrown lk_L_55 is_248 rfl rfl ⟨by decide, by decide⟩ (Nat.le_of_ble_eq_true rfl) dL_law_400 (sPi_k (fun t I3 J3 hw => ?_))
  refine g_iload h 1 rfl dL_law_403 ?_
  refine g_icmp_eq (tgt := 410) h (by decide) dL_law_405 (fun _ => ?_) (fun z => absurd hw.1 z)
  refine g_iload h 1 rfl dL_law_410 ?_
  have out : sG (xC X (ce + 1) (sl + 6)) 8 427 [(6, .int b), (5, .int r), (0, .ref 282), (1, .ref 0), (2, .ref 248), (3, .ref 281), (4, .int i)] [] I3 J3 := g_goto (tgt := 1533) h (by decide) dL_law_427 (g_sub (lo2 := [(0, .ref 282), (1, .ref 0), (2, .ref 248), (3, .ref 281), (4, .int i)]) [2, 3, 4, 5, 6] rfl (kk I3 J3 hw.2.2))
  refine g_if_ne (tgt := 427) h (by decide) dL_law_412 (fun _ => out) (fun z => ?_)
  refine g_aload_n h rfl 5 rfl dL_law_415 ?_
  refine g_iconst (v := 0) h (by decide) dL_law_416 ?_
  refine g_lald h ar_281 l_in0 dL_law_417 ?_
  refine g_iload h 0 rfl dL_law_418 ?_
  refine g_i2l h dL_law_420 ?_
  refine g_lcmp h dL_law_421 ?_
  exact g_if_eq (tgt := 427) h (by decide) dL_law_422 (fun _ => out) (fun q => absurd ((pf_lgc_eq _ _).mpr (hw.2.1 z)) q)
theorem k_47 {X : sX} {L : Nat} {xs : Nat → Int32} {i : Int32} {I : sI} {J : sJ} {ce sl : Nat} (h0 : sOK X cL_law RL 8 40 1200) (ho0 : lO X L xs) (hc : ce + 1 ≤ 601024 ∧ sl + 6 ≤ 7293034) (h : sOK (xC X ce sl) cL_law RL 8 40 1200) (ho : lO (xC X ce sl) L xs) (v1 : vp_in (i + 1) L) (v2 : vp_in (i + 2) L) (v3 : vp_in (i + 3) L) (v4 : vp_in (i + 4) L) (v5 : vp_in (i + 5) L) (hR : RR0 I J) (kk : ∀ I1 J1, RR0 I1 J1 → sG (xC X (ce + 1) (sl + 6)) 8 1533 [(0, .ref 282), (1, .ref 0), (2, .ref 248), (3, .ref 281), (4, .int i)] [] I1 J1) : sG (xC X ce sl) 8 1478 [(0, .ref 282), (1, .ref 0), (2, .ref 248), (3, .ref 281), (4, .int i)] [] I J := by
  refine g_aload_n h rfl 1 rfl dL_law_1478 ?_
  refine g_aload_n h rfl 0 rfl dL_law_1479 ?_
  refine g_iload h 4 rfl dL_law_1480 ?_
  refine g_iconst (v := 1) h (by decide) dL_law_1482 ?_
  refine g_iadd h dL_law_1483 ?_
  refine l_sld h ho v1 dL_law_1484 ?_
  refine g_aload_n h rfl 3 rfl dL_law_1485 ?_
  refine l_callL (st := []) [.ref 0, .int (xs (i + 1).toNatClampNeg), .ref 281] h ho (fun l D cy ad hst => c_L_row hst (T_row' _ hR)) sPi_v lMw_row rfl ⟨by decide, by decide⟩ hc (Nat.le_of_ble_eq_true rfl) dL_law_1486 (sPi_k (fun r I1 J1 hw => ?_))
  have hh := xC_ok (X := X) (ce := ce + 1) (sl := sl + 6) h0 ho0 hc.1 hc.2
  have h := hh.1
  have ho := hh.2
  refine g_istore (lo2 := [(5, .int r), (0, .ref 282), (1, .ref 0), (2, .ref 248), (3, .ref 281), (4, .int i)]) h (by decide) rfl dL_law_1489 ?_
  refine g_aload_n h rfl 3 rfl dL_law_1491 ?_
  refine g_aload_n h rfl 1 rfl dL_law_1492 ?_
  refine g_iload h 5 rfl dL_law_1493 ?_
  refine g_iconst (v := 1) h (by decide) dL_law_1495 ?_
  refine g_iadd h dL_law_1496 ?_
  refine l_sld h ho v1 dL_law_1497 ?_
  refine g_callV [.int (xs (i + 1).toNatClampNeg)] h (c_X12_row _ hw) sPl_v mw_X12_row lk_L_224 is_248 rfl rfl ⟨by decide, by decide⟩ (Nat.le_of_ble_eq_true rfl) dL_law_1498 (sPl_k (fun b I2 J2 hw => ?_))
  refine g_lstore (lo2 := [(6, .long b), (5, .int r), (0, .ref 282), (1, .ref 0), (2, .ref 248), (3, .ref 281), (4, .int i)]) h (by decide) rfl dL_law_1501 ?_
  refine g_aload_n h rfl 4 rfl dL_law_1503 ?_
  refine g_callV [] h (c_X12_thrown _ (post := fun t I3 J3 => t = r ∧ (r = 0 → J3 281 0 = b) ∧ RR0 I3 J3) hw) sPi_v mw_X12_thrown lk_L_55 is_248 rfl rfl ⟨by decide, by decide⟩ (Nat.le_of_ble_eq_true rfl) dL_law_1504 (sPi_k (fun t I3 J3 hw => ?_))
  refine g_iload h 1 rfl dL_law_1507 ?_
  refine g_icmp_eq (tgt := 1514) h (by decide) dL_law_1509 (fun _ => ?_) (fun z => absurd hw.1 z)
  refine g_iload h 1 rfl dL_law_1514 ?_
  have out : sG (xC X (ce + 1) (sl + 6)) 8 1530 [(6, .long b), (5, .int r), (0, .ref 282), (1, .ref 0), (2, .ref 248), (3, .ref 281), (4, .int i)] [] I3 J3 := g_goto (tgt := 1533) h (by decide) dL_law_1530 (g_sub (lo2 := [(0, .ref 282), (1, .ref 0), (2, .ref 248), (3, .ref 281), (4, .int i)]) [2, 3, 4, 5, 6] rfl (kk I3 J3 hw.2.2))
  refine g_if_ne (tgt := 1530) h (by decide) dL_law_1516 (fun _ => out) (fun z => ?_)
  refine g_aload_n h rfl 5 rfl dL_law_1519 ?_
  refine g_iconst (v := 0) h (by decide) dL_law_1520 ?_
  refine g_lald h ar_281 l_in0 dL_law_1521 ?_
  refine g_lload h 0 rfl dL_law_1522 ?_
  refine g_lcmp h dL_law_1524 ?_
  exact g_if_eq (tgt := 1530) h (by decide) dL_law_1525 (fun _ => out) (fun q => absurd ((pf_lgc_eq _ _).mpr (hw.2.1 z)) q)
