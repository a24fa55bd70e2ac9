theorem dX0_become_0 : decode cX0_become 0 = .ok (.aload_n 0, 1) := by decide +kernel
theorem dX0_become_1 : decode cX0_become 1 = .ok (.getfield 9, 3) := by decide +kernel
theorem dX0_become_4 : decode cX0_become 4 = .ok (.iconst 0, 1) := by decide +kernel
theorem dX0_become_5 : decode cX0_become 5 = .ok (.iload_n 1, 1) := by decide +kernel
theorem dX0_become_6 : decode cX0_become 6 = .ok (.i2l, 1) := by decide +kernel
theorem dX0_become_7 : decode cX0_become 7 = .ok (.lastore, 1) := by decide +kernel
theorem dX0_become_8 : decode cX0_become 8 = .ok (.aload_n 0, 1) := by decide +kernel
theorem dX0_become_9 : decode cX0_become 9 = .ok (.iconst 1, 1) := by decide +kernel
theorem dX0_become_10 : decode cX0_become 10 = .ok (.putfield 13, 3) := by decide +kernel
theorem dX0_become_13 : decode cX0_become 13 = .ok (.return_, 1) := by decide +kernel
def w_X0_become (h0 : Nat) (a1 : Int32) (I : sI) (J : sJ) (post : sI → sJ → Prop) : Prop :=
  (vp_in 0 16 ∧ (∀ J_7 : sJ, J_7 = sUJ J (sR h0 0) (Int32.toNatClampNeg 0) (Int32.toInt64 a1) → (∀ I_10 : sI, I_10 = sUI I h0 1 1 → post I_10 J_7)))
set_option maxHeartbeats 4000000 in
set_option maxRecDepth 100000 in
theorem t_X0_become {X : sX} {h0 : Nat} {a1 : Int32} (ph0 : sIs h0 0) {I : sI} {J : sJ} {post : sI → sJ → Prop} (h : sOK X cX0_become RX0 2 0 0) (hr : sRt X none (sPv post)) (hw : w_X0_become h0 a1 I J post) : sG X 2 0 [(0, .ref h0), (1, .int a1)] [] I J := by
  unfold w_X0_become at hw
  refine g_aload_n h rfl 0 rfl dX0_become_0 ?_
  refine g_get h ph0 fl_X0_9 rfl dX0_become_1 ?_
  refine g_iconst (v := 0) h (by decide) dX0_become_4 ?_
  refine g_iload_n h rfl 1 rfl dX0_become_5 ?_
  refine g_i2l h dX0_become_6 ?_
  obtain ⟨hi7, hw⟩ := hw
  refine g_last h (arF_0_0 ph0) hi7 dX0_become_7 ?_
  refine g_nJ (fun J_7 eJ_7 => ?_)
  replace hw := hw J_7 eJ_7
  refine g_aload_n h rfl 0 rfl dX0_become_8 ?_
  refine g_iconst (v := 1) h (by decide) dX0_become_9 ?_
  refine g_putI h ph0 fl_X0_13 rfl rfl dX0_become_10 ?_
  refine g_nI (fun I_10 eI_10 => ?_)
  replace hw := hw I_10 eI_10
  exact g_vret h hr dX0_become_13 hw
theorem c_X0_become (X : sX) {h0 : Nat} {a1 : Int32} (ph0 : sIs h0 0) {I : sI} {J : sJ} {post : sI → sJ → Prop} (hw : w_X0_become h0 a1 I J post) : sCall X yX0_become cX0_become 2 none 0 0 [.ref h0, .int a1] I J (sPv post) := sCall_of (by decide +kernel) (Nat.le_of_ble_eq_true rfl) (fun X h hr => t_X0_become ph0 h hr hw)
theorem dX0_times_0 : decode cX0_times 0 = .ok (.lconst 0, 1) := by decide +kernel
theorem dX0_times_1 : decode cX0_times 1 = .ok (.lstore_n 2, 1) := by decide +kernel
theorem dX0_times_2 : decode cX0_times 2 = .ok (.iconst 0, 1) := by decide +kernel
theorem dX0_times_3 : decode cX0_times 3 = .ok (.istore 4, 2) := by decide +kernel
theorem dX0_times_5 : decode cX0_times 5 = .ok (.iload 4, 2) := by decide +kernel
theorem dX0_times_7 : decode cX0_times 7 = .ok (.aload_n 0, 1) := by decide +kernel
theorem dX0_times_8 : decode cX0_times 8 = .ok (.getfield 13, 3) := by decide +kernel
theorem dX0_times_11 : decode cX0_times 11 = .ok (.if_icmp .ge 42, 3) := by decide +kernel
theorem dX0_times_14 : decode cX0_times 14 = .ok (.aload_n 0, 1) := by decide +kernel
theorem dX0_times_15 : decode cX0_times 15 = .ok (.getfield 9, 3) := by decide +kernel
theorem dX0_times_18 : decode cX0_times 18 = .ok (.iload 4, 2) := by decide +kernel
theorem dX0_times_20 : decode cX0_times 20 = .ok (.laload, 1) := by decide +kernel
theorem dX0_times_21 : decode cX0_times 21 = .ok (.iload_n 1, 1) := by decide +kernel
theorem dX0_times_22 : decode cX0_times 22 = .ok (.i2l, 1) := by decide +kernel
theorem dX0_times_23 : decode cX0_times 23 = .ok (.lmul, 1) := by decide +kernel
theorem dX0_times_24 : decode cX0_times 24 = .ok (.lload_n 2, 1) := by decide +kernel
theorem dX0_times_25 : decode cX0_times 25 = .ok (.ladd, 1) := by decide +kernel
theorem dX0_times_26 : decode cX0_times 26 = .ok (.lstore 5, 2) := by decide +kernel
theorem dX0_times_28 : decode cX0_times 28 = .ok (.aload_n 0, 1) := by decide +kernel
theorem dX0_times_29 : decode cX0_times 29 = .ok (.getfield 9, 3) := by decide +kernel
theorem dX0_times_32 : decode cX0_times 32 = .ok (.iload 4, 2) := by decide +kernel
theorem dX0_times_34 : decode cX0_times 34 = .ok (.lload 5, 2) := by decide +kernel
theorem dX0_times_36 : decode cX0_times 36 = .ok (.ldc2_w 17, 3) := by decide +kernel
theorem dX0_times_39 : decode cX0_times 39 = .ok (.land, 1) := by decide +kernel
theorem dX0_times_40 : decode cX0_times 40 = .ok (.lastore, 1) := by decide +kernel
theorem dX0_times_41 : decode cX0_times 41 = .ok (.lload 5, 2) := by decide +kernel
theorem dX0_times_43 : decode cX0_times 43 = .ok (.bipush 40, 2) := by decide +kernel
theorem dX0_times_45 : decode cX0_times 45 = .ok (.lushr, 1) := by decide +kernel
theorem dX0_times_46 : decode cX0_times 46 = .ok (.lstore_n 2, 1) := by decide +kernel
theorem dX0_times_47 : decode cX0_times 47 = .ok (.iinc 4 1, 3) := by decide +kernel
theorem dX0_times_50 : decode cX0_times 50 = .ok (.goto (-45), 3) := by decide +kernel
theorem dX0_times_53 : decode cX0_times 53 = .ok (.lload_n 2, 1) := by decide +kernel
theorem dX0_times_54 : decode cX0_times 54 = .ok (.lconst 0, 1) := by decide +kernel
theorem dX0_times_55 : decode cX0_times 55 = .ok (.lcmp, 1) := by decide +kernel
theorem dX0_times_56 : decode cX0_times 56 = .ok (.ifCond .le 32, 3) := by decide +kernel
theorem dX0_times_59 : decode cX0_times 59 = .ok (.aload_n 0, 1) := by decide +kernel
theorem dX0_times_60 : decode cX0_times 60 = .ok (.getfield 13, 3) := by decide +kernel
theorem dX0_times_63 : decode cX0_times 63 = .ok (.bipush 16, 2) := by decide +kernel
theorem dX0_times_65 : decode cX0_times 65 = .ok (.if_icmp .ge 23, 3) := by decide +kernel
theorem dX0_times_68 : decode cX0_times 68 = .ok (.aload_n 0, 1) := by decide +kernel
theorem dX0_times_69 : decode cX0_times 69 = .ok (.getfield 9, 3) := by decide +kernel
theorem dX0_times_72 : decode cX0_times 72 = .ok (.aload_n 0, 1) := by decide +kernel
theorem dX0_times_73 : decode cX0_times 73 = .ok (.getfield 13, 3) := by decide +kernel
theorem dX0_times_76 : decode cX0_times 76 = .ok (.lload_n 2, 1) := by decide +kernel
theorem dX0_times_77 : decode cX0_times 77 = .ok (.lastore, 1) := by decide +kernel
theorem dX0_times_78 : decode cX0_times 78 = .ok (.aload_n 0, 1) := by decide +kernel
theorem dX0_times_79 : decode cX0_times 79 = .ok (.dup, 1) := by decide +kernel
theorem dX0_times_80 : decode cX0_times 80 = .ok (.getfield 13, 3) := by decide +kernel
theorem dX0_times_83 : decode cX0_times 83 = .ok (.iconst 1, 1) := by decide +kernel
theorem dX0_times_84 : decode cX0_times 84 = .ok (.iadd, 1) := by decide +kernel
theorem dX0_times_85 : decode cX0_times 85 = .ok (.putfield 13, 3) := by decide +kernel
theorem dX0_times_88 : decode cX0_times 88 = .ok (.return_, 1) := by decide +kernel
def w_X0_times_5_s (h0 : Nat) (post : sI → sJ → Prop) (k5 : Int32 → Int64 → Int32 → sI → sJ → Prop) (x1 : Int32) (x2 : Int64) (x4 : Int32) (I : sI) (J : sJ) : Prop :=
  (((I h0 1) ≤ x4 → (((lg_cmp x2 0) ≤ 0 → post I J) ∧ (¬ (lg_cmp x2 0) ≤ 0 → ((16 ≤ (I h0 1) → post I J) ∧ (¬ 16 ≤ (I h0 1) → (vp_in (I h0 1) 16 ∧ (∀ J_77 : sJ, J_77 = sUJ J (sR h0 0) (Int32.toNatClampNeg (I h0 1)) x2 → (∀ I_85 : sI, I_85 = sUI I h0 1 ((I h0 1) + 1) → post I_85 J_77)))))))) ∧ (¬ (I h0 1) ≤ x4 → (vp_in x4 16 ∧ (∀ v5_26 : Int64, v5_26 = ((J (sR h0 0) (Int32.toNatClampNeg x4)) * (Int32.toInt64 x1)) + x2 → (vp_in x4 16 ∧ (∀ J_40 : sJ, J_40 = sUJ J (sR h0 0) (Int32.toNatClampNeg x4) (v5_26 &&& 1099511627775) → (∀ v2_46 : Int64, v2_46 = (v5_26.toUInt64 >>> ((Int32.toInt64 40).toUInt64 &&& Int64.toUInt64 63)).toInt64 → (∀ v4_47 : Int32, v4_47 = x4 + 1 → k5 x1 v2_46 v4_47 I J_40))))))))
def w_X0_times_5_n (h0 : Nat) (post : sI → sJ → Prop) : Nat → Int32 → Int64 → Int32 → sI → sJ → Prop
  | 0 => fun _ _ _ _ _ => False
  | n + 1 => fun x1 x2 x4 I J => w_X0_times_5_s h0 post (w_X0_times_5_n h0 post n) x1 x2 x4 I J
def w_X0_times_5 (h0 : Nat) (post : sI → sJ → Prop) (x1 : Int32) (x2 : Int64) (x4 : Int32) (I : sI) (J : sJ) : Prop := ∃ n, w_X0_times_5_n h0 post n x1 x2 x4 I J
set_option maxHeartbeats 4000000 in
set_option maxRecDepth 100000 in
theorem t_X0_times_5_s {X : sX} {h0 : Nat} (ph0 : sIs h0 0) {post : sI → sJ → Prop} (h : sOK X cX0_times RX0 7 0 0) (hr : sRt X none (sPv post)) {k5 : Int32 → Int64 → Int32 → sI → sJ → Prop} (hk5 : ∀ (x1 : Int32) (x2 : Int64) (x4 : Int32) (I : sI) (J : sJ), k5 x1 x2 x4 I J → sG X 7 5 [(0, .ref h0), (1, .int x1), (2, .long x2), (4, .int x4)] [] I J) {x1 : Int32} {x2 : Int64} {x4 : Int32} {I : sI} {J : sJ} (hw : w_X0_times_5_s h0 post k5 x1 x2 x4 I J) : sG X 7 5 [(0, .ref h0), (1, .int x1), (2, .long x2), (4, .int x4)] [] I J := by
  unfold w_X0_times_5_s at hw
  refine g_iload h 3 rfl dX0_times_5 ?_
  refine g_aload_n h rfl 0 rfl dX0_times_7 ?_
  refine g_get h ph0 fl_X0_13 rfl dX0_times_8 ?_
  refine g_icmp_ge (tgt := 53) h (by decide) dX0_times_11 (fun q11 => ?_) (fun q11 => ?_)
  · replace hw := hw.1 q11
    refine g_lload_n h rfl 2 rfl dX0_times_53 ?_
    refine g_lconst (v := 0) h (by decide) dX0_times_54 ?_
    refine g_lcmp h dX0_times_55 ?_
    refine g_if_le (tgt := 88) h (by decide) dX0_times_56 (fun q56 => ?_) (fun q56 => ?_)
    · replace hw := hw.1 q56
      exact g_vret h hr dX0_times_88 hw
    · replace hw := hw.2 q56
      refine g_aload_n h rfl 0 rfl dX0_times_59 ?_
      refine g_get h ph0 fl_X0_13 rfl dX0_times_60 ?_
      refine g_bipush (v := 16) h (by decide) dX0_times_63 ?_
      refine g_icmp_ge (tgt := 88) h (by decide) dX0_times_65 (fun q65 => ?_) (fun q65 => ?_)
      · replace hw := hw.1 q65
        exact g_vret h hr dX0_times_88 hw
      · replace hw := hw.2 q65
        refine g_aload_n h rfl 0 rfl dX0_times_68 ?_
        refine g_get h ph0 fl_X0_9 rfl dX0_times_69 ?_
        refine g_aload_n h rfl 0 rfl dX0_times_72 ?_
        refine g_get h ph0 fl_X0_13 rfl dX0_times_73 ?_
        refine g_lload_n h rfl 2 rfl dX0_times_76 ?_
        obtain ⟨hi77, hw⟩ := hw
        refine g_last h (arF_0_0 ph0) hi77 dX0_times_77 ?_
        refine g_nJ (fun J_77 eJ_77 => ?_)
        replace hw := hw J_77 eJ_77
        refine g_aload_n h rfl 0 rfl dX0_times_78 ?_
        refine g_dup h rfl dX0_times_79 ?_
        refine g_get h ph0 fl_X0_13 rfl dX0_times_80 ?_
        refine g_iconst (v := 1) h (by decide) dX0_times_83 ?_
        refine g_iadd h dX0_times_84 ?_
        refine g_putI h ph0 fl_X0_13 rfl rfl dX0_times_85 ?_
        refine g_nI (fun I_85 eI_85 => ?_)
        replace hw := hw I_85 eI_85
        exact g_vret h hr dX0_times_88 hw
  · replace hw := hw.2 q11
    refine g_aload_n h rfl 0 rfl dX0_times_14 ?_
    refine g_get h ph0 fl_X0_9 rfl dX0_times_15 ?_
    refine g_iload h 3 rfl dX0_times_18 ?_
    obtain ⟨hi20, hw⟩ := hw
    refine g_lald h (arF_0_0 ph0) hi20 dX0_times_20 ?_
    refine g_iload_n h rfl 1 rfl dX0_times_21 ?_
    refine g_i2l h dX0_times_22 ?_
    refine g_lmul h dX0_times_23 ?_
    refine g_lload_n h rfl 2 rfl dX0_times_24 ?_
    refine g_ladd h dX0_times_25 ?_
    refine g_nl (fun v5_26 ev5_26 => ?_)
    replace hw := hw v5_26 ev5_26
    refine g_lstore (lo2 := [(5, .long v5_26), (0, .ref h0), (1, .int x1), (2, .long x2), (4, .int x4)]) h (by decide) rfl dX0_times_26 ?_
    refine g_aload_n h rfl 1 rfl dX0_times_28 ?_
    refine g_get h ph0 fl_X0_9 rfl dX0_times_29 ?_
    refine g_iload h 4 rfl dX0_times_32 ?_
    refine g_lload h 0 rfl dX0_times_34 ?_
    refine g_ldc2 h lc_X0_17 dX0_times_36 ?_
    refine g_land h dX0_times_39 ?_
    obtain ⟨hi40, hw⟩ := hw
    refine g_last h (arF_0_0 ph0) hi40 dX0_times_40 ?_
    refine g_nJ (fun J_40 eJ_40 => ?_)
    replace hw := hw J_40 eJ_40
    refine g_lload h 0 rfl dX0_times_41 ?_
    refine g_bipush (v := 40) h (by decide) dX0_times_43 ?_
    refine g_lushr h dX0_times_45 ?_
    refine g_nl (fun v2_46 ev2_46 => ?_)
    replace hw := hw v2_46 ev2_46
    refine g_lstore_n (lo2 := [(2, .long v2_46), (5, .long v5_26), (0, .ref h0), (1, .int x1), (4, .int x4)]) h rfl (by decide) rfl dX0_times_46 ?_
    obtain ⟨v4_47, ev4_47⟩ : ∃ z : Int32, z = x4 + 1 := ⟨_, rfl⟩
    replace hw := hw v4_47 ev4_47
    refine g_iinc (v := v4_47) (lo2 := [(4, .int v4_47), (2, .long v2_46), (5, .long v5_26), (0, .ref h0), (1, .int x1)]) h 4 rfl (by rw [ev4_47]; rfl) (by decide) rfl dX0_times_47 ?_
    refine g_goto (tgt := 5) h (by decide) dX0_times_50 ?_
    exact g_sub [3, 4, 1, 0] rfl (hk5 _ _ _ _ _ hw)
theorem t_X0_times_5 {X : sX} {h0 : Nat} (ph0 : sIs h0 0) {post : sI → sJ → Prop} (h : sOK X cX0_times RX0 7 0 0) (hr : sRt X none (sPv post)) {x1 : Int32} {x2 : Int64} {x4 : Int32} {I : sI} {J : sJ} (hw : w_X0_times_5 h0 post x1 x2 x4 I J) : sG X 7 5 [(0, .ref h0), (1, .int x1), (2, .long x2), (4, .int x4)] [] I J := by
  obtain ⟨n, hw⟩ := hw
  induction n generalizing x1 x2 x4 I J with
  | zero => exact hw.elim
  | succ n ih => exact t_X0_times_5_s ph0 h hr (fun _ _ _ _ _ q => ih q) hw
def w_X0_times (h0 : Nat) (a1 : Int32) (I : sI) (J : sJ) (post : sI → sJ → Prop) : Prop :=
  w_X0_times_5 h0 post a1 0 0 I J
set_option maxHeartbeats 4000000 in
set_option maxRecDepth 100000 in
theorem t_X0_times {X : sX} {h0 : Nat} {a1 : Int32} (ph0 : sIs h0 0) {I : sI} {J : sJ} {post : sI → sJ → Prop} (h : sOK X cX0_times RX0 7 0 0) (hr : sRt X none (sPv post)) (hw : w_X0_times h0 a1 I J post) : sG X 7 0 [(0, .ref h0), (1, .int a1)] [] I J := by
  unfold w_X0_times at hw
  refine g_lconst (v := 0) h (by decide) dX0_times_0 ?_
  refine g_lstore_n (lo2 := [(2, .long 0), (0, .ref h0), (1, .int a1)]) h rfl (by decide) rfl dX0_times_1 ?_
  refine g_iconst (v := 0) h (by decide) dX0_times_2 ?_
  refine g_istore (lo2 := [(4, .int 0), (2, .long 0), (0, .ref h0), (1, .int a1)]) h (by decide) rfl dX0_times_3 ?_
  exact g_sub [2, 3, 1, 0] rfl (t_X0_times_5 ph0 h hr hw)
theorem c_X0_times (X : sX) {h0 : Nat} {a1 : Int32} (ph0 : sIs h0 0) {I : sI} {J : sJ} {post : sI → sJ → Prop} (hw : w_X0_times h0 a1 I J post) : sCall X yX0_times cX0_times 7 none 0 0 [.ref h0, .int a1] I J (sPv post) := sCall_of (by decide +kernel) (Nat.le_of_ble_eq_true rfl) (fun X h hr => t_X0_times ph0 h hr hw)
theorem dX0_timesPower_0 : decode cX0_timesPower 0 = .ok (.iconst 0, 1) := by decide +kernel
theorem dX0_timesPower_1 : decode cX0_timesPower 1 = .ok (.istore_n 3, 1) := by decide +kernel
theorem dX0_timesPower_2 : decode cX0_timesPower 2 = .ok (.iload_n 3, 1) := by decide +kernel
theorem dX0_timesPower_3 : decode cX0_timesPower 3 = .ok (.iload_n 2, 1) := by decide +kernel
theorem dX0_timesPower_4 : decode cX0_timesPower 4 = .ok (.if_icmp .ge 14, 3) := by decide +kernel
theorem dX0_timesPower_7 : decode cX0_timesPower 7 = .ok (.aload_n 0, 1) := by decide +kernel
theorem dX0_timesPower_8 : decode cX0_timesPower 8 = .ok (.iload_n 1, 1) := by decide +kernel
theorem dX0_timesPower_9 : decode cX0_timesPower 9 = .ok (.invokevirtual 19, 3) := by decide +kernel
theorem dX0_timesPower_12 : decode cX0_timesPower 12 = .ok (.iinc 3 1, 3) := by decide +kernel
theorem dX0_timesPower_15 : decode cX0_timesPower 15 = .ok (.goto (-13), 3) := by decide +kernel
theorem dX0_timesPower_18 : decode cX0_timesPower 18 = .ok (.return_, 1) := by decide +kernel
def w_X0_timesPower_2_s (h0 : Nat) (post : sI → sJ → Prop) (k2 : Int32 → Int32 → Int32 → sI → sJ → Prop) (x1 : Int32) (x2 : Int32) (x3 : Int32) (I : sI) (J : sJ) : Prop :=
  ((x2 ≤ x3 → post I J) ∧ (¬ x2 ≤ x3 → w_X0_times h0 x1 I J (fun (I_9 : sI) (J_9 : sJ) => ((∀ v3_12 : Int32, v3_12 = x3 + 1 → k2 x1 x2 v3_12 I_9 J_9)))))
def w_X0_timesPower_2_n (h0 : Nat) (post : sI → sJ → Prop) : Nat → Int32 → Int32 → Int32 → sI → sJ → Prop
  | 0 => fun _ _ _ _ _ => False
  | n + 1 => fun x1 x2 x3 I J => w_X0_timesPower_2_s h0 post (w_X0_timesPower_2_n h0 post n) x1 x2 x3 I J
def w_X0_timesPower_2 (h0 : Nat) (post : sI → sJ → Prop) (x1 : Int32) (x2 : Int32) (x3 : Int32) (I : sI) (J : sJ) : Prop := ∃ n, w_X0_timesPower_2_n h0 post n x1 x2 x3 I J
set_option maxHeartbeats 4000000 in
set_option maxRecDepth 100000 in
theorem t_X0_timesPower_2_s {X : sX} {h0 : Nat} (ph0 : sIs h0 0) {post : sI → sJ → Prop} (h : sOK X cX0_timesPower RX0 4 1 26) (hr : sRt X none (sPv post)) {k2 : Int32 → Int32 → Int32 → sI → sJ → Prop} (hk2 : ∀ (x1 : Int32) (x2 : Int32) (x3 : Int32) (I : sI) (J : sJ), k2 x1 x2 x3 I J → sG X 4 2 [(0, .ref h0), (1, .int x1), (2, .int x2), (3, .int x3)] [] I J) {x1 : Int32} {x2 : Int32} {x3 : Int32} {I : sI} {J : sJ} (hw : w_X0_timesPower_2_s h0 post k2 x1 x2 x3 I J) : sG X 4 2 [(0, .ref h0), (1, .int x1), (2, .int x2), (3, .int x3)] [] I J := by
  unfold w_X0_timesPower_2_s at hw
  refine g_iload_n h rfl 3 rfl dX0_timesPower_2 ?_
  refine g_iload_n h rfl 2 rfl dX0_timesPower_3 ?_
  refine g_icmp_ge (tgt := 18) h (by decide) dX0_timesPower_4 (fun q4 => ?_) (fun q4 => ?_)
  · replace hw := hw.1 q4
    exact g_vret h hr dX0_timesPower_18 hw
  · replace hw := hw.2 q4
    refine g_aload_n h rfl 0 rfl dX0_timesPower_7 ?_
    refine g_iload_n h rfl 1 rfl dX0_timesPower_8 ?_
    refine g_callV [.int x1] h (c_X0_times X ph0 hw) sPv_v mw_X0_times lk_X0_19 ph0 rfl rfl ⟨by decide, by decide⟩ (Nat.le_of_ble_eq_true rfl) dX0_timesPower_9 (sPv_k (fun I_9 J_9 hw => ?_))
    obtain ⟨v3_12, ev3_12⟩ : ∃ z : Int32, z = x3 + 1 := ⟨_, rfl⟩
    replace hw := hw v3_12 ev3_12
    refine g_iinc (v := v3_12) (lo2 := [(3, .int v3_12), (0, .ref h0), (1, .int x1), (2, .int x2)]) h 3 rfl (by rw [ev3_12]; rfl) (by decide) rfl dX0_timesPower_12 ?_
    refine g_goto (tgt := 2) h (by decide) dX0_timesPower_15 ?_
    exact g_sub [1, 2, 3, 0] rfl (hk2 _ _ _ _ _ hw)
theorem t_X0_timesPower_2 {X : sX} {h0 : Nat} (ph0 : sIs h0 0) {post : sI → sJ → Prop} (h : sOK X cX0_timesPower RX0 4 1 26) (hr : sRt X none (sPv post)) {x1 : Int32} {x2 : Int32} {x3 : Int32} {I : sI} {J : sJ} (hw : w_X0_timesPower_2 h0 post x1 x2 x3 I J) : sG X 4 2 [(0, .ref h0), (1, .int x1), (2, .int x2), (3, .int x3)] [] I J := by
  obtain ⟨n, hw⟩ := hw
  induction n generalizing x1 x2 x3 I J with
  | zero => exact hw.elim
  | succ n ih => exact t_X0_timesPower_2_s ph0 h hr (fun _ _ _ _ _ q => ih q) hw
def w_X0_timesPower (h0 : Nat) (a1 : Int32) (a2 : Int32) (I : sI) (J : sJ) (post : sI → sJ → Prop) : Prop :=
  w_X0_timesPower_2 h0 post a1 a2 0 I J
set_option maxHeartbeats 4000000 in
set_option maxRecDepth 100000 in
theorem t_X0_timesPower {X : sX} {h0 : Nat} {a1 : Int32} {a2 : Int32} (ph0 : sIs h0 0) {I : sI} {J : sJ} {post : sI → sJ → Prop} (h : sOK X cX0_timesPower RX0 4 1 26) (hr : sRt X none (sPv post)) (hw : w_X0_timesPower h0 a1 a2 I J post) : sG X 4 0 [(0, .ref h0), (1, .int a1), (2, .int a2)] [] I J := by
  unfold w_X0_timesPower at hw
  refine g_iconst (v := 0) h (by decide) dX0_timesPower_0 ?_
  refine g_istore_n (lo2 := [(3, .int 0), (0, .ref h0), (1, .int a1), (2, .int a2)]) h rfl (by decide) rfl dX0_timesPower_1 ?_
  exact g_sub [1, 2, 3, 0] rfl (t_X0_timesPower_2 ph0 h hr hw)
theorem c_X0_timesPower (X : sX) {h0 : Nat} {a1 : Int32} {a2 : Int32} (ph0 : sIs h0 0) {I : sI} {J : sJ} {post : sI → sJ → Prop} (hw : w_X0_timesPower h0 a1 a2 I J post) : sCall X yX0_timesPower cX0_timesPower 4 none 1 26 [.ref h0, .int a1, .int a2] I J (sPv post) := sCall_of (by decide +kernel) (Nat.le_of_ble_eq_true rfl) (fun X h hr => t_X0_timesPower ph0 h hr hw)
theorem dX0_limbAt_0 : decode cX0_limbAt 0 = .ok (.iload_n 1, 1) := by decide +kernel
theorem dX0_limbAt_1 : decode cX0_limbAt 1 = .ok (.aload_n 0, 1) := by decide +kernel
theorem dX0_limbAt_2 : decode cX0_limbAt 2 = .ok (.getfield 13, 3) := by decide +kernel
theorem dX0_limbAt_5 : decode cX0_limbAt 5 = .ok (.if_icmp .ge 12, 3) := by decide +kernel
theorem dX0_limbAt_8 : decode cX0_limbAt 8 = .ok (.aload_n 0, 1) := by decide +kernel
theorem dX0_limbAt_9 : decode cX0_limbAt 9 = .ok (.getfield 9, 3) := by decide +kernel
theorem dX0_limbAt_12 : decode cX0_limbAt 12 = .ok (.iload_n 1, 1) := by decide +kernel
theorem dX0_limbAt_13 : decode cX0_limbAt 13 = .ok (.laload, 1) := by decide +kernel
theorem dX0_limbAt_14 : decode cX0_limbAt 14 = .ok (.goto 4, 3) := by decide +kernel
theorem dX0_limbAt_17 : decode cX0_limbAt 17 = .ok (.lconst 0, 1) := by decide +kernel
theorem dX0_limbAt_18 : decode cX0_limbAt 18 = .ok (.lreturn, 1) := by decide +kernel
def w_X0_limbAt (h0 : Nat) (a1 : Int32) (I : sI) (J : sJ) (post : Int64 → sI → sJ → Prop) : Prop :=
  (((I h0 1) ≤ a1 → post 0 I J) ∧ (¬ (I h0 1) ≤ a1 → (vp_in a1 16 ∧ post (J (sR h0 0) (Int32.toNatClampNeg a1)) I J)))
set_option maxHeartbeats 4000000 in
set_option maxRecDepth 100000 in
theorem t_X0_limbAt {X : sX} {h0 : Nat} {a1 : Int32} (ph0 : sIs h0 0) {I : sI} {J : sJ} {post : Int64 → sI → sJ → Prop} (h : sOK X cX0_limbAt RX0 2 0 0) (hr : sRt X (some .long) (sPl post)) (hw : w_X0_limbAt h0 a1 I J post) : sG X 2 0 [(0, .ref h0), (1, .int a1)] [] I J := by
  unfold w_X0_limbAt at hw
  refine g_iload_n h rfl 1 rfl dX0_limbAt_0 ?_
  refine g_aload_n h rfl 0 rfl dX0_limbAt_1 ?_
  refine g_get h ph0 fl_X0_13 rfl dX0_limbAt_2 ?_
  refine g_icmp_ge (tgt := 17) h (by decide) dX0_limbAt_5 (fun q5 => ?_) (fun q5 => ?_)
  · replace hw := hw.1 q5
    refine g_lconst (v := 0) h (by decide) dX0_limbAt_17 ?_
    exact g_lret h hr dX0_limbAt_18 hw
  · replace hw := hw.2 q5
    refine g_aload_n h rfl 0 rfl dX0_limbAt_8 ?_
    refine g_get h ph0 fl_X0_9 rfl dX0_limbAt_9 ?_
    refine g_iload_n h rfl 1 rfl dX0_limbAt_12 ?_
    obtain ⟨hi13, hw⟩ := hw
    refine g_lald h (arF_0_0 ph0) hi13 dX0_limbAt_13 ?_
    refine g_goto (tgt := 18) h (by decide) dX0_limbAt_14 ?_
    exact g_lret h hr dX0_limbAt_18 hw
theorem c_X0_limbAt (X : sX) {h0 : Nat} {a1 : Int32} (ph0 : sIs h0 0) {I : sI} {J : sJ} {post : Int64 → sI → sJ → Prop} (hw : w_X0_limbAt h0 a1 I J post) : sCall X yX0_limbAt cX0_limbAt 2 (some .long) 0 0 [.ref h0, .int a1] I J (sPl post) := sCall_of (by decide +kernel) (Nat.le_of_ble_eq_true rfl) (fun X h hr => t_X0_limbAt ph0 h hr hw)
theorem dJ13_compare_74951_0 : decode cJ13_compare_74951 0 = .ok (.lload_n 0, 1) := by decide +kernel
theorem dJ13_compare_74951_1 : decode cJ13_compare_74951 1 = .ok (.lload_n 2, 1) := by decide +kernel
theorem dJ13_compare_74951_2 : decode cJ13_compare_74951 2 = .ok (.lcmp, 1) := by decide +kernel
theorem dJ13_compare_74951_3 : decode cJ13_compare_74951 3 = .ok (.ifCond .ge 7, 3) := by decide +kernel
theorem dJ13_compare_74951_6 : decode cJ13_compare_74951 6 = .ok (.iconst (-1), 1) := by decide +kernel
theorem dJ13_compare_74951_7 : decode cJ13_compare_74951 7 = .ok (.goto 14, 3) := by decide +kernel
theorem dJ13_compare_74951_10 : decode cJ13_compare_74951 10 = .ok (.lload_n 0, 1) := by decide +kernel
theorem dJ13_compare_74951_11 : decode cJ13_compare_74951 11 = .ok (.lload_n 2, 1) := by decide +kernel
theorem dJ13_compare_74951_12 : decode cJ13_compare_74951 12 = .ok (.lcmp, 1) := by decide +kernel
theorem dJ13_compare_74951_13 : decode cJ13_compare_74951 13 = .ok (.ifCond .ne 7, 3) := by decide +kernel
theorem dJ13_compare_74951_16 : decode cJ13_compare_74951 16 = .ok (.iconst 0, 1) := by decide +kernel
theorem dJ13_compare_74951_17 : decode cJ13_compare_74951 17 = .ok (.goto 4, 3) := by decide +kernel
theorem dJ13_compare_74951_20 : decode cJ13_compare_74951 20 = .ok (.iconst 1, 1) := by decide +kernel
theorem dJ13_compare_74951_21 : decode cJ13_compare_74951 21 = .ok (.ireturn, 1) := by decide +kernel
def w_J13_compare_74951 (a0 : Int64) (a2 : Int64) (I : sI) (J : sJ) (post : Int32 → sI → sJ → Prop) : Prop :=
  ((0 ≤ (lg_cmp a0 a2) → ((¬ (lg_cmp a0 a2) = 0 → post 1 I J) ∧ ((lg_cmp a0 a2) = 0 → post 0 I J))) ∧ (¬ 0 ≤ (lg_cmp a0 a2) → post (-1) I J))
set_option maxHeartbeats 4000000 in
set_option maxRecDepth 100000 in
theorem t_J13_compare_74951 {X : sX} {a0 : Int64} {a2 : Int64} {I : sI} {J : sJ} {post : Int32 → sI → sJ → Prop} (h : sOK X cJ13_compare_74951 RJ13 4 0 0) (hr : sRt X (some .int) (sPi post)) (hw : w_J13_compare_74951 a0 a2 I J post) : sG X 4 0 [(0, .long a0), (2, .long a2)] [] I J := by
  unfold w_J13_compare_74951 at hw
  refine g_lload_n h rfl 0 rfl dJ13_compare_74951_0 ?_
  refine g_lload_n h rfl 1 rfl dJ13_compare_74951_1 ?_
  refine g_lcmp h dJ13_compare_74951_2 ?_
  refine g_if_ge (tgt := 10) h (by decide) dJ13_compare_74951_3 (fun q3 => ?_) (fun q3 => ?_)
  · replace hw := hw.1 q3
    refine g_lload_n h rfl 0 rfl dJ13_compare_74951_10 ?_
    refine g_lload_n h rfl 1 rfl dJ13_compare_74951_11 ?_
    refine g_lcmp h dJ13_compare_74951_12 ?_
    refine g_if_ne (tgt := 20) h (by decide) dJ13_compare_74951_13 (fun q13 => ?_) (fun q13 => ?_)
    · replace hw := hw.1 q13
      refine g_iconst (v := 1) h (by decide) dJ13_compare_74951_20 ?_
      exact g_iret h hr dJ13_compare_74951_21 hw
    · replace hw := hw.2 q13
      refine g_iconst (v := 0) h (by decide) dJ13_compare_74951_16 ?_
      refine g_goto (tgt := 21) h (by decide) dJ13_compare_74951_17 ?_
      exact g_iret h hr dJ13_compare_74951_21 hw
  · replace hw := hw.2 q3
    refine g_iconst (v := (-1)) h (by decide) dJ13_compare_74951_6 ?_
    refine g_goto (tgt := 21) h (by decide) dJ13_compare_74951_7 ?_
    exact g_iret h hr dJ13_compare_74951_21 hw
theorem c_J13_compare_74951 (X : sX) {a0 : Int64} {a2 : Int64} {I : sI} {J : sJ} {post : Int32 → sI → sJ → Prop} (hw : w_J13_compare_74951 a0 a2 I J post) : sCall X yJ13_compare_74951 cJ13_compare_74951 4 (some .int) 0 0 [.long a0, .long a2] I J (sPi post) := sCall_of (by decide +kernel) (Nat.le_of_ble_eq_true rfl) (fun X h hr => t_J13_compare_74951 h hr hw)
theorem dX0_against_0 : decode cX0_against 0 = .ok (.bipush 15, 2) := by decide +kernel
theorem dX0_against_2 : decode cX0_against 2 = .ok (.istore_n 2, 1) := by decide +kernel
theorem dX0_against_3 : decode cX0_against 3 = .ok (.iload_n 2, 1) := by decide +kernel
theorem dX0_against_4 : decode cX0_against 4 = .ok (.ifCond .lt 29, 3) := by decide +kernel
theorem dX0_against_7 : decode cX0_against 7 = .ok (.aload_n 0, 1) := by decide +kernel
theorem dX0_against_8 : decode cX0_against 8 = .ok (.iload_n 2, 1) := by decide +kernel
theorem dX0_against_9 : decode cX0_against 9 = .ok (.invokevirtual 23, 3) := by decide +kernel
theorem dX0_against_12 : decode cX0_against 12 = .ok (.aload_n 1, 1) := by decide +kernel
theorem dX0_against_13 : decode cX0_against 13 = .ok (.iload_n 2, 1) := by decide +kernel
theorem dX0_against_14 : decode cX0_against 14 = .ok (.invokevirtual 23, 3) := by decide +kernel
theorem dX0_against_17 : decode cX0_against 17 = .ok (.invokestatic 27, 3) := by decide +kernel
theorem dX0_against_20 : decode cX0_against 20 = .ok (.istore_n 3, 1) := by decide +kernel
theorem dX0_against_21 : decode cX0_against 21 = .ok (.iload_n 3, 1) := by decide +kernel
theorem dX0_against_22 : decode cX0_against 22 = .ok (.ifCond .eq 5, 3) := by decide +kernel
theorem dX0_against_25 : decode cX0_against 25 = .ok (.iload_n 3, 1) := by decide +kernel
theorem dX0_against_26 : decode cX0_against 26 = .ok (.ireturn, 1) := by decide +kernel
theorem dX0_against_27 : decode cX0_against 27 = .ok (.iinc 2 (-1), 3) := by decide +kernel
theorem dX0_against_30 : decode cX0_against 30 = .ok (.goto (-27), 3) := by decide +kernel
theorem dX0_against_33 : decode cX0_against 33 = .ok (.iconst 0, 1) := by decide +kernel
theorem dX0_against_34 : decode cX0_against 34 = .ok (.ireturn, 1) := by decide +kernel
def w_X0_against_3_s (h0 : Nat) (h1 : Nat) (post : Int32 → sI → sJ → Prop) (k3 : Int32 → sI → sJ → Prop) (x2 : Int32) (I : sI) (J : sJ) : Prop :=
  ((x2 < 0 → post 0 I J) ∧ (¬ x2 < 0 → w_X0_limbAt h0 x2 I J (fun (r_9 : Int64) (I_9 : sI) (J_9 : sJ) => (w_X0_limbAt h1 x2 I_9 J_9 (fun (r_14 : Int64) (I_14 : sI) (J_14 : sJ) => (w_J13_compare_74951 r_9 r_14 I_14 J_14 (fun (r_17 : Int32) (I_17 : sI) (J_17 : sJ) => (((r_17 = 0 → (∀ v2_27 : Int32, v2_27 = x2 + (-1) → k3 v2_27 I_17 J_17)) ∧ (¬ r_17 = 0 → post r_17 I_17 J_17))))))))))
def w_X0_against_3_n (h0 : Nat) (h1 : Nat) (post : Int32 → sI → sJ → Prop) : Nat → Int32 → sI → sJ → Prop
  | 0 => fun _ _ _ => False
  | n + 1 => fun x2 I J => w_X0_against_3_s h0 h1 post (w_X0_against_3_n h0 h1 post n) x2 I J
def w_X0_against_3 (h0 : Nat) (h1 : Nat) (post : Int32 → sI → sJ → Prop) (x2 : Int32) (I : sI) (J : sJ) : Prop := ∃ n, w_X0_against_3_n h0 h1 post n x2 I J
set_option maxHeartbeats 4000000 in
set_option maxRecDepth 100000 in
theorem t_X0_against_3_s {X : sX} {h0 : Nat} {h1 : Nat} (ph0 : sIs h0 0) (ph1 : sIs h1 0) {post : Int32 → sI → sJ → Prop} (h : sOK X cX0_against RX0 4 1 23) (hr : sRt X (some .int) (sPi post)) {k3 : Int32 → sI → sJ → Prop} (hk3 : ∀ (x2 : Int32) (I : sI) (J : sJ), k3 x2 I J → sG X 4 3 [(0, .ref h0), (1, .ref h1), (2, .int x2)] [] I J) {x2 : Int32} {I : sI} {J : sJ} (hw : w_X0_against_3_s h0 h1 post k3 x2 I J) : sG X 4 3 [(0, .ref h0), (1, .ref h1), (2, .int x2)] [] I J := by
  unfold w_X0_against_3_s at hw
  refine g_iload_n h rfl 2 rfl dX0_against_3 ?_
  refine g_if_lt (tgt := 33) h (by decide) dX0_against_4 (fun q4 => ?_) (fun q4 => ?_)
  · replace hw := hw.1 q4
    refine g_iconst (v := 0) h (by decide) dX0_against_33 ?_
    exact g_iret h hr dX0_against_34 hw
  · replace hw := hw.2 q4
    refine g_aload_n h rfl 0 rfl dX0_against_7 ?_
    refine g_iload_n h rfl 2 rfl dX0_against_8 ?_
    refine g_callV [.int x2] h (c_X0_limbAt X ph0 hw) sPl_v mw_X0_limbAt lk_X0_23 ph0 rfl rfl ⟨by decide, by decide⟩ (Nat.le_of_ble_eq_true rfl) dX0_against_9 (sPl_k (fun r_9 I_9 J_9 hw => ?_))
    refine g_aload_n h rfl 1 rfl dX0_against_12 ?_
    refine g_iload_n h rfl 2 rfl dX0_against_13 ?_
    refine g_callV [.int x2] h (c_X0_limbAt X ph1 hw) sPl_v mw_X0_limbAt lk_X0_23 ph1 rfl rfl ⟨by decide, by decide⟩ (Nat.le_of_ble_eq_true rfl) dX0_against_14 (sPl_k (fun r_14 I_14 J_14 hw => ?_))
    refine g_callS [.long r_9, .long r_14] h (c_J13_compare_74951 X hw) sPi_v mw_J13_compare_74951 lk_X0_27 rfl ⟨by decide, by decide⟩ (Nat.le_of_ble_eq_true rfl) dX0_against_17 (sPi_k (fun r_17 I_17 J_17 hw => ?_))
    refine g_istore_n (lo2 := [(3, .int r_17), (0, .ref h0), (1, .ref h1), (2, .int x2)]) h rfl (by decide) rfl dX0_against_20 ?_
    refine g_iload_n h rfl 0 rfl dX0_against_21 ?_
    refine g_if_eq (tgt := 27) h (by decide) dX0_against_22 (fun q22 => ?_) (fun q22 => ?_)
    · replace hw := hw.1 q22
      obtain ⟨v2_27, ev2_27⟩ : ∃ z : Int32, z = x2 + (-1) := ⟨_, rfl⟩
      replace hw := hw v2_27 ev2_27
      refine g_iinc (v := v2_27) (lo2 := [(2, .int v2_27), (3, .int r_17), (0, .ref h0), (1, .ref h1)]) h 3 rfl (by rw [ev2_27]; rfl) (by decide) rfl dX0_against_27 ?_
      refine g_goto (tgt := 3) h (by decide) dX0_against_30 ?_
      exact g_sub [2, 3, 0] rfl (hk3 _ _ _ hw)
    · replace hw := hw.2 q22
      refine g_iload_n h rfl 0 rfl dX0_against_25 ?_
      exact g_iret h hr dX0_against_26 hw
theorem t_X0_against_3 {X : sX} {h0 : Nat} {h1 : Nat} (ph0 : sIs h0 0) (ph1 : sIs h1 0) {post : Int32 → sI → sJ → Prop} (h : sOK X cX0_against RX0 4 1 23) (hr : sRt X (some .int) (sPi post)) {x2 : Int32} {I : sI} {J : sJ} (hw : w_X0_against_3 h0 h1 post x2 I J) : sG X 4 3 [(0, .ref h0), (1, .ref h1), (2, .int x2)] [] I J := by
  obtain ⟨n, hw⟩ := hw
  induction n generalizing x2 I J with
  | zero => exact hw.elim
  | succ n ih => exact t_X0_against_3_s ph0 ph1 h hr (fun _ _ _ q => ih q) hw
def w_X0_against (h0 : Nat) (h1 : Nat) (I : sI) (J : sJ) (post : Int32 → sI → sJ → Prop) : Prop :=
  w_X0_against_3 h0 h1 post 15 I J
set_option maxHeartbeats 4000000 in
set_option maxRecDepth 100000 in
theorem t_X0_against {X : sX} {h0 : Nat} {h1 : Nat} (ph0 : sIs h0 0) (ph1 : sIs h1 0) {I : sI} {J : sJ} {post : Int32 → sI → sJ → Prop} (h : sOK X cX0_against RX0 4 1 23) (hr : sRt X (some .int) (sPi post)) (hw : w_X0_against h0 h1 I J post) : sG X 4 0 [(0, .ref h0), (1, .ref h1)] [] I J := by
  unfold w_X0_against at hw
  refine g_bipush (v := 15) h (by decide) dX0_against_0 ?_
  refine g_istore_n (lo2 := [(2, .int 15), (0, .ref h0), (1, .ref h1)]) h rfl (by decide) rfl dX0_against_2 ?_
  exact g_sub [1, 2, 0] rfl (t_X0_against_3 ph0 ph1 h hr hw)
theorem c_X0_against (X : sX) {h0 : Nat} {h1 : Nat} (ph0 : sIs h0 0) (ph1 : sIs h1 0) {I : sI} {J : sJ} {post : Int32 → sI → sJ → Prop} (hw : w_X0_against h0 h1 I J post) : sCall X yX0_against cX0_against 4 (some .int) 1 23 [.ref h0, .ref h1] I J (sPi post) := sCall_of (by decide +kernel) (Nat.le_of_ble_eq_true rfl) (fun X h hr => t_X0_against ph0 ph1 h hr hw)
theorem dX1_has_0 : decode cX1_has 0 = .ok (.iload_n 1, 1) := by decide +kernel
theorem dX1_has_1 : decode cX1_has 1 = .ok (.ifCond .lt 15, 3) := by decide +kernel
theorem dX1_has_4 : decode cX1_has 4 = .ok (.iload_n 1, 1) := by decide +kernel
theorem dX1_has_5 : decode cX1_has 5 = .ok (.aload_n 0, 1) := by decide +kernel
theorem dX1_has_6 : decode cX1_has 6 = .ok (.getfield 29, 3) := by decide +kernel
theorem dX1_has_9 : decode cX1_has 9 = .ok (.if_icmp .ge 7, 3) := by decide +kernel
theorem dX1_has_12 : decode cX1_has 12 = .ok (.iconst 1, 1) := by decide +kernel
theorem dX1_has_13 : decode cX1_has 13 = .ok (.goto 4, 3) := by decide +kernel
theorem dX1_has_16 : decode cX1_has 16 = .ok (.iconst 0, 1) := by decide +kernel
theorem dX1_has_17 : decode cX1_has 17 = .ok (.ireturn, 1) := by decide +kernel
def w_X1_has (a1 : Int32) (I : sI) (J : sJ) (post : Int32 → sI → sJ → Prop) : Prop :=
  ((a1 < 0 → post 0 I J) ∧ (¬ a1 < 0 → (((I 227 1) ≤ a1 → post 0 I J) ∧ (¬ (I 227 1) ≤ a1 → post 1 I J))))
set_option maxHeartbeats 4000000 in
set_option maxRecDepth 100000 in
theorem t_X1_has {X : sX} {a1 : Int32} {I : sI} {J : sJ} {post : Int32 → sI → sJ → Prop} (h : sOK X cX1_has RX1 2 0 0) (hr : sRt X (some .boolean) (sPi post)) (hw : w_X1_has a1 I J post) : sG X 2 0 [(0, .ref 227), (1, .int a1)] [] I J := by
  unfold w_X1_has at hw
  refine g_iload_n h rfl 1 rfl dX1_has_0 ?_
  refine g_if_lt (tgt := 16) h (by decide) dX1_has_1 (fun q1 => ?_) (fun q1 => ?_)
  · replace hw := hw.1 q1
    refine g_iconst (v := 0) h (by decide) dX1_has_16 ?_
    exact g_zret h hr (Or.inl rfl) dX1_has_17 hw
  · replace hw := hw.2 q1
    refine g_iload_n h rfl 1 rfl dX1_has_4 ?_
    refine g_aload_n h rfl 0 rfl dX1_has_5 ?_
    refine g_get h is_227 fl_X1_29 rfl dX1_has_6 ?_
    refine g_icmp_ge (tgt := 16) h (by decide) dX1_has_9 (fun q9 => ?_) (fun q9 => ?_)
    · replace hw := hw.1 q9
      refine g_iconst (v := 0) h (by decide) dX1_has_16 ?_
      exact g_zret h hr (Or.inl rfl) dX1_has_17 hw
    · replace hw := hw.2 q9
      refine g_iconst (v := 1) h (by decide) dX1_has_12 ?_
      refine g_goto (tgt := 17) h (by decide) dX1_has_13 ?_
      exact g_zret h hr (Or.inr rfl) dX1_has_17 hw
theorem c_X1_has (X : sX) {a1 : Int32} {I : sI} {J : sJ} {post : Int32 → sI → sJ → Prop} (hw : w_X1_has a1 I J post) : sCall X yX1_has cX1_has 2 (some .boolean) 0 0 [.ref 227, .int a1] I J (sPi post) := sCall_of (by decide +kernel) (Nat.le_of_ble_eq_true rfl) (fun X h hr => t_X1_has h hr hw)
theorem dX1_add_0 : decode cX1_add 0 = .ok (.aload_n 0, 1) := by decide +kernel
theorem dX1_add_1 : decode cX1_add 1 = .ok (.dup, 1) := by decide +kernel
theorem dX1_add_2 : decode cX1_add 2 = .ok (.getfield 29, 3) := by decide +kernel
theorem dX1_add_5 : decode cX1_add 5 = .ok (.iconst 1, 1) := by decide +kernel
theorem dX1_add_6 : decode cX1_add 6 = .ok (.iadd, 1) := by decide +kernel
theorem dX1_add_7 : decode cX1_add 7 = .ok (.putfield 29, 3) := by decide +kernel
theorem dX1_add_10 : decode cX1_add 10 = .ok (.aload_n 0, 1) := by decide +kernel
theorem dX1_add_11 : decode cX1_add 11 = .ok (.getfield 29, 3) := by decide +kernel
theorem dX1_add_14 : decode cX1_add 14 = .ok (.iconst 1, 1) := by decide +kernel
theorem dX1_add_15 : decode cX1_add 15 = .ok (.isub, 1) := by decide +kernel
theorem dX1_add_16 : decode cX1_add 16 = .ok (.ireturn, 1) := by decide +kernel
def w_X1_add (I : sI) (J : sJ) (post : Int32 → sI → sJ → Prop) : Prop :=
  (∀ I_7 : sI, I_7 = sUI I 227 1 ((I 227 1) + 1) → post ((I_7 227 1) - 1) I_7 J)
set_option maxHeartbeats 4000000 in
set_option maxRecDepth 100000 in
theorem t_X1_add {X : sX} {I : sI} {J : sJ} {post : Int32 → sI → sJ → Prop} (h : sOK X cX1_add RX1 1 0 0) (hr : sRt X (some .int) (sPi post)) (hw : w_X1_add I J post) : sG X 1 0 [(0, .ref 227)] [] I J := by
  unfold w_X1_add at hw
  refine g_aload_n h rfl 0 rfl dX1_add_0 ?_
  refine g_dup h rfl dX1_add_1 ?_
  refine g_get h is_227 fl_X1_29 rfl dX1_add_2 ?_
  refine g_iconst (v := 1) h (by decide) dX1_add_5 ?_
  refine g_iadd h dX1_add_6 ?_
  refine g_putI h is_227 fl_X1_29 rfl rfl dX1_add_7 ?_
  refine g_nI (fun I_7 eI_7 => ?_)
  replace hw := hw I_7 eI_7
  refine g_aload_n h rfl 0 rfl dX1_add_10 ?_
  refine g_get h is_227 fl_X1_29 rfl dX1_add_11 ?_
  refine g_iconst (v := 1) h (by decide) dX1_add_14 ?_
  refine g_isub h dX1_add_15 ?_
  exact g_iret h hr dX1_add_16 hw
theorem c_X1_add (X : sX) {I : sI} {J : sJ} {post : Int32 → sI → sJ → Prop} (hw : w_X1_add I J post) : sCall X yX1_add cX1_add 1 (some .int) 0 0 [.ref 227] I J (sPi post) := sCall_of (by decide +kernel) (Nat.le_of_ble_eq_true rfl) (fun X h hr => t_X1_add h hr hw)
theorem dX1_saying_0 : decode cX1_saying 0 = .ok (.iconst 0, 1) := by decide +kernel
theorem dX1_saying_1 : decode cX1_saying 1 = .ok (.istore_n 3, 1) := by decide +kernel
theorem dX1_saying_2 : decode cX1_saying 2 = .ok (.iconst 0, 1) := by decide +kernel
theorem dX1_saying_3 : decode cX1_saying 3 = .ok (.istore 4, 2) := by decide +kernel
theorem dX1_saying_5 : decode cX1_saying 5 = .ok (.iload 4, 2) := by decide +kernel
theorem dX1_saying_7 : decode cX1_saying 7 = .ok (.aload_n 0, 1) := by decide +kernel
theorem dX1_saying_8 : decode cX1_saying 8 = .ok (.getfield 29, 3) := by decide +kernel
theorem dX1_saying_11 : decode cX1_saying 11 = .ok (.if_icmp .ge 33, 3) := by decide +kernel
theorem dX1_saying_14 : decode cX1_saying 14 = .ok (.iload_n 3, 1) := by decide +kernel
theorem dX1_saying_15 : decode cX1_saying 15 = .ok (.aload_n 0, 1) := by decide +kernel
theorem dX1_saying_16 : decode cX1_saying 16 = .ok (.getfield 11, 3) := by decide +kernel
theorem dX1_saying_19 : decode cX1_saying 19 = .ok (.iload 4, 2) := by decide +kernel
theorem dX1_saying_21 : decode cX1_saying 21 = .ok (.aaload, 1) := by decide +kernel
theorem dX1_saying_22 : decode cX1_saying 22 = .ok (.iload_n 1, 1) := by decide +kernel
theorem dX1_saying_23 : decode cX1_saying 23 = .ok (.iaload, 1) := by decide +kernel
theorem dX1_saying_24 : decode cX1_saying 24 = .ok (.iload_n 2, 1) := by decide +kernel
theorem dX1_saying_25 : decode cX1_saying 25 = .ok (.if_icmp .ne 10, 3) := by decide +kernel
theorem dX1_saying_28 : decode cX1_saying 28 = .ok (.iconst 1, 1) := by decide +kernel
theorem dX1_saying_29 : decode cX1_saying 29 = .ok (.iload 4, 2) := by decide +kernel
theorem dX1_saying_31 : decode cX1_saying 31 = .ok (.ishl, 1) := by decide +kernel
theorem dX1_saying_32 : decode cX1_saying 32 = .ok (.goto 4, 3) := by decide +kernel
theorem dX1_saying_35 : decode cX1_saying 35 = .ok (.iconst 0, 1) := by decide +kernel
theorem dX1_saying_36 : decode cX1_saying 36 = .ok (.ior, 1) := by decide +kernel
theorem dX1_saying_37 : decode cX1_saying 37 = .ok (.istore_n 3, 1) := by decide +kernel
theorem dX1_saying_38 : decode cX1_saying 38 = .ok (.iinc 4 1, 3) := by decide +kernel
theorem dX1_saying_41 : decode cX1_saying 41 = .ok (.goto (-36), 3) := by decide +kernel
theorem dX1_saying_44 : decode cX1_saying 44 = .ok (.iload_n 3, 1) := by decide +kernel
theorem dX1_saying_45 : decode cX1_saying 45 = .ok (.ireturn, 1) := by decide +kernel
def w_X1_saying_36 (post : Int32 → sI → sJ → Prop) (k5 : Int32 → Int32 → Int32 → Int32 → sI → sJ → Prop) (x1 : Int32) (x2 : Int32) (x4 : Int32) (s0 : Int32) (s1 : Int32) (I : sI) (J : sJ) : Prop :=
  (∀ v3_37 : Int32, v3_37 = s1 ||| s0 → (∀ v4_38 : Int32, v4_38 = x4 + 1 → k5 x1 x2 v3_37 v4_38 I J))
set_option maxHeartbeats 4000000 in
set_option maxRecDepth 100000 in
theorem t_X1_saying_36 {X : sX} {post : Int32 → sI → sJ → Prop} (h : sOK X cX1_saying RX1 5 0 0) (hr : sRt X (some .int) (sPi post)) {k5 : Int32 → Int32 → Int32 → Int32 → sI → sJ → Prop} (hk5 : ∀ (x1 : Int32) (x2 : Int32) (x3 : Int32) (x4 : Int32) (I : sI) (J : sJ), k5 x1 x2 x3 x4 I J → sG X 5 5 [(0, .ref 227), (1, .int x1), (2, .int x2), (3, .int x3), (4, .int x4)] [] I J) {x1 : Int32} {x2 : Int32} {x4 : Int32} {s0 : Int32} {s1 : Int32} {I : sI} {J : sJ} (hw : w_X1_saying_36 post k5 x1 x2 x4 s0 s1 I J) : sG X 5 36 [(0, .ref 227), (1, .int x1), (2, .int x2), (4, .int x4)] [.int s0, .int s1] I J := by
  unfold w_X1_saying_36 at hw
  refine g_ior h dX1_saying_36 ?_
  refine g_ni (fun v3_37 ev3_37 => ?_)
  replace hw := hw v3_37 ev3_37
  refine g_istore_n (lo2 := [(3, .int v3_37), (0, .ref 227), (1, .int x1), (2, .int x2), (4, .int x4)]) h rfl (by decide) rfl dX1_saying_37 ?_
  obtain ⟨v4_38, ev4_38⟩ : ∃ z : Int32, z = x4 + 1 := ⟨_, rfl⟩
  replace hw := hw v4_38 ev4_38
  refine g_iinc (v := v4_38) (lo2 := [(4, .int v4_38), (3, .int v3_37), (0, .ref 227), (1, .int x1), (2, .int x2)]) h 4 rfl (by rw [ev4_38]; rfl) (by decide) rfl dX1_saying_38 ?_
  refine g_goto (tgt := 5) h (by decide) dX1_saying_41 ?_
  exact g_sub [2, 3, 4, 1, 0] rfl (hk5 _ _ _ _ _ _ hw)
def w_X1_saying_5_s (post : Int32 → sI → sJ → Prop) (k5 : Int32 → Int32 → Int32 → Int32 → sI → sJ → Prop) (x1 : Int32) (x2 : Int32) (x3 : Int32) (x4 : Int32) (I : sI) (J : sJ) : Prop :=
  (((I 227 1) ≤ x4 → post x3 I J) ∧ (¬ (I 227 1) ≤ x4 → (vp_in x4 10 ∧ (vp_in x1 12 ∧ ((¬ (I (sR 228 (Int32.toNatClampNeg x4)) (Int32.toNatClampNeg x1)) = x2 → w_X1_saying_36 post k5 x1 x2 x4 0 x3 I J) ∧ ((I (sR 228 (Int32.toNatClampNeg x4)) (Int32.toNatClampNeg x1)) = x2 → w_X1_saying_36 post k5 x1 x2 x4 (1 <<< (x4 &&& 31)) x3 I J))))))
def w_X1_saying_5_n (post : Int32 → sI → sJ → Prop) : Nat → Int32 → Int32 → Int32 → Int32 → sI → sJ → Prop
  | 0 => fun _ _ _ _ _ _ => False
  | n + 1 => fun x1 x2 x3 x4 I J => w_X1_saying_5_s post (w_X1_saying_5_n post n) x1 x2 x3 x4 I J
def w_X1_saying_5 (post : Int32 → sI → sJ → Prop) (x1 : Int32) (x2 : Int32) (x3 : Int32) (x4 : Int32) (I : sI) (J : sJ) : Prop := ∃ n, w_X1_saying_5_n post n x1 x2 x3 x4 I J
set_option maxHeartbeats 4000000 in
set_option maxRecDepth 100000 in
theorem t_X1_saying_5_s {X : sX} {post : Int32 → sI → sJ → Prop} (h : sOK X cX1_saying RX1 5 0 0) (hr : sRt X (some .int) (sPi post)) {k5 : Int32 → Int32 → Int32 → Int32 → sI → sJ → Prop} (hk5 : ∀ (x1 : Int32) (x2 : Int32) (x3 : Int32) (x4 : Int32) (I : sI) (J : sJ), k5 x1 x2 x3 x4 I J → sG X 5 5 [(0, .ref 227), (1, .int x1), (2, .int x2), (3, .int x3), (4, .int x4)] [] I J) {x1 : Int32} {x2 : Int32} {x3 : Int32} {x4 : Int32} {I : sI} {J : sJ} (hw : w_X1_saying_5_s post k5 x1 x2 x3 x4 I J) : sG X 5 5 [(0, .ref 227), (1, .int x1), (2, .int x2), (3, .int x3), (4, .int x4)] [] I J := by
  unfold w_X1_saying_5_s at hw
  refine g_iload h 4 rfl dX1_saying_5 ?_
  refine g_aload_n h rfl 0 rfl dX1_saying_7 ?_
  refine g_get h is_227 fl_X1_29 rfl dX1_saying_8 ?_
  refine g_icmp_ge (tgt := 44) h (by decide) dX1_saying_11 (fun q11 => ?_) (fun q11 => ?_)
  · replace hw := hw.1 q11
    refine g_iload_n h rfl 3 rfl dX1_saying_44 ?_
    exact g_iret h hr dX1_saying_45 hw
  · replace hw := hw.2 q11
    refine g_iload_n h rfl 3 rfl dX1_saying_14 ?_
    refine g_aload_n h rfl 0 rfl dX1_saying_15 ?_
    refine g_get h is_227 fl_X1_11 fr_227_0 dX1_saying_16 ?_
    refine g_iload h 4 rfl dX1_saying_19 ?_
    obtain ⟨hi21, hw⟩ := hw
    refine g_aald (t := 2) h ar_228 (by decide) hi21 dX1_saying_21 ?_
    refine g_iload_n h rfl 1 rfl dX1_saying_22 ?_
    obtain ⟨hi23, hw⟩ := hw
    refine g_iald h (el_6_10 ar_228 hi21) hi23 dX1_saying_23 ?_
    refine g_iload_n h rfl 2 rfl dX1_saying_24 ?_
    refine g_icmp_ne (tgt := 35) h (by decide) dX1_saying_25 (fun q25 => ?_) (fun q25 => ?_)
    · replace hw := hw.1 q25
      refine g_iconst (v := 0) h (by decide) dX1_saying_35 ?_
      exact g_sub [0, 1, 2, 4] rfl (t_X1_saying_36 h hr hk5 hw)
    · replace hw := hw.2 q25
      refine g_iconst (v := 1) h (by decide) dX1_saying_28 ?_
      refine g_iload h 4 rfl dX1_saying_29 ?_
      refine g_ishl h dX1_saying_31 ?_
      refine g_goto (tgt := 36) h (by decide) dX1_saying_32 ?_
      exact g_sub [0, 1, 2, 4] rfl (t_X1_saying_36 h hr hk5 hw)
theorem t_X1_saying_5 {X : sX} {post : Int32 → sI → sJ → Prop} (h : sOK X cX1_saying RX1 5 0 0) (hr : sRt X (some .int) (sPi post)) {x1 : Int32} {x2 : Int32} {x3 : Int32} {x4 : Int32} {I : sI} {J : sJ} (hw : w_X1_saying_5 post x1 x2 x3 x4 I J) : sG X 5 5 [(0, .ref 227), (1, .int x1), (2, .int x2), (3, .int x3), (4, .int x4)] [] I J := by
  obtain ⟨n, hw⟩ := hw
  induction n generalizing x1 x2 x3 x4 I J with
  | zero => exact hw.elim
  | succ n ih => exact t_X1_saying_5_s h hr (fun _ _ _ _ _ _ q => ih q) hw
def w_X1_saying (a1 : Int32) (a2 : Int32) (I : sI) (J : sJ) (post : Int32 → sI → sJ → Prop) : Prop :=
  w_X1_saying_5 post a1 a2 0 0 I J
set_option maxHeartbeats 4000000 in
set_option maxRecDepth 100000 in
theorem t_X1_saying {X : sX} {a1 : Int32} {a2 : Int32} {I : sI} {J : sJ} {post : Int32 → sI → sJ → Prop} (h : sOK X cX1_saying RX1 5 0 0) (hr : sRt X (some .int) (sPi post)) (hw : w_X1_saying a1 a2 I J post) : sG X 5 0 [(0, .ref 227), (1, .int a1), (2, .int a2)] [] I J := by
  unfold w_X1_saying at hw
  refine g_iconst (v := 0) h (by decide) dX1_saying_0 ?_
  refine g_istore_n (lo2 := [(3, .int 0), (0, .ref 227), (1, .int a1), (2, .int a2)]) h rfl (by decide) rfl dX1_saying_1 ?_
  refine g_iconst (v := 0) h (by decide) dX1_saying_2 ?_
  refine g_istore (lo2 := [(4, .int 0), (3, .int 0), (0, .ref 227), (1, .int a1), (2, .int a2)]) h (by decide) rfl dX1_saying_3 ?_
  exact g_sub [2, 3, 4, 1, 0] rfl (t_X1_saying_5 h hr hw)
theorem c_X1_saying (X : sX) {a1 : Int32} {a2 : Int32} {I : sI} {J : sJ} {post : Int32 → sI → sJ → Prop} (hw : w_X1_saying a1 a2 I J post) : sCall X yX1_saying cX1_saying 5 (some .int) 0 0 [.ref 227, .int a1, .int a2] I J (sPi post) := sCall_of (by decide +kernel) (Nat.le_of_ble_eq_true rfl) (fun X h hr => t_X1_saying h hr hw)
theorem dX1_standing_0 : decode cX1_standing 0 = .ok (.iconst 1, 1) := by decide +kernel
theorem dX1_standing_1 : decode cX1_standing 1 = .ok (.aload_n 0, 1) := by decide +kernel
theorem dX1_standing_2 : decode cX1_standing 2 = .ok (.getfield 29, 3) := by decide +kernel
theorem dX1_standing_5 : decode cX1_standing 5 = .ok (.ishl, 1) := by decide +kernel
theorem dX1_standing_6 : decode cX1_standing 6 = .ok (.iconst 1, 1) := by decide +kernel
theorem dX1_standing_7 : decode cX1_standing 7 = .ok (.isub, 1) := by decide +kernel
theorem dX1_standing_8 : decode cX1_standing 8 = .ok (.istore_n 2, 1) := by decide +kernel
theorem dX1_standing_9 : decode cX1_standing 9 = .ok (.iconst 0, 1) := by decide +kernel
theorem dX1_standing_10 : decode cX1_standing 10 = .ok (.istore_n 3, 1) := by decide +kernel
theorem dX1_standing_11 : decode cX1_standing 11 = .ok (.iload_n 3, 1) := by decide +kernel
theorem dX1_standing_12 : decode cX1_standing 12 = .ok (.bipush 12, 2) := by decide +kernel
theorem dX1_standing_14 : decode cX1_standing 14 = .ok (.if_icmp .ge 30, 3) := by decide +kernel
theorem dX1_standing_17 : decode cX1_standing 17 = .ok (.aload_n 1, 1) := by decide +kernel
theorem dX1_standing_18 : decode cX1_standing 18 = .ok (.iload_n 3, 1) := by decide +kernel
theorem dX1_standing_19 : decode cX1_standing 19 = .ok (.iaload, 1) := by decide +kernel
theorem dX1_standing_20 : decode cX1_standing 20 = .ok (.ifCond .eq 18, 3) := by decide +kernel
theorem dX1_standing_23 : decode cX1_standing 23 = .ok (.iload_n 2, 1) := by decide +kernel
theorem dX1_standing_24 : decode cX1_standing 24 = .ok (.aload_n 0, 1) := by decide +kernel
theorem dX1_standing_25 : decode cX1_standing 25 = .ok (.iload_n 3, 1) := by decide +kernel
theorem dX1_standing_26 : decode cX1_standing 26 = .ok (.iconst 3, 1) := by decide +kernel
theorem dX1_standing_27 : decode cX1_standing 27 = .ok (.aload_n 1, 1) := by decide +kernel
theorem dX1_standing_28 : decode cX1_standing 28 = .ok (.iload_n 3, 1) := by decide +kernel
theorem dX1_standing_29 : decode cX1_standing 29 = .ok (.iaload, 1) := by decide +kernel
theorem dX1_standing_30 : decode cX1_standing 30 = .ok (.isub, 1) := by decide +kernel
theorem dX1_standing_31 : decode cX1_standing 31 = .ok (.invokevirtual 33, 3) := by decide +kernel
theorem dX1_standing_34 : decode cX1_standing 34 = .ok (.iconst (-1), 1) := by decide +kernel
theorem dX1_standing_35 : decode cX1_standing 35 = .ok (.ixor, 1) := by decide +kernel
theorem dX1_standing_36 : decode cX1_standing 36 = .ok (.iand, 1) := by decide +kernel
theorem dX1_standing_37 : decode cX1_standing 37 = .ok (.istore_n 2, 1) := by decide +kernel
theorem dX1_standing_38 : decode cX1_standing 38 = .ok (.iinc 3 1, 3) := by decide +kernel
theorem dX1_standing_41 : decode cX1_standing 41 = .ok (.goto (-30), 3) := by decide +kernel
theorem dX1_standing_44 : decode cX1_standing 44 = .ok (.iload_n 2, 1) := by decide +kernel
theorem dX1_standing_45 : decode cX1_standing 45 = .ok (.ireturn, 1) := by decide +kernel
def w_X1_standing_38 (post : Int32 → sI → sJ → Prop) (k11 : Int32 → Int32 → sI → sJ → Prop) (x2 : Int32) (x3 : Int32) (I : sI) (J : sJ) : Prop :=
  (∀ v3_38 : Int32, v3_38 = x3 + 1 → k11 x2 v3_38 I J)
set_option maxHeartbeats 4000000 in
set_option maxRecDepth 100000 in
theorem t_X1_standing_38 {X : sX} {post : Int32 → sI → sJ → Prop} (h : sOK X cX1_standing RX1 4 1 24) (hr : sRt X (some .int) (sPi post)) {k11 : Int32 → Int32 → sI → sJ → Prop} (hk11 : ∀ (x2 : Int32) (x3 : Int32) (I : sI) (J : sJ), k11 x2 x3 I J → sG X 4 11 [(0, .ref 227), (1, .ref 11), (2, .int x2), (3, .int x3)] [] I J) {x2 : Int32} {x3 : Int32} {I : sI} {J : sJ} (hw : w_X1_standing_38 post k11 x2 x3 I J) : sG X 4 38 [(0, .ref 227), (1, .ref 11), (2, .int x2), (3, .int x3)] [] I J := by
  unfold w_X1_standing_38 at hw
  obtain ⟨v3_38, ev3_38⟩ : ∃ z : Int32, z = x3 + 1 := ⟨_, rfl⟩
  replace hw := hw v3_38 ev3_38
  refine g_iinc (v := v3_38) (lo2 := [(3, .int v3_38), (0, .ref 227), (1, .ref 11), (2, .int x2)]) h 3 rfl (by rw [ev3_38]; rfl) (by decide) rfl dX1_standing_38 ?_
  refine g_goto (tgt := 11) h (by decide) dX1_standing_41 ?_
  exact g_sub [1, 2, 3, 0] rfl (hk11 _ _ _ _ hw)
def w_X1_standing_11_s (post : Int32 → sI → sJ → Prop) (k11 : Int32 → Int32 → sI → sJ → Prop) (x2 : Int32) (x3 : Int32) (I : sI) (J : sJ) : Prop :=
  ((12 ≤ x3 → post x2 I J) ∧ (¬ 12 ≤ x3 → (vp_in x3 12 ∧ (((I 11 (Int32.toNatClampNeg x3)) = 0 → w_X1_standing_38 post k11 x2 x3 I J) ∧ (¬ (I 11 (Int32.toNatClampNeg x3)) = 0 → (vp_in x3 12 ∧ w_X1_saying x3 (3 - (I 11 (Int32.toNatClampNeg x3))) I J (fun (r_31 : Int32) (I_31 : sI) (J_31 : sJ) => ((∀ v2_37 : Int32, v2_37 = x2 &&& (r_31 ^^^ (-1)) → w_X1_standing_38 post k11 v2_37 x3 I_31 J_31)))))))))
def w_X1_standing_11_n (post : Int32 → sI → sJ → Prop) : Nat → Int32 → Int32 → sI → sJ → Prop
  | 0 => fun _ _ _ _ => False
  | n + 1 => fun x2 x3 I J => w_X1_standing_11_s post (w_X1_standing_11_n post n) x2 x3 I J
def w_X1_standing_11 (post : Int32 → sI → sJ → Prop) (x2 : Int32) (x3 : Int32) (I : sI) (J : sJ) : Prop := ∃ n, w_X1_standing_11_n post n x2 x3 I J
set_option maxHeartbeats 4000000 in
set_option maxRecDepth 100000 in
theorem t_X1_standing_11_s {X : sX} {post : Int32 → sI → sJ → Prop} (h : sOK X cX1_standing RX1 4 1 24) (hr : sRt X (some .int) (sPi post)) {k11 : Int32 → Int32 → sI → sJ → Prop} (hk11 : ∀ (x2 : Int32) (x3 : Int32) (I : sI) (J : sJ), k11 x2 x3 I J → sG X 4 11 [(0, .ref 227), (1, .ref 11), (2, .int x2), (3, .int x3)] [] I J) {x2 : Int32} {x3 : Int32} {I : sI} {J : sJ} (hw : w_X1_standing_11_s post k11 x2 x3 I J) : sG X 4 11 [(0, .ref 227), (1, .ref 11), (2, .int x2), (3, .int x3)] [] I J := by
  unfold w_X1_standing_11_s at hw
  refine g_iload_n h rfl 3 rfl dX1_standing_11 ?_
  refine g_bipush (v := 12) h (by decide) dX1_standing_12 ?_
  refine g_icmp_ge (tgt := 44) h (by decide) dX1_standing_14 (fun q14 => ?_) (fun q14 => ?_)
  · replace hw := hw.1 q14
    refine g_iload_n h rfl 2 rfl dX1_standing_44 ?_
    exact g_iret h hr dX1_standing_45 hw
  · replace hw := hw.2 q14
    refine g_aload_n h rfl 1 rfl dX1_standing_17 ?_
    refine g_iload_n h rfl 3 rfl dX1_standing_18 ?_
    obtain ⟨hi19, hw⟩ := hw
    refine g_iald h ar_11 hi19 dX1_standing_19 ?_
    refine g_if_eq (tgt := 38) h (by decide) dX1_standing_20 (fun q20 => ?_) (fun q20 => ?_)
    · replace hw := hw.1 q20
      exact g_sub [0, 1, 2, 3] rfl (t_X1_standing_38 h hr hk11 hw)
    · replace hw := hw.2 q20
      refine g_iload_n h rfl 2 rfl dX1_standing_23 ?_
      refine g_aload_n h rfl 0 rfl dX1_standing_24 ?_
      refine g_iload_n h rfl 3 rfl dX1_standing_25 ?_
      refine g_iconst (v := 3) h (by decide) dX1_standing_26 ?_
      refine g_aload_n h rfl 1 rfl dX1_standing_27 ?_
      refine g_iload_n h rfl 3 rfl dX1_standing_28 ?_
      obtain ⟨hi29, hw⟩ := hw
      refine g_iald h ar_11 hi29 dX1_standing_29 ?_
      refine g_isub h dX1_standing_30 ?_
      refine g_callV [.int x3, .int (3 - (I 11 (Int32.toNatClampNeg x3)))] h (c_X1_saying X hw) sPi_v mw_X1_saying lk_X1_33 is_227 rfl rfl ⟨by decide, by decide⟩ (Nat.le_of_ble_eq_true rfl) dX1_standing_31 (sPi_k (fun r_31 I_31 J_31 hw => ?_))
      refine g_iconst (v := (-1)) h (by decide) dX1_standing_34 ?_
      refine g_ixor h dX1_standing_35 ?_
      refine g_iand h dX1_standing_36 ?_
      refine g_ni (fun v2_37 ev2_37 => ?_)
      replace hw := hw v2_37 ev2_37
      refine g_istore_n (lo2 := [(2, .int v2_37), (0, .ref 227), (1, .ref 11), (3, .int x3)]) h rfl (by decide) rfl dX1_standing_37 ?_
      exact g_sub [1, 2, 0, 3] rfl (t_X1_standing_38 h hr hk11 hw)
theorem t_X1_standing_11 {X : sX} {post : Int32 → sI → sJ → Prop} (h : sOK X cX1_standing RX1 4 1 24) (hr : sRt X (some .int) (sPi post)) {x2 : Int32} {x3 : Int32} {I : sI} {J : sJ} (hw : w_X1_standing_11 post x2 x3 I J) : sG X 4 11 [(0, .ref 227), (1, .ref 11), (2, .int x2), (3, .int x3)] [] I J := by
  obtain ⟨n, hw⟩ := hw
  induction n generalizing x2 x3 I J with
  | zero => exact hw.elim
  | succ n ih => exact t_X1_standing_11_s h hr (fun _ _ _ _ q => ih q) hw
def w_X1_standing (I : sI) (J : sJ) (post : Int32 → sI → sJ → Prop) : Prop :=
  (∀ v2_8 : Int32, v2_8 = (1 <<< ((I 227 1) &&& 31)) - 1 → w_X1_standing_11 post v2_8 0 I J)
set_option maxHeartbeats 4000000 in
set_option maxRecDepth 100000 in
theorem t_X1_standing {X : sX} {I : sI} {J : sJ} {post : Int32 → sI → sJ → Prop} (h : sOK X cX1_standing RX1 4 1 24) (hr : sRt X (some .int) (sPi post)) (hw : w_X1_standing I J post) : sG X 4 0 [(0, .ref 227), (1, .ref 11)] [] I J := by
  unfold w_X1_standing at hw
  refine g_iconst (v := 1) h (by decide) dX1_standing_0 ?_
  refine g_aload_n h rfl 0 rfl dX1_standing_1 ?_
  refine g_get h is_227 fl_X1_29 rfl dX1_standing_2 ?_
  refine g_ishl h dX1_standing_5 ?_
  refine g_iconst (v := 1) h (by decide) dX1_standing_6 ?_
  refine g_isub h dX1_standing_7 ?_
  refine g_ni (fun v2_8 ev2_8 => ?_)
  replace hw := hw v2_8 ev2_8
  refine g_istore_n (lo2 := [(2, .int v2_8), (0, .ref 227), (1, .ref 11)]) h rfl (by decide) rfl dX1_standing_8 ?_
  refine g_iconst (v := 0) h (by decide) dX1_standing_9 ?_
  refine g_istore_n (lo2 := [(3, .int 0), (2, .int v2_8), (0, .ref 227), (1, .ref 11)]) h rfl (by decide) rfl dX1_standing_10 ?_
  exact g_sub [2, 3, 1, 0] rfl (t_X1_standing_11 h hr hw)
theorem c_X1_standing (X : sX) {I : sI} {J : sJ} {post : Int32 → sI → sJ → Prop} (hw : w_X1_standing I J post) : sCall X yX1_standing cX1_standing 4 (some .int) 1 24 [.ref 227, .ref 11] I J (sPi post) := sCall_of (by decide +kernel) (Nat.le_of_ble_eq_true rfl) (fun X h hr => t_X1_standing h hr hw)
theorem dX1_parting_0 : decode cX1_parting 0 = .ok (.iconst 0, 1) := by decide +kernel
theorem dX1_parting_1 : decode cX1_parting 1 = .ok (.istore_n 3, 1) := by decide +kernel
theorem dX1_parting_2 : decode cX1_parting 2 = .ok (.iconst 0, 1) := by decide +kernel
theorem dX1_parting_3 : decode cX1_parting 3 = .ok (.istore 4, 2) := by decide +kernel
theorem dX1_parting_5 : decode cX1_parting 5 = .ok (.iload 4, 2) := by decide +kernel
theorem dX1_parting_7 : decode cX1_parting 7 = .ok (.bipush 12, 2) := by decide +kernel
theorem dX1_parting_9 : decode cX1_parting 9 = .ok (.if_icmp .ge 43, 3) := by decide +kernel
theorem dX1_parting_12 : decode cX1_parting 12 = .ok (.iload_n 3, 1) := by decide +kernel
theorem dX1_parting_13 : decode cX1_parting 13 = .ok (.aload_n 0, 1) := by decide +kernel
theorem dX1_parting_14 : decode cX1_parting 14 = .ok (.getfield 11, 3) := by decide +kernel
theorem dX1_parting_17 : decode cX1_parting 17 = .ok (.iload_n 1, 1) := by decide +kernel
theorem dX1_parting_18 : decode cX1_parting 18 = .ok (.aaload, 1) := by decide +kernel
theorem dX1_parting_19 : decode cX1_parting 19 = .ok (.iload 4, 2) := by decide +kernel
theorem dX1_parting_21 : decode cX1_parting 21 = .ok (.iaload, 1) := by decide +kernel
theorem dX1_parting_22 : decode cX1_parting 22 = .ok (.aload_n 0, 1) := by decide +kernel
theorem dX1_parting_23 : decode cX1_parting 23 = .ok (.getfield 11, 3) := by decide +kernel
theorem dX1_parting_26 : decode cX1_parting 26 = .ok (.iload_n 2, 1) := by decide +kernel
theorem dX1_parting_27 : decode cX1_parting 27 = .ok (.aaload, 1) := by decide +kernel
theorem dX1_parting_28 : decode cX1_parting 28 = .ok (.iload 4, 2) := by decide +kernel
theorem dX1_parting_30 : decode cX1_parting 30 = .ok (.iaload, 1) := by decide +kernel
theorem dX1_parting_31 : decode cX1_parting 31 = .ok (.iadd, 1) := by decide +kernel
theorem dX1_parting_32 : decode cX1_parting 32 = .ok (.iconst 3, 1) := by decide +kernel
theorem dX1_parting_33 : decode cX1_parting 33 = .ok (.if_icmp .ne 10, 3) := by decide +kernel
theorem dX1_parting_36 : decode cX1_parting 36 = .ok (.iconst 1, 1) := by decide +kernel
theorem dX1_parting_37 : decode cX1_parting 37 = .ok (.iload 4, 2) := by decide +kernel
theorem dX1_parting_39 : decode cX1_parting 39 = .ok (.ishl, 1) := by decide +kernel
theorem dX1_parting_40 : decode cX1_parting 40 = .ok (.goto 4, 3) := by decide +kernel
theorem dX1_parting_43 : decode cX1_parting 43 = .ok (.iconst 0, 1) := by decide +kernel
theorem dX1_parting_44 : decode cX1_parting 44 = .ok (.ior, 1) := by decide +kernel
theorem dX1_parting_45 : decode cX1_parting 45 = .ok (.istore_n 3, 1) := by decide +kernel
theorem dX1_parting_46 : decode cX1_parting 46 = .ok (.iinc 4 1, 3) := by decide +kernel
theorem dX1_parting_49 : decode cX1_parting 49 = .ok (.goto (-44), 3) := by decide +kernel
theorem dX1_parting_52 : decode cX1_parting 52 = .ok (.iload_n 3, 1) := by decide +kernel
theorem dX1_parting_53 : decode cX1_parting 53 = .ok (.ireturn, 1) := by decide +kernel
def w_X1_parting_44 (post : Int32 → sI → sJ → Prop) (k5 : Int32 → Int32 → Int32 → Int32 → sI → sJ → Prop) (x1 : Int32) (x2 : Int32) (x4 : Int32) (s0 : Int32) (s1 : Int32) (I : sI) (J : sJ) : Prop :=
  (∀ v3_45 : Int32, v3_45 = s1 ||| s0 → (∀ v4_46 : Int32, v4_46 = x4 + 1 → k5 x1 x2 v3_45 v4_46 I J))
set_option maxHeartbeats 4000000 in
set_option maxRecDepth 100000 in
theorem t_X1_parting_44 {X : sX} {post : Int32 → sI → sJ → Prop} (h : sOK X cX1_parting RX1 5 0 0) (hr : sRt X (some .int) (sPi post)) {k5 : Int32 → Int32 → Int32 → Int32 → sI → sJ → Prop} (hk5 : ∀ (x1 : Int32) (x2 : Int32) (x3 : Int32) (x4 : Int32) (I : sI) (J : sJ), k5 x1 x2 x3 x4 I J → sG X 5 5 [(0, .ref 227), (1, .int x1), (2, .int x2), (3, .int x3), (4, .int x4)] [] I J) {x1 : Int32} {x2 : Int32} {x4 : Int32} {s0 : Int32} {s1 : Int32} {I : sI} {J : sJ} (hw : w_X1_parting_44 post k5 x1 x2 x4 s0 s1 I J) : sG X 5 44 [(0, .ref 227), (1, .int x1), (2, .int x2), (4, .int x4)] [.int s0, .int s1] I J := by
  unfold w_X1_parting_44 at hw
  refine g_ior h dX1_parting_44 ?_
  refine g_ni (fun v3_45 ev3_45 => ?_)
  replace hw := hw v3_45 ev3_45
  refine g_istore_n (lo2 := [(3, .int v3_45), (0, .ref 227), (1, .int x1), (2, .int x2), (4, .int x4)]) h rfl (by decide) rfl dX1_parting_45 ?_
  obtain ⟨v4_46, ev4_46⟩ : ∃ z : Int32, z = x4 + 1 := ⟨_, rfl⟩
  replace hw := hw v4_46 ev4_46
  refine g_iinc (v := v4_46) (lo2 := [(4, .int v4_46), (3, .int v3_45), (0, .ref 227), (1, .int x1), (2, .int x2)]) h 4 rfl (by rw [ev4_46]; rfl) (by decide) rfl dX1_parting_46 ?_
  refine g_goto (tgt := 5) h (by decide) dX1_parting_49 ?_
  exact g_sub [2, 3, 4, 1, 0] rfl (hk5 _ _ _ _ _ _ hw)
def w_X1_parting_5_s (post : Int32 → sI → sJ → Prop) (k5 : Int32 → Int32 → Int32 → Int32 → sI → sJ → Prop) (x1 : Int32) (x2 : Int32) (x3 : Int32) (x4 : Int32) (I : sI) (J : sJ) : Prop :=
  ((12 ≤ x4 → post x3 I J) ∧ (¬ 12 ≤ x4 → (vp_in x1 10 ∧ (vp_in x4 12 ∧ (vp_in x2 10 ∧ (vp_in x4 12 ∧ ((¬ ((I (sR 228 (Int32.toNatClampNeg x1)) (Int32.toNatClampNeg x4)) + (I (sR 228 (Int32.toNatClampNeg x2)) (Int32.toNatClampNeg x4))) = 3 → w_X1_parting_44 post k5 x1 x2 x4 0 x3 I J) ∧ (((I (sR 228 (Int32.toNatClampNeg x1)) (Int32.toNatClampNeg x4)) + (I (sR 228 (Int32.toNatClampNeg x2)) (Int32.toNatClampNeg x4))) = 3 → w_X1_parting_44 post k5 x1 x2 x4 (1 <<< (x4 &&& 31)) x3 I J))))))))
def w_X1_parting_5_n (post : Int32 → sI → sJ → Prop) : Nat → Int32 → Int32 → Int32 → Int32 → sI → sJ → Prop
  | 0 => fun _ _ _ _ _ _ => False
  | n + 1 => fun x1 x2 x3 x4 I J => w_X1_parting_5_s post (w_X1_parting_5_n post n) x1 x2 x3 x4 I J
def w_X1_parting_5 (post : Int32 → sI → sJ → Prop) (x1 : Int32) (x2 : Int32) (x3 : Int32) (x4 : Int32) (I : sI) (J : sJ) : Prop := ∃ n, w_X1_parting_5_n post n x1 x2 x3 x4 I J
set_option maxHeartbeats 4000000 in
set_option maxRecDepth 100000 in
theorem t_X1_parting_5_s {X : sX} {post : Int32 → sI → sJ → Prop} (h : sOK X cX1_parting RX1 5 0 0) (hr : sRt X (some .int) (sPi post)) {k5 : Int32 → Int32 → Int32 → Int32 → sI → sJ → Prop} (hk5 : ∀ (x1 : Int32) (x2 : Int32) (x3 : Int32) (x4 : Int32) (I : sI) (J : sJ), k5 x1 x2 x3 x4 I J → sG X 5 5 [(0, .ref 227), (1, .int x1), (2, .int x2), (3, .int x3), (4, .int x4)] [] I J) {x1 : Int32} {x2 : Int32} {x3 : Int32} {x4 : Int32} {I : sI} {J : sJ} (hw : w_X1_parting_5_s post k5 x1 x2 x3 x4 I J) : sG X 5 5 [(0, .ref 227), (1, .int x1), (2, .int x2), (3, .int x3), (4, .int x4)] [] I J := by
  unfold w_X1_parting_5_s at hw
  refine g_iload h 4 rfl dX1_parting_5 ?_
  refine g_bipush (v := 12) h (by decide) dX1_parting_7 ?_
  refine g_icmp_ge (tgt := 52) h (by decide) dX1_parting_9 (fun q9 => ?_) (fun q9 => ?_)
  · replace hw := hw.1 q9
    refine g_iload_n h rfl 3 rfl dX1_parting_52 ?_
    exact g_iret h hr dX1_parting_53 hw
  · replace hw := hw.2 q9
    refine g_iload_n h rfl 3 rfl dX1_parting_12 ?_
    refine g_aload_n h rfl 0 rfl dX1_parting_13 ?_
    refine g_get h is_227 fl_X1_11 fr_227_0 dX1_parting_14 ?_
    refine g_iload_n h rfl 1 rfl dX1_parting_17 ?_
    obtain ⟨hi18, hw⟩ := hw
    refine g_aald (t := 2) h ar_228 (by decide) hi18 dX1_parting_18 ?_
    refine g_iload h 4 rfl dX1_parting_19 ?_
    obtain ⟨hi21, hw⟩ := hw
    refine g_iald h (el_6_10 ar_228 hi18) hi21 dX1_parting_21 ?_
    refine g_aload_n h rfl 0 rfl dX1_parting_22 ?_
    refine g_get h is_227 fl_X1_11 fr_227_0 dX1_parting_23 ?_
    refine g_iload_n h rfl 2 rfl dX1_parting_26 ?_
    obtain ⟨hi27, hw⟩ := hw
    refine g_aald (t := 2) h ar_228 (by decide) hi27 dX1_parting_27 ?_
    refine g_iload h 4 rfl dX1_parting_28 ?_
    obtain ⟨hi30, hw⟩ := hw
    refine g_iald h (el_6_10 ar_228 hi27) hi30 dX1_parting_30 ?_
    refine g_iadd h dX1_parting_31 ?_
    refine g_iconst (v := 3) h (by decide) dX1_parting_32 ?_
    refine g_icmp_ne (tgt := 43) h (by decide) dX1_parting_33 (fun q33 => ?_) (fun q33 => ?_)
    · replace hw := hw.1 q33
      refine g_iconst (v := 0) h (by decide) dX1_parting_43 ?_
      exact g_sub [0, 1, 2, 4] rfl (t_X1_parting_44 h hr hk5 hw)
    · replace hw := hw.2 q33
      refine g_iconst (v := 1) h (by decide) dX1_parting_36 ?_
      refine g_iload h 4 rfl dX1_parting_37 ?_
      refine g_ishl h dX1_parting_39 ?_
      refine g_goto (tgt := 44) h (by decide) dX1_parting_40 ?_
      exact g_sub [0, 1, 2, 4] rfl (t_X1_parting_44 h hr hk5 hw)
theorem t_X1_parting_5 {X : sX} {post : Int32 → sI → sJ → Prop} (h : sOK X cX1_parting RX1 5 0 0) (hr : sRt X (some .int) (sPi post)) {x1 : Int32} {x2 : Int32} {x3 : Int32} {x4 : Int32} {I : sI} {J : sJ} (hw : w_X1_parting_5 post x1 x2 x3 x4 I J) : sG X 5 5 [(0, .ref 227), (1, .int x1), (2, .int x2), (3, .int x3), (4, .int x4)] [] I J := by
  obtain ⟨n, hw⟩ := hw
  induction n generalizing x1 x2 x3 x4 I J with
  | zero => exact hw.elim
  | succ n ih => exact t_X1_parting_5_s h hr (fun _ _ _ _ _ _ q => ih q) hw
def w_X1_parting (a1 : Int32) (a2 : Int32) (I : sI) (J : sJ) (post : Int32 → sI → sJ → Prop) : Prop :=
  w_X1_parting_5 post a1 a2 0 0 I J
set_option maxHeartbeats 4000000 in
set_option maxRecDepth 100000 in
theorem t_X1_parting {X : sX} {a1 : Int32} {a2 : Int32} {I : sI} {J : sJ} {post : Int32 → sI → sJ → Prop} (h : sOK X cX1_parting RX1 5 0 0) (hr : sRt X (some .int) (sPi post)) (hw : w_X1_parting a1 a2 I J post) : sG X 5 0 [(0, .ref 227), (1, .int a1), (2, .int a2)] [] I J := by
  unfold w_X1_parting at hw
  refine g_iconst (v := 0) h (by decide) dX1_parting_0 ?_
  refine g_istore_n (lo2 := [(3, .int 0), (0, .ref 227), (1, .int a1), (2, .int a2)]) h rfl (by decide) rfl dX1_parting_1 ?_
  refine g_iconst (v := 0) h (by decide) dX1_parting_2 ?_
  refine g_istore (lo2 := [(4, .int 0), (3, .int 0), (0, .ref 227), (1, .int a1), (2, .int a2)]) h (by decide) rfl dX1_parting_3 ?_
  exact g_sub [2, 3, 4, 1, 0] rfl (t_X1_parting_5 h hr hw)
theorem c_X1_parting (X : sX) {a1 : Int32} {a2 : Int32} {I : sI} {J : sJ} {post : Int32 → sI → sJ → Prop} (hw : w_X1_parting a1 a2 I J post) : sCall X yX1_parting cX1_parting 5 (some .int) 0 0 [.ref 227, .int a1, .int a2] I J (sPi post) := sCall_of (by decide +kernel) (Nat.le_of_ble_eq_true rfl) (fun X h hr => t_X1_parting h hr hw)
theorem dX1_listPairs_0 : decode cX1_listPairs 0 = .ok (.aload_n 0, 1) := by decide +kernel
theorem dX1_listPairs_1 : decode cX1_listPairs 1 = .ok (.iconst 0, 1) := by decide +kernel
theorem dX1_listPairs_2 : decode cX1_listPairs 2 = .ok (.putfield 37, 3) := by decide +kernel
theorem dX1_listPairs_5 : decode cX1_listPairs 5 = .ok (.iconst 0, 1) := by decide +kernel
theorem dX1_listPairs_6 : decode cX1_listPairs 6 = .ok (.istore_n 3, 1) := by decide +kernel
theorem dX1_listPairs_7 : decode cX1_listPairs 7 = .ok (.iload_n 3, 1) := by decide +kernel
theorem dX1_listPairs_8 : decode cX1_listPairs 8 = .ok (.aload_n 0, 1) := by decide +kernel
theorem dX1_listPairs_9 : decode cX1_listPairs 9 = .ok (.getfield 29, 3) := by decide +kernel
theorem dX1_listPairs_12 : decode cX1_listPairs 12 = .ok (.if_icmp .ge 74, 3) := by decide +kernel
theorem dX1_listPairs_15 : decode cX1_listPairs 15 = .ok (.iload_n 3, 1) := by decide +kernel
theorem dX1_listPairs_16 : decode cX1_listPairs 16 = .ok (.iconst 1, 1) := by decide +kernel
theorem dX1_listPairs_17 : decode cX1_listPairs 17 = .ok (.iadd, 1) := by decide +kernel
theorem dX1_listPairs_18 : decode cX1_listPairs 18 = .ok (.istore 4, 2) := by decide +kernel
theorem dX1_listPairs_20 : decode cX1_listPairs 20 = .ok (.iload 4, 2) := by decide +kernel
theorem dX1_listPairs_22 : decode cX1_listPairs 22 = .ok (.aload_n 0, 1) := by decide +kernel
theorem dX1_listPairs_23 : decode cX1_listPairs 23 = .ok (.getfield 29, 3) := by decide +kernel
theorem dX1_listPairs_26 : decode cX1_listPairs 26 = .ok (.if_icmp .ge 54, 3) := by decide +kernel
theorem dX1_listPairs_29 : decode cX1_listPairs 29 = .ok (.iload_n 1, 1) := by decide +kernel
theorem dX1_listPairs_30 : decode cX1_listPairs 30 = .ok (.iload_n 3, 1) := by decide +kernel
theorem dX1_listPairs_31 : decode cX1_listPairs 31 = .ok (.ishr, 1) := by decide +kernel
theorem dX1_listPairs_32 : decode cX1_listPairs 32 = .ok (.iconst 1, 1) := by decide +kernel
theorem dX1_listPairs_33 : decode cX1_listPairs 33 = .ok (.iand, 1) := by decide +kernel
theorem dX1_listPairs_34 : decode cX1_listPairs 34 = .ok (.ifCond .eq 40, 3) := by decide +kernel
theorem dX1_listPairs_37 : decode cX1_listPairs 37 = .ok (.iload_n 1, 1) := by decide +kernel
theorem dX1_listPairs_38 : decode cX1_listPairs 38 = .ok (.iload 4, 2) := by decide +kernel
theorem dX1_listPairs_40 : decode cX1_listPairs 40 = .ok (.ishr, 1) := by decide +kernel
theorem dX1_listPairs_41 : decode cX1_listPairs 41 = .ok (.iconst 1, 1) := by decide +kernel
theorem dX1_listPairs_42 : decode cX1_listPairs 42 = .ok (.iand, 1) := by decide +kernel
theorem dX1_listPairs_43 : decode cX1_listPairs 43 = .ok (.ifCond .eq 31, 3) := by decide +kernel
theorem dX1_listPairs_46 : decode cX1_listPairs 46 = .ok (.aload_n 0, 1) := by decide +kernel
theorem dX1_listPairs_47 : decode cX1_listPairs 47 = .ok (.getfield 16, 3) := by decide +kernel
theorem dX1_listPairs_50 : decode cX1_listPairs 50 = .ok (.aload_n 0, 1) := by decide +kernel
theorem dX1_listPairs_51 : decode cX1_listPairs 51 = .ok (.getfield 37, 3) := by decide +kernel
theorem dX1_listPairs_54 : decode cX1_listPairs 54 = .ok (.aload_n 0, 1) := by decide +kernel
theorem dX1_listPairs_55 : decode cX1_listPairs 55 = .ok (.iload_n 3, 1) := by decide +kernel
theorem dX1_listPairs_56 : decode cX1_listPairs 56 = .ok (.iload 4, 2) := by decide +kernel
theorem dX1_listPairs_58 : decode cX1_listPairs 58 = .ok (.invokevirtual 40, 3) := by decide +kernel
theorem dX1_listPairs_61 : decode cX1_listPairs 61 = .ok (.iload_n 2, 1) := by decide +kernel
theorem dX1_listPairs_62 : decode cX1_listPairs 62 = .ok (.iand, 1) := by decide +kernel
theorem dX1_listPairs_63 : decode cX1_listPairs 63 = .ok (.iastore, 1) := by decide +kernel
theorem dX1_listPairs_64 : decode cX1_listPairs 64 = .ok (.aload_n 0, 1) := by decide +kernel
theorem dX1_listPairs_65 : decode cX1_listPairs 65 = .ok (.dup, 1) := by decide +kernel
theorem dX1_listPairs_66 : decode cX1_listPairs 66 = .ok (.getfield 37, 3) := by decide +kernel
theorem dX1_listPairs_69 : decode cX1_listPairs 69 = .ok (.iconst 1, 1) := by decide +kernel
theorem dX1_listPairs_70 : decode cX1_listPairs 70 = .ok (.iadd, 1) := by decide +kernel
theorem dX1_listPairs_71 : decode cX1_listPairs 71 = .ok (.putfield 37, 3) := by decide +kernel
theorem dX1_listPairs_74 : decode cX1_listPairs 74 = .ok (.iinc 4 1, 3) := by decide +kernel
theorem dX1_listPairs_77 : decode cX1_listPairs 77 = .ok (.goto (-57), 3) := by decide +kernel
theorem dX1_listPairs_80 : decode cX1_listPairs 80 = .ok (.iinc 3 1, 3) := by decide +kernel
theorem dX1_listPairs_83 : decode cX1_listPairs 83 = .ok (.goto (-76), 3) := by decide +kernel
theorem dX1_listPairs_86 : decode cX1_listPairs 86 = .ok (.return_, 1) := by decide +kernel
def w_X1_listPairs_74 (post : sI → sJ → Prop) (k7 : Int32 → Int32 → Int32 → sI → sJ → Prop) (k20 : Int32 → Int32 → Int32 → Int32 → sI → sJ → Prop) (x1 : Int32) (x2 : Int32) (x3 : Int32) (x4 : Int32) (I : sI) (J : sJ) : Prop :=
  (∀ v4_74 : Int32, v4_74 = x4 + 1 → k20 x1 x2 x3 v4_74 I J)
set_option maxHeartbeats 4000000 in
set_option maxRecDepth 100000 in
theorem t_X1_listPairs_74 {X : sX} {post : sI → sJ → Prop} (h : sOK X cX1_listPairs RX1 5 1 24) (hr : sRt X none (sPv post)) {k7 : Int32 → Int32 → Int32 → sI → sJ → Prop} (hk7 : ∀ (x1 : Int32) (x2 : Int32) (x3 : Int32) (I : sI) (J : sJ), k7 x1 x2 x3 I J → sG X 5 7 [(0, .ref 227), (1, .int x1), (2, .int x2), (3, .int x3)] [] I J) {k20 : Int32 → Int32 → Int32 → Int32 → sI → sJ → Prop} (hk20 : ∀ (x1 : Int32) (x2 : Int32) (x3 : Int32) (x4 : Int32) (I : sI) (J : sJ), k20 x1 x2 x3 x4 I J → sG X 5 20 [(0, .ref 227), (1, .int x1), (2, .int x2), (3, .int x3), (4, .int x4)] [] I J) {x1 : Int32} {x2 : Int32} {x3 : Int32} {x4 : Int32} {I : sI} {J : sJ} (hw : w_X1_listPairs_74 post k7 k20 x1 x2 x3 x4 I J) : sG X 5 74 [(0, .ref 227), (1, .int x1), (2, .int x2), (3, .int x3), (4, .int x4)] [] I J := by
  unfold w_X1_listPairs_74 at hw
  obtain ⟨v4_74, ev4_74⟩ : ∃ z : Int32, z = x4 + 1 := ⟨_, rfl⟩
  replace hw := hw v4_74 ev4_74
  refine g_iinc (v := v4_74) (lo2 := [(4, .int v4_74), (0, .ref 227), (1, .int x1), (2, .int x2), (3, .int x3)]) h 4 rfl (by rw [ev4_74]; rfl) (by decide) rfl dX1_listPairs_74 ?_
  refine g_goto (tgt := 20) h (by decide) dX1_listPairs_77 ?_
  exact g_sub [1, 2, 3, 4, 0] rfl (hk20 _ _ _ _ _ _ hw)
def w_X1_listPairs_20_s (post : sI → sJ → Prop) (k7 : Int32 → Int32 → Int32 → sI → sJ → Prop) (k20 : Int32 → Int32 → Int32 → Int32 → sI → sJ → Prop) (x1 : Int32) (x2 : Int32) (x3 : Int32) (x4 : Int32) (I : sI) (J : sJ) : Prop :=
  (((I 227 1) ≤ x4 → (∀ v3_80 : Int32, v3_80 = x3 + 1 → k7 x1 x2 v3_80 I J)) ∧ (¬ (I 227 1) ≤ x4 → ((((x1 >>> (x3 &&& 31)) &&& 1) = 0 → w_X1_listPairs_74 post k7 k20 x1 x2 x3 x4 I J) ∧ (¬ ((x1 >>> (x3 &&& 31)) &&& 1) = 0 → ((((x1 >>> (x4 &&& 31)) &&& 1) = 0 → w_X1_listPairs_74 post k7 k20 x1 x2 x3 x4 I J) ∧ (¬ ((x1 >>> (x4 &&& 31)) &&& 1) = 0 → w_X1_parting x3 x4 I J (fun (r_58 : Int32) (I_58 : sI) (J_58 : sJ) => ((vp_in (I 227 6) 100 ∧ (∀ I_63 : sI, I_63 = sUI I_58 239 (Int32.toNatClampNeg (I 227 6)) (r_58 &&& x2) → (∀ I_71 : sI, I_71 = sUI I_63 227 6 ((I_63 227 6) + 1) → w_X1_listPairs_74 post k7 k20 x1 x2 x3 x4 I_71 J_58)))))))))))
def w_X1_listPairs_20_n (post : sI → sJ → Prop) (k7 : Int32 → Int32 → Int32 → sI → sJ → Prop) : Nat → Int32 → Int32 → Int32 → Int32 → sI → sJ → Prop
  | 0 => fun _ _ _ _ _ _ => False
  | n + 1 => fun x1 x2 x3 x4 I J => w_X1_listPairs_20_s post k7 (w_X1_listPairs_20_n post k7 n) x1 x2 x3 x4 I J
def w_X1_listPairs_20 (post : sI → sJ → Prop) (k7 : Int32 → Int32 → Int32 → sI → sJ → Prop) (x1 : Int32) (x2 : Int32) (x3 : Int32) (x4 : Int32) (I : sI) (J : sJ) : Prop := ∃ n, w_X1_listPairs_20_n post k7 n x1 x2 x3 x4 I J
set_option maxHeartbeats 4000000 in
set_option maxRecDepth 100000 in
theorem t_X1_listPairs_20_s {X : sX} {post : sI → sJ → Prop} (h : sOK X cX1_listPairs RX1 5 1 24) (hr : sRt X none (sPv post)) {k7 : Int32 → Int32 → Int32 → sI → sJ → Prop} (hk7 : ∀ (x1 : Int32) (x2 : Int32) (x3 : Int32) (I : sI) (J : sJ), k7 x1 x2 x3 I J → sG X 5 7 [(0, .ref 227), (1, .int x1), (2, .int x2), (3, .int x3)] [] I J) {k20 : Int32 → Int32 → Int32 → Int32 → sI → sJ → Prop} (hk20 : ∀ (x1 : Int32) (x2 : Int32) (x3 : Int32) (x4 : Int32) (I : sI) (J : sJ), k20 x1 x2 x3 x4 I J → sG X 5 20 [(0, .ref 227), (1, .int x1), (2, .int x2), (3, .int x3), (4, .int x4)] [] I J) {x1 : Int32} {x2 : Int32} {x3 : Int32} {x4 : Int32} {I : sI} {J : sJ} (hw : w_X1_listPairs_20_s post k7 k20 x1 x2 x3 x4 I J) : sG X 5 20 [(0, .ref 227), (1, .int x1), (2, .int x2), (3, .int x3), (4, .int x4)] [] I J := by
  unfold w_X1_listPairs_20_s at hw
  refine g_iload h 4 rfl dX1_listPairs_20 ?_
  refine g_aload_n h rfl 0 rfl dX1_listPairs_22 ?_
  refine g_get h is_227 fl_X1_29 rfl dX1_listPairs_23 ?_
  refine g_icmp_ge (tgt := 80) h (by decide) dX1_listPairs_26 (fun q26 => ?_) (fun q26 => ?_)
  · replace hw := hw.1 q26
    obtain ⟨v3_80, ev3_80⟩ : ∃ z : Int32, z = x3 + 1 := ⟨_, rfl⟩
    replace hw := hw v3_80 ev3_80
    refine g_iinc (v := v3_80) (lo2 := [(3, .int v3_80), (0, .ref 227), (1, .int x1), (2, .int x2), (4, .int x4)]) h 3 rfl (by rw [ev3_80]; rfl) (by decide) rfl dX1_listPairs_80 ?_
    refine g_goto (tgt := 7) h (by decide) dX1_listPairs_83 ?_
    exact g_sub [1, 2, 3, 0] rfl (hk7 _ _ _ _ _ hw)
  · replace hw := hw.2 q26
    refine g_iload_n h rfl 1 rfl dX1_listPairs_29 ?_
    refine g_iload_n h rfl 3 rfl dX1_listPairs_30 ?_
    refine g_ishr h dX1_listPairs_31 ?_
    refine g_iconst (v := 1) h (by decide) dX1_listPairs_32 ?_
    refine g_iand h dX1_listPairs_33 ?_
    refine g_if_eq (tgt := 74) h (by decide) dX1_listPairs_34 (fun q34 => ?_) (fun q34 => ?_)
    · replace hw := hw.1 q34
      exact g_sub [0, 1, 2, 3, 4] rfl (t_X1_listPairs_74 h hr hk7 hk20 hw)
    · replace hw := hw.2 q34
      refine g_iload_n h rfl 1 rfl dX1_listPairs_37 ?_
      refine g_iload h 4 rfl dX1_listPairs_38 ?_
      refine g_ishr h dX1_listPairs_40 ?_
      refine g_iconst (v := 1) h (by decide) dX1_listPairs_41 ?_
      refine g_iand h dX1_listPairs_42 ?_
      refine g_if_eq (tgt := 74) h (by decide) dX1_listPairs_43 (fun q43 => ?_) (fun q43 => ?_)
      · replace hw := hw.1 q43
        exact g_sub [0, 1, 2, 3, 4] rfl (t_X1_listPairs_74 h hr hk7 hk20 hw)
      · replace hw := hw.2 q43
        refine g_aload_n h rfl 0 rfl dX1_listPairs_46 ?_
        refine g_get h is_227 fl_X1_16 fr_227_2 dX1_listPairs_47 ?_
        refine g_aload_n h rfl 0 rfl dX1_listPairs_50 ?_
        refine g_get h is_227 fl_X1_37 rfl dX1_listPairs_51 ?_
        refine g_aload_n h rfl 0 rfl dX1_listPairs_54 ?_
        refine g_iload_n h rfl 3 rfl dX1_listPairs_55 ?_
        refine g_iload h 4 rfl dX1_listPairs_56 ?_
        refine g_callV [.int x3, .int x4] h (c_X1_parting X hw) sPi_v mw_X1_parting lk_X1_40 is_227 rfl rfl ⟨by decide, by decide⟩ (Nat.le_of_ble_eq_true rfl) dX1_listPairs_58 (sPi_k (fun r_58 I_58 J_58 hw => ?_))
        refine g_iload_n h rfl 2 rfl dX1_listPairs_61 ?_
        refine g_iand h dX1_listPairs_62 ?_
        obtain ⟨hi63, hw⟩ := hw
        refine g_iast h ar_239 hi63 dX1_listPairs_63 ?_
        refine g_nI (fun I_63 eI_63 => ?_)
        replace hw := hw I_63 eI_63
        refine g_aload_n h rfl 0 rfl dX1_listPairs_64 ?_
        refine g_dup h rfl dX1_listPairs_65 ?_
        refine g_get h is_227 fl_X1_37 rfl dX1_listPairs_66 ?_
        refine g_iconst (v := 1) h (by decide) dX1_listPairs_69 ?_
        refine g_iadd h dX1_listPairs_70 ?_
        refine g_putI h is_227 fl_X1_37 rfl rfl dX1_listPairs_71 ?_
        refine g_nI (fun I_71 eI_71 => ?_)
        replace hw := hw I_71 eI_71
        exact g_sub [0, 1, 2, 3, 4] rfl (t_X1_listPairs_74 h hr hk7 hk20 hw)
theorem t_X1_listPairs_20 {X : sX} {post : sI → sJ → Prop} (h : sOK X cX1_listPairs RX1 5 1 24) (hr : sRt X none (sPv post)) {k7 : Int32 → Int32 → Int32 → sI → sJ → Prop} (hk7 : ∀ (x1 : Int32) (x2 : Int32) (x3 : Int32) (I : sI) (J : sJ), k7 x1 x2 x3 I J → sG X 5 7 [(0, .ref 227), (1, .int x1), (2, .int x2), (3, .int x3)] [] I J) {x1 : Int32} {x2 : Int32} {x3 : Int32} {x4 : Int32} {I : sI} {J : sJ} (hw : w_X1_listPairs_20 post k7 x1 x2 x3 x4 I J) : sG X 5 20 [(0, .ref 227), (1, .int x1), (2, .int x2), (3, .int x3), (4, .int x4)] [] I J := by
  obtain ⟨n, hw⟩ := hw
  induction n generalizing x1 x2 x3 x4 I J with
  | zero => exact hw.elim
  | succ n ih => exact t_X1_listPairs_20_s h hr hk7 (fun _ _ _ _ _ _ q => ih q) hw
def w_X1_listPairs_7_s (post : sI → sJ → Prop) (k7 : Int32 → Int32 → Int32 → sI → sJ → Prop) (x1 : Int32) (x2 : Int32) (x3 : Int32) (I : sI) (J : sJ) : Prop :=
  (((I 227 1) ≤ x3 → post I J) ∧ (¬ (I 227 1) ≤ x3 → (∀ v4_18 : Int32, v4_18 = x3 + 1 → w_X1_listPairs_20 post k7 x1 x2 x3 v4_18 I J)))
def w_X1_listPairs_7_n (post : sI → sJ → Prop) : Nat → Int32 → Int32 → Int32 → sI → sJ → Prop
  | 0 => fun _ _ _ _ _ => False
  | n + 1 => fun x1 x2 x3 I J => w_X1_listPairs_7_s post (w_X1_listPairs_7_n post n) x1 x2 x3 I J
def w_X1_listPairs_7 (post : sI → sJ → Prop) (x1 : Int32) (x2 : Int32) (x3 : Int32) (I : sI) (J : sJ) : Prop := ∃ n, w_X1_listPairs_7_n post n x1 x2 x3 I J
set_option maxHeartbeats 4000000 in
set_option maxRecDepth 100000 in
theorem t_X1_listPairs_7_s {X : sX} {post : sI → sJ → Prop} (h : sOK X cX1_listPairs RX1 5 1 24) (hr : sRt X none (sPv post)) {k7 : Int32 → Int32 → Int32 → sI → sJ → Prop} (hk7 : ∀ (x1 : Int32) (x2 : Int32) (x3 : Int32) (I : sI) (J : sJ), k7 x1 x2 x3 I J → sG X 5 7 [(0, .ref 227), (1, .int x1), (2, .int x2), (3, .int x3)] [] I J) {x1 : Int32} {x2 : Int32} {x3 : Int32} {I : sI} {J : sJ} (hw : w_X1_listPairs_7_s post k7 x1 x2 x3 I J) : sG X 5 7 [(0, .ref 227), (1, .int x1), (2, .int x2), (3, .int x3)] [] I J := by
  unfold w_X1_listPairs_7_s at hw
  refine g_iload_n h rfl 3 rfl dX1_listPairs_7 ?_
  refine g_aload_n h rfl 0 rfl dX1_listPairs_8 ?_
  refine g_get h is_227 fl_X1_29 rfl dX1_listPairs_9 ?_
  refine g_icmp_ge (tgt := 86) h (by decide) dX1_listPairs_12 (fun q12 => ?_) (fun q12 => ?_)
  · replace hw := hw.1 q12
    exact g_vret h hr dX1_listPairs_86 hw
  · replace hw := hw.2 q12
    refine g_iload_n h rfl 3 rfl dX1_listPairs_15 ?_
    refine g_iconst (v := 1) h (by decide) dX1_listPairs_16 ?_
    refine g_iadd h dX1_listPairs_17 ?_
    refine g_ni (fun v4_18 ev4_18 => ?_)
    replace hw := hw v4_18 ev4_18
    refine g_istore (lo2 := [(4, .int v4_18), (0, .ref 227), (1, .int x1), (2, .int x2), (3, .int x3)]) h (by decide) rfl dX1_listPairs_18 ?_
    exact g_sub [1, 2, 3, 4, 0] rfl (t_X1_listPairs_20 h hr hk7 hw)
theorem t_X1_listPairs_7 {X : sX} {post : sI → sJ → Prop} (h : sOK X cX1_listPairs RX1 5 1 24) (hr : sRt X none (sPv post)) {x1 : Int32} {x2 : Int32} {x3 : Int32} {I : sI} {J : sJ} (hw : w_X1_listPairs_7 post x1 x2 x3 I J) : sG X 5 7 [(0, .ref 227), (1, .int x1), (2, .int x2), (3, .int x3)] [] I J := by
  obtain ⟨n, hw⟩ := hw
  induction n generalizing x1 x2 x3 I J with
  | zero => exact hw.elim
  | succ n ih => exact t_X1_listPairs_7_s h hr (fun _ _ _ _ _ q => ih q) hw
def w_X1_listPairs (a1 : Int32) (a2 : Int32) (I : sI) (J : sJ) (post : sI → sJ → Prop) : Prop :=
  (∀ I_2 : sI, I_2 = sUI I 227 6 0 → w_X1_listPairs_7 post a1 a2 0 I_2 J)
set_option maxHeartbeats 4000000 in
set_option maxRecDepth 100000 in
theorem t_X1_listPairs {X : sX} {a1 : Int32} {a2 : Int32} {I : sI} {J : sJ} {post : sI → sJ → Prop} (h : sOK X cX1_listPairs RX1 5 1 24) (hr : sRt X none (sPv post)) (hw : w_X1_listPairs a1 a2 I J post) : sG X 5 0 [(0, .ref 227), (1, .int a1), (2, .int a2)] [] I J := by
  unfold w_X1_listPairs at hw
  refine g_aload_n h rfl 0 rfl dX1_listPairs_0 ?_
  refine g_iconst (v := 0) h (by decide) dX1_listPairs_1 ?_
  refine g_putI h is_227 fl_X1_37 rfl rfl dX1_listPairs_2 ?_
  refine g_nI (fun I_2 eI_2 => ?_)
  replace hw := hw I_2 eI_2
  refine g_iconst (v := 0) h (by decide) dX1_listPairs_5 ?_
  refine g_istore_n (lo2 := [(3, .int 0), (0, .ref 227), (1, .int a1), (2, .int a2)]) h rfl (by decide) rfl dX1_listPairs_6 ?_
  exact g_sub [1, 2, 3, 0] rfl (t_X1_listPairs_7 h hr hw)
theorem c_X1_listPairs (X : sX) {a1 : Int32} {a2 : Int32} {I : sI} {J : sJ} {post : sI → sJ → Prop} (hw : w_X1_listPairs a1 a2 I J post) : sCall X yX1_listPairs cX1_listPairs 5 none 1 24 [.ref 227, .int a1, .int a2] I J (sPv post) := sCall_of (by decide +kernel) (Nat.le_of_ble_eq_true rfl) (fun X h hr => t_X1_listPairs h hr hw)
theorem dX1_partedBy_0 : decode cX1_partedBy 0 = .ok (.iconst 0, 1) := by decide +kernel
theorem dX1_partedBy_1 : decode cX1_partedBy 1 = .ok (.istore_n 2, 1) := by decide +kernel
theorem dX1_partedBy_2 : decode cX1_partedBy 2 = .ok (.iload_n 2, 1) := by decide +kernel
theorem dX1_partedBy_3 : decode cX1_partedBy 3 = .ok (.aload_n 0, 1) := by decide +kernel
theorem dX1_partedBy_4 : decode cX1_partedBy 4 = .ok (.getfield 37, 3) := by decide +kernel
theorem dX1_partedBy_7 : decode cX1_partedBy 7 = .ok (.if_icmp .ge 22, 3) := by decide +kernel
theorem dX1_partedBy_10 : decode cX1_partedBy 10 = .ok (.aload_n 0, 1) := by decide +kernel
theorem dX1_partedBy_11 : decode cX1_partedBy 11 = .ok (.getfield 16, 3) := by decide +kernel
theorem dX1_partedBy_14 : decode cX1_partedBy 14 = .ok (.iload_n 2, 1) := by decide +kernel
theorem dX1_partedBy_15 : decode cX1_partedBy 15 = .ok (.iaload, 1) := by decide +kernel
theorem dX1_partedBy_16 : decode cX1_partedBy 16 = .ok (.iload_n 1, 1) := by decide +kernel
theorem dX1_partedBy_17 : decode cX1_partedBy 17 = .ok (.iand, 1) := by decide +kernel
theorem dX1_partedBy_18 : decode cX1_partedBy 18 = .ok (.ifCond .ne 5, 3) := by decide +kernel
theorem dX1_partedBy_21 : decode cX1_partedBy 21 = .ok (.iconst 0, 1) := by decide +kernel
theorem dX1_partedBy_22 : decode cX1_partedBy 22 = .ok (.ireturn, 1) := by decide +kernel
theorem dX1_partedBy_23 : decode cX1_partedBy 23 = .ok (.iinc 2 1, 3) := by decide +kernel
theorem dX1_partedBy_26 : decode cX1_partedBy 26 = .ok (.goto (-24), 3) := by decide +kernel
theorem dX1_partedBy_29 : decode cX1_partedBy 29 = .ok (.iconst 1, 1) := by decide +kernel
theorem dX1_partedBy_30 : decode cX1_partedBy 30 = .ok (.ireturn, 1) := by decide +kernel
def w_X1_partedBy_2_s (post : Int32 → sI → sJ → Prop) (k2 : Int32 → Int32 → sI → sJ → Prop) (x1 : Int32) (x2 : Int32) (I : sI) (J : sJ) : Prop :=
  (((I 227 6) ≤ x2 → post 1 I J) ∧ (¬ (I 227 6) ≤ x2 → (vp_in x2 100 ∧ ((¬ ((I 239 (Int32.toNatClampNeg x2)) &&& x1) = 0 → (∀ v2_23 : Int32, v2_23 = x2 + 1 → k2 x1 v2_23 I J)) ∧ (((I 239 (Int32.toNatClampNeg x2)) &&& x1) = 0 → post 0 I J)))))
def w_X1_partedBy_2_n (post : Int32 → sI → sJ → Prop) : Nat → Int32 → Int32 → sI → sJ → Prop
  | 0 => fun _ _ _ _ => False
  | n + 1 => fun x1 x2 I J => w_X1_partedBy_2_s post (w_X1_partedBy_2_n post n) x1 x2 I J
def w_X1_partedBy_2 (post : Int32 → sI → sJ → Prop) (x1 : Int32) (x2 : Int32) (I : sI) (J : sJ) : Prop := ∃ n, w_X1_partedBy_2_n post n x1 x2 I J
set_option maxHeartbeats 4000000 in
set_option maxRecDepth 100000 in
theorem t_X1_partedBy_2_s {X : sX} {post : Int32 → sI → sJ → Prop} (h : sOK X cX1_partedBy RX1 3 0 0) (hr : sRt X (some .boolean) (sPi post)) {k2 : Int32 → Int32 → sI → sJ → Prop} (hk2 : ∀ (x1 : Int32) (x2 : Int32) (I : sI) (J : sJ), k2 x1 x2 I J → sG X 3 2 [(0, .ref 227), (1, .int x1), (2, .int x2)] [] I J) {x1 : Int32} {x2 : Int32} {I : sI} {J : sJ} (hw : w_X1_partedBy_2_s post k2 x1 x2 I J) : sG X 3 2 [(0, .ref 227), (1, .int x1), (2, .int x2)] [] I J := by
  unfold w_X1_partedBy_2_s at hw
  refine g_iload_n h rfl 2 rfl dX1_partedBy_2 ?_
  refine g_aload_n h rfl 0 rfl dX1_partedBy_3 ?_
  refine g_get h is_227 fl_X1_37 rfl dX1_partedBy_4 ?_
  refine g_icmp_ge (tgt := 29) h (by decide) dX1_partedBy_7 (fun q7 => ?_) (fun q7 => ?_)
  · replace hw := hw.1 q7
    refine g_iconst (v := 1) h (by decide) dX1_partedBy_29 ?_
    exact g_zret h hr (Or.inr rfl) dX1_partedBy_30 hw
  · replace hw := hw.2 q7
    refine g_aload_n h rfl 0 rfl dX1_partedBy_10 ?_
    refine g_get h is_227 fl_X1_16 fr_227_2 dX1_partedBy_11 ?_
    refine g_iload_n h rfl 2 rfl dX1_partedBy_14 ?_
    obtain ⟨hi15, hw⟩ := hw
    refine g_iald h ar_239 hi15 dX1_partedBy_15 ?_
    refine g_iload_n h rfl 1 rfl dX1_partedBy_16 ?_
    refine g_iand h dX1_partedBy_17 ?_
    refine g_if_ne (tgt := 23) h (by decide) dX1_partedBy_18 (fun q18 => ?_) (fun q18 => ?_)
    · replace hw := hw.1 q18
      obtain ⟨v2_23, ev2_23⟩ : ∃ z : Int32, z = x2 + 1 := ⟨_, rfl⟩
      replace hw := hw v2_23 ev2_23
      refine g_iinc (v := v2_23) (lo2 := [(2, .int v2_23), (0, .ref 227), (1, .int x1)]) h 2 rfl (by rw [ev2_23]; rfl) (by decide) rfl dX1_partedBy_23 ?_
      refine g_goto (tgt := 2) h (by decide) dX1_partedBy_26 ?_
      exact g_sub [1, 2, 0] rfl (hk2 _ _ _ _ hw)
    · replace hw := hw.2 q18
      refine g_iconst (v := 0) h (by decide) dX1_partedBy_21 ?_
      exact g_zret h hr (Or.inl rfl) dX1_partedBy_22 hw
theorem t_X1_partedBy_2 {X : sX} {post : Int32 → sI → sJ → Prop} (h : sOK X cX1_partedBy RX1 3 0 0) (hr : sRt X (some .boolean) (sPi post)) {x1 : Int32} {x2 : Int32} {I : sI} {J : sJ} (hw : w_X1_partedBy_2 post x1 x2 I J) : sG X 3 2 [(0, .ref 227), (1, .int x1), (2, .int x2)] [] I J := by
  obtain ⟨n, hw⟩ := hw
  induction n generalizing x1 x2 I J with
  | zero => exact hw.elim
  | succ n ih => exact t_X1_partedBy_2_s h hr (fun _ _ _ _ q => ih q) hw
def w_X1_partedBy (a1 : Int32) (I : sI) (J : sJ) (post : Int32 → sI → sJ → Prop) : Prop :=
  w_X1_partedBy_2 post a1 0 I J
set_option maxHeartbeats 4000000 in
set_option maxRecDepth 100000 in
theorem t_X1_partedBy {X : sX} {a1 : Int32} {I : sI} {J : sJ} {post : Int32 → sI → sJ → Prop} (h : sOK X cX1_partedBy RX1 3 0 0) (hr : sRt X (some .boolean) (sPi post)) (hw : w_X1_partedBy a1 I J post) : sG X 3 0 [(0, .ref 227), (1, .int a1)] [] I J := by
  unfold w_X1_partedBy at hw
  refine g_iconst (v := 0) h (by decide) dX1_partedBy_0 ?_
  refine g_istore_n (lo2 := [(2, .int 0), (0, .ref 227), (1, .int a1)]) h rfl (by decide) rfl dX1_partedBy_1 ?_
  exact g_sub [1, 2, 0] rfl (t_X1_partedBy_2 h hr hw)
theorem c_X1_partedBy (X : sX) {a1 : Int32} {I : sI} {J : sJ} {post : Int32 → sI → sJ → Prop} (hw : w_X1_partedBy a1 I J post) : sCall X yX1_partedBy cX1_partedBy 3 (some .boolean) 0 0 [.ref 227, .int a1] I J (sPi post) := sCall_of (by decide +kernel) (Nat.le_of_ble_eq_true rfl) (fun X h hr => t_X1_partedBy h hr hw)
theorem dJ9_max_7cf53_0 : decode cJ9_max_7cf53 0 = .ok (.iload_n 0, 1) := by decide +kernel
theorem dJ9_max_7cf53_1 : decode cJ9_max_7cf53 1 = .ok (.iload_n 1, 1) := by decide +kernel
theorem dJ9_max_7cf53_2 : decode cJ9_max_7cf53 2 = .ok (.if_icmp .lt 7, 3) := by decide +kernel
theorem dJ9_max_7cf53_5 : decode cJ9_max_7cf53 5 = .ok (.iload_n 0, 1) := by decide +kernel
theorem dJ9_max_7cf53_6 : decode cJ9_max_7cf53 6 = .ok (.goto 4, 3) := by decide +kernel
theorem dJ9_max_7cf53_9 : decode cJ9_max_7cf53 9 = .ok (.iload_n 1, 1) := by decide +kernel
theorem dJ9_max_7cf53_10 : decode cJ9_max_7cf53 10 = .ok (.ireturn, 1) := by decide +kernel
def w_J9_max_7cf53 (a0 : Int32) (a1 : Int32) (I : sI) (J : sJ) (post : Int32 → sI → sJ → Prop) : Prop :=
  ((a0 < a1 → post a1 I J) ∧ (¬ a0 < a1 → post a0 I J))
set_option maxHeartbeats 4000000 in
set_option maxRecDepth 100000 in
theorem t_J9_max_7cf53 {X : sX} {a0 : Int32} {a1 : Int32} {I : sI} {J : sJ} {post : Int32 → sI → sJ → Prop} (h : sOK X cJ9_max_7cf53 RJ9 2 0 0) (hr : sRt X (some .int) (sPi post)) (hw : w_J9_max_7cf53 a0 a1 I J post) : sG X 2 0 [(0, .int a0), (1, .int a1)] [] I J := by
  unfold w_J9_max_7cf53 at hw
  refine g_iload_n h rfl 0 rfl dJ9_max_7cf53_0 ?_
  refine g_iload_n h rfl 1 rfl dJ9_max_7cf53_1 ?_
  refine g_icmp_lt (tgt := 9) h (by decide) dJ9_max_7cf53_2 (fun q2 => ?_) (fun q2 => ?_)
  · replace hw := hw.1 q2
    refine g_iload_n h rfl 1 rfl dJ9_max_7cf53_9 ?_
    exact g_iret h hr dJ9_max_7cf53_10 hw
  · replace hw := hw.2 q2
    refine g_iload_n h rfl 0 rfl dJ9_max_7cf53_5 ?_
    refine g_goto (tgt := 10) h (by decide) dJ9_max_7cf53_6 ?_
    exact g_iret h hr dJ9_max_7cf53_10 hw
theorem c_J9_max_7cf53 (X : sX) {a0 : Int32} {a1 : Int32} {I : sI} {J : sJ} {post : Int32 → sI → sJ → Prop} (hw : w_J9_max_7cf53 a0 a1 I J post) : sCall X yJ9_max_7cf53 cJ9_max_7cf53 2 (some .int) 0 0 [.int a0, .int a1] I J (sPi post) := sCall_of (by decide +kernel) (Nat.le_of_ble_eq_true rfl) (fun X h hr => t_J9_max_7cf53 h hr hw)
theorem dJ9_min_7cf53_0 : decode cJ9_min_7cf53 0 = .ok (.iload_n 0, 1) := by decide +kernel
theorem dJ9_min_7cf53_1 : decode cJ9_min_7cf53 1 = .ok (.iload_n 1, 1) := by decide +kernel
theorem dJ9_min_7cf53_2 : decode cJ9_min_7cf53 2 = .ok (.if_icmp .gt 7, 3) := by decide +kernel
theorem dJ9_min_7cf53_5 : decode cJ9_min_7cf53 5 = .ok (.iload_n 0, 1) := by decide +kernel
theorem dJ9_min_7cf53_6 : decode cJ9_min_7cf53 6 = .ok (.goto 4, 3) := by decide +kernel
theorem dJ9_min_7cf53_9 : decode cJ9_min_7cf53 9 = .ok (.iload_n 1, 1) := by decide +kernel
theorem dJ9_min_7cf53_10 : decode cJ9_min_7cf53 10 = .ok (.ireturn, 1) := by decide +kernel
def w_J9_min_7cf53 (a0 : Int32) (a1 : Int32) (I : sI) (J : sJ) (post : Int32 → sI → sJ → Prop) : Prop :=
  ((a1 < a0 → post a1 I J) ∧ (¬ a1 < a0 → post a0 I J))
set_option maxHeartbeats 4000000 in
set_option maxRecDepth 100000 in
theorem t_J9_min_7cf53 {X : sX} {a0 : Int32} {a1 : Int32} {I : sI} {J : sJ} {post : Int32 → sI → sJ → Prop} (h : sOK X cJ9_min_7cf53 RJ9 2 0 0) (hr : sRt X (some .int) (sPi post)) (hw : w_J9_min_7cf53 a0 a1 I J post) : sG X 2 0 [(0, .int a0), (1, .int a1)] [] I J := by
  unfold w_J9_min_7cf53 at hw
  refine g_iload_n h rfl 0 rfl dJ9_min_7cf53_0 ?_
  refine g_iload_n h rfl 1 rfl dJ9_min_7cf53_1 ?_
  refine g_icmp_gt (tgt := 9) h (by decide) dJ9_min_7cf53_2 (fun q2 => ?_) (fun q2 => ?_)
  · replace hw := hw.1 q2
    refine g_iload_n h rfl 1 rfl dJ9_min_7cf53_9 ?_
    exact g_iret h hr dJ9_min_7cf53_10 hw
  · replace hw := hw.2 q2
    refine g_iload_n h rfl 0 rfl dJ9_min_7cf53_5 ?_
    refine g_goto (tgt := 10) h (by decide) dJ9_min_7cf53_6 ?_
    exact g_iret h hr dJ9_min_7cf53_10 hw
theorem c_J9_min_7cf53 (X : sX) {a0 : Int32} {a1 : Int32} {I : sI} {J : sJ} {post : Int32 → sI → sJ → Prop} (hw : w_J9_min_7cf53 a0 a1 I J post) : sCall X yJ9_min_7cf53 cJ9_min_7cf53 2 (some .int) 0 0 [.int a0, .int a1] I J (sPi post) := sCall_of (by decide +kernel) (Nat.le_of_ble_eq_true rfl) (fun X h hr => t_J9_min_7cf53 h hr hw)
theorem dX1_depthOf_0 : decode cX1_depthOf 0 = .ok (.bipush 13, 2) := by decide +kernel
theorem dX1_depthOf_2 : decode cX1_depthOf 2 = .ok (.istore_n 2, 1) := by decide +kernel
theorem dX1_depthOf_3 : decode cX1_depthOf 3 = .ok (.iconst 0, 1) := by decide +kernel
theorem dX1_depthOf_4 : decode cX1_depthOf 4 = .ok (.istore_n 3, 1) := by decide +kernel
theorem dX1_depthOf_5 : decode cX1_depthOf 5 = .ok (.iload_n 3, 1) := by decide +kernel
theorem dX1_depthOf_6 : decode cX1_depthOf 6 = .ok (.bipush 12, 2) := by decide +kernel
theorem dX1_depthOf_8 : decode cX1_depthOf 8 = .ok (.if_icmp .ge 75, 3) := by decide +kernel
theorem dX1_depthOf_11 : decode cX1_depthOf 11 = .ok (.aload_n 0, 1) := by decide +kernel
theorem dX1_depthOf_12 : decode cX1_depthOf 12 = .ok (.getfield 23, 3) := by decide +kernel
theorem dX1_depthOf_15 : decode cX1_depthOf 15 = .ok (.iload_n 3, 1) := by decide +kernel
theorem dX1_depthOf_16 : decode cX1_depthOf 16 = .ok (.iaload, 1) := by decide +kernel
theorem dX1_depthOf_17 : decode cX1_depthOf 17 = .ok (.iload_n 1, 1) := by decide +kernel
theorem dX1_depthOf_18 : decode cX1_depthOf 18 = .ok (.iand, 1) := by decide +kernel
theorem dX1_depthOf_19 : decode cX1_depthOf 19 = .ok (.ifCond .eq 58, 3) := by decide +kernel
theorem dX1_depthOf_22 : decode cX1_depthOf 22 = .ok (.aload_n 0, 1) := by decide +kernel
theorem dX1_depthOf_23 : decode cX1_depthOf 23 = .ok (.getfield 26, 3) := by decide +kernel
theorem dX1_depthOf_26 : decode cX1_depthOf 26 = .ok (.iload_n 3, 1) := by decide +kernel
theorem dX1_depthOf_27 : decode cX1_depthOf 27 = .ok (.iaload, 1) := by decide +kernel
theorem dX1_depthOf_28 : decode cX1_depthOf 28 = .ok (.iload_n 1, 1) := by decide +kernel
theorem dX1_depthOf_29 : decode cX1_depthOf 29 = .ok (.iand, 1) := by decide +kernel
theorem dX1_depthOf_30 : decode cX1_depthOf 30 = .ok (.ifCond .eq 47, 3) := by decide +kernel
theorem dX1_depthOf_33 : decode cX1_depthOf 33 = .ok (.aload_n 0, 1) := by decide +kernel
theorem dX1_depthOf_34 : decode cX1_depthOf 34 = .ok (.getfield 20, 3) := by decide +kernel
theorem dX1_depthOf_37 : decode cX1_depthOf 37 = .ok (.iload_n 1, 1) := by decide +kernel
theorem dX1_depthOf_38 : decode cX1_depthOf 38 = .ok (.aload_n 0, 1) := by decide +kernel
theorem dX1_depthOf_39 : decode cX1_depthOf 39 = .ok (.getfield 26, 3) := by decide +kernel
theorem dX1_depthOf_42 : decode cX1_depthOf 42 = .ok (.iload_n 3, 1) := by decide +kernel
theorem dX1_depthOf_43 : decode cX1_depthOf 43 = .ok (.iaload, 1) := by decide +kernel
theorem dX1_depthOf_44 : decode cX1_depthOf 44 = .ok (.iconst (-1), 1) := by decide +kernel
theorem dX1_depthOf_45 : decode cX1_depthOf 45 = .ok (.ixor, 1) := by decide +kernel
theorem dX1_depthOf_46 : decode cX1_depthOf 46 = .ok (.iand, 1) := by decide +kernel
theorem dX1_depthOf_47 : decode cX1_depthOf 47 = .ok (.iaload, 1) := by decide +kernel
theorem dX1_depthOf_48 : decode cX1_depthOf 48 = .ok (.aload_n 0, 1) := by decide +kernel
theorem dX1_depthOf_49 : decode cX1_depthOf 49 = .ok (.getfield 20, 3) := by decide +kernel
theorem dX1_depthOf_52 : decode cX1_depthOf 52 = .ok (.iload_n 1, 1) := by decide +kernel
theorem dX1_depthOf_53 : decode cX1_depthOf 53 = .ok (.aload_n 0, 1) := by decide +kernel
theorem dX1_depthOf_54 : decode cX1_depthOf 54 = .ok (.getfield 23, 3) := by decide +kernel
theorem dX1_depthOf_57 : decode cX1_depthOf 57 = .ok (.iload_n 3, 1) := by decide +kernel
theorem dX1_depthOf_58 : decode cX1_depthOf 58 = .ok (.iaload, 1) := by decide +kernel
theorem dX1_depthOf_59 : decode cX1_depthOf 59 = .ok (.iconst (-1), 1) := by decide +kernel
theorem dX1_depthOf_60 : decode cX1_depthOf 60 = .ok (.ixor, 1) := by decide +kernel
theorem dX1_depthOf_61 : decode cX1_depthOf 61 = .ok (.iand, 1) := by decide +kernel
theorem dX1_depthOf_62 : decode cX1_depthOf 62 = .ok (.iaload, 1) := by decide +kernel
theorem dX1_depthOf_63 : decode cX1_depthOf 63 = .ok (.invokestatic 47, 3) := by decide +kernel
theorem dX1_depthOf_66 : decode cX1_depthOf 66 = .ok (.istore 4, 2) := by decide +kernel
theorem dX1_depthOf_68 : decode cX1_depthOf 68 = .ok (.iload_n 2, 1) := by decide +kernel
theorem dX1_depthOf_69 : decode cX1_depthOf 69 = .ok (.iconst 1, 1) := by decide +kernel
theorem dX1_depthOf_70 : decode cX1_depthOf 70 = .ok (.iload 4, 2) := by decide +kernel
theorem dX1_depthOf_72 : decode cX1_depthOf 72 = .ok (.iadd, 1) := by decide +kernel
theorem dX1_depthOf_73 : decode cX1_depthOf 73 = .ok (.invokestatic 52, 3) := by decide +kernel
theorem dX1_depthOf_76 : decode cX1_depthOf 76 = .ok (.istore_n 2, 1) := by decide +kernel
theorem dX1_depthOf_77 : decode cX1_depthOf 77 = .ok (.iinc 3 1, 3) := by decide +kernel
theorem dX1_depthOf_80 : decode cX1_depthOf 80 = .ok (.goto (-75), 3) := by decide +kernel
theorem dX1_depthOf_83 : decode cX1_depthOf 83 = .ok (.iload_n 2, 1) := by decide +kernel
theorem dX1_depthOf_84 : decode cX1_depthOf 84 = .ok (.bipush 12, 2) := by decide +kernel
theorem dX1_depthOf_86 : decode cX1_depthOf 86 = .ok (.if_icmp .le 7, 3) := by decide +kernel
theorem dX1_depthOf_89 : decode cX1_depthOf 89 = .ok (.iconst 0, 1) := by decide +kernel
theorem dX1_depthOf_90 : decode cX1_depthOf 90 = .ok (.goto 4, 3) := by decide +kernel
theorem dX1_depthOf_93 : decode cX1_depthOf 93 = .ok (.iload_n 2, 1) := by decide +kernel
theorem dX1_depthOf_94 : decode cX1_depthOf 94 = .ok (.ireturn, 1) := by decide +kernel
def w_X1_depthOf_77 (post : Int32 → sI → sJ → Prop) (k5 : Int32 → Int32 → Int32 → sI → sJ → Prop) (x1 : Int32) (x2 : Int32) (x3 : Int32) (I : sI) (J : sJ) : Prop :=
  (∀ v3_77 : Int32, v3_77 = x3 + 1 → k5 x1 x2 v3_77 I J)
set_option maxHeartbeats 4000000 in
set_option maxRecDepth 100000 in
theorem t_X1_depthOf_77 {X : sX} {post : Int32 → sI → sJ → Prop} (h : sOK X cX1_depthOf RX1 5 1 21) (hr : sRt X (some .int) (sPi post)) {k5 : Int32 → Int32 → Int32 → sI → sJ → Prop} (hk5 : ∀ (x1 : Int32) (x2 : Int32) (x3 : Int32) (I : sI) (J : sJ), k5 x1 x2 x3 I J → sG X 5 5 [(0, .ref 227), (1, .int x1), (2, .int x2), (3, .int x3)] [] I J) {x1 : Int32} {x2 : Int32} {x3 : Int32} {I : sI} {J : sJ} (hw : w_X1_depthOf_77 post k5 x1 x2 x3 I J) : sG X 5 77 [(0, .ref 227), (1, .int x1), (2, .int x2), (3, .int x3)] [] I J := by
  unfold w_X1_depthOf_77 at hw
  obtain ⟨v3_77, ev3_77⟩ : ∃ z : Int32, z = x3 + 1 := ⟨_, rfl⟩
  replace hw := hw v3_77 ev3_77
  refine g_iinc (v := v3_77) (lo2 := [(3, .int v3_77), (0, .ref 227), (1, .int x1), (2, .int x2)]) h 3 rfl (by rw [ev3_77]; rfl) (by decide) rfl dX1_depthOf_77 ?_
  refine g_goto (tgt := 5) h (by decide) dX1_depthOf_80 ?_
  exact g_sub [1, 2, 3, 0] rfl (hk5 _ _ _ _ _ hw)
def w_X1_depthOf_5_s (post : Int32 → sI → sJ → Prop) (k5 : Int32 → Int32 → Int32 → sI → sJ → Prop) (x1 : Int32) (x2 : Int32) (x3 : Int32) (I : sI) (J : sJ) : Prop :=
  ((12 ≤ x3 → ((x2 ≤ 12 → post x2 I J) ∧ (¬ x2 ≤ 12 → post 0 I J))) ∧ (¬ 12 ≤ x3 → (vp_in x3 12 ∧ ((((I 241 (Int32.toNatClampNeg x3)) &&& x1) = 0 → w_X1_depthOf_77 post k5 x1 x2 x3 I J) ∧ (¬ ((I 241 (Int32.toNatClampNeg x3)) &&& x1) = 0 → (vp_in x3 12 ∧ ((((I 242 (Int32.toNatClampNeg x3)) &&& x1) = 0 → w_X1_depthOf_77 post k5 x1 x2 x3 I J) ∧ (¬ ((I 242 (Int32.toNatClampNeg x3)) &&& x1) = 0 → (vp_in x3 12 ∧ (vp_in (x1 &&& ((I 242 (Int32.toNatClampNeg x3)) ^^^ (-1))) 1024 ∧ (vp_in x3 12 ∧ (vp_in (x1 &&& ((I 241 (Int32.toNatClampNeg x3)) ^^^ (-1))) 1024 ∧ w_J9_max_7cf53 (I 240 (Int32.toNatClampNeg (x1 &&& ((I 242 (Int32.toNatClampNeg x3)) ^^^ (-1))))) (I 240 (Int32.toNatClampNeg (x1 &&& ((I 241 (Int32.toNatClampNeg x3)) ^^^ (-1))))) I J (fun (r_63 : Int32) (I_63 : sI) (J_63 : sJ) => (w_J9_min_7cf53 x2 (1 + r_63) I_63 J_63 (fun (r_73 : Int32) (I_73 : sI) (J_73 : sJ) => (w_X1_depthOf_77 post k5 x1 r_73 x3 I_73 J_73))))))))))))))))
def w_X1_depthOf_5_n (post : Int32 → sI → sJ → Prop) : Nat → Int32 → Int32 → Int32 → sI → sJ → Prop
  | 0 => fun _ _ _ _ _ => False
  | n + 1 => fun x1 x2 x3 I J => w_X1_depthOf_5_s post (w_X1_depthOf_5_n post n) x1 x2 x3 I J
def w_X1_depthOf_5 (post : Int32 → sI → sJ → Prop) (x1 : Int32) (x2 : Int32) (x3 : Int32) (I : sI) (J : sJ) : Prop := ∃ n, w_X1_depthOf_5_n post n x1 x2 x3 I J
set_option maxHeartbeats 4000000 in
set_option maxRecDepth 100000 in
theorem t_X1_depthOf_5_s {X : sX} {post : Int32 → sI → sJ → Prop} (h : sOK X cX1_depthOf RX1 5 1 21) (hr : sRt X (some .int) (sPi post)) {k5 : Int32 → Int32 → Int32 → sI → sJ → Prop} (hk5 : ∀ (x1 : Int32) (x2 : Int32) (x3 : Int32) (I : sI) (J : sJ), k5 x1 x2 x3 I J → sG X 5 5 [(0, .ref 227), (1, .int x1), (2, .int x2), (3, .int x3)] [] I J) {x1 : Int32} {x2 : Int32} {x3 : Int32} {I : sI} {J : sJ} (hw : w_X1_depthOf_5_s post k5 x1 x2 x3 I J) : sG X 5 5 [(0, .ref 227), (1, .int x1), (2, .int x2), (3, .int x3)] [] I J := by
  unfold w_X1_depthOf_5_s at hw
  refine g_iload_n h rfl 3 rfl dX1_depthOf_5 ?_
  refine g_bipush (v := 12) h (by decide) dX1_depthOf_6 ?_
  refine g_icmp_ge (tgt := 83) h (by decide) dX1_depthOf_8 (fun q8 => ?_) (fun q8 => ?_)
  · replace hw := hw.1 q8
    refine g_iload_n h rfl 2 rfl dX1_depthOf_83 ?_
    refine g_bipush (v := 12) h (by decide) dX1_depthOf_84 ?_
    refine g_icmp_le (tgt := 93) h (by decide) dX1_depthOf_86 (fun q86 => ?_) (fun q86 => ?_)
    · replace hw := hw.1 q86
      refine g_iload_n h rfl 2 rfl dX1_depthOf_93 ?_
      exact g_iret h hr dX1_depthOf_94 hw
    · replace hw := hw.2 q86
      refine g_iconst (v := 0) h (by decide) dX1_depthOf_89 ?_
      refine g_goto (tgt := 94) h (by decide) dX1_depthOf_90 ?_
      exact g_iret h hr dX1_depthOf_94 hw
  · replace hw := hw.2 q8
    refine g_aload_n h rfl 0 rfl dX1_depthOf_11 ?_
    refine g_get h is_227 fl_X1_23 fr_227_4 dX1_depthOf_12 ?_
    refine g_iload_n h rfl 3 rfl dX1_depthOf_15 ?_
    obtain ⟨hi16, hw⟩ := hw
    refine g_iald h ar_241 hi16 dX1_depthOf_16 ?_
    refine g_iload_n h rfl 1 rfl dX1_depthOf_17 ?_
    refine g_iand h dX1_depthOf_18 ?_
    refine g_if_eq (tgt := 77) h (by decide) dX1_depthOf_19 (fun q19 => ?_) (fun q19 => ?_)
    · replace hw := hw.1 q19
      exact g_sub [0, 1, 2, 3] rfl (t_X1_depthOf_77 h hr hk5 hw)
    · replace hw := hw.2 q19
      refine g_aload_n h rfl 0 rfl dX1_depthOf_22 ?_
      refine g_get h is_227 fl_X1_26 fr_227_5 dX1_depthOf_23 ?_
      refine g_iload_n h rfl 3 rfl dX1_depthOf_26 ?_
      obtain ⟨hi27, hw⟩ := hw
      refine g_iald h ar_242 hi27 dX1_depthOf_27 ?_
      refine g_iload_n h rfl 1 rfl dX1_depthOf_28 ?_
      refine g_iand h dX1_depthOf_29 ?_
      refine g_if_eq (tgt := 77) h (by decide) dX1_depthOf_30 (fun q30 => ?_) (fun q30 => ?_)
      · replace hw := hw.1 q30
        exact g_sub [0, 1, 2, 3] rfl (t_X1_depthOf_77 h hr hk5 hw)
      · replace hw := hw.2 q30
        refine g_aload_n h rfl 0 rfl dX1_depthOf_33 ?_
        refine g_get h is_227 fl_X1_20 fr_227_3 dX1_depthOf_34 ?_
        refine g_iload_n h rfl 1 rfl dX1_depthOf_37 ?_
        refine g_aload_n h rfl 0 rfl dX1_depthOf_38 ?_
        refine g_get h is_227 fl_X1_26 fr_227_5 dX1_depthOf_39 ?_
        refine g_iload_n h rfl 3 rfl dX1_depthOf_42 ?_
        obtain ⟨hi43, hw⟩ := hw
        refine g_iald h ar_242 hi43 dX1_depthOf_43 ?_
        refine g_iconst (v := (-1)) h (by decide) dX1_depthOf_44 ?_
        refine g_ixor h dX1_depthOf_45 ?_
        refine g_iand h dX1_depthOf_46 ?_
        obtain ⟨hi47, hw⟩ := hw
        refine g_iald h ar_240 hi47 dX1_depthOf_47 ?_
        refine g_aload_n h rfl 0 rfl dX1_depthOf_48 ?_
        refine g_get h is_227 fl_X1_20 fr_227_3 dX1_depthOf_49 ?_
        refine g_iload_n h rfl 1 rfl dX1_depthOf_52 ?_
        refine g_aload_n h rfl 0 rfl dX1_depthOf_53 ?_
        refine g_get h is_227 fl_X1_23 fr_227_4 dX1_depthOf_54 ?_
        refine g_iload_n h rfl 3 rfl dX1_depthOf_57 ?_
        obtain ⟨hi58, hw⟩ := hw
        refine g_iald h ar_241 hi58 dX1_depthOf_58 ?_
        refine g_iconst (v := (-1)) h (by decide) dX1_depthOf_59 ?_
        refine g_ixor h dX1_depthOf_60 ?_
        refine g_iand h dX1_depthOf_61 ?_
        obtain ⟨hi62, hw⟩ := hw
        refine g_iald h ar_240 hi62 dX1_depthOf_62 ?_
        refine g_callS [.int (I 240 (Int32.toNatClampNeg (x1 &&& ((I 242 (Int32.toNatClampNeg x3)) ^^^ (-1))))), .int (I 240 (Int32.toNatClampNeg (x1 &&& ((I 241 (Int32.toNatClampNeg x3)) ^^^ (-1)))))] h (c_J9_max_7cf53 X hw) sPi_v mw_J9_max_7cf53 lk_X1_47 rfl ⟨by decide, by decide⟩ (Nat.le_of_ble_eq_true rfl) dX1_depthOf_63 (sPi_k (fun r_63 I_63 J_63 hw => ?_))
        refine g_istore (lo2 := [(4, .int r_63), (0, .ref 227), (1, .int x1), (2, .int x2), (3, .int x3)]) h (by decide) rfl dX1_depthOf_66 ?_
        refine g_iload_n h rfl 3 rfl dX1_depthOf_68 ?_
        refine g_iconst (v := 1) h (by decide) dX1_depthOf_69 ?_
        refine g_iload h 0 rfl dX1_depthOf_70 ?_
        refine g_iadd h dX1_depthOf_72 ?_
        refine g_callS [.int x2, .int (1 + r_63)] h (c_J9_min_7cf53 X hw) sPi_v mw_J9_min_7cf53 lk_X1_52 rfl ⟨by decide, by decide⟩ (Nat.le_of_ble_eq_true rfl) dX1_depthOf_73 (sPi_k (fun r_73 I_73 J_73 hw => ?_))
        refine g_istore_n (lo2 := [(2, .int r_73), (4, .int r_63), (0, .ref 227), (1, .int x1), (3, .int x3)]) h rfl (by decide) rfl dX1_depthOf_76 ?_
        exact g_sub [2, 3, 0, 4] rfl (t_X1_depthOf_77 h hr hk5 hw)
theorem t_X1_depthOf_5 {X : sX} {post : Int32 → sI → sJ → Prop} (h : sOK X cX1_depthOf RX1 5 1 21) (hr : sRt X (some .int) (sPi post)) {x1 : Int32} {x2 : Int32} {x3 : Int32} {I : sI} {J : sJ} (hw : w_X1_depthOf_5 post x1 x2 x3 I J) : sG X 5 5 [(0, .ref 227), (1, .int x1), (2, .int x2), (3, .int x3)] [] I J := by
  obtain ⟨n, hw⟩ := hw
  induction n generalizing x1 x2 x3 I J with
  | zero => exact hw.elim
  | succ n ih => exact t_X1_depthOf_5_s h hr (fun _ _ _ _ _ q => ih q) hw
def w_X1_depthOf (a1 : Int32) (I : sI) (J : sJ) (post : Int32 → sI → sJ → Prop) : Prop :=
  w_X1_depthOf_5 post a1 13 0 I J
set_option maxHeartbeats 4000000 in
set_option maxRecDepth 100000 in
theorem t_X1_depthOf {X : sX} {a1 : Int32} {I : sI} {J : sJ} {post : Int32 → sI → sJ → Prop} (h : sOK X cX1_depthOf RX1 5 1 21) (hr : sRt X (some .int) (sPi post)) (hw : w_X1_depthOf a1 I J post) : sG X 5 0 [(0, .ref 227), (1, .int a1)] [] I J := by
  unfold w_X1_depthOf at hw
  refine g_bipush (v := 13) h (by decide) dX1_depthOf_0 ?_
  refine g_istore_n (lo2 := [(2, .int 13), (0, .ref 227), (1, .int a1)]) h rfl (by decide) rfl dX1_depthOf_2 ?_
  refine g_iconst (v := 0) h (by decide) dX1_depthOf_3 ?_
  refine g_istore_n (lo2 := [(3, .int 0), (2, .int 13), (0, .ref 227), (1, .int a1)]) h rfl (by decide) rfl dX1_depthOf_4 ?_
  exact g_sub [2, 3, 1, 0] rfl (t_X1_depthOf_5 h hr hw)
theorem c_X1_depthOf (X : sX) {a1 : Int32} {I : sI} {J : sJ} {post : Int32 → sI → sJ → Prop} (hw : w_X1_depthOf a1 I J post) : sCall X yX1_depthOf cX1_depthOf 5 (some .int) 1 21 [.ref 227, .int a1] I J (sPi post) := sCall_of (by decide +kernel) (Nat.le_of_ble_eq_true rfl) (fun X h hr => t_X1_depthOf h hr hw)
theorem dX1_depth_0 : decode cX1_depth 0 = .ok (.iconst 0, 1) := by decide +kernel
theorem dX1_depth_1 : decode cX1_depth 1 = .ok (.istore_n 3, 1) := by decide +kernel
theorem dX1_depth_2 : decode cX1_depth 2 = .ok (.iload_n 3, 1) := by decide +kernel
theorem dX1_depth_3 : decode cX1_depth 3 = .ok (.bipush 12, 2) := by decide +kernel
theorem dX1_depth_5 : decode cX1_depth 5 = .ok (.if_icmp .ge 66, 3) := by decide +kernel
theorem dX1_depth_8 : decode cX1_depth 8 = .ok (.iload_n 2, 1) := by decide +kernel
theorem dX1_depth_9 : decode cX1_depth 9 = .ok (.iload_n 3, 1) := by decide +kernel
theorem dX1_depth_10 : decode cX1_depth 10 = .ok (.ishr, 1) := by decide +kernel
theorem dX1_depth_11 : decode cX1_depth 11 = .ok (.iconst 1, 1) := by decide +kernel
theorem dX1_depth_12 : decode cX1_depth 12 = .ok (.iand, 1) := by decide +kernel
theorem dX1_depth_13 : decode cX1_depth 13 = .ok (.ifCond .eq 7, 3) := by decide +kernel
theorem dX1_depth_16 : decode cX1_depth 16 = .ok (.iconst 1, 1) := by decide +kernel
theorem dX1_depth_17 : decode cX1_depth 17 = .ok (.goto 4, 3) := by decide +kernel
theorem dX1_depth_20 : decode cX1_depth 20 = .ok (.iconst 0, 1) := by decide +kernel
theorem dX1_depth_21 : decode cX1_depth 21 = .ok (.istore 4, 2) := by decide +kernel
theorem dX1_depth_23 : decode cX1_depth 23 = .ok (.aload_n 0, 1) := by decide +kernel
theorem dX1_depth_24 : decode cX1_depth 24 = .ok (.getfield 23, 3) := by decide +kernel
theorem dX1_depth_27 : decode cX1_depth 27 = .ok (.iload_n 3, 1) := by decide +kernel
theorem dX1_depth_28 : decode cX1_depth 28 = .ok (.iload 4, 2) := by decide +kernel
theorem dX1_depth_30 : decode cX1_depth 30 = .ok (.ifCond .eq 12, 3) := by decide +kernel
theorem dX1_depth_33 : decode cX1_depth 33 = .ok (.aload_n 0, 1) := by decide +kernel
theorem dX1_depth_34 : decode cX1_depth 34 = .ok (.iload_n 3, 1) := by decide +kernel
theorem dX1_depth_35 : decode cX1_depth 35 = .ok (.iconst 1, 1) := by decide +kernel
theorem dX1_depth_36 : decode cX1_depth 36 = .ok (.invokevirtual 33, 3) := by decide +kernel
theorem dX1_depth_39 : decode cX1_depth 39 = .ok (.goto 4, 3) := by decide +kernel
theorem dX1_depth_42 : decode cX1_depth 42 = .ok (.iconst 0, 1) := by decide +kernel
theorem dX1_depth_43 : decode cX1_depth 43 = .ok (.iastore, 1) := by decide +kernel
theorem dX1_depth_44 : decode cX1_depth 44 = .ok (.aload_n 0, 1) := by decide +kernel
theorem dX1_depth_45 : decode cX1_depth 45 = .ok (.getfield 26, 3) := by decide +kernel
theorem dX1_depth_48 : decode cX1_depth 48 = .ok (.iload_n 3, 1) := by decide +kernel
theorem dX1_depth_49 : decode cX1_depth 49 = .ok (.iload 4, 2) := by decide +kernel
theorem dX1_depth_51 : decode cX1_depth 51 = .ok (.ifCond .eq 12, 3) := by decide +kernel
theorem dX1_depth_54 : decode cX1_depth 54 = .ok (.aload_n 0, 1) := by decide +kernel
theorem dX1_depth_55 : decode cX1_depth 55 = .ok (.iload_n 3, 1) := by decide +kernel
theorem dX1_depth_56 : decode cX1_depth 56 = .ok (.iconst 2, 1) := by decide +kernel
theorem dX1_depth_57 : decode cX1_depth 57 = .ok (.invokevirtual 33, 3) := by decide +kernel
theorem dX1_depth_60 : decode cX1_depth 60 = .ok (.goto 4, 3) := by decide +kernel
theorem dX1_depth_63 : decode cX1_depth 63 = .ok (.iconst 0, 1) := by decide +kernel
theorem dX1_depth_64 : decode cX1_depth 64 = .ok (.iastore, 1) := by decide +kernel
theorem dX1_depth_65 : decode cX1_depth 65 = .ok (.iinc 3 1, 3) := by decide +kernel
theorem dX1_depth_68 : decode cX1_depth 68 = .ok (.goto (-66), 3) := by decide +kernel
theorem dX1_depth_71 : decode cX1_depth 71 = .ok (.iconst 0, 1) := by decide +kernel
theorem dX1_depth_72 : decode cX1_depth 72 = .ok (.istore_n 3, 1) := by decide +kernel
theorem dX1_depth_73 : decode cX1_depth 73 = .ok (.iload_n 3, 1) := by decide +kernel
theorem dX1_depth_74 : decode cX1_depth 74 = .ok (.iload_n 1, 1) := by decide +kernel
theorem dX1_depth_75 : decode cX1_depth 75 = .ok (.if_icmp .gt 28, 3) := by decide +kernel
theorem dX1_depth_78 : decode cX1_depth 78 = .ok (.iload_n 3, 1) := by decide +kernel
theorem dX1_depth_79 : decode cX1_depth 79 = .ok (.iload_n 1, 1) := by decide +kernel
theorem dX1_depth_80 : decode cX1_depth 80 = .ok (.iconst (-1), 1) := by decide +kernel
theorem dX1_depth_81 : decode cX1_depth 81 = .ok (.ixor, 1) := by decide +kernel
theorem dX1_depth_82 : decode cX1_depth 82 = .ok (.iand, 1) := by decide +kernel
theorem dX1_depth_83 : decode cX1_depth 83 = .ok (.ifCond .ne 14, 3) := by decide +kernel
theorem dX1_depth_86 : decode cX1_depth 86 = .ok (.aload_n 0, 1) := by decide +kernel
theorem dX1_depth_87 : decode cX1_depth 87 = .ok (.getfield 20, 3) := by decide +kernel
theorem dX1_depth_90 : decode cX1_depth 90 = .ok (.iload_n 3, 1) := by decide +kernel
theorem dX1_depth_91 : decode cX1_depth 91 = .ok (.aload_n 0, 1) := by decide +kernel
theorem dX1_depth_92 : decode cX1_depth 92 = .ok (.iload_n 3, 1) := by decide +kernel
theorem dX1_depth_93 : decode cX1_depth 93 = .ok (.invokevirtual 43, 3) := by decide +kernel
theorem dX1_depth_96 : decode cX1_depth 96 = .ok (.iastore, 1) := by decide +kernel
theorem dX1_depth_97 : decode cX1_depth 97 = .ok (.iinc 3 1, 3) := by decide +kernel
theorem dX1_depth_100 : decode cX1_depth 100 = .ok (.goto (-27), 3) := by decide +kernel
theorem dX1_depth_103 : decode cX1_depth 103 = .ok (.aload_n 0, 1) := by decide +kernel
theorem dX1_depth_104 : decode cX1_depth 104 = .ok (.getfield 20, 3) := by decide +kernel
theorem dX1_depth_107 : decode cX1_depth 107 = .ok (.iload_n 1, 1) := by decide +kernel
theorem dX1_depth_108 : decode cX1_depth 108 = .ok (.iaload, 1) := by decide +kernel
theorem dX1_depth_109 : decode cX1_depth 109 = .ok (.ireturn, 1) := by decide +kernel
def w_X1_depth_97 (post : Int32 → sI → sJ → Prop) (k73 : Int32 → Int32 → sI → sJ → Prop) (x1 : Int32) (x3 : Int32) (I : sI) (J : sJ) : Prop :=
  (∀ v3_97 : Int32, v3_97 = x3 + 1 → k73 x1 v3_97 I J)
set_option maxHeartbeats 4000000 in
set_option maxRecDepth 100000 in
theorem t_X1_depth_97 {X : sX} {post : Int32 → sI → sJ → Prop} (h : sOK X cX1_depth RX1 5 2 45) (hr : sRt X (some .int) (sPi post)) {k73 : Int32 → Int32 → sI → sJ → Prop} (hk73 : ∀ (x1 : Int32) (x3 : Int32) (I : sI) (J : sJ), k73 x1 x3 I J → sG X 5 73 [(0, .ref 227), (1, .int x1), (3, .int x3)] [] I J) {x1 : Int32} {x3 : Int32} {I : sI} {J : sJ} (hw : w_X1_depth_97 post k73 x1 x3 I J) : sG X 5 97 [(0, .ref 227), (1, .int x1), (3, .int x3)] [] I J := by
  unfold w_X1_depth_97 at hw
  obtain ⟨v3_97, ev3_97⟩ : ∃ z : Int32, z = x3 + 1 := ⟨_, rfl⟩
  replace hw := hw v3_97 ev3_97
  refine g_iinc (v := v3_97) (lo2 := [(3, .int v3_97), (0, .ref 227), (1, .int x1)]) h 2 rfl (by rw [ev3_97]; rfl) (by decide) rfl dX1_depth_97 ?_
  refine g_goto (tgt := 73) h (by decide) dX1_depth_100 ?_
  exact g_sub [1, 2, 0] rfl (hk73 _ _ _ _ hw)
def w_X1_depth_73_s (post : Int32 → sI → sJ → Prop) (k73 : Int32 → Int32 → sI → sJ → Prop) (x1 : Int32) (x3 : Int32) (I : sI) (J : sJ) : Prop :=
  ((x1 < x3 → (vp_in x1 1024 ∧ post (I 240 (Int32.toNatClampNeg x1)) I J)) ∧ (¬ x1 < x3 → ((¬ (x3 &&& (x1 ^^^ (-1))) = 0 → w_X1_depth_97 post k73 x1 x3 I J) ∧ ((x3 &&& (x1 ^^^ (-1))) = 0 → w_X1_depthOf x3 I J (fun (r_93 : Int32) (I_93 : sI) (J_93 : sJ) => ((vp_in x3 1024 ∧ (∀ I_96 : sI, I_96 = sUI I_93 240 (Int32.toNatClampNeg x3) r_93 → w_X1_depth_97 post k73 x1 x3 I_96 J_93))))))))
def w_X1_depth_73_n (post : Int32 → sI → sJ → Prop) : Nat → Int32 → Int32 → sI → sJ → Prop
  | 0 => fun _ _ _ _ => False
  | n + 1 => fun x1 x3 I J => w_X1_depth_73_s post (w_X1_depth_73_n post n) x1 x3 I J
def w_X1_depth_73 (post : Int32 → sI → sJ → Prop) (x1 : Int32) (x3 : Int32) (I : sI) (J : sJ) : Prop := ∃ n, w_X1_depth_73_n post n x1 x3 I J
set_option maxHeartbeats 4000000 in
set_option maxRecDepth 100000 in
theorem t_X1_depth_73_s {X : sX} {post : Int32 → sI → sJ → Prop} (h : sOK X cX1_depth RX1 5 2 45) (hr : sRt X (some .int) (sPi post)) {k73 : Int32 → Int32 → sI → sJ → Prop} (hk73 : ∀ (x1 : Int32) (x3 : Int32) (I : sI) (J : sJ), k73 x1 x3 I J → sG X 5 73 [(0, .ref 227), (1, .int x1), (3, .int x3)] [] I J) {x1 : Int32} {x3 : Int32} {I : sI} {J : sJ} (hw : w_X1_depth_73_s post k73 x1 x3 I J) : sG X 5 73 [(0, .ref 227), (1, .int x1), (3, .int x3)] [] I J := by
  unfold w_X1_depth_73_s at hw
  refine g_iload_n h rfl 2 rfl dX1_depth_73 ?_
  refine g_iload_n h rfl 1 rfl dX1_depth_74 ?_
  refine g_icmp_gt (tgt := 103) h (by decide) dX1_depth_75 (fun q75 => ?_) (fun q75 => ?_)
  · replace hw := hw.1 q75
    refine g_aload_n h rfl 0 rfl dX1_depth_103 ?_
    refine g_get h is_227 fl_X1_20 fr_227_3 dX1_depth_104 ?_
    refine g_iload_n h rfl 1 rfl dX1_depth_107 ?_
    obtain ⟨hi108, hw⟩ := hw
    refine g_iald h ar_240 hi108 dX1_depth_108 ?_
    exact g_iret h hr dX1_depth_109 hw
  · replace hw := hw.2 q75
    refine g_iload_n h rfl 2 rfl dX1_depth_78 ?_
    refine g_iload_n h rfl 1 rfl dX1_depth_79 ?_
    refine g_iconst (v := (-1)) h (by decide) dX1_depth_80 ?_
    refine g_ixor h dX1_depth_81 ?_
    refine g_iand h dX1_depth_82 ?_
    refine g_if_ne (tgt := 97) h (by decide) dX1_depth_83 (fun q83 => ?_) (fun q83 => ?_)
    · replace hw := hw.1 q83
      exact g_sub [0, 1, 2] rfl (t_X1_depth_97 h hr hk73 hw)
    · replace hw := hw.2 q83
      refine g_aload_n h rfl 0 rfl dX1_depth_86 ?_
      refine g_get h is_227 fl_X1_20 fr_227_3 dX1_depth_87 ?_
      refine g_iload_n h rfl 2 rfl dX1_depth_90 ?_
      refine g_aload_n h rfl 0 rfl dX1_depth_91 ?_
      refine g_iload_n h rfl 2 rfl dX1_depth_92 ?_
      refine g_callV [.int x3] h (c_X1_depthOf X hw) sPi_v mw_X1_depthOf lk_X1_43 is_227 rfl rfl ⟨by decide, by decide⟩ (Nat.le_of_ble_eq_true rfl) dX1_depth_93 (sPi_k (fun r_93 I_93 J_93 hw => ?_))
      obtain ⟨hi96, hw⟩ := hw
      refine g_iast h ar_240 hi96 dX1_depth_96 ?_
      refine g_nI (fun I_96 eI_96 => ?_)
      replace hw := hw I_96 eI_96
      exact g_sub [0, 1, 2] rfl (t_X1_depth_97 h hr hk73 hw)
theorem t_X1_depth_73 {X : sX} {post : Int32 → sI → sJ → Prop} (h : sOK X cX1_depth RX1 5 2 45) (hr : sRt X (some .int) (sPi post)) {x1 : Int32} {x3 : Int32} {I : sI} {J : sJ} (hw : w_X1_depth_73 post x1 x3 I J) : sG X 5 73 [(0, .ref 227), (1, .int x1), (3, .int x3)] [] I J := by
  obtain ⟨n, hw⟩ := hw
  induction n generalizing x1 x3 I J with
  | zero => exact hw.elim
  | succ n ih => exact t_X1_depth_73_s h hr (fun _ _ _ _ q => ih q) hw
def w_X1_depth_64 (post : Int32 → sI → sJ → Prop) (k2 : Int32 → Int32 → Int32 → sI → sJ → Prop) (x1 : Int32) (x2 : Int32) (x3 : Int32) (s0 : Int32) (s1 : Int32) (I : sI) (J : sJ) : Prop :=
  (vp_in s1 12 ∧ (∀ I_64 : sI, I_64 = sUI I 242 (Int32.toNatClampNeg s1) s0 → (∀ v3_65 : Int32, v3_65 = x3 + 1 → k2 x1 x2 v3_65 I_64 J)))
set_option maxHeartbeats 4000000 in
set_option maxRecDepth 100000 in
theorem t_X1_depth_64 {X : sX} {post : Int32 → sI → sJ → Prop} (h : sOK X cX1_depth RX1 5 2 45) (hr : sRt X (some .int) (sPi post)) {k2 : Int32 → Int32 → Int32 → sI → sJ → Prop} (hk2 : ∀ (x1 : Int32) (x2 : Int32) (x3 : Int32) (I : sI) (J : sJ), k2 x1 x2 x3 I J → sG X 5 2 [(0, .ref 227), (1, .int x1), (2, .int x2), (3, .int x3)] [] I J) {x1 : Int32} {x2 : Int32} {x3 : Int32} {s0 : Int32} {s1 : Int32} {I : sI} {J : sJ} (hw : w_X1_depth_64 post k2 x1 x2 x3 s0 s1 I J) : sG X 5 64 [(0, .ref 227), (1, .int x1), (2, .int x2), (3, .int x3)] [.int s0, .int s1, .ref 242] I J := by
  unfold w_X1_depth_64 at hw
  obtain ⟨hi64, hw⟩ := hw
  refine g_iast h ar_242 hi64 dX1_depth_64 ?_
  refine g_nI (fun I_64 eI_64 => ?_)
  replace hw := hw I_64 eI_64
  obtain ⟨v3_65, ev3_65⟩ : ∃ z : Int32, z = x3 + 1 := ⟨_, rfl⟩
  replace hw := hw v3_65 ev3_65
  refine g_iinc (v := v3_65) (lo2 := [(3, .int v3_65), (0, .ref 227), (1, .int x1), (2, .int x2)]) h 3 rfl (by rw [ev3_65]; rfl) (by decide) rfl dX1_depth_65 ?_
  refine g_goto (tgt := 2) h (by decide) dX1_depth_68 ?_
  exact g_sub [1, 2, 3, 0] rfl (hk2 _ _ _ _ _ hw)
def w_X1_depth_43 (post : Int32 → sI → sJ → Prop) (k2 : Int32 → Int32 → Int32 → sI → sJ → Prop) (x1 : Int32) (x2 : Int32) (x3 : Int32) (x4 : Int32) (s0 : Int32) (s1 : Int32) (I : sI) (J : sJ) : Prop :=
  (vp_in s1 12 ∧ (∀ I_43 : sI, I_43 = sUI I 241 (Int32.toNatClampNeg s1) s0 → ((x4 = 0 → w_X1_depth_64 post k2 x1 x2 x3 0 x3 I_43 J) ∧ (¬ x4 = 0 → w_X1_saying x3 2 I_43 J (fun (r_57 : Int32) (I_57 : sI) (J_57 : sJ) => (w_X1_depth_64 post k2 x1 x2 x3 r_57 x3 I_57 J_57))))))
set_option maxHeartbeats 4000000 in
set_option maxRecDepth 100000 in
theorem t_X1_depth_43 {X : sX} {post : Int32 → sI → sJ → Prop} (h : sOK X cX1_depth RX1 5 2 45) (hr : sRt X (some .int) (sPi post)) {k2 : Int32 → Int32 → Int32 → sI → sJ → Prop} (hk2 : ∀ (x1 : Int32) (x2 : Int32) (x3 : Int32) (I : sI) (J : sJ), k2 x1 x2 x3 I J → sG X 5 2 [(0, .ref 227), (1, .int x1), (2, .int x2), (3, .int x3)] [] I J) {x1 : Int32} {x2 : Int32} {x3 : Int32} {x4 : Int32} {s0 : Int32} {s1 : Int32} {I : sI} {J : sJ} (hw : w_X1_depth_43 post k2 x1 x2 x3 x4 s0 s1 I J) : sG X 5 43 [(0, .ref 227), (1, .int x1), (2, .int x2), (3, .int x3), (4, .int x4)] [.int s0, .int s1, .ref 241] I J := by
  unfold w_X1_depth_43 at hw
  obtain ⟨hi43, hw⟩ := hw
  refine g_iast h ar_241 hi43 dX1_depth_43 ?_
  refine g_nI (fun I_43 eI_43 => ?_)
  replace hw := hw I_43 eI_43
  refine g_aload_n h rfl 0 rfl dX1_depth_44 ?_
  refine g_get h is_227 fl_X1_26 fr_227_5 dX1_depth_45 ?_
  refine g_iload_n h rfl 3 rfl dX1_depth_48 ?_
  refine g_iload h 4 rfl dX1_depth_49 ?_
  refine g_if_eq (tgt := 63) h (by decide) dX1_depth_51 (fun q51 => ?_) (fun q51 => ?_)
  · replace hw := hw.1 q51
    refine g_iconst (v := 0) h (by decide) dX1_depth_63 ?_
    exact g_sub [0, 1, 2, 3] rfl (t_X1_depth_64 h hr hk2 hw)
  · replace hw := hw.2 q51
    refine g_aload_n h rfl 0 rfl dX1_depth_54 ?_
    refine g_iload_n h rfl 3 rfl dX1_depth_55 ?_
    refine g_iconst (v := 2) h (by decide) dX1_depth_56 ?_
    refine g_callV [.int x3, .int 2] h (c_X1_saying X hw) sPi_v mw_X1_saying lk_X1_33 is_227 rfl rfl ⟨by decide, by decide⟩ (Nat.le_of_ble_eq_true rfl) dX1_depth_57 (sPi_k (fun r_57 I_57 J_57 hw => ?_))
    refine g_goto (tgt := 64) h (by decide) dX1_depth_60 ?_
    exact g_sub [0, 1, 2, 3] rfl (t_X1_depth_64 h hr hk2 hw)
def w_X1_depth_21 (post : Int32 → sI → sJ → Prop) (k2 : Int32 → Int32 → Int32 → sI → sJ → Prop) (x1 : Int32) (x2 : Int32) (x3 : Int32) (s0 : Int32) (I : sI) (J : sJ) : Prop :=
  ((s0 = 0 → w_X1_depth_43 post k2 x1 x2 x3 s0 0 x3 I J) ∧ (¬ s0 = 0 → w_X1_saying x3 1 I J (fun (r_36 : Int32) (I_36 : sI) (J_36 : sJ) => (w_X1_depth_43 post k2 x1 x2 x3 s0 r_36 x3 I_36 J_36))))
set_option maxHeartbeats 4000000 in
set_option maxRecDepth 100000 in
theorem t_X1_depth_21 {X : sX} {post : Int32 → sI → sJ → Prop} (h : sOK X cX1_depth RX1 5 2 45) (hr : sRt X (some .int) (sPi post)) {k2 : Int32 → Int32 → Int32 → sI → sJ → Prop} (hk2 : ∀ (x1 : Int32) (x2 : Int32) (x3 : Int32) (I : sI) (J : sJ), k2 x1 x2 x3 I J → sG X 5 2 [(0, .ref 227), (1, .int x1), (2, .int x2), (3, .int x3)] [] I J) {x1 : Int32} {x2 : Int32} {x3 : Int32} {s0 : Int32} {I : sI} {J : sJ} (hw : w_X1_depth_21 post k2 x1 x2 x3 s0 I J) : sG X 5 21 [(0, .ref 227), (1, .int x1), (2, .int x2), (3, .int x3)] [.int s0] I J := by
  unfold w_X1_depth_21 at hw
  refine g_istore (lo2 := [(4, .int s0), (0, .ref 227), (1, .int x1), (2, .int x2), (3, .int x3)]) h (by decide) rfl dX1_depth_21 ?_
  refine g_aload_n h rfl 1 rfl dX1_depth_23 ?_
  refine g_get h is_227 fl_X1_23 fr_227_4 dX1_depth_24 ?_
  refine g_iload_n h rfl 4 rfl dX1_depth_27 ?_
  refine g_iload h 0 rfl dX1_depth_28 ?_
  refine g_if_eq (tgt := 42) h (by decide) dX1_depth_30 (fun q30 => ?_) (fun q30 => ?_)
  · replace hw := hw.1 q30
    refine g_iconst (v := 0) h (by decide) dX1_depth_42 ?_
    exact g_sub [1, 2, 3, 4, 0] rfl (t_X1_depth_43 h hr hk2 hw)
  · replace hw := hw.2 q30
    refine g_aload_n h rfl 1 rfl dX1_depth_33 ?_
    refine g_iload_n h rfl 4 rfl dX1_depth_34 ?_
    refine g_iconst (v := 1) h (by decide) dX1_depth_35 ?_
    refine g_callV [.int x3, .int 1] h (c_X1_saying X hw) sPi_v mw_X1_saying lk_X1_33 is_227 rfl rfl ⟨by decide, by decide⟩ (Nat.le_of_ble_eq_true rfl) dX1_depth_36 (sPi_k (fun r_36 I_36 J_36 hw => ?_))
    refine g_goto (tgt := 43) h (by decide) dX1_depth_39 ?_
    exact g_sub [1, 2, 3, 4, 0] rfl (t_X1_depth_43 h hr hk2 hw)
def w_X1_depth_2_s (post : Int32 → sI → sJ → Prop) (k2 : Int32 → Int32 → Int32 → sI → sJ → Prop) (x1 : Int32) (x2 : Int32) (x3 : Int32) (I : sI) (J : sJ) : Prop :=
  ((12 ≤ x3 → w_X1_depth_73 post x1 0 I J) ∧ (¬ 12 ≤ x3 → ((((x2 >>> (x3 &&& 31)) &&& 1) = 0 → w_X1_depth_21 post k2 x1 x2 x3 0 I J) ∧ (¬ ((x2 >>> (x3 &&& 31)) &&& 1) = 0 → w_X1_depth_21 post k2 x1 x2 x3 1 I J))))
def w_X1_depth_2_n (post : Int32 → sI → sJ → Prop) : Nat → Int32 → Int32 → Int32 → sI → sJ → Prop
  | 0 => fun _ _ _ _ _ => False
  | n + 1 => fun x1 x2 x3 I J => w_X1_depth_2_s post (w_X1_depth_2_n post n) x1 x2 x3 I J
def w_X1_depth_2 (post : Int32 → sI → sJ → Prop) (x1 : Int32) (x2 : Int32) (x3 : Int32) (I : sI) (J : sJ) : Prop := ∃ n, w_X1_depth_2_n post n x1 x2 x3 I J
set_option maxHeartbeats 4000000 in
set_option maxRecDepth 100000 in
theorem t_X1_depth_2_s {X : sX} {post : Int32 → sI → sJ → Prop} (h : sOK X cX1_depth RX1 5 2 45) (hr : sRt X (some .int) (sPi post)) {k2 : Int32 → Int32 → Int32 → sI → sJ → Prop} (hk2 : ∀ (x1 : Int32) (x2 : Int32) (x3 : Int32) (I : sI) (J : sJ), k2 x1 x2 x3 I J → sG X 5 2 [(0, .ref 227), (1, .int x1), (2, .int x2), (3, .int x3)] [] I J) {x1 : Int32} {x2 : Int32} {x3 : Int32} {I : sI} {J : sJ} (hw : w_X1_depth_2_s post k2 x1 x2 x3 I J) : sG X 5 2 [(0, .ref 227), (1, .int x1), (2, .int x2), (3, .int x3)] [] I J := by
  unfold w_X1_depth_2_s at hw
  refine g_iload_n h rfl 3 rfl dX1_depth_2 ?_
  refine g_bipush (v := 12) h (by decide) dX1_depth_3 ?_
  refine g_icmp_ge (tgt := 71) h (by decide) dX1_depth_5 (fun q5 => ?_) (fun q5 => ?_)
  · replace hw := hw.1 q5
    refine g_iconst (v := 0) h (by decide) dX1_depth_71 ?_
    refine g_istore_n (lo2 := [(3, .int 0), (0, .ref 227), (1, .int x1), (2, .int x2)]) h rfl (by decide) rfl dX1_depth_72 ?_
    exact g_sub [1, 2, 0] rfl (t_X1_depth_73 h hr hw)
  · replace hw := hw.2 q5
    refine g_iload_n h rfl 2 rfl dX1_depth_8 ?_
    refine g_iload_n h rfl 3 rfl dX1_depth_9 ?_
    refine g_ishr h dX1_depth_10 ?_
    refine g_iconst (v := 1) h (by decide) dX1_depth_11 ?_
    refine g_iand h dX1_depth_12 ?_
    refine g_if_eq (tgt := 20) h (by decide) dX1_depth_13 (fun q13 => ?_) (fun q13 => ?_)
    · replace hw := hw.1 q13
      refine g_iconst (v := 0) h (by decide) dX1_depth_20 ?_
      exact g_sub [0, 1, 2, 3] rfl (t_X1_depth_21 h hr hk2 hw)
    · replace hw := hw.2 q13
      refine g_iconst (v := 1) h (by decide) dX1_depth_16 ?_
      refine g_goto (tgt := 21) h (by decide) dX1_depth_17 ?_
      exact g_sub [0, 1, 2, 3] rfl (t_X1_depth_21 h hr hk2 hw)
theorem t_X1_depth_2 {X : sX} {post : Int32 → sI → sJ → Prop} (h : sOK X cX1_depth RX1 5 2 45) (hr : sRt X (some .int) (sPi post)) {x1 : Int32} {x2 : Int32} {x3 : Int32} {I : sI} {J : sJ} (hw : w_X1_depth_2 post x1 x2 x3 I J) : sG X 5 2 [(0, .ref 227), (1, .int x1), (2, .int x2), (3, .int x3)] [] I J := by
  obtain ⟨n, hw⟩ := hw
  induction n generalizing x1 x2 x3 I J with
  | zero => exact hw.elim
  | succ n ih => exact t_X1_depth_2_s h hr (fun _ _ _ _ _ q => ih q) hw
def w_X1_depth (a1 : Int32) (a2 : Int32) (I : sI) (J : sJ) (post : Int32 → sI → sJ → Prop) : Prop :=
  w_X1_depth_2 post a1 a2 0 I J
set_option maxHeartbeats 4000000 in
set_option maxRecDepth 100000 in
theorem t_X1_depth {X : sX} {a1 : Int32} {a2 : Int32} {I : sI} {J : sJ} {post : Int32 → sI → sJ → Prop} (h : sOK X cX1_depth RX1 5 2 45) (hr : sRt X (some .int) (sPi post)) (hw : w_X1_depth a1 a2 I J post) : sG X 5 0 [(0, .ref 227), (1, .int a1), (2, .int a2)] [] I J := by
  unfold w_X1_depth at hw
  refine g_iconst (v := 0) h (by decide) dX1_depth_0 ?_
  refine g_istore_n (lo2 := [(3, .int 0), (0, .ref 227), (1, .int a1), (2, .int a2)]) h rfl (by decide) rfl dX1_depth_1 ?_
  exact g_sub [1, 2, 3, 0] rfl (t_X1_depth_2 h hr hw)
theorem c_X1_depth (X : sX) {a1 : Int32} {a2 : Int32} {I : sI} {J : sJ} {post : Int32 → sI → sJ → Prop} (hw : w_X1_depth a1 a2 I J post) : sCall X yX1_depth cX1_depth 5 (some .int) 2 45 [.ref 227, .int a1, .int a2] I J (sPi post) := sCall_of (by decide +kernel) (Nat.le_of_ble_eq_true rfl) (fun X h hr => t_X1_depth h hr hw)
theorem dX7_kindOf_0 : decode cX7_kindOf 0 = .ok (.iload_n 0, 1) := by decide +kernel
theorem dX7_kindOf_1 : decode cX7_kindOf 1 = .ok (.bipush 63, 2) := by decide +kernel
theorem dX7_kindOf_3 : decode cX7_kindOf 3 = .ok (.if_icmp .ne 6, 3) := by decide +kernel
theorem dX7_kindOf_6 : decode cX7_kindOf 6 = .ok (.bipush 12, 2) := by decide +kernel
theorem dX7_kindOf_8 : decode cX7_kindOf 8 = .ok (.ireturn, 1) := by decide +kernel
theorem dX7_kindOf_9 : decode cX7_kindOf 9 = .ok (.iload_n 0, 1) := by decide +kernel
theorem dX7_kindOf_10 : decode cX7_kindOf 10 = .ok (.bipush 97, 2) := by decide +kernel
theorem dX7_kindOf_12 : decode cX7_kindOf 12 = .ok (.if_icmp .lt 16, 3) := by decide +kernel
theorem dX7_kindOf_15 : decode cX7_kindOf 15 = .ok (.iload_n 0, 1) := by decide +kernel
theorem dX7_kindOf_16 : decode cX7_kindOf 16 = .ok (.bipush 109, 2) := by decide +kernel
theorem dX7_kindOf_18 : decode cX7_kindOf 18 = .ok (.if_icmp .ge 10, 3) := by decide +kernel
theorem dX7_kindOf_21 : decode cX7_kindOf 21 = .ok (.iload_n 0, 1) := by decide +kernel
theorem dX7_kindOf_22 : decode cX7_kindOf 22 = .ok (.bipush 97, 2) := by decide +kernel
theorem dX7_kindOf_24 : decode cX7_kindOf 24 = .ok (.isub, 1) := by decide +kernel
theorem dX7_kindOf_25 : decode cX7_kindOf 25 = .ok (.goto 4, 3) := by decide +kernel
theorem dX7_kindOf_28 : decode cX7_kindOf 28 = .ok (.iconst (-1), 1) := by decide +kernel
theorem dX7_kindOf_29 : decode cX7_kindOf 29 = .ok (.ireturn, 1) := by decide +kernel
def w_X7_kindOf (a0 : Int32) (I : sI) (J : sJ) (post : Int32 → sI → sJ → Prop) : Prop :=
  ((¬ a0 = 63 → ((a0 < 97 → post (-1) I J) ∧ (¬ a0 < 97 → ((109 ≤ a0 → post (-1) I J) ∧ (¬ 109 ≤ a0 → post (a0 - 97) I J))))) ∧ (a0 = 63 → post 12 I J))
set_option maxHeartbeats 4000000 in
set_option maxRecDepth 100000 in
theorem t_X7_kindOf {X : sX} {a0 : Int32} {I : sI} {J : sJ} {post : Int32 → sI → sJ → Prop} (h : sOK X cX7_kindOf RX7 1 0 0) (hr : sRt X (some .int) (sPi post)) (hw : w_X7_kindOf a0 I J post) : sG X 1 0 [(0, .int a0)] [] I J := by
  unfold w_X7_kindOf at hw
  refine g_iload_n h rfl 0 rfl dX7_kindOf_0 ?_
  refine g_bipush (v := 63) h (by decide) dX7_kindOf_1 ?_
  refine g_icmp_ne (tgt := 9) h (by decide) dX7_kindOf_3 (fun q3 => ?_) (fun q3 => ?_)
  · replace hw := hw.1 q3
    refine g_iload_n h rfl 0 rfl dX7_kindOf_9 ?_
    refine g_bipush (v := 97) h (by decide) dX7_kindOf_10 ?_
    refine g_icmp_lt (tgt := 28) h (by decide) dX7_kindOf_12 (fun q12 => ?_) (fun q12 => ?_)
    · replace hw := hw.1 q12
      refine g_iconst (v := (-1)) h (by decide) dX7_kindOf_28 ?_
      exact g_iret h hr dX7_kindOf_29 hw
    · replace hw := hw.2 q12
      refine g_iload_n h rfl 0 rfl dX7_kindOf_15 ?_
      refine g_bipush (v := 109) h (by decide) dX7_kindOf_16 ?_
      refine g_icmp_ge (tgt := 28) h (by decide) dX7_kindOf_18 (fun q18 => ?_) (fun q18 => ?_)
      · replace hw := hw.1 q18
        refine g_iconst (v := (-1)) h (by decide) dX7_kindOf_28 ?_
        exact g_iret h hr dX7_kindOf_29 hw
      · replace hw := hw.2 q18
        refine g_iload_n h rfl 0 rfl dX7_kindOf_21 ?_
        refine g_bipush (v := 97) h (by decide) dX7_kindOf_22 ?_
        refine g_isub h dX7_kindOf_24 ?_
        refine g_goto (tgt := 29) h (by decide) dX7_kindOf_25 ?_
        exact g_iret h hr dX7_kindOf_29 hw
  · replace hw := hw.2 q3
    refine g_bipush (v := 12) h (by decide) dX7_kindOf_6 ?_
    exact g_iret h hr dX7_kindOf_8 hw
theorem c_X7_kindOf (X : sX) {a0 : Int32} {I : sI} {J : sJ} {post : Int32 → sI → sJ → Prop} (hw : w_X7_kindOf a0 I J post) : sCall X yX7_kindOf cX7_kindOf 1 (some .int) 0 0 [.int a0] I J (sPi post) := sCall_of (by decide +kernel) (Nat.le_of_ble_eq_true rfl) (fun X h hr => t_X7_kindOf h hr hw)
theorem dX2_fill_0 : decode cX2_fill 0 = .ok (.aload_n 0, 1) := by decide +kernel
theorem dX2_fill_1 : decode cX2_fill 1 = .ok (.iconst 0, 1) := by decide +kernel
theorem dX2_fill_2 : decode cX2_fill 2 = .ok (.putfield 21, 3) := by decide +kernel
theorem dX2_fill_5 : decode cX2_fill 5 = .ok (.aload_n 0, 1) := by decide +kernel
theorem dX2_fill_6 : decode cX2_fill 6 = .ok (.iconst 0, 1) := by decide +kernel
theorem dX2_fill_7 : decode cX2_fill 7 = .ok (.putfield 25, 3) := by decide +kernel
theorem dX2_fill_10 : decode cX2_fill 10 = .ok (.iconst 0, 1) := by decide +kernel
theorem dX2_fill_11 : decode cX2_fill 11 = .ok (.istore_n 2, 1) := by decide +kernel
theorem dX2_fill_12 : decode cX2_fill 12 = .ok (.iload_n 2, 1) := by decide +kernel
theorem dX2_fill_13 : decode cX2_fill 13 = .ok (.aload_n 1, 1) := by decide +kernel
theorem dX2_fill_14 : decode cX2_fill 14 = .ok (.getfield 28, 3) := by decide +kernel
theorem dX2_fill_17 : decode cX2_fill 17 = .ok (.if_icmp .ge 83, 3) := by decide +kernel
theorem dX2_fill_20 : decode cX2_fill 20 = .ok (.aload_n 1, 1) := by decide +kernel
theorem dX2_fill_21 : decode cX2_fill 21 = .ok (.getfield 33, 3) := by decide +kernel
theorem dX2_fill_24 : decode cX2_fill 24 = .ok (.iload_n 2, 1) := by decide +kernel
theorem dX2_fill_25 : decode cX2_fill 25 = .ok (.iaload, 1) := by decide +kernel
theorem dX2_fill_26 : decode cX2_fill 26 = .ok (.invokestatic 36, 3) := by decide +kernel
theorem dX2_fill_29 : decode cX2_fill 29 = .ok (.istore_n 3, 1) := by decide +kernel
theorem dX2_fill_30 : decode cX2_fill 30 = .ok (.iload_n 3, 1) := by decide +kernel
theorem dX2_fill_31 : decode cX2_fill 31 = .ok (.iconst (-1), 1) := by decide +kernel
theorem dX2_fill_32 : decode cX2_fill 32 = .ok (.if_icmp .ne 29, 3) := by decide +kernel
theorem dX2_fill_35 : decode cX2_fill 35 = .ok (.aload_n 0, 1) := by decide +kernel
theorem dX2_fill_36 : decode cX2_fill 36 = .ok (.dup, 1) := by decide +kernel
theorem dX2_fill_37 : decode cX2_fill 37 = .ok (.getfield 21, 3) := by decide +kernel
theorem dX2_fill_40 : decode cX2_fill 40 = .ok (.iconst 1, 1) := by decide +kernel
theorem dX2_fill_41 : decode cX2_fill 41 = .ok (.iadd, 1) := by decide +kernel
theorem dX2_fill_42 : decode cX2_fill 42 = .ok (.putfield 21, 3) := by decide +kernel
theorem dX2_fill_45 : decode cX2_fill 45 = .ok (.aload_n 0, 1) := by decide +kernel
theorem dX2_fill_46 : decode cX2_fill 46 = .ok (.getfield 18, 3) := by decide +kernel
theorem dX2_fill_49 : decode cX2_fill 49 = .ok (.aload_n 0, 1) := by decide +kernel
theorem dX2_fill_50 : decode cX2_fill 50 = .ok (.getfield 21, 3) := by decide +kernel
theorem dX2_fill_53 : decode cX2_fill 53 = .ok (.aload_n 0, 1) := by decide +kernel
theorem dX2_fill_54 : decode cX2_fill 54 = .ok (.getfield 25, 3) := by decide +kernel
theorem dX2_fill_57 : decode cX2_fill 57 = .ok (.iastore, 1) := by decide +kernel
theorem dX2_fill_58 : decode cX2_fill 58 = .ok (.goto 36, 3) := by decide +kernel
theorem dX2_fill_61 : decode cX2_fill 61 = .ok (.aload_n 0, 1) := by decide +kernel
theorem dX2_fill_62 : decode cX2_fill 62 = .ok (.getfield 9, 3) := by decide +kernel
theorem dX2_fill_65 : decode cX2_fill 65 = .ok (.aload_n 0, 1) := by decide +kernel
theorem dX2_fill_66 : decode cX2_fill 66 = .ok (.getfield 25, 3) := by decide +kernel
theorem dX2_fill_69 : decode cX2_fill 69 = .ok (.iload_n 3, 1) := by decide +kernel
theorem dX2_fill_70 : decode cX2_fill 70 = .ok (.iastore, 1) := by decide +kernel
theorem dX2_fill_71 : decode cX2_fill 71 = .ok (.aload_n 0, 1) := by decide +kernel
theorem dX2_fill_72 : decode cX2_fill 72 = .ok (.getfield 15, 3) := by decide +kernel
theorem dX2_fill_75 : decode cX2_fill 75 = .ok (.aload_n 0, 1) := by decide +kernel
theorem dX2_fill_76 : decode cX2_fill 76 = .ok (.getfield 25, 3) := by decide +kernel
theorem dX2_fill_79 : decode cX2_fill 79 = .ok (.aload_n 0, 1) := by decide +kernel
theorem dX2_fill_80 : decode cX2_fill 80 = .ok (.getfield 21, 3) := by decide +kernel
theorem dX2_fill_83 : decode cX2_fill 83 = .ok (.iastore, 1) := by decide +kernel
theorem dX2_fill_84 : decode cX2_fill 84 = .ok (.aload_n 0, 1) := by decide +kernel
theorem dX2_fill_85 : decode cX2_fill 85 = .ok (.dup, 1) := by decide +kernel
theorem dX2_fill_86 : decode cX2_fill 86 = .ok (.getfield 25, 3) := by decide +kernel
theorem dX2_fill_89 : decode cX2_fill 89 = .ok (.iconst 1, 1) := by decide +kernel
theorem dX2_fill_90 : decode cX2_fill 90 = .ok (.iadd, 1) := by decide +kernel
theorem dX2_fill_91 : decode cX2_fill 91 = .ok (.putfield 25, 3) := by decide +kernel
theorem dX2_fill_94 : decode cX2_fill 94 = .ok (.iinc 2 1, 3) := by decide +kernel
theorem dX2_fill_97 : decode cX2_fill 97 = .ok (.goto (-85), 3) := by decide +kernel
theorem dX2_fill_100 : decode cX2_fill 100 = .ok (.aload_n 0, 1) := by decide +kernel
theorem dX2_fill_101 : decode cX2_fill 101 = .ok (.dup, 1) := by decide +kernel
theorem dX2_fill_102 : decode cX2_fill 102 = .ok (.getfield 21, 3) := by decide +kernel
theorem dX2_fill_105 : decode cX2_fill 105 = .ok (.iconst 1, 1) := by decide +kernel
theorem dX2_fill_106 : decode cX2_fill 106 = .ok (.iadd, 1) := by decide +kernel
theorem dX2_fill_107 : decode cX2_fill 107 = .ok (.putfield 21, 3) := by decide +kernel
theorem dX2_fill_110 : decode cX2_fill 110 = .ok (.aload_n 0, 1) := by decide +kernel
theorem dX2_fill_111 : decode cX2_fill 111 = .ok (.getfield 18, 3) := by decide +kernel
theorem dX2_fill_114 : decode cX2_fill 114 = .ok (.aload_n 0, 1) := by decide +kernel
theorem dX2_fill_115 : decode cX2_fill 115 = .ok (.getfield 21, 3) := by decide +kernel
theorem dX2_fill_118 : decode cX2_fill 118 = .ok (.aload_n 0, 1) := by decide +kernel
theorem dX2_fill_119 : decode cX2_fill 119 = .ok (.getfield 25, 3) := by decide +kernel
theorem dX2_fill_122 : decode cX2_fill 122 = .ok (.iastore, 1) := by decide +kernel
theorem dX2_fill_123 : decode cX2_fill 123 = .ok (.return_, 1) := by decide +kernel
def w_X2_fill_94 (h0 : Nat) (post : sI → sJ → Prop) (k12 : Int32 → sI → sJ → Prop) (x2 : Int32) (I : sI) (J : sJ) : Prop :=
  (∀ v2_94 : Int32, v2_94 = x2 + 1 → k12 v2_94 I J)
set_option maxHeartbeats 4000000 in
set_option maxRecDepth 100000 in
theorem t_X2_fill_94 {X : sX} {h0 : Nat} (ph0 : sIs h0 2) {post : sI → sJ → Prop} (h : sOK X cX2_fill RX2 4 1 20) (hr : sRt X none (sPv post)) {k12 : Int32 → sI → sJ → Prop} (hk12 : ∀ (x2 : Int32) (I : sI) (J : sJ), k12 x2 I J → sG X 4 12 [(0, .ref h0), (1, .ref 1), (2, .int x2)] [] I J) {x2 : Int32} {I : sI} {J : sJ} (hw : w_X2_fill_94 h0 post k12 x2 I J) : sG X 4 94 [(0, .ref h0), (1, .ref 1), (2, .int x2)] [] I J := by
  unfold w_X2_fill_94 at hw
  obtain ⟨v2_94, ev2_94⟩ : ∃ z : Int32, z = x2 + 1 := ⟨_, rfl⟩
  replace hw := hw v2_94 ev2_94
  refine g_iinc (v := v2_94) (lo2 := [(2, .int v2_94), (0, .ref h0), (1, .ref 1)]) h 2 rfl (by rw [ev2_94]; rfl) (by decide) rfl dX2_fill_94 ?_
  refine g_goto (tgt := 12) h (by decide) dX2_fill_97 ?_
  exact g_sub [1, 2, 0] rfl (hk12 _ _ _ hw)
def w_X2_fill_12_s (h0 : Nat) (post : sI → sJ → Prop) (k12 : Int32 → sI → sJ → Prop) (x2 : Int32) (I : sI) (J : sJ) : Prop :=
  (((I 1 1) ≤ x2 → (∀ I_107 : sI, I_107 = sUI I h0 3 ((I h0 3) + 1) → (vp_in (I_107 h0 3) 13 ∧ (∀ I_122 : sI, I_122 = sUI I_107 (sR h0 2) (Int32.toNatClampNeg (I_107 h0 3)) (I_107 h0 4) → post I_122 J)))) ∧ (¬ (I 1 1) ≤ x2 → (vp_in x2 80 ∧ w_X7_kindOf (I 2 (Int32.toNatClampNeg x2)) I J (fun (r_26 : Int32) (I_26 : sI) (J_26 : sJ) => (((¬ r_26 = (-1) → (vp_in (I_26 h0 4) 60 ∧ (∀ I_70 : sI, I_70 = sUI I_26 (sR h0 0) (Int32.toNatClampNeg (I_26 h0 4)) r_26 → (vp_in (I_70 h0 4) 60 ∧ (∀ I_83 : sI, I_83 = sUI I_70 (sR h0 1) (Int32.toNatClampNeg (I_70 h0 4)) (I_70 h0 3) → (∀ I_91 : sI, I_91 = sUI I_83 h0 4 ((I_83 h0 4) + 1) → w_X2_fill_94 h0 post k12 x2 I_91 J_26)))))) ∧ (r_26 = (-1) → (∀ I_42 : sI, I_42 = sUI I_26 h0 3 ((I_26 h0 3) + 1) → (vp_in (I_42 h0 3) 13 ∧ (∀ I_57 : sI, I_57 = sUI I_42 (sR h0 2) (Int32.toNatClampNeg (I_42 h0 3)) (I_42 h0 4) → w_X2_fill_94 h0 post k12 x2 I_57 J_26))))))))))
def w_X2_fill_12_n (h0 : Nat) (post : sI → sJ → Prop) : Nat → Int32 → sI → sJ → Prop
  | 0 => fun _ _ _ => False
  | n + 1 => fun x2 I J => w_X2_fill_12_s h0 post (w_X2_fill_12_n h0 post n) x2 I J
def w_X2_fill_12 (h0 : Nat) (post : sI → sJ → Prop) (x2 : Int32) (I : sI) (J : sJ) : Prop := ∃ n, w_X2_fill_12_n h0 post n x2 I J
set_option maxHeartbeats 4000000 in
set_option maxRecDepth 100000 in
theorem t_X2_fill_12_s {X : sX} {h0 : Nat} (ph0 : sIs h0 2) {post : sI → sJ → Prop} (h : sOK X cX2_fill RX2 4 1 20) (hr : sRt X none (sPv post)) {k12 : Int32 → sI → sJ → Prop} (hk12 : ∀ (x2 : Int32) (I : sI) (J : sJ), k12 x2 I J → sG X 4 12 [(0, .ref h0), (1, .ref 1), (2, .int x2)] [] I J) {x2 : Int32} {I : sI} {J : sJ} (hw : w_X2_fill_12_s h0 post k12 x2 I J) : sG X 4 12 [(0, .ref h0), (1, .ref 1), (2, .int x2)] [] I J := by
  unfold w_X2_fill_12_s at hw
  refine g_iload_n h rfl 2 rfl dX2_fill_12 ?_
  refine g_aload_n h rfl 1 rfl dX2_fill_13 ?_
  refine g_get h is_1 fl_X2_28 rfl dX2_fill_14 ?_
  refine g_icmp_ge (tgt := 100) h (by decide) dX2_fill_17 (fun q17 => ?_) (fun q17 => ?_)
  · replace hw := hw.1 q17
    refine g_aload_n h rfl 0 rfl dX2_fill_100 ?_
    refine g_dup h rfl dX2_fill_101 ?_
    refine g_get h ph0 fl_X2_21 rfl dX2_fill_102 ?_
    refine g_iconst (v := 1) h (by decide) dX2_fill_105 ?_
    refine g_iadd h dX2_fill_106 ?_
    refine g_putI h ph0 fl_X2_21 rfl rfl dX2_fill_107 ?_
    refine g_nI (fun I_107 eI_107 => ?_)
    replace hw := hw I_107 eI_107
    refine g_aload_n h rfl 0 rfl dX2_fill_110 ?_
    refine g_get h ph0 fl_X2_18 rfl dX2_fill_111 ?_
    refine g_aload_n h rfl 0 rfl dX2_fill_114 ?_
    refine g_get h ph0 fl_X2_21 rfl dX2_fill_115 ?_
    refine g_aload_n h rfl 0 rfl dX2_fill_118 ?_
    refine g_get h ph0 fl_X2_25 rfl dX2_fill_119 ?_
    obtain ⟨hi122, hw⟩ := hw
    refine g_iast h (arF_2_2 ph0) hi122 dX2_fill_122 ?_
    refine g_nI (fun I_122 eI_122 => ?_)
    replace hw := hw I_122 eI_122
    exact g_vret h hr dX2_fill_123 hw
  · replace hw := hw.2 q17
    refine g_aload_n h rfl 1 rfl dX2_fill_20 ?_
    refine g_get h is_1 fl_X2_33 fr_1_0 dX2_fill_21 ?_
    refine g_iload_n h rfl 2 rfl dX2_fill_24 ?_
    obtain ⟨hi25, hw⟩ := hw
    refine g_iald h ar_2 hi25 dX2_fill_25 ?_
    refine g_callS [.int (I 2 (Int32.toNatClampNeg x2))] h (c_X7_kindOf X hw) sPi_v mw_X7_kindOf lk_X2_36 rfl ⟨by decide, by decide⟩ (Nat.le_of_ble_eq_true rfl) dX2_fill_26 (sPi_k (fun r_26 I_26 J_26 hw => ?_))
    refine g_istore_n (lo2 := [(3, .int r_26), (0, .ref h0), (1, .ref 1), (2, .int x2)]) h rfl (by decide) rfl dX2_fill_29 ?_
    refine g_iload_n h rfl 0 rfl dX2_fill_30 ?_
    refine g_iconst (v := (-1)) h (by decide) dX2_fill_31 ?_
    refine g_icmp_ne (tgt := 61) h (by decide) dX2_fill_32 (fun q32 => ?_) (fun q32 => ?_)
    · replace hw := hw.1 q32
      refine g_aload_n h rfl 1 rfl dX2_fill_61 ?_
      refine g_get h ph0 fl_X2_9 rfl dX2_fill_62 ?_
      refine g_aload_n h rfl 1 rfl dX2_fill_65 ?_
      refine g_get h ph0 fl_X2_25 rfl dX2_fill_66 ?_
      refine g_iload_n h rfl 0 rfl dX2_fill_69 ?_
      obtain ⟨hi70, hw⟩ := hw
      refine g_iast h (arF_2_0 ph0) hi70 dX2_fill_70 ?_
      refine g_nI (fun I_70 eI_70 => ?_)
      replace hw := hw I_70 eI_70
      refine g_aload_n h rfl 1 rfl dX2_fill_71 ?_
      refine g_get h ph0 fl_X2_15 rfl dX2_fill_72 ?_
      refine g_aload_n h rfl 1 rfl dX2_fill_75 ?_
      refine g_get h ph0 fl_X2_25 rfl dX2_fill_76 ?_
      refine g_aload_n h rfl 1 rfl dX2_fill_79 ?_
      refine g_get h ph0 fl_X2_21 rfl dX2_fill_80 ?_
      obtain ⟨hi83, hw⟩ := hw
      refine g_iast h (arF_2_1 ph0) hi83 dX2_fill_83 ?_
      refine g_nI (fun I_83 eI_83 => ?_)
      replace hw := hw I_83 eI_83
      refine g_aload_n h rfl 1 rfl dX2_fill_84 ?_
      refine g_dup h rfl dX2_fill_85 ?_
      refine g_get h ph0 fl_X2_25 rfl dX2_fill_86 ?_
      refine g_iconst (v := 1) h (by decide) dX2_fill_89 ?_
      refine g_iadd h dX2_fill_90 ?_
      refine g_putI h ph0 fl_X2_25 rfl rfl dX2_fill_91 ?_
      refine g_nI (fun I_91 eI_91 => ?_)
      replace hw := hw I_91 eI_91
      exact g_sub [1, 2, 3] rfl (t_X2_fill_94 ph0 h hr hk12 hw)
    · replace hw := hw.2 q32
      refine g_aload_n h rfl 1 rfl dX2_fill_35 ?_
      refine g_dup h rfl dX2_fill_36 ?_
      refine g_get h ph0 fl_X2_21 rfl dX2_fill_37 ?_
      refine g_iconst (v := 1) h (by decide) dX2_fill_40 ?_
      refine g_iadd h dX2_fill_41 ?_
      refine g_putI h ph0 fl_X2_21 rfl rfl dX2_fill_42 ?_
      refine g_nI (fun I_42 eI_42 => ?_)
      replace hw := hw I_42 eI_42
      refine g_aload_n h rfl 1 rfl dX2_fill_45 ?_
      refine g_get h ph0 fl_X2_18 rfl dX2_fill_46 ?_
      refine g_aload_n h rfl 1 rfl dX2_fill_49 ?_
      refine g_get h ph0 fl_X2_21 rfl dX2_fill_50 ?_
      refine g_aload_n h rfl 1 rfl dX2_fill_53 ?_
      refine g_get h ph0 fl_X2_25 rfl dX2_fill_54 ?_
      obtain ⟨hi57, hw⟩ := hw
      refine g_iast h (arF_2_2 ph0) hi57 dX2_fill_57 ?_
      refine g_nI (fun I_57 eI_57 => ?_)
      replace hw := hw I_57 eI_57
      refine g_goto (tgt := 94) h (by decide) dX2_fill_58 ?_
      exact g_sub [1, 2, 3] rfl (t_X2_fill_94 ph0 h hr hk12 hw)
theorem t_X2_fill_12 {X : sX} {h0 : Nat} (ph0 : sIs h0 2) {post : sI → sJ → Prop} (h : sOK X cX2_fill RX2 4 1 20) (hr : sRt X none (sPv post)) {x2 : Int32} {I : sI} {J : sJ} (hw : w_X2_fill_12 h0 post x2 I J) : sG X 4 12 [(0, .ref h0), (1, .ref 1), (2, .int x2)] [] I J := by
  obtain ⟨n, hw⟩ := hw
  induction n generalizing x2 I J with
  | zero => exact hw.elim
  | succ n ih => exact t_X2_fill_12_s ph0 h hr (fun _ _ _ q => ih q) hw
def w_X2_fill (h0 : Nat) (I : sI) (J : sJ) (post : sI → sJ → Prop) : Prop :=
  (∀ I_2 : sI, I_2 = sUI I h0 3 0 → (∀ I_7 : sI, I_7 = sUI I_2 h0 4 0 → w_X2_fill_12 h0 post 0 I_7 J))
set_option maxHeartbeats 4000000 in
set_option maxRecDepth 100000 in
theorem t_X2_fill {X : sX} {h0 : Nat} (ph0 : sIs h0 2) {I : sI} {J : sJ} {post : sI → sJ → Prop} (h : sOK X cX2_fill RX2 4 1 20) (hr : sRt X none (sPv post)) (hw : w_X2_fill h0 I J post) : sG X 4 0 [(0, .ref h0), (1, .ref 1)] [] I J := by
  unfold w_X2_fill at hw
  refine g_aload_n h rfl 0 rfl dX2_fill_0 ?_
  refine g_iconst (v := 0) h (by decide) dX2_fill_1 ?_
  refine g_putI h ph0 fl_X2_21 rfl rfl dX2_fill_2 ?_
  refine g_nI (fun I_2 eI_2 => ?_)
  replace hw := hw I_2 eI_2
  refine g_aload_n h rfl 0 rfl dX2_fill_5 ?_
  refine g_iconst (v := 0) h (by decide) dX2_fill_6 ?_
  refine g_putI h ph0 fl_X2_25 rfl rfl dX2_fill_7 ?_
  refine g_nI (fun I_7 eI_7 => ?_)
  replace hw := hw I_7 eI_7
  refine g_iconst (v := 0) h (by decide) dX2_fill_10 ?_
  refine g_istore_n (lo2 := [(2, .int 0), (0, .ref h0), (1, .ref 1)]) h rfl (by decide) rfl dX2_fill_11 ?_
  exact g_sub [1, 2, 0] rfl (t_X2_fill_12 ph0 h hr hw)
theorem c_X2_fill (X : sX) {h0 : Nat} (ph0 : sIs h0 2) {I : sI} {J : sJ} {post : sI → sJ → Prop} (hw : w_X2_fill h0 I J post) : sCall X yX2_fill cX2_fill 4 none 1 20 [.ref h0, .ref 1] I J (sPv post) := sCall_of (by decide +kernel) (Nat.le_of_ble_eq_true rfl) (fun X h hr => t_X2_fill ph0 h hr hw)
theorem dX2_take_0 : decode cX2_take 0 = .ok (.aload_n 0, 1) := by decide +kernel
theorem dX2_take_1 : decode cX2_take 1 = .ok (.aload_n 1, 1) := by decide +kernel
theorem dX2_take_2 : decode cX2_take 2 = .ok (.getfield 21, 3) := by decide +kernel
theorem dX2_take_5 : decode cX2_take 5 = .ok (.putfield 21, 3) := by decide +kernel
theorem dX2_take_8 : decode cX2_take 8 = .ok (.aload_n 0, 1) := by decide +kernel
theorem dX2_take_9 : decode cX2_take 9 = .ok (.aload_n 1, 1) := by decide +kernel
theorem dX2_take_10 : decode cX2_take 10 = .ok (.getfield 25, 3) := by decide +kernel
theorem dX2_take_13 : decode cX2_take 13 = .ok (.putfield 25, 3) := by decide +kernel
theorem dX2_take_16 : decode cX2_take 16 = .ok (.iconst 0, 1) := by decide +kernel
theorem dX2_take_17 : decode cX2_take 17 = .ok (.istore_n 2, 1) := by decide +kernel
theorem dX2_take_18 : decode cX2_take 18 = .ok (.iload_n 2, 1) := by decide +kernel
theorem dX2_take_19 : decode cX2_take 19 = .ok (.aload_n 0, 1) := by decide +kernel
theorem dX2_take_20 : decode cX2_take 20 = .ok (.getfield 21, 3) := by decide +kernel
theorem dX2_take_23 : decode cX2_take 23 = .ok (.if_icmp .gt 21, 3) := by decide +kernel
theorem dX2_take_26 : decode cX2_take 26 = .ok (.aload_n 0, 1) := by decide +kernel
theorem dX2_take_27 : decode cX2_take 27 = .ok (.getfield 18, 3) := by decide +kernel
theorem dX2_take_30 : decode cX2_take 30 = .ok (.iload_n 2, 1) := by decide +kernel
theorem dX2_take_31 : decode cX2_take 31 = .ok (.aload_n 1, 1) := by decide +kernel
theorem dX2_take_32 : decode cX2_take 32 = .ok (.getfield 18, 3) := by decide +kernel
theorem dX2_take_35 : decode cX2_take 35 = .ok (.iload_n 2, 1) := by decide +kernel
theorem dX2_take_36 : decode cX2_take 36 = .ok (.iaload, 1) := by decide +kernel
theorem dX2_take_37 : decode cX2_take 37 = .ok (.iastore, 1) := by decide +kernel
theorem dX2_take_38 : decode cX2_take 38 = .ok (.iinc 2 1, 3) := by decide +kernel
theorem dX2_take_41 : decode cX2_take 41 = .ok (.goto (-23), 3) := by decide +kernel
theorem dX2_take_44 : decode cX2_take 44 = .ok (.iconst 0, 1) := by decide +kernel
theorem dX2_take_45 : decode cX2_take 45 = .ok (.istore_n 2, 1) := by decide +kernel
theorem dX2_take_46 : decode cX2_take 46 = .ok (.iload_n 2, 1) := by decide +kernel
theorem dX2_take_47 : decode cX2_take 47 = .ok (.aload_n 0, 1) := by decide +kernel
theorem dX2_take_48 : decode cX2_take 48 = .ok (.getfield 25, 3) := by decide +kernel
theorem dX2_take_51 : decode cX2_take 51 = .ok (.if_icmp .ge 33, 3) := by decide +kernel
theorem dX2_take_54 : decode cX2_take 54 = .ok (.aload_n 0, 1) := by decide +kernel
theorem dX2_take_55 : decode cX2_take 55 = .ok (.getfield 9, 3) := by decide +kernel
theorem dX2_take_58 : decode cX2_take 58 = .ok (.iload_n 2, 1) := by decide +kernel
theorem dX2_take_59 : decode cX2_take 59 = .ok (.aload_n 1, 1) := by decide +kernel
theorem dX2_take_60 : decode cX2_take 60 = .ok (.getfield 9, 3) := by decide +kernel
theorem dX2_take_63 : decode cX2_take 63 = .ok (.iload_n 2, 1) := by decide +kernel
theorem dX2_take_64 : decode cX2_take 64 = .ok (.iaload, 1) := by decide +kernel
theorem dX2_take_65 : decode cX2_take 65 = .ok (.iastore, 1) := by decide +kernel
theorem dX2_take_66 : decode cX2_take 66 = .ok (.aload_n 0, 1) := by decide +kernel
theorem dX2_take_67 : decode cX2_take 67 = .ok (.getfield 15, 3) := by decide +kernel
theorem dX2_take_70 : decode cX2_take 70 = .ok (.iload_n 2, 1) := by decide +kernel
theorem dX2_take_71 : decode cX2_take 71 = .ok (.aload_n 1, 1) := by decide +kernel
theorem dX2_take_72 : decode cX2_take 72 = .ok (.getfield 15, 3) := by decide +kernel
theorem dX2_take_75 : decode cX2_take 75 = .ok (.iload_n 2, 1) := by decide +kernel
theorem dX2_take_76 : decode cX2_take 76 = .ok (.iaload, 1) := by decide +kernel
theorem dX2_take_77 : decode cX2_take 77 = .ok (.iastore, 1) := by decide +kernel
theorem dX2_take_78 : decode cX2_take 78 = .ok (.iinc 2 1, 3) := by decide +kernel
theorem dX2_take_81 : decode cX2_take 81 = .ok (.goto (-35), 3) := by decide +kernel
theorem dX2_take_84 : decode cX2_take 84 = .ok (.return_, 1) := by decide +kernel
def w_X2_take_46_s (h0 : Nat) (h1 : Nat) (post : sI → sJ → Prop) (k46 : Int32 → sI → sJ → Prop) (x2 : Int32) (I : sI) (J : sJ) : Prop :=
  (((I h0 4) ≤ x2 → post I J) ∧ (¬ (I h0 4) ≤ x2 → (vp_in x2 60 ∧ (vp_in x2 60 ∧ (∀ I_65 : sI, I_65 = sUI I (sR h0 0) (Int32.toNatClampNeg x2) (I (sR h1 0) (Int32.toNatClampNeg x2)) → (vp_in x2 60 ∧ (vp_in x2 60 ∧ (∀ I_77 : sI, I_77 = sUI I_65 (sR h0 1) (Int32.toNatClampNeg x2) (I_65 (sR h1 1) (Int32.toNatClampNeg x2)) → (∀ v2_78 : Int32, v2_78 = x2 + 1 → k46 v2_78 I_77 J)))))))))
def w_X2_take_46_n (h0 : Nat) (h1 : Nat) (post : sI → sJ → Prop) : Nat → Int32 → sI → sJ → Prop
  | 0 => fun _ _ _ => False
  | n + 1 => fun x2 I J => w_X2_take_46_s h0 h1 post (w_X2_take_46_n h0 h1 post n) x2 I J
def w_X2_take_46 (h0 : Nat) (h1 : Nat) (post : sI → sJ → Prop) (x2 : Int32) (I : sI) (J : sJ) : Prop := ∃ n, w_X2_take_46_n h0 h1 post n x2 I J
set_option maxHeartbeats 4000000 in
set_option maxRecDepth 100000 in
theorem t_X2_take_46_s {X : sX} {h0 : Nat} {h1 : Nat} (ph0 : sIs h0 2) (ph1 : sIs h1 2) {post : sI → sJ → Prop} (h : sOK X cX2_take RX2 3 0 0) (hr : sRt X none (sPv post)) {k46 : Int32 → sI → sJ → Prop} (hk46 : ∀ (x2 : Int32) (I : sI) (J : sJ), k46 x2 I J → sG X 3 46 [(0, .ref h0), (1, .ref h1), (2, .int x2)] [] I J) {x2 : Int32} {I : sI} {J : sJ} (hw : w_X2_take_46_s h0 h1 post k46 x2 I J) : sG X 3 46 [(0, .ref h0), (1, .ref h1), (2, .int x2)] [] I J := by
  unfold w_X2_take_46_s at hw
  refine g_iload_n h rfl 2 rfl dX2_take_46 ?_
  refine g_aload_n h rfl 0 rfl dX2_take_47 ?_
  refine g_get h ph0 fl_X2_25 rfl dX2_take_48 ?_
  refine g_icmp_ge (tgt := 84) h (by decide) dX2_take_51 (fun q51 => ?_) (fun q51 => ?_)
  · replace hw := hw.1 q51
    exact g_vret h hr dX2_take_84 hw
  · replace hw := hw.2 q51
    refine g_aload_n h rfl 0 rfl dX2_take_54 ?_
    refine g_get h ph0 fl_X2_9 rfl dX2_take_55 ?_
    refine g_iload_n h rfl 2 rfl dX2_take_58 ?_
    refine g_aload_n h rfl 1 rfl dX2_take_59 ?_
    refine g_get h ph1 fl_X2_9 rfl dX2_take_60 ?_
    refine g_iload_n h rfl 2 rfl dX2_take_63 ?_
    obtain ⟨hi64, hw⟩ := hw
    refine g_iald h (arF_2_0 ph1) hi64 dX2_take_64 ?_
    obtain ⟨hi65, hw⟩ := hw
    refine g_iast h (arF_2_0 ph0) hi65 dX2_take_65 ?_
    refine g_nI (fun I_65 eI_65 => ?_)
    replace hw := hw I_65 eI_65
    refine g_aload_n h rfl 0 rfl dX2_take_66 ?_
    refine g_get h ph0 fl_X2_15 rfl dX2_take_67 ?_
    refine g_iload_n h rfl 2 rfl dX2_take_70 ?_
    refine g_aload_n h rfl 1 rfl dX2_take_71 ?_
    refine g_get h ph1 fl_X2_15 rfl dX2_take_72 ?_
    refine g_iload_n h rfl 2 rfl dX2_take_75 ?_
    obtain ⟨hi76, hw⟩ := hw
    refine g_iald h (arF_2_1 ph1) hi76 dX2_take_76 ?_
    obtain ⟨hi77, hw⟩ := hw
    refine g_iast h (arF_2_1 ph0) hi77 dX2_take_77 ?_
    refine g_nI (fun I_77 eI_77 => ?_)
    replace hw := hw I_77 eI_77
    obtain ⟨v2_78, ev2_78⟩ : ∃ z : Int32, z = x2 + 1 := ⟨_, rfl⟩
    replace hw := hw v2_78 ev2_78
    refine g_iinc (v := v2_78) (lo2 := [(2, .int v2_78), (0, .ref h0), (1, .ref h1)]) h 2 rfl (by rw [ev2_78]; rfl) (by decide) rfl dX2_take_78 ?_
    refine g_goto (tgt := 46) h (by decide) dX2_take_81 ?_
    exact g_sub [1, 2, 0] rfl (hk46 _ _ _ hw)
theorem t_X2_take_46 {X : sX} {h0 : Nat} {h1 : Nat} (ph0 : sIs h0 2) (ph1 : sIs h1 2) {post : sI → sJ → Prop} (h : sOK X cX2_take RX2 3 0 0) (hr : sRt X none (sPv post)) {x2 : Int32} {I : sI} {J : sJ} (hw : w_X2_take_46 h0 h1 post x2 I J) : sG X 3 46 [(0, .ref h0), (1, .ref h1), (2, .int x2)] [] I J := by
  obtain ⟨n, hw⟩ := hw
  induction n generalizing x2 I J with
  | zero => exact hw.elim
  | succ n ih => exact t_X2_take_46_s ph0 ph1 h hr (fun _ _ _ q => ih q) hw
def w_X2_take_18_s (h0 : Nat) (h1 : Nat) (post : sI → sJ → Prop) (k18 : Int32 → sI → sJ → Prop) (x2 : Int32) (I : sI) (J : sJ) : Prop :=
  (((I h0 3) < x2 → w_X2_take_46 h0 h1 post 0 I J) ∧ (¬ (I h0 3) < x2 → (vp_in x2 13 ∧ (vp_in x2 13 ∧ (∀ I_37 : sI, I_37 = sUI I (sR h0 2) (Int32.toNatClampNeg x2) (I (sR h1 2) (Int32.toNatClampNeg x2)) → (∀ v2_38 : Int32, v2_38 = x2 + 1 → k18 v2_38 I_37 J))))))
def w_X2_take_18_n (h0 : Nat) (h1 : Nat) (post : sI → sJ → Prop) : Nat → Int32 → sI → sJ → Prop
  | 0 => fun _ _ _ => False
  | n + 1 => fun x2 I J => w_X2_take_18_s h0 h1 post (w_X2_take_18_n h0 h1 post n) x2 I J
def w_X2_take_18 (h0 : Nat) (h1 : Nat) (post : sI → sJ → Prop) (x2 : Int32) (I : sI) (J : sJ) : Prop := ∃ n, w_X2_take_18_n h0 h1 post n x2 I J
set_option maxHeartbeats 4000000 in
set_option maxRecDepth 100000 in
theorem t_X2_take_18_s {X : sX} {h0 : Nat} {h1 : Nat} (ph0 : sIs h0 2) (ph1 : sIs h1 2) {post : sI → sJ → Prop} (h : sOK X cX2_take RX2 3 0 0) (hr : sRt X none (sPv post)) {k18 : Int32 → sI → sJ → Prop} (hk18 : ∀ (x2 : Int32) (I : sI) (J : sJ), k18 x2 I J → sG X 3 18 [(0, .ref h0), (1, .ref h1), (2, .int x2)] [] I J) {x2 : Int32} {I : sI} {J : sJ} (hw : w_X2_take_18_s h0 h1 post k18 x2 I J) : sG X 3 18 [(0, .ref h0), (1, .ref h1), (2, .int x2)] [] I J := by
  unfold w_X2_take_18_s at hw
  refine g_iload_n h rfl 2 rfl dX2_take_18 ?_
  refine g_aload_n h rfl 0 rfl dX2_take_19 ?_
  refine g_get h ph0 fl_X2_21 rfl dX2_take_20 ?_
  refine g_icmp_gt (tgt := 44) h (by decide) dX2_take_23 (fun q23 => ?_) (fun q23 => ?_)
  · replace hw := hw.1 q23
    refine g_iconst (v := 0) h (by decide) dX2_take_44 ?_
    refine g_istore_n (lo2 := [(2, .int 0), (0, .ref h0), (1, .ref h1)]) h rfl (by decide) rfl dX2_take_45 ?_
    exact g_sub [1, 2, 0] rfl (t_X2_take_46 ph0 ph1 h hr hw)
  · replace hw := hw.2 q23
    refine g_aload_n h rfl 0 rfl dX2_take_26 ?_
    refine g_get h ph0 fl_X2_18 rfl dX2_take_27 ?_
    refine g_iload_n h rfl 2 rfl dX2_take_30 ?_
    refine g_aload_n h rfl 1 rfl dX2_take_31 ?_
    refine g_get h ph1 fl_X2_18 rfl dX2_take_32 ?_
    refine g_iload_n h rfl 2 rfl dX2_take_35 ?_
    obtain ⟨hi36, hw⟩ := hw
    refine g_iald h (arF_2_2 ph1) hi36 dX2_take_36 ?_
    obtain ⟨hi37, hw⟩ := hw
    refine g_iast h (arF_2_2 ph0) hi37 dX2_take_37 ?_
    refine g_nI (fun I_37 eI_37 => ?_)
    replace hw := hw I_37 eI_37
    obtain ⟨v2_38, ev2_38⟩ : ∃ z : Int32, z = x2 + 1 := ⟨_, rfl⟩
    replace hw := hw v2_38 ev2_38
    refine g_iinc (v := v2_38) (lo2 := [(2, .int v2_38), (0, .ref h0), (1, .ref h1)]) h 2 rfl (by rw [ev2_38]; rfl) (by decide) rfl dX2_take_38 ?_
    refine g_goto (tgt := 18) h (by decide) dX2_take_41 ?_
    exact g_sub [1, 2, 0] rfl (hk18 _ _ _ hw)
theorem t_X2_take_18 {X : sX} {h0 : Nat} {h1 : Nat} (ph0 : sIs h0 2) (ph1 : sIs h1 2) {post : sI → sJ → Prop} (h : sOK X cX2_take RX2 3 0 0) (hr : sRt X none (sPv post)) {x2 : Int32} {I : sI} {J : sJ} (hw : w_X2_take_18 h0 h1 post x2 I J) : sG X 3 18 [(0, .ref h0), (1, .ref h1), (2, .int x2)] [] I J := by
  obtain ⟨n, hw⟩ := hw
  induction n generalizing x2 I J with
  | zero => exact hw.elim
  | succ n ih => exact t_X2_take_18_s ph0 ph1 h hr (fun _ _ _ q => ih q) hw
def w_X2_take (h0 : Nat) (h1 : Nat) (I : sI) (J : sJ) (post : sI → sJ → Prop) : Prop :=
  (∀ I_5 : sI, I_5 = sUI I h0 3 (I h1 3) → (∀ I_13 : sI, I_13 = sUI I_5 h0 4 (I_5 h1 4) → w_X2_take_18 h0 h1 post 0 I_13 J))
set_option maxHeartbeats 4000000 in
set_option maxRecDepth 100000 in
theorem t_X2_take {X : sX} {h0 : Nat} {h1 : Nat} (ph0 : sIs h0 2) (ph1 : sIs h1 2) {I : sI} {J : sJ} {post : sI → sJ → Prop} (h : sOK X cX2_take RX2 3 0 0) (hr : sRt X none (sPv post)) (hw : w_X2_take h0 h1 I J post) : sG X 3 0 [(0, .ref h0), (1, .ref h1)] [] I J := by
  unfold w_X2_take at hw
  refine g_aload_n h rfl 0 rfl dX2_take_0 ?_
  refine g_aload_n h rfl 1 rfl dX2_take_1 ?_
  refine g_get h ph1 fl_X2_21 rfl dX2_take_2 ?_
  refine g_putI h ph0 fl_X2_21 rfl rfl dX2_take_5 ?_
  refine g_nI (fun I_5 eI_5 => ?_)
  replace hw := hw I_5 eI_5
  refine g_aload_n h rfl 0 rfl dX2_take_8 ?_
  refine g_aload_n h rfl 1 rfl dX2_take_9 ?_
  refine g_get h ph1 fl_X2_25 rfl dX2_take_10 ?_
  refine g_putI h ph0 fl_X2_25 rfl rfl dX2_take_13 ?_
  refine g_nI (fun I_13 eI_13 => ?_)
  replace hw := hw I_13 eI_13
  refine g_iconst (v := 0) h (by decide) dX2_take_16 ?_
  refine g_istore_n (lo2 := [(2, .int 0), (0, .ref h0), (1, .ref h1)]) h rfl (by decide) rfl dX2_take_17 ?_
  exact g_sub [1, 2, 0] rfl (t_X2_take_18 ph0 ph1 h hr hw)
theorem c_X2_take (X : sX) {h0 : Nat} {h1 : Nat} (ph0 : sIs h0 2) (ph1 : sIs h1 2) {I : sI} {J : sJ} {post : sI → sJ → Prop} (hw : w_X2_take h0 h1 I J post) : sCall X yX2_take cX2_take 3 none 0 0 [.ref h0, .ref h1] I J (sPv post) := sCall_of (by decide +kernel) (Nat.le_of_ble_eq_true rfl) (fun X h hr => t_X2_take ph0 ph1 h hr hw)
theorem dX2_lengthOf_0 : decode cX2_lengthOf 0 = .ok (.aload_n 0, 1) := by decide +kernel
theorem dX2_lengthOf_1 : decode cX2_lengthOf 1 = .ok (.getfield 18, 3) := by decide +kernel
theorem dX2_lengthOf_4 : decode cX2_lengthOf 4 = .ok (.iload_n 1, 1) := by decide +kernel
theorem dX2_lengthOf_5 : decode cX2_lengthOf 5 = .ok (.iconst 1, 1) := by decide +kernel
theorem dX2_lengthOf_6 : decode cX2_lengthOf 6 = .ok (.iadd, 1) := by decide +kernel
theorem dX2_lengthOf_7 : decode cX2_lengthOf 7 = .ok (.iaload, 1) := by decide +kernel
theorem dX2_lengthOf_8 : decode cX2_lengthOf 8 = .ok (.aload_n 0, 1) := by decide +kernel
theorem dX2_lengthOf_9 : decode cX2_lengthOf 9 = .ok (.getfield 18, 3) := by decide +kernel
theorem dX2_lengthOf_12 : decode cX2_lengthOf 12 = .ok (.iload_n 1, 1) := by decide +kernel
theorem dX2_lengthOf_13 : decode cX2_lengthOf 13 = .ok (.iaload, 1) := by decide +kernel
theorem dX2_lengthOf_14 : decode cX2_lengthOf 14 = .ok (.isub, 1) := by decide +kernel
theorem dX2_lengthOf_15 : decode cX2_lengthOf 15 = .ok (.ireturn, 1) := by decide +kernel
def w_X2_lengthOf (h0 : Nat) (a1 : Int32) (I : sI) (J : sJ) (post : Int32 → sI → sJ → Prop) : Prop :=
  (vp_in (a1 + 1) 13 ∧ (vp_in a1 13 ∧ post ((I (sR h0 2) (Int32.toNatClampNeg (a1 + 1))) - (I (sR h0 2) (Int32.toNatClampNeg a1))) I J))
set_option maxHeartbeats 4000000 in
set_option maxRecDepth 100000 in
theorem t_X2_lengthOf {X : sX} {h0 : Nat} {a1 : Int32} (ph0 : sIs h0 2) {I : sI} {J : sJ} {post : Int32 → sI → sJ → Prop} (h : sOK X cX2_lengthOf RX2 2 0 0) (hr : sRt X (some .int) (sPi post)) (hw : w_X2_lengthOf h0 a1 I J post) : sG X 2 0 [(0, .ref h0), (1, .int a1)] [] I J := by
  unfold w_X2_lengthOf at hw
  refine g_aload_n h rfl 0 rfl dX2_lengthOf_0 ?_
  refine g_get h ph0 fl_X2_18 rfl dX2_lengthOf_1 ?_
  refine g_iload_n h rfl 1 rfl dX2_lengthOf_4 ?_
  refine g_iconst (v := 1) h (by decide) dX2_lengthOf_5 ?_
  refine g_iadd h dX2_lengthOf_6 ?_
  obtain ⟨hi7, hw⟩ := hw
  refine g_iald h (arF_2_2 ph0) hi7 dX2_lengthOf_7 ?_
  refine g_aload_n h rfl 0 rfl dX2_lengthOf_8 ?_
  refine g_get h ph0 fl_X2_18 rfl dX2_lengthOf_9 ?_
  refine g_iload_n h rfl 1 rfl dX2_lengthOf_12 ?_
  obtain ⟨hi13, hw⟩ := hw
  refine g_iald h (arF_2_2 ph0) hi13 dX2_lengthOf_13 ?_
  refine g_isub h dX2_lengthOf_14 ?_
  exact g_iret h hr dX2_lengthOf_15 hw
theorem c_X2_lengthOf (X : sX) {h0 : Nat} {a1 : Int32} (ph0 : sIs h0 2) {I : sI} {J : sJ} {post : Int32 → sI → sJ → Prop} (hw : w_X2_lengthOf h0 a1 I J post) : sCall X yX2_lengthOf cX2_lengthOf 2 (some .int) 0 0 [.ref h0, .int a1] I J (sPi post) := sCall_of (by decide +kernel) (Nat.le_of_ble_eq_true rfl) (fun X h hr => t_X2_lengthOf ph0 h hr hw)
theorem dX2_hide_0 : decode cX2_hide 0 = .ok (.iconst 0, 1) := by decide +kernel
theorem dX2_hide_1 : decode cX2_hide 1 = .ok (.istore_n 2, 1) := by decide +kernel
theorem dX2_hide_2 : decode cX2_hide 2 = .ok (.iload_n 2, 1) := by decide +kernel
theorem dX2_hide_3 : decode cX2_hide 3 = .ok (.aload_n 0, 1) := by decide +kernel
theorem dX2_hide_4 : decode cX2_hide 4 = .ok (.getfield 25, 3) := by decide +kernel
theorem dX2_hide_7 : decode cX2_hide 7 = .ok (.if_icmp .ge 30, 3) := by decide +kernel
theorem dX2_hide_10 : decode cX2_hide 10 = .ok (.iload_n 1, 1) := by decide +kernel
theorem dX2_hide_11 : decode cX2_hide 11 = .ok (.aload_n 0, 1) := by decide +kernel
theorem dX2_hide_12 : decode cX2_hide 12 = .ok (.getfield 9, 3) := by decide +kernel
theorem dX2_hide_15 : decode cX2_hide 15 = .ok (.iload_n 2, 1) := by decide +kernel
theorem dX2_hide_16 : decode cX2_hide 16 = .ok (.iaload, 1) := by decide +kernel
theorem dX2_hide_17 : decode cX2_hide 17 = .ok (.ishr, 1) := by decide +kernel
theorem dX2_hide_18 : decode cX2_hide 18 = .ok (.iconst 1, 1) := by decide +kernel
theorem dX2_hide_19 : decode cX2_hide 19 = .ok (.iand, 1) := by decide +kernel
theorem dX2_hide_20 : decode cX2_hide 20 = .ok (.ifCond .eq 11, 3) := by decide +kernel
theorem dX2_hide_23 : decode cX2_hide 23 = .ok (.aload_n 0, 1) := by decide +kernel
theorem dX2_hide_24 : decode cX2_hide 24 = .ok (.getfield 9, 3) := by decide +kernel
theorem dX2_hide_27 : decode cX2_hide 27 = .ok (.iload_n 2, 1) := by decide +kernel
theorem dX2_hide_28 : decode cX2_hide 28 = .ok (.bipush 12, 2) := by decide +kernel
theorem dX2_hide_30 : decode cX2_hide 30 = .ok (.iastore, 1) := by decide +kernel
theorem dX2_hide_31 : decode cX2_hide 31 = .ok (.iinc 2 1, 3) := by decide +kernel
theorem dX2_hide_34 : decode cX2_hide 34 = .ok (.goto (-32), 3) := by decide +kernel
theorem dX2_hide_37 : decode cX2_hide 37 = .ok (.return_, 1) := by decide +kernel
def w_X2_hide_31 (h0 : Nat) (post : sI → sJ → Prop) (k2 : Int32 → Int32 → sI → sJ → Prop) (x1 : Int32) (x2 : Int32) (I : sI) (J : sJ) : Prop :=
  (∀ v2_31 : Int32, v2_31 = x2 + 1 → k2 x1 v2_31 I J)
set_option maxHeartbeats 4000000 in
set_option maxRecDepth 100000 in
theorem t_X2_hide_31 {X : sX} {h0 : Nat} (ph0 : sIs h0 2) {post : sI → sJ → Prop} (h : sOK X cX2_hide RX2 3 0 0) (hr : sRt X none (sPv post)) {k2 : Int32 → Int32 → sI → sJ → Prop} (hk2 : ∀ (x1 : Int32) (x2 : Int32) (I : sI) (J : sJ), k2 x1 x2 I J → sG X 3 2 [(0, .ref h0), (1, .int x1), (2, .int x2)] [] I J) {x1 : Int32} {x2 : Int32} {I : sI} {J : sJ} (hw : w_X2_hide_31 h0 post k2 x1 x2 I J) : sG X 3 31 [(0, .ref h0), (1, .int x1), (2, .int x2)] [] I J := by
  unfold w_X2_hide_31 at hw
  obtain ⟨v2_31, ev2_31⟩ : ∃ z : Int32, z = x2 + 1 := ⟨_, rfl⟩
  replace hw := hw v2_31 ev2_31
  refine g_iinc (v := v2_31) (lo2 := [(2, .int v2_31), (0, .ref h0), (1, .int x1)]) h 2 rfl (by rw [ev2_31]; rfl) (by decide) rfl dX2_hide_31 ?_
  refine g_goto (tgt := 2) h (by decide) dX2_hide_34 ?_
  exact g_sub [1, 2, 0] rfl (hk2 _ _ _ _ hw)
def w_X2_hide_2_s (h0 : Nat) (post : sI → sJ → Prop) (k2 : Int32 → Int32 → sI → sJ → Prop) (x1 : Int32) (x2 : Int32) (I : sI) (J : sJ) : Prop :=
  (((I h0 4) ≤ x2 → post I J) ∧ (¬ (I h0 4) ≤ x2 → (vp_in x2 60 ∧ ((((x1 >>> ((I (sR h0 0) (Int32.toNatClampNeg x2)) &&& 31)) &&& 1) = 0 → w_X2_hide_31 h0 post k2 x1 x2 I J) ∧ (¬ ((x1 >>> ((I (sR h0 0) (Int32.toNatClampNeg x2)) &&& 31)) &&& 1) = 0 → (vp_in x2 60 ∧ (∀ I_30 : sI, I_30 = sUI I (sR h0 0) (Int32.toNatClampNeg x2) 12 → w_X2_hide_31 h0 post k2 x1 x2 I_30 J)))))))
def w_X2_hide_2_n (h0 : Nat) (post : sI → sJ → Prop) : Nat → Int32 → Int32 → sI → sJ → Prop
  | 0 => fun _ _ _ _ => False
  | n + 1 => fun x1 x2 I J => w_X2_hide_2_s h0 post (w_X2_hide_2_n h0 post n) x1 x2 I J
def w_X2_hide_2 (h0 : Nat) (post : sI → sJ → Prop) (x1 : Int32) (x2 : Int32) (I : sI) (J : sJ) : Prop := ∃ n, w_X2_hide_2_n h0 post n x1 x2 I J
set_option maxHeartbeats 4000000 in
set_option maxRecDepth 100000 in
theorem t_X2_hide_2_s {X : sX} {h0 : Nat} (ph0 : sIs h0 2) {post : sI → sJ → Prop} (h : sOK X cX2_hide RX2 3 0 0) (hr : sRt X none (sPv post)) {k2 : Int32 → Int32 → sI → sJ → Prop} (hk2 : ∀ (x1 : Int32) (x2 : Int32) (I : sI) (J : sJ), k2 x1 x2 I J → sG X 3 2 [(0, .ref h0), (1, .int x1), (2, .int x2)] [] I J) {x1 : Int32} {x2 : Int32} {I : sI} {J : sJ} (hw : w_X2_hide_2_s h0 post k2 x1 x2 I J) : sG X 3 2 [(0, .ref h0), (1, .int x1), (2, .int x2)] [] I J := by
  unfold w_X2_hide_2_s at hw
  refine g_iload_n h rfl 2 rfl dX2_hide_2 ?_
  refine g_aload_n h rfl 0 rfl dX2_hide_3 ?_
  refine g_get h ph0 fl_X2_25 rfl dX2_hide_4 ?_
  refine g_icmp_ge (tgt := 37) h (by decide) dX2_hide_7 (fun q7 => ?_) (fun q7 => ?_)
  · replace hw := hw.1 q7
    exact g_vret h hr dX2_hide_37 hw
  · replace hw := hw.2 q7
    refine g_iload_n h rfl 1 rfl dX2_hide_10 ?_
    refine g_aload_n h rfl 0 rfl dX2_hide_11 ?_
    refine g_get h ph0 fl_X2_9 rfl dX2_hide_12 ?_
    refine g_iload_n h rfl 2 rfl dX2_hide_15 ?_
    obtain ⟨hi16, hw⟩ := hw
    refine g_iald h (arF_2_0 ph0) hi16 dX2_hide_16 ?_
    refine g_ishr h dX2_hide_17 ?_
    refine g_iconst (v := 1) h (by decide) dX2_hide_18 ?_
    refine g_iand h dX2_hide_19 ?_
    refine g_if_eq (tgt := 31) h (by decide) dX2_hide_20 (fun q20 => ?_) (fun q20 => ?_)
    · replace hw := hw.1 q20
      exact g_sub [0, 1, 2] rfl (t_X2_hide_31 ph0 h hr hk2 hw)
    · replace hw := hw.2 q20
      refine g_aload_n h rfl 0 rfl dX2_hide_23 ?_
      refine g_get h ph0 fl_X2_9 rfl dX2_hide_24 ?_
      refine g_iload_n h rfl 2 rfl dX2_hide_27 ?_
      refine g_bipush (v := 12) h (by decide) dX2_hide_28 ?_
      obtain ⟨hi30, hw⟩ := hw
      refine g_iast h (arF_2_0 ph0) hi30 dX2_hide_30 ?_
      refine g_nI (fun I_30 eI_30 => ?_)
      replace hw := hw I_30 eI_30
      exact g_sub [0, 1, 2] rfl (t_X2_hide_31 ph0 h hr hk2 hw)
theorem t_X2_hide_2 {X : sX} {h0 : Nat} (ph0 : sIs h0 2) {post : sI → sJ → Prop} (h : sOK X cX2_hide RX2 3 0 0) (hr : sRt X none (sPv post)) {x1 : Int32} {x2 : Int32} {I : sI} {J : sJ} (hw : w_X2_hide_2 h0 post x1 x2 I J) : sG X 3 2 [(0, .ref h0), (1, .int x1), (2, .int x2)] [] I J := by
  obtain ⟨n, hw⟩ := hw
  induction n generalizing x1 x2 I J with
  | zero => exact hw.elim
  | succ n ih => exact t_X2_hide_2_s ph0 h hr (fun _ _ _ _ q => ih q) hw
def w_X2_hide (h0 : Nat) (a1 : Int32) (I : sI) (J : sJ) (post : sI → sJ → Prop) : Prop :=
  w_X2_hide_2 h0 post a1 0 I J
set_option maxHeartbeats 4000000 in
set_option maxRecDepth 100000 in
theorem t_X2_hide {X : sX} {h0 : Nat} {a1 : Int32} (ph0 : sIs h0 2) {I : sI} {J : sJ} {post : sI → sJ → Prop} (h : sOK X cX2_hide RX2 3 0 0) (hr : sRt X none (sPv post)) (hw : w_X2_hide h0 a1 I J post) : sG X 3 0 [(0, .ref h0), (1, .int a1)] [] I J := by
  unfold w_X2_hide at hw
  refine g_iconst (v := 0) h (by decide) dX2_hide_0 ?_
  refine g_istore_n (lo2 := [(2, .int 0), (0, .ref h0), (1, .int a1)]) h rfl (by decide) rfl dX2_hide_1 ?_
  exact g_sub [1, 2, 0] rfl (t_X2_hide_2 ph0 h hr hw)
theorem c_X2_hide (X : sX) {h0 : Nat} {a1 : Int32} (ph0 : sIs h0 2) {I : sI} {J : sJ} {post : sI → sJ → Prop} (hw : w_X2_hide h0 a1 I J post) : sCall X yX2_hide cX2_hide 3 none 0 0 [.ref h0, .int a1] I J (sPv post) := sCall_of (by decide +kernel) (Nat.le_of_ble_eq_true rfl) (fun X h hr => t_X2_hide ph0 h hr hw)
theorem dX2_kindBits_0 : decode cX2_kindBits 0 = .ok (.iconst 0, 1) := by decide +kernel
theorem dX2_kindBits_1 : decode cX2_kindBits 1 = .ok (.istore_n 1, 1) := by decide +kernel
theorem dX2_kindBits_2 : decode cX2_kindBits 2 = .ok (.iconst 0, 1) := by decide +kernel
theorem dX2_kindBits_3 : decode cX2_kindBits 3 = .ok (.istore_n 2, 1) := by decide +kernel
theorem dX2_kindBits_4 : decode cX2_kindBits 4 = .ok (.iload_n 2, 1) := by decide +kernel
theorem dX2_kindBits_5 : decode cX2_kindBits 5 = .ok (.aload_n 0, 1) := by decide +kernel
theorem dX2_kindBits_6 : decode cX2_kindBits 6 = .ok (.getfield 25, 3) := by decide +kernel
theorem dX2_kindBits_9 : decode cX2_kindBits 9 = .ok (.if_icmp .ge 20, 3) := by decide +kernel
theorem dX2_kindBits_12 : decode cX2_kindBits 12 = .ok (.iload_n 1, 1) := by decide +kernel
theorem dX2_kindBits_13 : decode cX2_kindBits 13 = .ok (.iconst 1, 1) := by decide +kernel
theorem dX2_kindBits_14 : decode cX2_kindBits 14 = .ok (.aload_n 0, 1) := by decide +kernel
theorem dX2_kindBits_15 : decode cX2_kindBits 15 = .ok (.getfield 9, 3) := by decide +kernel
theorem dX2_kindBits_18 : decode cX2_kindBits 18 = .ok (.iload_n 2, 1) := by decide +kernel
theorem dX2_kindBits_19 : decode cX2_kindBits 19 = .ok (.iaload, 1) := by decide +kernel
theorem dX2_kindBits_20 : decode cX2_kindBits 20 = .ok (.ishl, 1) := by decide +kernel
theorem dX2_kindBits_21 : decode cX2_kindBits 21 = .ok (.ior, 1) := by decide +kernel
theorem dX2_kindBits_22 : decode cX2_kindBits 22 = .ok (.istore_n 1, 1) := by decide +kernel
theorem dX2_kindBits_23 : decode cX2_kindBits 23 = .ok (.iinc 2 1, 3) := by decide +kernel
theorem dX2_kindBits_26 : decode cX2_kindBits 26 = .ok (.goto (-22), 3) := by decide +kernel
theorem dX2_kindBits_29 : decode cX2_kindBits 29 = .ok (.iload_n 1, 1) := by decide +kernel
theorem dX2_kindBits_30 : decode cX2_kindBits 30 = .ok (.ireturn, 1) := by decide +kernel
def w_X2_kindBits_4_s (h0 : Nat) (post : Int32 → sI → sJ → Prop) (k4 : Int32 → Int32 → sI → sJ → Prop) (x1 : Int32) (x2 : Int32) (I : sI) (J : sJ) : Prop :=
  (((I h0 4) ≤ x2 → post x1 I J) ∧ (¬ (I h0 4) ≤ x2 → (vp_in x2 60 ∧ (∀ v1_22 : Int32, v1_22 = x1 ||| (1 <<< ((I (sR h0 0) (Int32.toNatClampNeg x2)) &&& 31)) → (∀ v2_23 : Int32, v2_23 = x2 + 1 → k4 v1_22 v2_23 I J)))))
def w_X2_kindBits_4_n (h0 : Nat) (post : Int32 → sI → sJ → Prop) : Nat → Int32 → Int32 → sI → sJ → Prop
  | 0 => fun _ _ _ _ => False
  | n + 1 => fun x1 x2 I J => w_X2_kindBits_4_s h0 post (w_X2_kindBits_4_n h0 post n) x1 x2 I J
def w_X2_kindBits_4 (h0 : Nat) (post : Int32 → sI → sJ → Prop) (x1 : Int32) (x2 : Int32) (I : sI) (J : sJ) : Prop := ∃ n, w_X2_kindBits_4_n h0 post n x1 x2 I J
set_option maxHeartbeats 4000000 in
set_option maxRecDepth 100000 in
theorem t_X2_kindBits_4_s {X : sX} {h0 : Nat} (ph0 : sIs h0 2) {post : Int32 → sI → sJ → Prop} (h : sOK X cX2_kindBits RX2 3 0 0) (hr : sRt X (some .int) (sPi post)) {k4 : Int32 → Int32 → sI → sJ → Prop} (hk4 : ∀ (x1 : Int32) (x2 : Int32) (I : sI) (J : sJ), k4 x1 x2 I J → sG X 3 4 [(0, .ref h0), (1, .int x1), (2, .int x2)] [] I J) {x1 : Int32} {x2 : Int32} {I : sI} {J : sJ} (hw : w_X2_kindBits_4_s h0 post k4 x1 x2 I J) : sG X 3 4 [(0, .ref h0), (1, .int x1), (2, .int x2)] [] I J := by
  unfold w_X2_kindBits_4_s at hw
  refine g_iload_n h rfl 2 rfl dX2_kindBits_4 ?_
  refine g_aload_n h rfl 0 rfl dX2_kindBits_5 ?_
  refine g_get h ph0 fl_X2_25 rfl dX2_kindBits_6 ?_
  refine g_icmp_ge (tgt := 29) h (by decide) dX2_kindBits_9 (fun q9 => ?_) (fun q9 => ?_)
  · replace hw := hw.1 q9
    refine g_iload_n h rfl 1 rfl dX2_kindBits_29 ?_
    exact g_iret h hr dX2_kindBits_30 hw
  · replace hw := hw.2 q9
    refine g_iload_n h rfl 1 rfl dX2_kindBits_12 ?_
    refine g_iconst (v := 1) h (by decide) dX2_kindBits_13 ?_
    refine g_aload_n h rfl 0 rfl dX2_kindBits_14 ?_
    refine g_get h ph0 fl_X2_9 rfl dX2_kindBits_15 ?_
    refine g_iload_n h rfl 2 rfl dX2_kindBits_18 ?_
    obtain ⟨hi19, hw⟩ := hw
    refine g_iald h (arF_2_0 ph0) hi19 dX2_kindBits_19 ?_
    refine g_ishl h dX2_kindBits_20 ?_
    refine g_ior h dX2_kindBits_21 ?_
    refine g_ni (fun v1_22 ev1_22 => ?_)
    replace hw := hw v1_22 ev1_22
    refine g_istore_n (lo2 := [(1, .int v1_22), (0, .ref h0), (2, .int x2)]) h rfl (by decide) rfl dX2_kindBits_22 ?_
    obtain ⟨v2_23, ev2_23⟩ : ∃ z : Int32, z = x2 + 1 := ⟨_, rfl⟩
    replace hw := hw v2_23 ev2_23
    refine g_iinc (v := v2_23) (lo2 := [(2, .int v2_23), (1, .int v1_22), (0, .ref h0)]) h 2 rfl (by rw [ev2_23]; rfl) (by decide) rfl dX2_kindBits_23 ?_
    refine g_goto (tgt := 4) h (by decide) dX2_kindBits_26 ?_
    exact g_sub [2, 1, 0] rfl (hk4 _ _ _ _ hw)
theorem t_X2_kindBits_4 {X : sX} {h0 : Nat} (ph0 : sIs h0 2) {post : Int32 → sI → sJ → Prop} (h : sOK X cX2_kindBits RX2 3 0 0) (hr : sRt X (some .int) (sPi post)) {x1 : Int32} {x2 : Int32} {I : sI} {J : sJ} (hw : w_X2_kindBits_4 h0 post x1 x2 I J) : sG X 3 4 [(0, .ref h0), (1, .int x1), (2, .int x2)] [] I J := by
  obtain ⟨n, hw⟩ := hw
  induction n generalizing x1 x2 I J with
  | zero => exact hw.elim
  | succ n ih => exact t_X2_kindBits_4_s ph0 h hr (fun _ _ _ _ q => ih q) hw
def w_X2_kindBits (h0 : Nat) (I : sI) (J : sJ) (post : Int32 → sI → sJ → Prop) : Prop :=
  w_X2_kindBits_4 h0 post 0 0 I J
set_option maxHeartbeats 4000000 in
set_option maxRecDepth 100000 in
theorem t_X2_kindBits {X : sX} {h0 : Nat} (ph0 : sIs h0 2) {I : sI} {J : sJ} {post : Int32 → sI → sJ → Prop} (h : sOK X cX2_kindBits RX2 3 0 0) (hr : sRt X (some .int) (sPi post)) (hw : w_X2_kindBits h0 I J post) : sG X 3 0 [(0, .ref h0)] [] I J := by
  unfold w_X2_kindBits at hw
  refine g_iconst (v := 0) h (by decide) dX2_kindBits_0 ?_
  refine g_istore_n (lo2 := [(1, .int 0), (0, .ref h0)]) h rfl (by decide) rfl dX2_kindBits_1 ?_
  refine g_iconst (v := 0) h (by decide) dX2_kindBits_2 ?_
  refine g_istore_n (lo2 := [(2, .int 0), (1, .int 0), (0, .ref h0)]) h rfl (by decide) rfl dX2_kindBits_3 ?_
  exact g_sub [2, 1, 0] rfl (t_X2_kindBits_4 ph0 h hr hw)
theorem c_X2_kindBits (X : sX) {h0 : Nat} (ph0 : sIs h0 2) {I : sI} {J : sJ} {post : Int32 → sI → sJ → Prop} (hw : w_X2_kindBits h0 I J post) : sCall X yX2_kindBits cX2_kindBits 3 (some .int) 0 0 [.ref h0] I J (sPi post) := sCall_of (by decide +kernel) (Nat.le_of_ble_eq_true rfl) (fun X h hr => t_X2_kindBits ph0 h hr hw)
theorem dX2_countKinds_0 : decode cX2_countKinds 0 = .ok (.iconst 0, 1) := by decide +kernel
theorem dX2_countKinds_1 : decode cX2_countKinds 1 = .ok (.istore_n 2, 1) := by decide +kernel
theorem dX2_countKinds_2 : decode cX2_countKinds 2 = .ok (.iload_n 2, 1) := by decide +kernel
theorem dX2_countKinds_3 : decode cX2_countKinds 3 = .ok (.aload_n 1, 1) := by decide +kernel
theorem dX2_countKinds_4 : decode cX2_countKinds 4 = .ok (.arraylength, 1) := by decide +kernel
theorem dX2_countKinds_5 : decode cX2_countKinds 5 = .ok (.if_icmp .ge 13, 3) := by decide +kernel
theorem dX2_countKinds_8 : decode cX2_countKinds 8 = .ok (.aload_n 1, 1) := by decide +kernel
theorem dX2_countKinds_9 : decode cX2_countKinds 9 = .ok (.iload_n 2, 1) := by decide +kernel
theorem dX2_countKinds_10 : decode cX2_countKinds 10 = .ok (.iconst 0, 1) := by decide +kernel
theorem dX2_countKinds_11 : decode cX2_countKinds 11 = .ok (.iastore, 1) := by decide +kernel
theorem dX2_countKinds_12 : decode cX2_countKinds 12 = .ok (.iinc 2 1, 3) := by decide +kernel
theorem dX2_countKinds_15 : decode cX2_countKinds 15 = .ok (.goto (-13), 3) := by decide +kernel
theorem dX2_countKinds_18 : decode cX2_countKinds 18 = .ok (.iconst 0, 1) := by decide +kernel
theorem dX2_countKinds_19 : decode cX2_countKinds 19 = .ok (.istore_n 2, 1) := by decide +kernel
theorem dX2_countKinds_20 : decode cX2_countKinds 20 = .ok (.iload_n 2, 1) := by decide +kernel
theorem dX2_countKinds_21 : decode cX2_countKinds 21 = .ok (.aload_n 0, 1) := by decide +kernel
theorem dX2_countKinds_22 : decode cX2_countKinds 22 = .ok (.getfield 25, 3) := by decide +kernel
theorem dX2_countKinds_25 : decode cX2_countKinds 25 = .ok (.if_icmp .ge 32, 3) := by decide +kernel
theorem dX2_countKinds_28 : decode cX2_countKinds 28 = .ok (.aload_n 0, 1) := by decide +kernel
theorem dX2_countKinds_29 : decode cX2_countKinds 29 = .ok (.getfield 9, 3) := by decide +kernel
theorem dX2_countKinds_32 : decode cX2_countKinds 32 = .ok (.iload_n 2, 1) := by decide +kernel
theorem dX2_countKinds_33 : decode cX2_countKinds 33 = .ok (.iaload, 1) := by decide +kernel
theorem dX2_countKinds_34 : decode cX2_countKinds 34 = .ok (.aload_n 1, 1) := by decide +kernel
theorem dX2_countKinds_35 : decode cX2_countKinds 35 = .ok (.arraylength, 1) := by decide +kernel
theorem dX2_countKinds_36 : decode cX2_countKinds 36 = .ok (.if_icmp .ge 15, 3) := by decide +kernel
theorem dX2_countKinds_39 : decode cX2_countKinds 39 = .ok (.aload_n 1, 1) := by decide +kernel
theorem dX2_countKinds_40 : decode cX2_countKinds 40 = .ok (.aload_n 0, 1) := by decide +kernel
theorem dX2_countKinds_41 : decode cX2_countKinds 41 = .ok (.getfield 9, 3) := by decide +kernel
theorem dX2_countKinds_44 : decode cX2_countKinds 44 = .ok (.iload_n 2, 1) := by decide +kernel
theorem dX2_countKinds_45 : decode cX2_countKinds 45 = .ok (.iaload, 1) := by decide +kernel
theorem dX2_countKinds_46 : decode cX2_countKinds 46 = .ok (.dup2, 1) := by decide +kernel
theorem dX2_countKinds_47 : decode cX2_countKinds 47 = .ok (.iaload, 1) := by decide +kernel
theorem dX2_countKinds_48 : decode cX2_countKinds 48 = .ok (.iconst 1, 1) := by decide +kernel
theorem dX2_countKinds_49 : decode cX2_countKinds 49 = .ok (.iadd, 1) := by decide +kernel
theorem dX2_countKinds_50 : decode cX2_countKinds 50 = .ok (.iastore, 1) := by decide +kernel
theorem dX2_countKinds_51 : decode cX2_countKinds 51 = .ok (.iinc 2 1, 3) := by decide +kernel
theorem dX2_countKinds_54 : decode cX2_countKinds 54 = .ok (.goto (-34), 3) := by decide +kernel
theorem dX2_countKinds_57 : decode cX2_countKinds 57 = .ok (.return_, 1) := by decide +kernel
def w_X2_countKinds_51 (h0 : Nat) (post : sI → sJ → Prop) (k20 : Int32 → sI → sJ → Prop) (x2 : Int32) (I : sI) (J : sJ) : Prop :=
  (∀ v2_51 : Int32, v2_51 = x2 + 1 → k20 v2_51 I J)
set_option maxHeartbeats 4000000 in
set_option maxRecDepth 100000 in
theorem t_X2_countKinds_51 {X : sX} {h0 : Nat} (ph0 : sIs h0 2) {post : sI → sJ → Prop} (h : sOK X cX2_countKinds RX2 3 0 0) (hr : sRt X none (sPv post)) {k20 : Int32 → sI → sJ → Prop} (hk20 : ∀ (x2 : Int32) (I : sI) (J : sJ), k20 x2 I J → sG X 3 20 [(0, .ref h0), (1, .ref 247), (2, .int x2)] [] I J) {x2 : Int32} {I : sI} {J : sJ} (hw : w_X2_countKinds_51 h0 post k20 x2 I J) : sG X 3 51 [(0, .ref h0), (1, .ref 247), (2, .int x2)] [] I J := by
  unfold w_X2_countKinds_51 at hw
  obtain ⟨v2_51, ev2_51⟩ : ∃ z : Int32, z = x2 + 1 := ⟨_, rfl⟩
  replace hw := hw v2_51 ev2_51
  refine g_iinc (v := v2_51) (lo2 := [(2, .int v2_51), (0, .ref h0), (1, .ref 247)]) h 2 rfl (by rw [ev2_51]; rfl) (by decide) rfl dX2_countKinds_51 ?_
  refine g_goto (tgt := 20) h (by decide) dX2_countKinds_54 ?_
  exact g_sub [1, 2, 0] rfl (hk20 _ _ _ hw)
def w_X2_countKinds_20_s (h0 : Nat) (post : sI → sJ → Prop) (k20 : Int32 → sI → sJ → Prop) (x2 : Int32) (I : sI) (J : sJ) : Prop :=
  (((I h0 4) ≤ x2 → post I J) ∧ (¬ (I h0 4) ≤ x2 → (vp_in x2 60 ∧ (((nI 13) ≤ (I (sR h0 0) (Int32.toNatClampNeg x2)) → w_X2_countKinds_51 h0 post k20 x2 I J) ∧ (¬ (nI 13) ≤ (I (sR h0 0) (Int32.toNatClampNeg x2)) → (vp_in x2 60 ∧ (vp_in (I (sR h0 0) (Int32.toNatClampNeg x2)) 13 ∧ (vp_in (I (sR h0 0) (Int32.toNatClampNeg x2)) 13 ∧ (∀ I_50 : sI, I_50 = sUI I 247 (Int32.toNatClampNeg (I (sR h0 0) (Int32.toNatClampNeg x2))) ((I 247 (Int32.toNatClampNeg (I (sR h0 0) (Int32.toNatClampNeg x2)))) + 1) → w_X2_countKinds_51 h0 post k20 x2 I_50 J)))))))))
def w_X2_countKinds_20_n (h0 : Nat) (post : sI → sJ → Prop) : Nat → Int32 → sI → sJ → Prop
  | 0 => fun _ _ _ => False
  | n + 1 => fun x2 I J => w_X2_countKinds_20_s h0 post (w_X2_countKinds_20_n h0 post n) x2 I J
def w_X2_countKinds_20 (h0 : Nat) (post : sI → sJ → Prop) (x2 : Int32) (I : sI) (J : sJ) : Prop := ∃ n, w_X2_countKinds_20_n h0 post n x2 I J
set_option maxHeartbeats 4000000 in
set_option maxRecDepth 100000 in
theorem t_X2_countKinds_20_s {X : sX} {h0 : Nat} (ph0 : sIs h0 2) {post : sI → sJ → Prop} (h : sOK X cX2_countKinds RX2 3 0 0) (hr : sRt X none (sPv post)) {k20 : Int32 → sI → sJ → Prop} (hk20 : ∀ (x2 : Int32) (I : sI) (J : sJ), k20 x2 I J → sG X 3 20 [(0, .ref h0), (1, .ref 247), (2, .int x2)] [] I J) {x2 : Int32} {I : sI} {J : sJ} (hw : w_X2_countKinds_20_s h0 post k20 x2 I J) : sG X 3 20 [(0, .ref h0), (1, .ref 247), (2, .int x2)] [] I J := by
  unfold w_X2_countKinds_20_s at hw
  refine g_iload_n h rfl 2 rfl dX2_countKinds_20 ?_
  refine g_aload_n h rfl 0 rfl dX2_countKinds_21 ?_
  refine g_get h ph0 fl_X2_25 rfl dX2_countKinds_22 ?_
  refine g_icmp_ge (tgt := 57) h (by decide) dX2_countKinds_25 (fun q25 => ?_) (fun q25 => ?_)
  · replace hw := hw.1 q25
    exact g_vret h hr dX2_countKinds_57 hw
  · replace hw := hw.2 q25
    refine g_aload_n h rfl 0 rfl dX2_countKinds_28 ?_
    refine g_get h ph0 fl_X2_9 rfl dX2_countKinds_29 ?_
    refine g_iload_n h rfl 2 rfl dX2_countKinds_32 ?_
    obtain ⟨hi33, hw⟩ := hw
    refine g_iald h (arF_2_0 ph0) hi33 dX2_countKinds_33 ?_
    refine g_aload_n h rfl 1 rfl dX2_countKinds_34 ?_
    refine g_ilen h ar_247 dX2_countKinds_35 ?_
    refine g_icmp_ge (tgt := 51) h (by decide) dX2_countKinds_36 (fun q36 => ?_) (fun q36 => ?_)
    · replace hw := hw.1 q36
      exact g_sub [0, 1, 2] rfl (t_X2_countKinds_51 ph0 h hr hk20 hw)
    · replace hw := hw.2 q36
      refine g_aload_n h rfl 1 rfl dX2_countKinds_39 ?_
      refine g_aload_n h rfl 0 rfl dX2_countKinds_40 ?_
      refine g_get h ph0 fl_X2_9 rfl dX2_countKinds_41 ?_
      refine g_iload_n h rfl 2 rfl dX2_countKinds_44 ?_
      obtain ⟨hi45, hw⟩ := hw
      refine g_iald h (arF_2_0 ph0) hi45 dX2_countKinds_45 ?_
      refine g_dup2 h rfl rfl dX2_countKinds_46 ?_
      obtain ⟨hi47, hw⟩ := hw
      refine g_iald h ar_247 hi47 dX2_countKinds_47 ?_
      refine g_iconst (v := 1) h (by decide) dX2_countKinds_48 ?_
      refine g_iadd h dX2_countKinds_49 ?_
      obtain ⟨hi50, hw⟩ := hw
      refine g_iast h ar_247 hi50 dX2_countKinds_50 ?_
      refine g_nI (fun I_50 eI_50 => ?_)
      replace hw := hw I_50 eI_50
      exact g_sub [0, 1, 2] rfl (t_X2_countKinds_51 ph0 h hr hk20 hw)
theorem t_X2_countKinds_20 {X : sX} {h0 : Nat} (ph0 : sIs h0 2) {post : sI → sJ → Prop} (h : sOK X cX2_countKinds RX2 3 0 0) (hr : sRt X none (sPv post)) {x2 : Int32} {I : sI} {J : sJ} (hw : w_X2_countKinds_20 h0 post x2 I J) : sG X 3 20 [(0, .ref h0), (1, .ref 247), (2, .int x2)] [] I J := by
  obtain ⟨n, hw⟩ := hw
  induction n generalizing x2 I J with
  | zero => exact hw.elim
  | succ n ih => exact t_X2_countKinds_20_s ph0 h hr (fun _ _ _ q => ih q) hw
def w_X2_countKinds_2_s (h0 : Nat) (post : sI → sJ → Prop) (k2 : Int32 → sI → sJ → Prop) (x2 : Int32) (I : sI) (J : sJ) : Prop :=
  (((nI 13) ≤ x2 → w_X2_countKinds_20 h0 post 0 I J) ∧ (¬ (nI 13) ≤ x2 → (vp_in x2 13 ∧ (∀ I_11 : sI, I_11 = sUI I 247 (Int32.toNatClampNeg x2) 0 → (∀ v2_12 : Int32, v2_12 = x2 + 1 → k2 v2_12 I_11 J)))))
def w_X2_countKinds_2_n (h0 : Nat) (post : sI → sJ → Prop) : Nat → Int32 → sI → sJ → Prop
  | 0 => fun _ _ _ => False
  | n + 1 => fun x2 I J => w_X2_countKinds_2_s h0 post (w_X2_countKinds_2_n h0 post n) x2 I J
def w_X2_countKinds_2 (h0 : Nat) (post : sI → sJ → Prop) (x2 : Int32) (I : sI) (J : sJ) : Prop := ∃ n, w_X2_countKinds_2_n h0 post n x2 I J
set_option maxHeartbeats 4000000 in
set_option maxRecDepth 100000 in
theorem t_X2_countKinds_2_s {X : sX} {h0 : Nat} (ph0 : sIs h0 2) {post : sI → sJ → Prop} (h : sOK X cX2_countKinds RX2 3 0 0) (hr : sRt X none (sPv post)) {k2 : Int32 → sI → sJ → Prop} (hk2 : ∀ (x2 : Int32) (I : sI) (J : sJ), k2 x2 I J → sG X 3 2 [(0, .ref h0), (1, .ref 247), (2, .int x2)] [] I J) {x2 : Int32} {I : sI} {J : sJ} (hw : w_X2_countKinds_2_s h0 post k2 x2 I J) : sG X 3 2 [(0, .ref h0), (1, .ref 247), (2, .int x2)] [] I J := by
  unfold w_X2_countKinds_2_s at hw
  refine g_iload_n h rfl 2 rfl dX2_countKinds_2 ?_
  refine g_aload_n h rfl 1 rfl dX2_countKinds_3 ?_
  refine g_ilen h ar_247 dX2_countKinds_4 ?_
  refine g_icmp_ge (tgt := 18) h (by decide) dX2_countKinds_5 (fun q5 => ?_) (fun q5 => ?_)
  · replace hw := hw.1 q5
    refine g_iconst (v := 0) h (by decide) dX2_countKinds_18 ?_
    refine g_istore_n (lo2 := [(2, .int 0), (0, .ref h0), (1, .ref 247)]) h rfl (by decide) rfl dX2_countKinds_19 ?_
    exact g_sub [1, 2, 0] rfl (t_X2_countKinds_20 ph0 h hr hw)
  · replace hw := hw.2 q5
    refine g_aload_n h rfl 1 rfl dX2_countKinds_8 ?_
    refine g_iload_n h rfl 2 rfl dX2_countKinds_9 ?_
    refine g_iconst (v := 0) h (by decide) dX2_countKinds_10 ?_
    obtain ⟨hi11, hw⟩ := hw
    refine g_iast h ar_247 hi11 dX2_countKinds_11 ?_
    refine g_nI (fun I_11 eI_11 => ?_)
    replace hw := hw I_11 eI_11
    obtain ⟨v2_12, ev2_12⟩ : ∃ z : Int32, z = x2 + 1 := ⟨_, rfl⟩
    replace hw := hw v2_12 ev2_12
    refine g_iinc (v := v2_12) (lo2 := [(2, .int v2_12), (0, .ref h0), (1, .ref 247)]) h 2 rfl (by rw [ev2_12]; rfl) (by decide) rfl dX2_countKinds_12 ?_
    refine g_goto (tgt := 2) h (by decide) dX2_countKinds_15 ?_
    exact g_sub [1, 2, 0] rfl (hk2 _ _ _ hw)
theorem t_X2_countKinds_2 {X : sX} {h0 : Nat} (ph0 : sIs h0 2) {post : sI → sJ → Prop} (h : sOK X cX2_countKinds RX2 3 0 0) (hr : sRt X none (sPv post)) {x2 : Int32} {I : sI} {J : sJ} (hw : w_X2_countKinds_2 h0 post x2 I J) : sG X 3 2 [(0, .ref h0), (1, .ref 247), (2, .int x2)] [] I J := by
  obtain ⟨n, hw⟩ := hw
  induction n generalizing x2 I J with
  | zero => exact hw.elim
  | succ n ih => exact t_X2_countKinds_2_s ph0 h hr (fun _ _ _ q => ih q) hw
def w_X2_countKinds (h0 : Nat) (I : sI) (J : sJ) (post : sI → sJ → Prop) : Prop :=
  w_X2_countKinds_2 h0 post 0 I J
set_option maxHeartbeats 4000000 in
set_option maxRecDepth 100000 in
theorem t_X2_countKinds {X : sX} {h0 : Nat} (ph0 : sIs h0 2) {I : sI} {J : sJ} {post : sI → sJ → Prop} (h : sOK X cX2_countKinds RX2 3 0 0) (hr : sRt X none (sPv post)) (hw : w_X2_countKinds h0 I J post) : sG X 3 0 [(0, .ref h0), (1, .ref 247)] [] I J := by
  unfold w_X2_countKinds at hw
  refine g_iconst (v := 0) h (by decide) dX2_countKinds_0 ?_
  refine g_istore_n (lo2 := [(2, .int 0), (0, .ref h0), (1, .ref 247)]) h rfl (by decide) rfl dX2_countKinds_1 ?_
  exact g_sub [1, 2, 0] rfl (t_X2_countKinds_2 ph0 h hr hw)
theorem c_X2_countKinds (X : sX) {h0 : Nat} (ph0 : sIs h0 2) {I : sI} {J : sJ} {post : sI → sJ → Prop} (hw : w_X2_countKinds h0 I J post) : sCall X yX2_countKinds cX2_countKinds 3 none 0 0 [.ref h0, .ref 247] I J (sPv post) := sCall_of (by decide +kernel) (Nat.le_of_ble_eq_true rfl) (fun X h hr => t_X2_countKinds ph0 h hr hw)
theorem dX2_clear_0 : decode cX2_clear 0 = .ok (.aload_n 0, 1) := by decide +kernel
theorem dX2_clear_1 : decode cX2_clear 1 = .ok (.iload_n 1, 1) := by decide +kernel
theorem dX2_clear_2 : decode cX2_clear 2 = .ok (.invokevirtual 40, 3) := by decide +kernel
theorem dX2_clear_5 : decode cX2_clear 5 = .ok (.iload_n 2, 1) := by decide +kernel
theorem dX2_clear_6 : decode cX2_clear 6 = .ok (.if_icmp .eq 5, 3) := by decide +kernel
theorem dX2_clear_9 : decode cX2_clear 9 = .ok (.iconst 0, 1) := by decide +kernel
theorem dX2_clear_10 : decode cX2_clear 10 = .ok (.ireturn, 1) := by decide +kernel
theorem dX2_clear_11 : decode cX2_clear 11 = .ok (.aload_n 0, 1) := by decide +kernel
theorem dX2_clear_12 : decode cX2_clear 12 = .ok (.getfield 18, 3) := by decide +kernel
theorem dX2_clear_15 : decode cX2_clear 15 = .ok (.iload_n 1, 1) := by decide +kernel
theorem dX2_clear_16 : decode cX2_clear 16 = .ok (.iaload, 1) := by decide +kernel
theorem dX2_clear_17 : decode cX2_clear 17 = .ok (.istore_n 3, 1) := by decide +kernel
theorem dX2_clear_18 : decode cX2_clear 18 = .ok (.iload_n 3, 1) := by decide +kernel
theorem dX2_clear_19 : decode cX2_clear 19 = .ok (.aload_n 0, 1) := by decide +kernel
theorem dX2_clear_20 : decode cX2_clear 20 = .ok (.getfield 18, 3) := by decide +kernel
theorem dX2_clear_23 : decode cX2_clear 23 = .ok (.iload_n 1, 1) := by decide +kernel
theorem dX2_clear_24 : decode cX2_clear 24 = .ok (.iconst 1, 1) := by decide +kernel
theorem dX2_clear_25 : decode cX2_clear 25 = .ok (.iadd, 1) := by decide +kernel
theorem dX2_clear_26 : decode cX2_clear 26 = .ok (.iaload, 1) := by decide +kernel
theorem dX2_clear_27 : decode cX2_clear 27 = .ok (.if_icmp .ge 22, 3) := by decide +kernel
theorem dX2_clear_30 : decode cX2_clear 30 = .ok (.aload_n 0, 1) := by decide +kernel
theorem dX2_clear_31 : decode cX2_clear 31 = .ok (.getfield 9, 3) := by decide +kernel
theorem dX2_clear_34 : decode cX2_clear 34 = .ok (.iload_n 3, 1) := by decide +kernel
theorem dX2_clear_35 : decode cX2_clear 35 = .ok (.iaload, 1) := by decide +kernel
theorem dX2_clear_36 : decode cX2_clear 36 = .ok (.bipush 12, 2) := by decide +kernel
theorem dX2_clear_38 : decode cX2_clear 38 = .ok (.if_icmp .ne 5, 3) := by decide +kernel
theorem dX2_clear_41 : decode cX2_clear 41 = .ok (.iconst 0, 1) := by decide +kernel
theorem dX2_clear_42 : decode cX2_clear 42 = .ok (.ireturn, 1) := by decide +kernel
theorem dX2_clear_43 : decode cX2_clear 43 = .ok (.iinc 3 1, 3) := by decide +kernel
theorem dX2_clear_46 : decode cX2_clear 46 = .ok (.goto (-28), 3) := by decide +kernel
theorem dX2_clear_49 : decode cX2_clear 49 = .ok (.iconst 1, 1) := by decide +kernel
theorem dX2_clear_50 : decode cX2_clear 50 = .ok (.ireturn, 1) := by decide +kernel
def w_X2_clear_18_s (h0 : Nat) (post : Int32 → sI → sJ → Prop) (k18 : Int32 → Int32 → sI → sJ → Prop) (x1 : Int32) (x3 : Int32) (I : sI) (J : sJ) : Prop :=
  (vp_in (x1 + 1) 13 ∧ (((I (sR h0 2) (Int32.toNatClampNeg (x1 + 1))) ≤ x3 → post 1 I J) ∧ (¬ (I (sR h0 2) (Int32.toNatClampNeg (x1 + 1))) ≤ x3 → (vp_in x3 60 ∧ ((¬ (I (sR h0 0) (Int32.toNatClampNeg x3)) = 12 → (∀ v3_43 : Int32, v3_43 = x3 + 1 → k18 x1 v3_43 I J)) ∧ ((I (sR h0 0) (Int32.toNatClampNeg x3)) = 12 → post 0 I J))))))
def w_X2_clear_18_n (h0 : Nat) (post : Int32 → sI → sJ → Prop) : Nat → Int32 → Int32 → sI → sJ → Prop
  | 0 => fun _ _ _ _ => False
  | n + 1 => fun x1 x3 I J => w_X2_clear_18_s h0 post (w_X2_clear_18_n h0 post n) x1 x3 I J
def w_X2_clear_18 (h0 : Nat) (post : Int32 → sI → sJ → Prop) (x1 : Int32) (x3 : Int32) (I : sI) (J : sJ) : Prop := ∃ n, w_X2_clear_18_n h0 post n x1 x3 I J
set_option maxHeartbeats 4000000 in
set_option maxRecDepth 100000 in
theorem t_X2_clear_18_s {X : sX} {h0 : Nat} (ph0 : sIs h0 2) {post : Int32 → sI → sJ → Prop} (h : sOK X cX2_clear RX2 4 1 21) (hr : sRt X (some .boolean) (sPi post)) {k18 : Int32 → Int32 → sI → sJ → Prop} (hk18 : ∀ (x1 : Int32) (x3 : Int32) (I : sI) (J : sJ), k18 x1 x3 I J → sG X 4 18 [(0, .ref h0), (1, .int x1), (3, .int x3)] [] I J) {x1 : Int32} {x3 : Int32} {I : sI} {J : sJ} (hw : w_X2_clear_18_s h0 post k18 x1 x3 I J) : sG X 4 18 [(0, .ref h0), (1, .int x1), (3, .int x3)] [] I J := by
  unfold w_X2_clear_18_s at hw
  refine g_iload_n h rfl 2 rfl dX2_clear_18 ?_
  refine g_aload_n h rfl 0 rfl dX2_clear_19 ?_
  refine g_get h ph0 fl_X2_18 rfl dX2_clear_20 ?_
  refine g_iload_n h rfl 1 rfl dX2_clear_23 ?_
  refine g_iconst (v := 1) h (by decide) dX2_clear_24 ?_
  refine g_iadd h dX2_clear_25 ?_
  obtain ⟨hi26, hw⟩ := hw
  refine g_iald h (arF_2_2 ph0) hi26 dX2_clear_26 ?_
  refine g_icmp_ge (tgt := 49) h (by decide) dX2_clear_27 (fun q27 => ?_) (fun q27 => ?_)
  · replace hw := hw.1 q27
    refine g_iconst (v := 1) h (by decide) dX2_clear_49 ?_
    exact g_zret h hr (Or.inr rfl) dX2_clear_50 hw
  · replace hw := hw.2 q27
    refine g_aload_n h rfl 0 rfl dX2_clear_30 ?_
    refine g_get h ph0 fl_X2_9 rfl dX2_clear_31 ?_
    refine g_iload_n h rfl 2 rfl dX2_clear_34 ?_
    obtain ⟨hi35, hw⟩ := hw
    refine g_iald h (arF_2_0 ph0) hi35 dX2_clear_35 ?_
    refine g_bipush (v := 12) h (by decide) dX2_clear_36 ?_
    refine g_icmp_ne (tgt := 43) h (by decide) dX2_clear_38 (fun q38 => ?_) (fun q38 => ?_)
    · replace hw := hw.1 q38
      obtain ⟨v3_43, ev3_43⟩ : ∃ z : Int32, z = x3 + 1 := ⟨_, rfl⟩
      replace hw := hw v3_43 ev3_43
      refine g_iinc (v := v3_43) (lo2 := [(3, .int v3_43), (0, .ref h0), (1, .int x1)]) h 2 rfl (by rw [ev3_43]; rfl) (by decide) rfl dX2_clear_43 ?_
      refine g_goto (tgt := 18) h (by decide) dX2_clear_46 ?_
      exact g_sub [1, 2, 0] rfl (hk18 _ _ _ _ hw)
    · replace hw := hw.2 q38
      refine g_iconst (v := 0) h (by decide) dX2_clear_41 ?_
      exact g_zret h hr (Or.inl rfl) dX2_clear_42 hw
theorem t_X2_clear_18 {X : sX} {h0 : Nat} (ph0 : sIs h0 2) {post : Int32 → sI → sJ → Prop} (h : sOK X cX2_clear RX2 4 1 21) (hr : sRt X (some .boolean) (sPi post)) {x1 : Int32} {x3 : Int32} {I : sI} {J : sJ} (hw : w_X2_clear_18 h0 post x1 x3 I J) : sG X 4 18 [(0, .ref h0), (1, .int x1), (3, .int x3)] [] I J := by
  obtain ⟨n, hw⟩ := hw
  induction n generalizing x1 x3 I J with
  | zero => exact hw.elim
  | succ n ih => exact t_X2_clear_18_s ph0 h hr (fun _ _ _ _ q => ih q) hw
def w_X2_clear (h0 : Nat) (a1 : Int32) (a2 : Int32) (I : sI) (J : sJ) (post : Int32 → sI → sJ → Prop) : Prop :=
  w_X2_lengthOf h0 a1 I J (fun (r_2 : Int32) (I_2 : sI) (J_2 : sJ) => (((r_2 = a2 → (vp_in a1 13 ∧ (∀ v3_17 : Int32, v3_17 = I_2 (sR h0 2) (Int32.toNatClampNeg a1) → w_X2_clear_18 h0 post a1 v3_17 I_2 J_2))) ∧ (¬ r_2 = a2 → post 0 I_2 J_2))))
set_option maxHeartbeats 4000000 in
set_option maxRecDepth 100000 in
theorem t_X2_clear {X : sX} {h0 : Nat} {a1 : Int32} {a2 : Int32} (ph0 : sIs h0 2) {I : sI} {J : sJ} {post : Int32 → sI → sJ → Prop} (h : sOK X cX2_clear RX2 4 1 21) (hr : sRt X (some .boolean) (sPi post)) (hw : w_X2_clear h0 a1 a2 I J post) : sG X 4 0 [(0, .ref h0), (1, .int a1), (2, .int a2)] [] I J := by
  unfold w_X2_clear at hw
  refine g_aload_n h rfl 0 rfl dX2_clear_0 ?_
  refine g_iload_n h rfl 1 rfl dX2_clear_1 ?_
  refine g_callV [.int a1] h (c_X2_lengthOf X ph0 hw) sPi_v mw_X2_lengthOf lk_X2_40 ph0 rfl rfl ⟨by decide, by decide⟩ (Nat.le_of_ble_eq_true rfl) dX2_clear_2 (sPi_k (fun r_2 I_2 J_2 hw => ?_))
  refine g_iload_n h rfl 2 rfl dX2_clear_5 ?_
  refine g_icmp_eq (tgt := 11) h (by decide) dX2_clear_6 (fun q6 => ?_) (fun q6 => ?_)
  · replace hw := hw.1 q6
    refine g_aload_n h rfl 0 rfl dX2_clear_11 ?_
    refine g_get h ph0 fl_X2_18 rfl dX2_clear_12 ?_
    refine g_iload_n h rfl 1 rfl dX2_clear_15 ?_
    obtain ⟨hi16, hw⟩ := hw
    refine g_iald h (arF_2_2 ph0) hi16 dX2_clear_16 ?_
    refine g_ni (fun v3_17 ev3_17 => ?_)
    replace hw := hw v3_17 ev3_17
    refine g_istore_n (lo2 := [(3, .int v3_17), (0, .ref h0), (1, .int a1), (2, .int a2)]) h rfl (by decide) rfl dX2_clear_17 ?_
    exact g_sub [1, 2, 0] rfl (t_X2_clear_18 ph0 h hr hw)
  · replace hw := hw.2 q6
    refine g_iconst (v := 0) h (by decide) dX2_clear_9 ?_
    exact g_zret h hr (Or.inl rfl) dX2_clear_10 hw
theorem c_X2_clear (X : sX) {h0 : Nat} {a1 : Int32} {a2 : Int32} (ph0 : sIs h0 2) {I : sI} {J : sJ} {post : Int32 → sI → sJ → Prop} (hw : w_X2_clear h0 a1 a2 I J post) : sCall X yX2_clear cX2_clear 4 (some .boolean) 1 21 [.ref h0, .int a1, .int a2] I J (sPi post) := sCall_of (by decide +kernel) (Nat.le_of_ble_eq_true rfl) (fun X h hr => t_X2_clear ph0 h hr hw)
theorem dX2_sameSigns_0 : decode cX2_sameSigns 0 = .ok (.iconst 0, 1) := by decide +kernel
theorem dX2_sameSigns_1 : decode cX2_sameSigns 1 = .ok (.istore 4, 2) := by decide +kernel
theorem dX2_sameSigns_3 : decode cX2_sameSigns 3 = .ok (.iload 4, 2) := by decide +kernel
theorem dX2_sameSigns_5 : decode cX2_sameSigns 5 = .ok (.iload_n 3, 1) := by decide +kernel
theorem dX2_sameSigns_6 : decode cX2_sameSigns 6 = .ok (.if_icmp .ge 46, 3) := by decide +kernel
theorem dX2_sameSigns_9 : decode cX2_sameSigns 9 = .ok (.aload_n 0, 1) := by decide +kernel
theorem dX2_sameSigns_10 : decode cX2_sameSigns 10 = .ok (.getfield 9, 3) := by decide +kernel
theorem dX2_sameSigns_13 : decode cX2_sameSigns 13 = .ok (.iload_n 1, 1) := by decide +kernel
theorem dX2_sameSigns_14 : decode cX2_sameSigns 14 = .ok (.iload 4, 2) := by decide +kernel
theorem dX2_sameSigns_16 : decode cX2_sameSigns 16 = .ok (.iadd, 1) := by decide +kernel
theorem dX2_sameSigns_17 : decode cX2_sameSigns 17 = .ok (.iaload, 1) := by decide +kernel
theorem dX2_sameSigns_18 : decode cX2_sameSigns 18 = .ok (.bipush 12, 2) := by decide +kernel
theorem dX2_sameSigns_20 : decode cX2_sameSigns 20 = .ok (.if_icmp .eq 24, 3) := by decide +kernel
theorem dX2_sameSigns_23 : decode cX2_sameSigns 23 = .ok (.aload_n 0, 1) := by decide +kernel
theorem dX2_sameSigns_24 : decode cX2_sameSigns 24 = .ok (.getfield 9, 3) := by decide +kernel
theorem dX2_sameSigns_27 : decode cX2_sameSigns 27 = .ok (.iload_n 1, 1) := by decide +kernel
theorem dX2_sameSigns_28 : decode cX2_sameSigns 28 = .ok (.iload 4, 2) := by decide +kernel
theorem dX2_sameSigns_30 : decode cX2_sameSigns 30 = .ok (.iadd, 1) := by decide +kernel
theorem dX2_sameSigns_31 : decode cX2_sameSigns 31 = .ok (.iaload, 1) := by decide +kernel
theorem dX2_sameSigns_32 : decode cX2_sameSigns 32 = .ok (.aload_n 0, 1) := by decide +kernel
theorem dX2_sameSigns_33 : decode cX2_sameSigns 33 = .ok (.getfield 9, 3) := by decide +kernel
theorem dX2_sameSigns_36 : decode cX2_sameSigns 36 = .ok (.iload_n 2, 1) := by decide +kernel
theorem dX2_sameSigns_37 : decode cX2_sameSigns 37 = .ok (.iload 4, 2) := by decide +kernel
theorem dX2_sameSigns_39 : decode cX2_sameSigns 39 = .ok (.iadd, 1) := by decide +kernel
theorem dX2_sameSigns_40 : decode cX2_sameSigns 40 = .ok (.iaload, 1) := by decide +kernel
theorem dX2_sameSigns_41 : decode cX2_sameSigns 41 = .ok (.if_icmp .eq 5, 3) := by decide +kernel
theorem dX2_sameSigns_44 : decode cX2_sameSigns 44 = .ok (.iconst 0, 1) := by decide +kernel
theorem dX2_sameSigns_45 : decode cX2_sameSigns 45 = .ok (.ireturn, 1) := by decide +kernel
theorem dX2_sameSigns_46 : decode cX2_sameSigns 46 = .ok (.iinc 4 1, 3) := by decide +kernel
theorem dX2_sameSigns_49 : decode cX2_sameSigns 49 = .ok (.goto (-46), 3) := by decide +kernel
theorem dX2_sameSigns_52 : decode cX2_sameSigns 52 = .ok (.iconst 1, 1) := by decide +kernel
theorem dX2_sameSigns_53 : decode cX2_sameSigns 53 = .ok (.ireturn, 1) := by decide +kernel
def w_X2_sameSigns_3_s (h0 : Nat) (post : Int32 → sI → sJ → Prop) (k3 : Int32 → Int32 → Int32 → Int32 → sI → sJ → Prop) (x1 : Int32) (x2 : Int32) (x3 : Int32) (x4 : Int32) (I : sI) (J : sJ) : Prop :=
  ((x3 ≤ x4 → post 1 I J) ∧ (¬ x3 ≤ x4 → (vp_in (x1 + x4) 60 ∧ (((I (sR h0 0) (Int32.toNatClampNeg (x1 + x4))) = 12 → post 0 I J) ∧ (¬ (I (sR h0 0) (Int32.toNatClampNeg (x1 + x4))) = 12 → (vp_in (x1 + x4) 60 ∧ (vp_in (x2 + x4) 60 ∧ (((I (sR h0 0) (Int32.toNatClampNeg (x1 + x4))) = (I (sR h0 0) (Int32.toNatClampNeg (x2 + x4))) → (∀ v4_46 : Int32, v4_46 = x4 + 1 → k3 x1 x2 x3 v4_46 I J)) ∧ (¬ (I (sR h0 0) (Int32.toNatClampNeg (x1 + x4))) = (I (sR h0 0) (Int32.toNatClampNeg (x2 + x4))) → post 0 I J)))))))))
def w_X2_sameSigns_3_n (h0 : Nat) (post : Int32 → sI → sJ → Prop) : Nat → Int32 → Int32 → Int32 → Int32 → sI → sJ → Prop
  | 0 => fun _ _ _ _ _ _ => False
  | n + 1 => fun x1 x2 x3 x4 I J => w_X2_sameSigns_3_s h0 post (w_X2_sameSigns_3_n h0 post n) x1 x2 x3 x4 I J
def w_X2_sameSigns_3 (h0 : Nat) (post : Int32 → sI → sJ → Prop) (x1 : Int32) (x2 : Int32) (x3 : Int32) (x4 : Int32) (I : sI) (J : sJ) : Prop := ∃ n, w_X2_sameSigns_3_n h0 post n x1 x2 x3 x4 I J
set_option maxHeartbeats 4000000 in
set_option maxRecDepth 100000 in
theorem t_X2_sameSigns_3_s {X : sX} {h0 : Nat} (ph0 : sIs h0 2) {post : Int32 → sI → sJ → Prop} (h : sOK X cX2_sameSigns RX2 5 0 0) (hr : sRt X (some .boolean) (sPi post)) {k3 : Int32 → Int32 → Int32 → Int32 → sI → sJ → Prop} (hk3 : ∀ (x1 : Int32) (x2 : Int32) (x3 : Int32) (x4 : Int32) (I : sI) (J : sJ), k3 x1 x2 x3 x4 I J → sG X 5 3 [(0, .ref h0), (1, .int x1), (2, .int x2), (3, .int x3), (4, .int x4)] [] I J) {x1 : Int32} {x2 : Int32} {x3 : Int32} {x4 : Int32} {I : sI} {J : sJ} (hw : w_X2_sameSigns_3_s h0 post k3 x1 x2 x3 x4 I J) : sG X 5 3 [(0, .ref h0), (1, .int x1), (2, .int x2), (3, .int x3), (4, .int x4)] [] I J := by
  unfold w_X2_sameSigns_3_s at hw
  refine g_iload h 4 rfl dX2_sameSigns_3 ?_
  refine g_iload_n h rfl 3 rfl dX2_sameSigns_5 ?_
  refine g_icmp_ge (tgt := 52) h (by decide) dX2_sameSigns_6 (fun q6 => ?_) (fun q6 => ?_)
  · replace hw := hw.1 q6
    refine g_iconst (v := 1) h (by decide) dX2_sameSigns_52 ?_
    exact g_zret h hr (Or.inr rfl) dX2_sameSigns_53 hw
  · replace hw := hw.2 q6
    refine g_aload_n h rfl 0 rfl dX2_sameSigns_9 ?_
    refine g_get h ph0 fl_X2_9 rfl dX2_sameSigns_10 ?_
    refine g_iload_n h rfl 1 rfl dX2_sameSigns_13 ?_
    refine g_iload h 4 rfl dX2_sameSigns_14 ?_
    refine g_iadd h dX2_sameSigns_16 ?_
    obtain ⟨hi17, hw⟩ := hw
    refine g_iald h (arF_2_0 ph0) hi17 dX2_sameSigns_17 ?_
    refine g_bipush (v := 12) h (by decide) dX2_sameSigns_18 ?_
    refine g_icmp_eq (tgt := 44) h (by decide) dX2_sameSigns_20 (fun q20 => ?_) (fun q20 => ?_)
    · replace hw := hw.1 q20
      refine g_iconst (v := 0) h (by decide) dX2_sameSigns_44 ?_
      exact g_zret h hr (Or.inl rfl) dX2_sameSigns_45 hw
    · replace hw := hw.2 q20
      refine g_aload_n h rfl 0 rfl dX2_sameSigns_23 ?_
      refine g_get h ph0 fl_X2_9 rfl dX2_sameSigns_24 ?_
      refine g_iload_n h rfl 1 rfl dX2_sameSigns_27 ?_
      refine g_iload h 4 rfl dX2_sameSigns_28 ?_
      refine g_iadd h dX2_sameSigns_30 ?_
      obtain ⟨hi31, hw⟩ := hw
      refine g_iald h (arF_2_0 ph0) hi31 dX2_sameSigns_31 ?_
      refine g_aload_n h rfl 0 rfl dX2_sameSigns_32 ?_
      refine g_get h ph0 fl_X2_9 rfl dX2_sameSigns_33 ?_
      refine g_iload_n h rfl 2 rfl dX2_sameSigns_36 ?_
      refine g_iload h 4 rfl dX2_sameSigns_37 ?_
      refine g_iadd h dX2_sameSigns_39 ?_
      obtain ⟨hi40, hw⟩ := hw
      refine g_iald h (arF_2_0 ph0) hi40 dX2_sameSigns_40 ?_
      refine g_icmp_eq (tgt := 46) h (by decide) dX2_sameSigns_41 (fun q41 => ?_) (fun q41 => ?_)
      · replace hw := hw.1 q41
        obtain ⟨v4_46, ev4_46⟩ : ∃ z : Int32, z = x4 + 1 := ⟨_, rfl⟩
        replace hw := hw v4_46 ev4_46
        refine g_iinc (v := v4_46) (lo2 := [(4, .int v4_46), (0, .ref h0), (1, .int x1), (2, .int x2), (3, .int x3)]) h 4 rfl (by rw [ev4_46]; rfl) (by decide) rfl dX2_sameSigns_46 ?_
        refine g_goto (tgt := 3) h (by decide) dX2_sameSigns_49 ?_
        exact g_sub [1, 2, 3, 4, 0] rfl (hk3 _ _ _ _ _ _ hw)
      · replace hw := hw.2 q41
        refine g_iconst (v := 0) h (by decide) dX2_sameSigns_44 ?_
        exact g_zret h hr (Or.inl rfl) dX2_sameSigns_45 hw
theorem t_X2_sameSigns_3 {X : sX} {h0 : Nat} (ph0 : sIs h0 2) {post : Int32 → sI → sJ → Prop} (h : sOK X cX2_sameSigns RX2 5 0 0) (hr : sRt X (some .boolean) (sPi post)) {x1 : Int32} {x2 : Int32} {x3 : Int32} {x4 : Int32} {I : sI} {J : sJ} (hw : w_X2_sameSigns_3 h0 post x1 x2 x3 x4 I J) : sG X 5 3 [(0, .ref h0), (1, .int x1), (2, .int x2), (3, .int x3), (4, .int x4)] [] I J := by
  obtain ⟨n, hw⟩ := hw
  induction n generalizing x1 x2 x3 x4 I J with
  | zero => exact hw.elim
  | succ n ih => exact t_X2_sameSigns_3_s ph0 h hr (fun _ _ _ _ _ _ q => ih q) hw
def w_X2_sameSigns (h0 : Nat) (a1 : Int32) (a2 : Int32) (a3 : Int32) (I : sI) (J : sJ) (post : Int32 → sI → sJ → Prop) : Prop :=
  w_X2_sameSigns_3 h0 post a1 a2 a3 0 I J
set_option maxHeartbeats 4000000 in
set_option maxRecDepth 100000 in
theorem t_X2_sameSigns {X : sX} {h0 : Nat} {a1 : Int32} {a2 : Int32} {a3 : Int32} (ph0 : sIs h0 2) {I : sI} {J : sJ} {post : Int32 → sI → sJ → Prop} (h : sOK X cX2_sameSigns RX2 5 0 0) (hr : sRt X (some .boolean) (sPi post)) (hw : w_X2_sameSigns h0 a1 a2 a3 I J post) : sG X 5 0 [(0, .ref h0), (1, .int a1), (2, .int a2), (3, .int a3)] [] I J := by
  unfold w_X2_sameSigns at hw
  refine g_iconst (v := 0) h (by decide) dX2_sameSigns_0 ?_
  refine g_istore (lo2 := [(4, .int 0), (0, .ref h0), (1, .int a1), (2, .int a2), (3, .int a3)]) h (by decide) rfl dX2_sameSigns_1 ?_
  exact g_sub [1, 2, 3, 4, 0] rfl (t_X2_sameSigns_3 ph0 h hr hw)
theorem c_X2_sameSigns (X : sX) {h0 : Nat} {a1 : Int32} {a2 : Int32} {a3 : Int32} (ph0 : sIs h0 2) {I : sI} {J : sJ} {post : Int32 → sI → sJ → Prop} (hw : w_X2_sameSigns h0 a1 a2 a3 I J post) : sCall X yX2_sameSigns cX2_sameSigns 5 (some .boolean) 0 0 [.ref h0, .int a1, .int a2, .int a3] I J (sPi post) := sCall_of (by decide +kernel) (Nat.le_of_ble_eq_true rfl) (fun X h hr => t_X2_sameSigns ph0 h hr hw)
theorem dX3_bind_0 : decode cX3_bind 0 = .ok (.iload_n 1, 1) := by decide +kernel
theorem dX3_bind_1 : decode cX3_bind 1 = .ok (.aload_n 0, 1) := by decide +kernel
theorem dX3_bind_2 : decode cX3_bind 2 = .ok (.getfield 25, 3) := by decide +kernel
theorem dX3_bind_5 : decode cX3_bind 5 = .ok (.if_icmp .ge 23, 3) := by decide +kernel
theorem dX3_bind_8 : decode cX3_bind 8 = .ok (.iload_n 2, 1) := by decide +kernel
theorem dX3_bind_9 : decode cX3_bind 9 = .ok (.aload_n 0, 1) := by decide +kernel
theorem dX3_bind_10 : decode cX3_bind 10 = .ok (.getfield 25, 3) := by decide +kernel
theorem dX3_bind_13 : decode cX3_bind 13 = .ok (.if_icmp .ge 15, 3) := by decide +kernel
theorem dX3_bind_16 : decode cX3_bind 16 = .ok (.aload_n 0, 1) := by decide +kernel
theorem dX3_bind_17 : decode cX3_bind 17 = .ok (.getfield 15, 3) := by decide +kernel
theorem dX3_bind_20 : decode cX3_bind 20 = .ok (.iload_n 1, 1) := by decide +kernel
theorem dX3_bind_21 : decode cX3_bind 21 = .ok (.dup2, 1) := by decide +kernel
theorem dX3_bind_22 : decode cX3_bind 22 = .ok (.iaload, 1) := by decide +kernel
theorem dX3_bind_23 : decode cX3_bind 23 = .ok (.iconst 1, 1) := by decide +kernel
theorem dX3_bind_24 : decode cX3_bind 24 = .ok (.iload_n 2, 1) := by decide +kernel
theorem dX3_bind_25 : decode cX3_bind 25 = .ok (.ishl, 1) := by decide +kernel
theorem dX3_bind_26 : decode cX3_bind 26 = .ok (.ior, 1) := by decide +kernel
theorem dX3_bind_27 : decode cX3_bind 27 = .ok (.iastore, 1) := by decide +kernel
theorem dX3_bind_28 : decode cX3_bind 28 = .ok (.return_, 1) := by decide +kernel
def w_X3_bind (a1 : Int32) (a2 : Int32) (I : sI) (J : sJ) (post : sI → sJ → Prop) : Prop :=
  (((I 224 2) ≤ a1 → post I J) ∧ (¬ (I 224 2) ≤ a1 → (((I 224 2) ≤ a2 → post I J) ∧ (¬ (I 224 2) ≤ a2 → (vp_in a1 14 ∧ (vp_in a1 14 ∧ (∀ I_27 : sI, I_27 = sUI I 226 (Int32.toNatClampNeg a1) ((I 226 (Int32.toNatClampNeg a1)) ||| (1 <<< (a2 &&& 31))) → post I_27 J)))))))
set_option maxHeartbeats 4000000 in
set_option maxRecDepth 100000 in
theorem t_X3_bind {X : sX} {a1 : Int32} {a2 : Int32} {I : sI} {J : sJ} {post : sI → sJ → Prop} (h : sOK X cX3_bind RX3 3 0 0) (hr : sRt X none (sPv post)) (hw : w_X3_bind a1 a2 I J post) : sG X 3 0 [(0, .ref 224), (1, .int a1), (2, .int a2)] [] I J := by
  unfold w_X3_bind at hw
  refine g_iload_n h rfl 1 rfl dX3_bind_0 ?_
  refine g_aload_n h rfl 0 rfl dX3_bind_1 ?_
  refine g_get h is_224 fl_X3_25 rfl dX3_bind_2 ?_
  refine g_icmp_ge (tgt := 28) h (by decide) dX3_bind_5 (fun q5 => ?_) (fun q5 => ?_)
  · replace hw := hw.1 q5
    exact g_vret h hr dX3_bind_28 hw
  · replace hw := hw.2 q5
    refine g_iload_n h rfl 2 rfl dX3_bind_8 ?_
    refine g_aload_n h rfl 0 rfl dX3_bind_9 ?_
    refine g_get h is_224 fl_X3_25 rfl dX3_bind_10 ?_
    refine g_icmp_ge (tgt := 28) h (by decide) dX3_bind_13 (fun q13 => ?_) (fun q13 => ?_)
    · replace hw := hw.1 q13
      exact g_vret h hr dX3_bind_28 hw
    · replace hw := hw.2 q13
      refine g_aload_n h rfl 0 rfl dX3_bind_16 ?_
      refine g_get h is_224 fl_X3_15 fr_224_1 dX3_bind_17 ?_
      refine g_iload_n h rfl 1 rfl dX3_bind_20 ?_
      refine g_dup2 h rfl rfl dX3_bind_21 ?_
      obtain ⟨hi22, hw⟩ := hw
      refine g_iald h ar_226 hi22 dX3_bind_22 ?_
      refine g_iconst (v := 1) h (by decide) dX3_bind_23 ?_
      refine g_iload_n h rfl 2 rfl dX3_bind_24 ?_
      refine g_ishl h dX3_bind_25 ?_
      refine g_ior h dX3_bind_26 ?_
      obtain ⟨hi27, hw⟩ := hw
      refine g_iast h ar_226 hi27 dX3_bind_27 ?_
      refine g_nI (fun I_27 eI_27 => ?_)
      replace hw := hw I_27 eI_27
      exact g_vret h hr dX3_bind_28 hw
theorem c_X3_bind (X : sX) {a1 : Int32} {a2 : Int32} {I : sI} {J : sJ} {post : sI → sJ → Prop} (hw : w_X3_bind a1 a2 I J post) : sCall X yX3_bind cX3_bind 3 none 0 0 [.ref 224, .int a1, .int a2] I J (sPv post) := sCall_of (by decide +kernel) (Nat.le_of_ble_eq_true rfl) (fun X h hr => t_X3_bind h hr hw)
theorem dX3_open_0 : decode cX3_open 0 = .ok (.aload_n 0, 1) := by decide +kernel
theorem dX3_open_1 : decode cX3_open 1 = .ok (.iload_n 1, 1) := by decide +kernel
theorem dX3_open_2 : decode cX3_open 2 = .ok (.bipush 14, 2) := by decide +kernel
theorem dX3_open_4 : decode cX3_open 4 = .ok (.invokestatic 19, 3) := by decide +kernel
theorem dX3_open_7 : decode cX3_open 7 = .ok (.putfield 25, 3) := by decide +kernel
theorem dX3_open_10 : decode cX3_open 10 = .ok (.iconst 0, 1) := by decide +kernel
theorem dX3_open_11 : decode cX3_open 11 = .ok (.istore_n 3, 1) := by decide +kernel
theorem dX3_open_12 : decode cX3_open 12 = .ok (.iload_n 3, 1) := by decide +kernel
theorem dX3_open_13 : decode cX3_open 13 = .ok (.aload_n 0, 1) := by decide +kernel
theorem dX3_open_14 : decode cX3_open 14 = .ok (.getfield 25, 3) := by decide +kernel
theorem dX3_open_17 : decode cX3_open 17 = .ok (.if_icmp .ge 16, 3) := by decide +kernel
theorem dX3_open_20 : decode cX3_open 20 = .ok (.aload_n 0, 1) := by decide +kernel
theorem dX3_open_21 : decode cX3_open 21 = .ok (.getfield 15, 3) := by decide +kernel
theorem dX3_open_24 : decode cX3_open 24 = .ok (.iload_n 3, 1) := by decide +kernel
theorem dX3_open_25 : decode cX3_open 25 = .ok (.iconst 0, 1) := by decide +kernel
theorem dX3_open_26 : decode cX3_open 26 = .ok (.iastore, 1) := by decide +kernel
theorem dX3_open_27 : decode cX3_open 27 = .ok (.iinc 3 1, 3) := by decide +kernel
theorem dX3_open_30 : decode cX3_open 30 = .ok (.goto (-18), 3) := by decide +kernel
theorem dX3_open_33 : decode cX3_open 33 = .ok (.iconst 0, 1) := by decide +kernel
theorem dX3_open_34 : decode cX3_open 34 = .ok (.istore_n 3, 1) := by decide +kernel
theorem dX3_open_35 : decode cX3_open 35 = .ok (.iload_n 3, 1) := by decide +kernel
theorem dX3_open_36 : decode cX3_open 36 = .ok (.aload_n 2, 1) := by decide +kernel
theorem dX3_open_37 : decode cX3_open 37 = .ok (.getfield 29, 3) := by decide +kernel
theorem dX3_open_40 : decode cX3_open 40 = .ok (.if_icmp .ge 25, 3) := by decide +kernel
theorem dX3_open_43 : decode cX3_open 43 = .ok (.aload_n 0, 1) := by decide +kernel
theorem dX3_open_44 : decode cX3_open 44 = .ok (.aload_n 2, 1) := by decide +kernel
theorem dX3_open_45 : decode cX3_open 45 = .ok (.getfield 34, 3) := by decide +kernel
theorem dX3_open_48 : decode cX3_open 48 = .ok (.iload_n 3, 1) := by decide +kernel
theorem dX3_open_49 : decode cX3_open 49 = .ok (.iaload, 1) := by decide +kernel
theorem dX3_open_50 : decode cX3_open 50 = .ok (.aload_n 2, 1) := by decide +kernel
theorem dX3_open_51 : decode cX3_open 51 = .ok (.getfield 37, 3) := by decide +kernel
theorem dX3_open_54 : decode cX3_open 54 = .ok (.iload_n 3, 1) := by decide +kernel
theorem dX3_open_55 : decode cX3_open 55 = .ok (.iaload, 1) := by decide +kernel
theorem dX3_open_56 : decode cX3_open 56 = .ok (.invokevirtual 40, 3) := by decide +kernel
theorem dX3_open_59 : decode cX3_open 59 = .ok (.iinc 3 1, 3) := by decide +kernel
theorem dX3_open_62 : decode cX3_open 62 = .ok (.goto (-27), 3) := by decide +kernel
theorem dX3_open_65 : decode cX3_open 65 = .ok (.return_, 1) := by decide +kernel
def w_X3_open_35_s (h2 : Nat) (post : sI → sJ → Prop) (k35 : Int32 → sI → sJ → Prop) (x3 : Int32) (I : sI) (J : sJ) : Prop :=
  (((I h2 2) ≤ x3 → post I J) ∧ (¬ (I h2 2) ≤ x3 → (vp_in x3 12 ∧ (vp_in x3 12 ∧ w_X3_bind (I (sR h2 0) (Int32.toNatClampNeg x3)) (I (sR h2 1) (Int32.toNatClampNeg x3)) I J (fun (I_56 : sI) (J_56 : sJ) => ((∀ v3_59 : Int32, v3_59 = x3 + 1 → k35 v3_59 I_56 J_56)))))))
def w_X3_open_35_n (h2 : Nat) (post : sI → sJ → Prop) : Nat → Int32 → sI → sJ → Prop
  | 0 => fun _ _ _ => False
  | n + 1 => fun x3 I J => w_X3_open_35_s h2 post (w_X3_open_35_n h2 post n) x3 I J
def w_X3_open_35 (h2 : Nat) (post : sI → sJ → Prop) (x3 : Int32) (I : sI) (J : sJ) : Prop := ∃ n, w_X3_open_35_n h2 post n x3 I J
set_option maxHeartbeats 4000000 in
set_option maxRecDepth 100000 in
theorem t_X3_open_35_s {X : sX} {h2 : Nat} (ph2 : sIs h2 4) {post : sI → sJ → Prop} (h : sOK X cX3_open RX3 4 1 22) (hr : sRt X none (sPv post)) {k35 : Int32 → sI → sJ → Prop} (hk35 : ∀ (x3 : Int32) (I : sI) (J : sJ), k35 x3 I J → sG X 4 35 [(0, .ref 224), (2, .ref h2), (3, .int x3)] [] I J) {x3 : Int32} {I : sI} {J : sJ} (hw : w_X3_open_35_s h2 post k35 x3 I J) : sG X 4 35 [(0, .ref 224), (2, .ref h2), (3, .int x3)] [] I J := by
  unfold w_X3_open_35_s at hw
  refine g_iload_n h rfl 2 rfl dX3_open_35 ?_
  refine g_aload_n h rfl 1 rfl dX3_open_36 ?_
  refine g_get h ph2 fl_X3_29 rfl dX3_open_37 ?_
  refine g_icmp_ge (tgt := 65) h (by decide) dX3_open_40 (fun q40 => ?_) (fun q40 => ?_)
  · replace hw := hw.1 q40
    exact g_vret h hr dX3_open_65 hw
  · replace hw := hw.2 q40
    refine g_aload_n h rfl 0 rfl dX3_open_43 ?_
    refine g_aload_n h rfl 1 rfl dX3_open_44 ?_
    refine g_get h ph2 fl_X3_34 rfl dX3_open_45 ?_
    refine g_iload_n h rfl 2 rfl dX3_open_48 ?_
    obtain ⟨hi49, hw⟩ := hw
    refine g_iald h (arF_4_0 ph2) hi49 dX3_open_49 ?_
    refine g_aload_n h rfl 1 rfl dX3_open_50 ?_
    refine g_get h ph2 fl_X3_37 rfl dX3_open_51 ?_
    refine g_iload_n h rfl 2 rfl dX3_open_54 ?_
    obtain ⟨hi55, hw⟩ := hw
    refine g_iald h (arF_4_1 ph2) hi55 dX3_open_55 ?_
    refine g_callV [.int (I (sR h2 0) (Int32.toNatClampNeg x3)), .int (I (sR h2 1) (Int32.toNatClampNeg x3))] h (c_X3_bind X hw) sPv_v mw_X3_bind lk_X3_40 is_224 rfl rfl ⟨by decide, by decide⟩ (Nat.le_of_ble_eq_true rfl) dX3_open_56 (sPv_k (fun I_56 J_56 hw => ?_))
    obtain ⟨v3_59, ev3_59⟩ : ∃ z : Int32, z = x3 + 1 := ⟨_, rfl⟩
    replace hw := hw v3_59 ev3_59
    refine g_iinc (v := v3_59) (lo2 := [(3, .int v3_59), (0, .ref 224), (2, .ref h2)]) h 2 rfl (by rw [ev3_59]; rfl) (by decide) rfl dX3_open_59 ?_
    refine g_goto (tgt := 35) h (by decide) dX3_open_62 ?_
    exact g_sub [1, 2, 0] rfl (hk35 _ _ _ hw)
theorem t_X3_open_35 {X : sX} {h2 : Nat} (ph2 : sIs h2 4) {post : sI → sJ → Prop} (h : sOK X cX3_open RX3 4 1 22) (hr : sRt X none (sPv post)) {x3 : Int32} {I : sI} {J : sJ} (hw : w_X3_open_35 h2 post x3 I J) : sG X 4 35 [(0, .ref 224), (2, .ref h2), (3, .int x3)] [] I J := by
  obtain ⟨n, hw⟩ := hw
  induction n generalizing x3 I J with
  | zero => exact hw.elim
  | succ n ih => exact t_X3_open_35_s ph2 h hr (fun _ _ _ q => ih q) hw
def w_X3_open_12_s (h2 : Nat) (post : sI → sJ → Prop) (k12 : Int32 → sI → sJ → Prop) (x3 : Int32) (I : sI) (J : sJ) : Prop :=
  (((I 224 2) ≤ x3 → w_X3_open_35 h2 post 0 I J) ∧ (¬ (I 224 2) ≤ x3 → (vp_in x3 14 ∧ (∀ I_26 : sI, I_26 = sUI I 226 (Int32.toNatClampNeg x3) 0 → (∀ v3_27 : Int32, v3_27 = x3 + 1 → k12 v3_27 I_26 J)))))
def w_X3_open_12_n (h2 : Nat) (post : sI → sJ → Prop) : Nat → Int32 → sI → sJ → Prop
  | 0 => fun _ _ _ => False
  | n + 1 => fun x3 I J => w_X3_open_12_s h2 post (w_X3_open_12_n h2 post n) x3 I J
def w_X3_open_12 (h2 : Nat) (post : sI → sJ → Prop) (x3 : Int32) (I : sI) (J : sJ) : Prop := ∃ n, w_X3_open_12_n h2 post n x3 I J
set_option maxHeartbeats 4000000 in
set_option maxRecDepth 100000 in
theorem t_X3_open_12_s {X : sX} {h2 : Nat} (ph2 : sIs h2 4) {post : sI → sJ → Prop} (h : sOK X cX3_open RX3 4 1 22) (hr : sRt X none (sPv post)) {k12 : Int32 → sI → sJ → Prop} (hk12 : ∀ (x3 : Int32) (I : sI) (J : sJ), k12 x3 I J → sG X 4 12 [(0, .ref 224), (2, .ref h2), (3, .int x3)] [] I J) {x3 : Int32} {I : sI} {J : sJ} (hw : w_X3_open_12_s h2 post k12 x3 I J) : sG X 4 12 [(0, .ref 224), (2, .ref h2), (3, .int x3)] [] I J := by
  unfold w_X3_open_12_s at hw
  refine g_iload_n h rfl 2 rfl dX3_open_12 ?_
  refine g_aload_n h rfl 0 rfl dX3_open_13 ?_
  refine g_get h is_224 fl_X3_25 rfl dX3_open_14 ?_
  refine g_icmp_ge (tgt := 33) h (by decide) dX3_open_17 (fun q17 => ?_) (fun q17 => ?_)
  · replace hw := hw.1 q17
    refine g_iconst (v := 0) h (by decide) dX3_open_33 ?_
    refine g_istore_n (lo2 := [(3, .int 0), (0, .ref 224), (2, .ref h2)]) h rfl (by decide) rfl dX3_open_34 ?_
    exact g_sub [1, 2, 0] rfl (t_X3_open_35 ph2 h hr hw)
  · replace hw := hw.2 q17
    refine g_aload_n h rfl 0 rfl dX3_open_20 ?_
    refine g_get h is_224 fl_X3_15 fr_224_1 dX3_open_21 ?_
    refine g_iload_n h rfl 2 rfl dX3_open_24 ?_
    refine g_iconst (v := 0) h (by decide) dX3_open_25 ?_
    obtain ⟨hi26, hw⟩ := hw
    refine g_iast h ar_226 hi26 dX3_open_26 ?_
    refine g_nI (fun I_26 eI_26 => ?_)
    replace hw := hw I_26 eI_26
    obtain ⟨v3_27, ev3_27⟩ : ∃ z : Int32, z = x3 + 1 := ⟨_, rfl⟩
    replace hw := hw v3_27 ev3_27
    refine g_iinc (v := v3_27) (lo2 := [(3, .int v3_27), (0, .ref 224), (2, .ref h2)]) h 2 rfl (by rw [ev3_27]; rfl) (by decide) rfl dX3_open_27 ?_
    refine g_goto (tgt := 12) h (by decide) dX3_open_30 ?_
    exact g_sub [1, 2, 0] rfl (hk12 _ _ _ hw)
theorem t_X3_open_12 {X : sX} {h2 : Nat} (ph2 : sIs h2 4) {post : sI → sJ → Prop} (h : sOK X cX3_open RX3 4 1 22) (hr : sRt X none (sPv post)) {x3 : Int32} {I : sI} {J : sJ} (hw : w_X3_open_12 h2 post x3 I J) : sG X 4 12 [(0, .ref 224), (2, .ref h2), (3, .int x3)] [] I J := by
  obtain ⟨n, hw⟩ := hw
  induction n generalizing x3 I J with
  | zero => exact hw.elim
  | succ n ih => exact t_X3_open_12_s ph2 h hr (fun _ _ _ q => ih q) hw
def w_X3_open (a1 : Int32) (h2 : Nat) (I : sI) (J : sJ) (post : sI → sJ → Prop) : Prop :=
  w_J9_min_7cf53 a1 14 I J (fun (r_4 : Int32) (I_4 : sI) (J_4 : sJ) => ((∀ I_7 : sI, I_7 = sUI I_4 224 2 r_4 → w_X3_open_12 h2 post 0 I_7 J_4)))
set_option maxHeartbeats 4000000 in
set_option maxRecDepth 100000 in
theorem t_X3_open {X : sX} {a1 : Int32} {h2 : Nat} (ph2 : sIs h2 4) {I : sI} {J : sJ} {post : sI → sJ → Prop} (h : sOK X cX3_open RX3 4 1 22) (hr : sRt X none (sPv post)) (hw : w_X3_open a1 h2 I J post) : sG X 4 0 [(0, .ref 224), (1, .int a1), (2, .ref h2)] [] I J := by
  unfold w_X3_open at hw
  refine g_aload_n h rfl 0 rfl dX3_open_0 ?_
  refine g_iload_n h rfl 1 rfl dX3_open_1 ?_
  refine g_bipush (v := 14) h (by decide) dX3_open_2 ?_
  refine g_callS [.int a1, .int 14] h (c_J9_min_7cf53 X hw) sPi_v mw_J9_min_7cf53 lk_X3_19 rfl ⟨by decide, by decide⟩ (Nat.le_of_ble_eq_true rfl) dX3_open_4 (sPi_k (fun r_4 I_4 J_4 hw => ?_))
  refine g_putI h is_224 fl_X3_25 rfl rfl dX3_open_7 ?_
  refine g_nI (fun I_7 eI_7 => ?_)
  replace hw := hw I_7 eI_7
  refine g_iconst (v := 0) h (by decide) dX3_open_10 ?_
  refine g_istore_n (lo2 := [(3, .int 0), (0, .ref 224), (1, .int a1), (2, .ref h2)]) h rfl (by decide) rfl dX3_open_11 ?_
  exact g_sub [1, 3, 0] rfl (t_X3_open_12 ph2 h hr hw)
theorem c_X3_open (X : sX) {a1 : Int32} {h2 : Nat} (ph2 : sIs h2 4) {I : sI} {J : sJ} {post : sI → sJ → Prop} (hw : w_X3_open a1 h2 I J post) : sCall X yX3_open cX3_open 4 none 1 22 [.ref 224, .int a1, .ref h2] I J (sPv post) := sCall_of (by decide +kernel) (Nat.le_of_ble_eq_true rfl) (fun X h hr => t_X3_open ph2 h hr hw)
