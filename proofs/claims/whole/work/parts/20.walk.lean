theorem dX12_times_0 : decode cX12_times 0 = .ok (.lconst 0, 1) := by decide +kernel
theorem dX12_times_1 : decode cX12_times 1 = .ok (.lstore_n 2, 1) := by decide +kernel
theorem dX12_times_2 : decode cX12_times 2 = .ok (.iconst 1, 1) := by decide +kernel
theorem dX12_times_3 : decode cX12_times 3 = .ok (.istore 4, 2) := by decide +kernel
theorem dX12_times_5 : decode cX12_times 5 = .ok (.iload 4, 2) := by decide +kernel
theorem dX12_times_7 : decode cX12_times 7 = .ok (.aload_n 0, 1) := by decide +kernel
theorem dX12_times_8 : decode cX12_times 8 = .ok (.iconst 0, 1) := by decide +kernel
theorem dX12_times_9 : decode cX12_times 9 = .ok (.iaload, 1) := by decide +kernel
theorem dX12_times_10 : decode cX12_times 10 = .ok (.if_icmp .gt 36, 3) := by decide +kernel
theorem dX12_times_13 : decode cX12_times 13 = .ok (.lload_n 2, 1) := by decide +kernel
theorem dX12_times_14 : decode cX12_times 14 = .ok (.aload_n 0, 1) := by decide +kernel
theorem dX12_times_15 : decode cX12_times 15 = .ok (.iload 4, 2) := by decide +kernel
theorem dX12_times_17 : decode cX12_times 17 = .ok (.iaload, 1) := by decide +kernel
theorem dX12_times_18 : decode cX12_times 18 = .ok (.i2l, 1) := by decide +kernel
theorem dX12_times_19 : decode cX12_times 19 = .ok (.iload_n 1, 1) := by decide +kernel
theorem dX12_times_20 : decode cX12_times 20 = .ok (.i2l, 1) := by decide +kernel
theorem dX12_times_21 : decode cX12_times 21 = .ok (.lmul, 1) := by decide +kernel
theorem dX12_times_22 : decode cX12_times 22 = .ok (.ladd, 1) := by decide +kernel
theorem dX12_times_23 : decode cX12_times 23 = .ok (.lstore_n 2, 1) := by decide +kernel
theorem dX12_times_24 : decode cX12_times 24 = .ok (.aload_n 0, 1) := by decide +kernel
theorem dX12_times_25 : decode cX12_times 25 = .ok (.iload 4, 2) := by decide +kernel
theorem dX12_times_27 : decode cX12_times 27 = .ok (.lload_n 2, 1) := by decide +kernel
theorem dX12_times_28 : decode cX12_times 28 = .ok (.ldc2_w 301, 3) := by decide +kernel
theorem dX12_times_31 : decode cX12_times 31 = .ok (.lrem, 1) := by decide +kernel
theorem dX12_times_32 : decode cX12_times 32 = .ok (.l2i, 1) := by decide +kernel
theorem dX12_times_33 : decode cX12_times 33 = .ok (.iastore, 1) := by decide +kernel
theorem dX12_times_34 : decode cX12_times 34 = .ok (.lload_n 2, 1) := by decide +kernel
theorem dX12_times_35 : decode cX12_times 35 = .ok (.ldc2_w 301, 3) := by decide +kernel
theorem dX12_times_38 : decode cX12_times 38 = .ok (.ldiv, 1) := by decide +kernel
theorem dX12_times_39 : decode cX12_times 39 = .ok (.lstore_n 2, 1) := by decide +kernel
theorem dX12_times_40 : decode cX12_times 40 = .ok (.iinc 4 1, 3) := by decide +kernel
theorem dX12_times_43 : decode cX12_times 43 = .ok (.goto (-38), 3) := by decide +kernel
theorem dX12_times_46 : decode cX12_times 46 = .ok (.lload_n 2, 1) := by decide +kernel
theorem dX12_times_47 : decode cX12_times 47 = .ok (.lconst 0, 1) := by decide +kernel
theorem dX12_times_48 : decode cX12_times 48 = .ok (.lcmp, 1) := by decide +kernel
theorem dX12_times_49 : decode cX12_times 49 = .ok (.ifCond .le 30, 3) := by decide +kernel
theorem dX12_times_52 : decode cX12_times 52 = .ok (.aload_n 0, 1) := by decide +kernel
theorem dX12_times_53 : decode cX12_times 53 = .ok (.iconst 0, 1) := by decide +kernel
theorem dX12_times_54 : decode cX12_times 54 = .ok (.dup2, 1) := by decide +kernel
theorem dX12_times_55 : decode cX12_times 55 = .ok (.iaload, 1) := by decide +kernel
theorem dX12_times_56 : decode cX12_times 56 = .ok (.iconst 1, 1) := by decide +kernel
theorem dX12_times_57 : decode cX12_times 57 = .ok (.iadd, 1) := by decide +kernel
theorem dX12_times_58 : decode cX12_times 58 = .ok (.iastore, 1) := by decide +kernel
theorem dX12_times_59 : decode cX12_times 59 = .ok (.aload_n 0, 1) := by decide +kernel
theorem dX12_times_60 : decode cX12_times 60 = .ok (.aload_n 0, 1) := by decide +kernel
theorem dX12_times_61 : decode cX12_times 61 = .ok (.iconst 0, 1) := by decide +kernel
theorem dX12_times_62 : decode cX12_times 62 = .ok (.iaload, 1) := by decide +kernel
theorem dX12_times_63 : decode cX12_times 63 = .ok (.lload_n 2, 1) := by decide +kernel
theorem dX12_times_64 : decode cX12_times 64 = .ok (.ldc2_w 301, 3) := by decide +kernel
theorem dX12_times_67 : decode cX12_times 67 = .ok (.lrem, 1) := by decide +kernel
theorem dX12_times_68 : decode cX12_times 68 = .ok (.l2i, 1) := by decide +kernel
theorem dX12_times_69 : decode cX12_times 69 = .ok (.iastore, 1) := by decide +kernel
theorem dX12_times_70 : decode cX12_times 70 = .ok (.lload_n 2, 1) := by decide +kernel
theorem dX12_times_71 : decode cX12_times 71 = .ok (.ldc2_w 301, 3) := by decide +kernel
theorem dX12_times_74 : decode cX12_times 74 = .ok (.ldiv, 1) := by decide +kernel
theorem dX12_times_75 : decode cX12_times 75 = .ok (.lstore_n 2, 1) := by decide +kernel
theorem dX12_times_76 : decode cX12_times 76 = .ok (.goto (-30), 3) := by decide +kernel
theorem dX12_times_79 : decode cX12_times 79 = .ok (.aload_n 0, 1) := by decide +kernel
theorem dX12_times_80 : decode cX12_times 80 = .ok (.iconst 0, 1) := by decide +kernel
theorem dX12_times_81 : decode cX12_times 81 = .ok (.iaload, 1) := by decide +kernel
theorem dX12_times_82 : decode cX12_times 82 = .ok (.iconst 1, 1) := by decide +kernel
theorem dX12_times_83 : decode cX12_times 83 = .ok (.if_icmp .le 21, 3) := by decide +kernel
theorem dX12_times_86 : decode cX12_times 86 = .ok (.aload_n 0, 1) := by decide +kernel
theorem dX12_times_87 : decode cX12_times 87 = .ok (.aload_n 0, 1) := by decide +kernel
theorem dX12_times_88 : decode cX12_times 88 = .ok (.iconst 0, 1) := by decide +kernel
theorem dX12_times_89 : decode cX12_times 89 = .ok (.iaload, 1) := by decide +kernel
theorem dX12_times_90 : decode cX12_times 90 = .ok (.iaload, 1) := by decide +kernel
theorem dX12_times_91 : decode cX12_times 91 = .ok (.ifCond .ne 13, 3) := by decide +kernel
theorem dX12_times_94 : decode cX12_times 94 = .ok (.aload_n 0, 1) := by decide +kernel
theorem dX12_times_95 : decode cX12_times 95 = .ok (.iconst 0, 1) := by decide +kernel
theorem dX12_times_96 : decode cX12_times 96 = .ok (.dup2, 1) := by decide +kernel
theorem dX12_times_97 : decode cX12_times 97 = .ok (.iaload, 1) := by decide +kernel
theorem dX12_times_98 : decode cX12_times 98 = .ok (.iconst 1, 1) := by decide +kernel
theorem dX12_times_99 : decode cX12_times 99 = .ok (.isub, 1) := by decide +kernel
theorem dX12_times_100 : decode cX12_times 100 = .ok (.iastore, 1) := by decide +kernel
theorem dX12_times_101 : decode cX12_times 101 = .ok (.goto (-22), 3) := by decide +kernel
theorem dX12_times_104 : decode cX12_times 104 = .ok (.return_, 1) := by decide +kernel
def w_X12_times_79_s (h0 : Nat) (post : sI → sJ → Prop) (k79 : sI → sJ → Prop) (I : sI) (J : sJ) : Prop :=
  (vp_in 0 65 ∧ (((I h0 (Int32.toNatClampNeg 0)) ≤ 1 → post I J) ∧ (¬ (I h0 (Int32.toNatClampNeg 0)) ≤ 1 → (vp_in 0 65 ∧ (vp_in (I h0 (Int32.toNatClampNeg 0)) 65 ∧ ((¬ (I h0 (Int32.toNatClampNeg (I h0 (Int32.toNatClampNeg 0)))) = 0 → post I J) ∧ ((I h0 (Int32.toNatClampNeg (I h0 (Int32.toNatClampNeg 0)))) = 0 → (vp_in 0 65 ∧ (vp_in 0 65 ∧ (∀ I_100 : sI, I_100 = sUI I h0 (Int32.toNatClampNeg 0) ((I h0 (Int32.toNatClampNeg 0)) - 1) → k79 I_100 J))))))))))
def w_X12_times_79_n (h0 : Nat) (post : sI → sJ → Prop) : Nat → sI → sJ → Prop
  | 0 => fun _ _ => False
  | n + 1 => fun I J => w_X12_times_79_s h0 post (w_X12_times_79_n h0 post n) I J
def w_X12_times_79 (h0 : Nat) (post : sI → sJ → Prop) (I : sI) (J : sJ) : Prop := ∃ n, w_X12_times_79_n h0 post n I J
set_option maxHeartbeats 4000000 in
set_option maxRecDepth 100000 in
theorem t_X12_times_79_s {X : sX} {h0 : Nat} (ph0 : sAr h0 1 65) {post : sI → sJ → Prop} (h : sOK X cX12_times RX12 5 0 0) (hr : sRt X none (sPv post)) {k79 : sI → sJ → Prop} (hk79 : ∀ (I : sI) (J : sJ), k79 I J → sG X 5 79 [(0, .ref h0)] [] I J) {I : sI} {J : sJ} (hw : w_X12_times_79_s h0 post k79 I J) : sG X 5 79 [(0, .ref h0)] [] I J := by
  unfold w_X12_times_79_s at hw
  refine g_aload_n h rfl 0 rfl dX12_times_79 ?_
  refine g_iconst (v := 0) h (by decide) dX12_times_80 ?_
  obtain ⟨hi81, hw⟩ := hw
  refine g_iald h ph0 hi81 dX12_times_81 ?_
  refine g_iconst (v := 1) h (by decide) dX12_times_82 ?_
  refine g_icmp_le (tgt := 104) h (by decide) dX12_times_83 (fun q83 => ?_) (fun q83 => ?_)
  · replace hw := hw.1 q83
    exact g_vret h hr dX12_times_104 hw
  · replace hw := hw.2 q83
    refine g_aload_n h rfl 0 rfl dX12_times_86 ?_
    refine g_aload_n h rfl 0 rfl dX12_times_87 ?_
    refine g_iconst (v := 0) h (by decide) dX12_times_88 ?_
    obtain ⟨hi89, hw⟩ := hw
    refine g_iald h ph0 hi89 dX12_times_89 ?_
    obtain ⟨hi90, hw⟩ := hw
    refine g_iald h ph0 hi90 dX12_times_90 ?_
    refine g_if_ne (tgt := 104) h (by decide) dX12_times_91 (fun q91 => ?_) (fun q91 => ?_)
    · replace hw := hw.1 q91
      exact g_vret h hr dX12_times_104 hw
    · replace hw := hw.2 q91
      refine g_aload_n h rfl 0 rfl dX12_times_94 ?_
      refine g_iconst (v := 0) h (by decide) dX12_times_95 ?_
      refine g_dup2 h rfl rfl dX12_times_96 ?_
      obtain ⟨hi97, hw⟩ := hw
      refine g_iald h ph0 hi97 dX12_times_97 ?_
      refine g_iconst (v := 1) h (by decide) dX12_times_98 ?_
      refine g_isub h dX12_times_99 ?_
      obtain ⟨hi100, hw⟩ := hw
      refine g_iast h ph0 hi100 dX12_times_100 ?_
      refine g_nI (fun I_100 eI_100 => ?_)
      replace hw := hw I_100 eI_100
      refine g_goto (tgt := 79) h (by decide) dX12_times_101 ?_
      exact g_sub [0] rfl (hk79 _ _ hw)
theorem t_X12_times_79 {X : sX} {h0 : Nat} (ph0 : sAr h0 1 65) {post : sI → sJ → Prop} (h : sOK X cX12_times RX12 5 0 0) (hr : sRt X none (sPv post)) {I : sI} {J : sJ} (hw : w_X12_times_79 h0 post I J) : sG X 5 79 [(0, .ref h0)] [] I J := by
  obtain ⟨n, hw⟩ := hw
  induction n generalizing I J with
  | zero => exact hw.elim
  | succ n ih => exact t_X12_times_79_s ph0 h hr (fun _ _ q => ih q) hw
def w_X12_times_46_s (h0 : Nat) (post : sI → sJ → Prop) (k46 : Int64 → sI → sJ → Prop) (x2 : Int64) (I : sI) (J : sJ) : Prop :=
  (((lg_cmp x2 0) ≤ 0 → w_X12_times_79 h0 post I J) ∧ (¬ (lg_cmp x2 0) ≤ 0 → (vp_in 0 65 ∧ (vp_in 0 65 ∧ (∀ I_58 : sI, I_58 = sUI I h0 (Int32.toNatClampNeg 0) ((I h0 (Int32.toNatClampNeg 0)) + 1) → (vp_in 0 65 ∧ (vp_in (I_58 h0 (Int32.toNatClampNeg 0)) 65 ∧ (∀ I_69 : sI, I_69 = sUI I_58 h0 (Int32.toNatClampNeg (I_58 h0 (Int32.toNatClampNeg 0))) (Int64.toInt32 (x2 - x2 / 10000 * 10000)) → (∀ v2_75 : Int64, v2_75 = x2 / 10000 → k46 v2_75 I_69 J)))))))))
def w_X12_times_46_n (h0 : Nat) (post : sI → sJ → Prop) : Nat → Int64 → sI → sJ → Prop
  | 0 => fun _ _ _ => False
  | n + 1 => fun x2 I J => w_X12_times_46_s h0 post (w_X12_times_46_n h0 post n) x2 I J
def w_X12_times_46 (h0 : Nat) (post : sI → sJ → Prop) (x2 : Int64) (I : sI) (J : sJ) : Prop := ∃ n, w_X12_times_46_n h0 post n x2 I J
set_option maxHeartbeats 4000000 in
set_option maxRecDepth 100000 in
theorem t_X12_times_46_s {X : sX} {h0 : Nat} (ph0 : sAr h0 1 65) {post : sI → sJ → Prop} (h : sOK X cX12_times RX12 5 0 0) (hr : sRt X none (sPv post)) {k46 : Int64 → sI → sJ → Prop} (hk46 : ∀ (x2 : Int64) (I : sI) (J : sJ), k46 x2 I J → sG X 5 46 [(0, .ref h0), (2, .long x2)] [] I J) {x2 : Int64} {I : sI} {J : sJ} (hw : w_X12_times_46_s h0 post k46 x2 I J) : sG X 5 46 [(0, .ref h0), (2, .long x2)] [] I J := by
  unfold w_X12_times_46_s at hw
  refine g_lload_n h rfl 1 rfl dX12_times_46 ?_
  refine g_lconst (v := 0) h (by decide) dX12_times_47 ?_
  refine g_lcmp h dX12_times_48 ?_
  refine g_if_le (tgt := 79) h (by decide) dX12_times_49 (fun q49 => ?_) (fun q49 => ?_)
  · replace hw := hw.1 q49
    exact g_sub [0] rfl (t_X12_times_79 ph0 h hr hw)
  · replace hw := hw.2 q49
    refine g_aload_n h rfl 0 rfl dX12_times_52 ?_
    refine g_iconst (v := 0) h (by decide) dX12_times_53 ?_
    refine g_dup2 h rfl rfl dX12_times_54 ?_
    obtain ⟨hi55, hw⟩ := hw
    refine g_iald h ph0 hi55 dX12_times_55 ?_
    refine g_iconst (v := 1) h (by decide) dX12_times_56 ?_
    refine g_iadd h dX12_times_57 ?_
    obtain ⟨hi58, hw⟩ := hw
    refine g_iast h ph0 hi58 dX12_times_58 ?_
    refine g_nI (fun I_58 eI_58 => ?_)
    replace hw := hw I_58 eI_58
    refine g_aload_n h rfl 0 rfl dX12_times_59 ?_
    refine g_aload_n h rfl 0 rfl dX12_times_60 ?_
    refine g_iconst (v := 0) h (by decide) dX12_times_61 ?_
    obtain ⟨hi62, hw⟩ := hw
    refine g_iald h ph0 hi62 dX12_times_62 ?_
    refine g_lload_n h rfl 1 rfl dX12_times_63 ?_
    refine g_ldc2 h lc_X12_301 dX12_times_64 ?_
    refine g_lrem h (by decide) dX12_times_67 ?_
    refine g_l2i h dX12_times_68 ?_
    obtain ⟨hi69, hw⟩ := hw
    refine g_iast h ph0 hi69 dX12_times_69 ?_
    refine g_nI (fun I_69 eI_69 => ?_)
    replace hw := hw I_69 eI_69
    refine g_lload_n h rfl 1 rfl dX12_times_70 ?_
    refine g_ldc2 h lc_X12_301 dX12_times_71 ?_
    refine g_ldiv h (by decide) dX12_times_74 ?_
    refine g_nl (fun v2_75 ev2_75 => ?_)
    replace hw := hw v2_75 ev2_75
    refine g_lstore_n (lo2 := [(2, .long v2_75), (0, .ref h0)]) h rfl (by decide) rfl dX12_times_75 ?_
    refine g_goto (tgt := 46) h (by decide) dX12_times_76 ?_
    exact g_sub [1, 0] rfl (hk46 _ _ _ hw)
theorem t_X12_times_46 {X : sX} {h0 : Nat} (ph0 : sAr h0 1 65) {post : sI → sJ → Prop} (h : sOK X cX12_times RX12 5 0 0) (hr : sRt X none (sPv post)) {x2 : Int64} {I : sI} {J : sJ} (hw : w_X12_times_46 h0 post x2 I J) : sG X 5 46 [(0, .ref h0), (2, .long x2)] [] I J := by
  obtain ⟨n, hw⟩ := hw
  induction n generalizing x2 I J with
  | zero => exact hw.elim
  | succ n ih => exact t_X12_times_46_s ph0 h hr (fun _ _ _ q => ih q) hw
def w_X12_times_5_s (h0 : Nat) (post : sI → sJ → Prop) (k5 : Int32 → Int64 → Int32 → sI → sJ → Prop) (x1 : Int32) (x2 : Int64) (x4 : Int32) (I : sI) (J : sJ) : Prop :=
  (vp_in 0 65 ∧ (((I h0 (Int32.toNatClampNeg 0)) < x4 → w_X12_times_46 h0 post x2 I J) ∧ (¬ (I h0 (Int32.toNatClampNeg 0)) < x4 → (vp_in x4 65 ∧ (∀ v2_23 : Int64, v2_23 = x2 + ((Int32.toInt64 (I h0 (Int32.toNatClampNeg x4))) * (Int32.toInt64 x1)) → (vp_in x4 65 ∧ (∀ I_33 : sI, I_33 = sUI I h0 (Int32.toNatClampNeg x4) (Int64.toInt32 (v2_23 - v2_23 / 10000 * 10000)) → (∀ v2_39 : Int64, v2_39 = v2_23 / 10000 → (∀ v4_40 : Int32, v4_40 = x4 + 1 → k5 x1 v2_39 v4_40 I_33 J)))))))))
def w_X12_times_5_n (h0 : Nat) (post : sI → sJ → Prop) : Nat → Int32 → Int64 → Int32 → sI → sJ → Prop
  | 0 => fun _ _ _ _ _ => False
  | n + 1 => fun x1 x2 x4 I J => w_X12_times_5_s h0 post (w_X12_times_5_n h0 post n) x1 x2 x4 I J
def w_X12_times_5 (h0 : Nat) (post : sI → sJ → Prop) (x1 : Int32) (x2 : Int64) (x4 : Int32) (I : sI) (J : sJ) : Prop := ∃ n, w_X12_times_5_n h0 post n x1 x2 x4 I J
set_option maxHeartbeats 4000000 in
set_option maxRecDepth 100000 in
theorem t_X12_times_5_s {X : sX} {h0 : Nat} (ph0 : sAr h0 1 65) {post : sI → sJ → Prop} (h : sOK X cX12_times RX12 5 0 0) (hr : sRt X none (sPv post)) {k5 : Int32 → Int64 → Int32 → sI → sJ → Prop} (hk5 : ∀ (x1 : Int32) (x2 : Int64) (x4 : Int32) (I : sI) (J : sJ), k5 x1 x2 x4 I J → sG X 5 5 [(0, .ref h0), (1, .int x1), (2, .long x2), (4, .int x4)] [] I J) {x1 : Int32} {x2 : Int64} {x4 : Int32} {I : sI} {J : sJ} (hw : w_X12_times_5_s h0 post k5 x1 x2 x4 I J) : sG X 5 5 [(0, .ref h0), (1, .int x1), (2, .long x2), (4, .int x4)] [] I J := by
  unfold w_X12_times_5_s at hw
  refine g_iload h 3 rfl dX12_times_5 ?_
  refine g_aload_n h rfl 0 rfl dX12_times_7 ?_
  refine g_iconst (v := 0) h (by decide) dX12_times_8 ?_
  obtain ⟨hi9, hw⟩ := hw
  refine g_iald h ph0 hi9 dX12_times_9 ?_
  refine g_icmp_gt (tgt := 46) h (by decide) dX12_times_10 (fun q10 => ?_) (fun q10 => ?_)
  · replace hw := hw.1 q10
    exact g_sub [0, 2] rfl (t_X12_times_46 ph0 h hr hw)
  · replace hw := hw.2 q10
    refine g_lload_n h rfl 2 rfl dX12_times_13 ?_
    refine g_aload_n h rfl 0 rfl dX12_times_14 ?_
    refine g_iload h 3 rfl dX12_times_15 ?_
    obtain ⟨hi17, hw⟩ := hw
    refine g_iald h ph0 hi17 dX12_times_17 ?_
    refine g_i2l h dX12_times_18 ?_
    refine g_iload_n h rfl 1 rfl dX12_times_19 ?_
    refine g_i2l h dX12_times_20 ?_
    refine g_lmul h dX12_times_21 ?_
    refine g_ladd h dX12_times_22 ?_
    refine g_nl (fun v2_23 ev2_23 => ?_)
    replace hw := hw v2_23 ev2_23
    refine g_lstore_n (lo2 := [(2, .long v2_23), (0, .ref h0), (1, .int x1), (4, .int x4)]) h rfl (by decide) rfl dX12_times_23 ?_
    refine g_aload_n h rfl 1 rfl dX12_times_24 ?_
    refine g_iload h 3 rfl dX12_times_25 ?_
    refine g_lload_n h rfl 0 rfl dX12_times_27 ?_
    refine g_ldc2 h lc_X12_301 dX12_times_28 ?_
    refine g_lrem h (by decide) dX12_times_31 ?_
    refine g_l2i h dX12_times_32 ?_
    obtain ⟨hi33, hw⟩ := hw
    refine g_iast h ph0 hi33 dX12_times_33 ?_
    refine g_nI (fun I_33 eI_33 => ?_)
    replace hw := hw I_33 eI_33
    refine g_lload_n h rfl 0 rfl dX12_times_34 ?_
    refine g_ldc2 h lc_X12_301 dX12_times_35 ?_
    refine g_ldiv h (by decide) dX12_times_38 ?_
    refine g_nl (fun v2_39 ev2_39 => ?_)
    replace hw := hw v2_39 ev2_39
    refine g_lstore_n (lo2 := [(2, .long v2_39), (0, .ref h0), (1, .int x1), (4, .int x4)]) h rfl (by decide) rfl dX12_times_39 ?_
    obtain ⟨v4_40, ev4_40⟩ : ∃ z : Int32, z = x4 + 1 := ⟨_, rfl⟩
    replace hw := hw v4_40 ev4_40
    refine g_iinc (v := v4_40) (lo2 := [(4, .int v4_40), (2, .long v2_39), (0, .ref h0), (1, .int x1)]) h 3 rfl (by rw [ev4_40]; rfl) (by decide) rfl dX12_times_40 ?_
    refine g_goto (tgt := 5) h (by decide) dX12_times_43 ?_
    exact g_sub [2, 3, 1, 0] rfl (hk5 _ _ _ _ _ hw)
theorem t_X12_times_5 {X : sX} {h0 : Nat} (ph0 : sAr h0 1 65) {post : sI → sJ → Prop} (h : sOK X cX12_times RX12 5 0 0) (hr : sRt X none (sPv post)) {x1 : Int32} {x2 : Int64} {x4 : Int32} {I : sI} {J : sJ} (hw : w_X12_times_5 h0 post x1 x2 x4 I J) : sG X 5 5 [(0, .ref h0), (1, .int x1), (2, .long x2), (4, .int x4)] [] I J := by
  obtain ⟨n, hw⟩ := hw
  induction n generalizing x1 x2 x4 I J with
  | zero => exact hw.elim
  | succ n ih => exact t_X12_times_5_s ph0 h hr (fun _ _ _ _ _ q => ih q) hw
def w_X12_times (h0 : Nat) (a1 : Int32) (I : sI) (J : sJ) (post : sI → sJ → Prop) : Prop :=
  w_X12_times_5 h0 post a1 0 1 I J
set_option maxHeartbeats 4000000 in
set_option maxRecDepth 100000 in
theorem t_X12_times {X : sX} {h0 : Nat} {a1 : Int32} (ph0 : sAr h0 1 65) {I : sI} {J : sJ} {post : sI → sJ → Prop} (h : sOK X cX12_times RX12 5 0 0) (hr : sRt X none (sPv post)) (hw : w_X12_times h0 a1 I J post) : sG X 5 0 [(0, .ref h0), (1, .int a1)] [] I J := by
  unfold w_X12_times at hw
  refine g_lconst (v := 0) h (by decide) dX12_times_0 ?_
  refine g_lstore_n (lo2 := [(2, .long 0), (0, .ref h0), (1, .int a1)]) h rfl (by decide) rfl dX12_times_1 ?_
  refine g_iconst (v := 1) h (by decide) dX12_times_2 ?_
  refine g_istore (lo2 := [(4, .int 1), (2, .long 0), (0, .ref h0), (1, .int a1)]) h (by decide) rfl dX12_times_3 ?_
  exact g_sub [2, 3, 1, 0] rfl (t_X12_times_5 ph0 h hr hw)
theorem c_X12_times (X : sX) {h0 : Nat} {a1 : Int32} (ph0 : sAr h0 1 65) {I : sI} {J : sJ} {post : sI → sJ → Prop} (hw : w_X12_times h0 a1 I J post) : sCall X yX12_times cX12_times 5 none 0 0 [.ref h0, .int a1] I J (sPv post) := sCall_of (by decide +kernel) (Nat.le_of_ble_eq_true rfl) (fun X h hr => t_X12_times ph0 h hr hw)
theorem dX12_compares_0 : decode cX12_compares 0 = .ok (.aload_n 0, 1) := by decide +kernel
theorem dX12_compares_1 : decode cX12_compares 1 = .ok (.iconst 0, 1) := by decide +kernel
theorem dX12_compares_2 : decode cX12_compares 2 = .ok (.iaload, 1) := by decide +kernel
theorem dX12_compares_3 : decode cX12_compares 3 = .ok (.aload_n 1, 1) := by decide +kernel
theorem dX12_compares_4 : decode cX12_compares 4 = .ok (.iconst 0, 1) := by decide +kernel
theorem dX12_compares_5 : decode cX12_compares 5 = .ok (.iaload, 1) := by decide +kernel
theorem dX12_compares_6 : decode cX12_compares 6 = .ok (.if_icmp .eq 18, 3) := by decide +kernel
theorem dX12_compares_9 : decode cX12_compares 9 = .ok (.aload_n 0, 1) := by decide +kernel
theorem dX12_compares_10 : decode cX12_compares 10 = .ok (.iconst 0, 1) := by decide +kernel
theorem dX12_compares_11 : decode cX12_compares 11 = .ok (.iaload, 1) := by decide +kernel
theorem dX12_compares_12 : decode cX12_compares 12 = .ok (.aload_n 1, 1) := by decide +kernel
theorem dX12_compares_13 : decode cX12_compares 13 = .ok (.iconst 0, 1) := by decide +kernel
theorem dX12_compares_14 : decode cX12_compares 14 = .ok (.iaload, 1) := by decide +kernel
theorem dX12_compares_15 : decode cX12_compares 15 = .ok (.if_icmp .ge 7, 3) := by decide +kernel
theorem dX12_compares_18 : decode cX12_compares 18 = .ok (.iconst (-1), 1) := by decide +kernel
theorem dX12_compares_19 : decode cX12_compares 19 = .ok (.goto 4, 3) := by decide +kernel
theorem dX12_compares_22 : decode cX12_compares 22 = .ok (.iconst 1, 1) := by decide +kernel
theorem dX12_compares_23 : decode cX12_compares 23 = .ok (.ireturn, 1) := by decide +kernel
theorem dX12_compares_24 : decode cX12_compares 24 = .ok (.aload_n 0, 1) := by decide +kernel
theorem dX12_compares_25 : decode cX12_compares 25 = .ok (.iconst 0, 1) := by decide +kernel
theorem dX12_compares_26 : decode cX12_compares 26 = .ok (.iaload, 1) := by decide +kernel
theorem dX12_compares_27 : decode cX12_compares 27 = .ok (.istore_n 2, 1) := by decide +kernel
theorem dX12_compares_28 : decode cX12_compares 28 = .ok (.iload_n 2, 1) := by decide +kernel
theorem dX12_compares_29 : decode cX12_compares 29 = .ok (.ifCond .le 33, 3) := by decide +kernel
theorem dX12_compares_32 : decode cX12_compares 32 = .ok (.aload_n 0, 1) := by decide +kernel
theorem dX12_compares_33 : decode cX12_compares 33 = .ok (.iload_n 2, 1) := by decide +kernel
theorem dX12_compares_34 : decode cX12_compares 34 = .ok (.iaload, 1) := by decide +kernel
theorem dX12_compares_35 : decode cX12_compares 35 = .ok (.aload_n 1, 1) := by decide +kernel
theorem dX12_compares_36 : decode cX12_compares 36 = .ok (.iload_n 2, 1) := by decide +kernel
theorem dX12_compares_37 : decode cX12_compares 37 = .ok (.iaload, 1) := by decide +kernel
theorem dX12_compares_38 : decode cX12_compares 38 = .ok (.if_icmp .eq 18, 3) := by decide +kernel
theorem dX12_compares_41 : decode cX12_compares 41 = .ok (.aload_n 0, 1) := by decide +kernel
theorem dX12_compares_42 : decode cX12_compares 42 = .ok (.iload_n 2, 1) := by decide +kernel
theorem dX12_compares_43 : decode cX12_compares 43 = .ok (.iaload, 1) := by decide +kernel
theorem dX12_compares_44 : decode cX12_compares 44 = .ok (.aload_n 1, 1) := by decide +kernel
theorem dX12_compares_45 : decode cX12_compares 45 = .ok (.iload_n 2, 1) := by decide +kernel
theorem dX12_compares_46 : decode cX12_compares 46 = .ok (.iaload, 1) := by decide +kernel
theorem dX12_compares_47 : decode cX12_compares 47 = .ok (.if_icmp .ge 7, 3) := by decide +kernel
theorem dX12_compares_50 : decode cX12_compares 50 = .ok (.iconst (-1), 1) := by decide +kernel
theorem dX12_compares_51 : decode cX12_compares 51 = .ok (.goto 4, 3) := by decide +kernel
theorem dX12_compares_54 : decode cX12_compares 54 = .ok (.iconst 1, 1) := by decide +kernel
theorem dX12_compares_55 : decode cX12_compares 55 = .ok (.ireturn, 1) := by decide +kernel
theorem dX12_compares_56 : decode cX12_compares 56 = .ok (.iinc 2 (-1), 3) := by decide +kernel
theorem dX12_compares_59 : decode cX12_compares 59 = .ok (.goto (-31), 3) := by decide +kernel
theorem dX12_compares_62 : decode cX12_compares 62 = .ok (.iconst 0, 1) := by decide +kernel
theorem dX12_compares_63 : decode cX12_compares 63 = .ok (.ireturn, 1) := by decide +kernel
def w_X12_compares_28_s (h0 : Nat) (h1 : Nat) (post : Int32 → sI → sJ → Prop) (k28 : Int32 → sI → sJ → Prop) (x2 : Int32) (I : sI) (J : sJ) : Prop :=
  ((x2 ≤ 0 → post 0 I J) ∧ (¬ x2 ≤ 0 → (vp_in x2 65 ∧ (vp_in x2 65 ∧ (((I h0 (Int32.toNatClampNeg x2)) = (I h1 (Int32.toNatClampNeg x2)) → (∀ v2_56 : Int32, v2_56 = x2 + (-1) → k28 v2_56 I J)) ∧ (¬ (I h0 (Int32.toNatClampNeg x2)) = (I h1 (Int32.toNatClampNeg x2)) → (vp_in x2 65 ∧ (vp_in x2 65 ∧ (((I h1 (Int32.toNatClampNeg x2)) ≤ (I h0 (Int32.toNatClampNeg x2)) → post 1 I J) ∧ (¬ (I h1 (Int32.toNatClampNeg x2)) ≤ (I h0 (Int32.toNatClampNeg x2)) → post (-1) I J))))))))))
def w_X12_compares_28_n (h0 : Nat) (h1 : Nat) (post : Int32 → sI → sJ → Prop) : Nat → Int32 → sI → sJ → Prop
  | 0 => fun _ _ _ => False
  | n + 1 => fun x2 I J => w_X12_compares_28_s h0 h1 post (w_X12_compares_28_n h0 h1 post n) x2 I J
def w_X12_compares_28 (h0 : Nat) (h1 : Nat) (post : Int32 → sI → sJ → Prop) (x2 : Int32) (I : sI) (J : sJ) : Prop := ∃ n, w_X12_compares_28_n h0 h1 post n x2 I J
set_option maxHeartbeats 4000000 in
set_option maxRecDepth 100000 in
theorem t_X12_compares_28_s {X : sX} {h0 : Nat} {h1 : Nat} (ph0 : sAr h0 1 65) (ph1 : sAr h1 1 65) {post : Int32 → sI → sJ → Prop} (h : sOK X cX12_compares RX12 3 0 0) (hr : sRt X (some .int) (sPi post)) {k28 : Int32 → sI → sJ → Prop} (hk28 : ∀ (x2 : Int32) (I : sI) (J : sJ), k28 x2 I J → sG X 3 28 [(0, .ref h0), (1, .ref h1), (2, .int x2)] [] I J) {x2 : Int32} {I : sI} {J : sJ} (hw : w_X12_compares_28_s h0 h1 post k28 x2 I J) : sG X 3 28 [(0, .ref h0), (1, .ref h1), (2, .int x2)] [] I J := by
  unfold w_X12_compares_28_s at hw
  refine g_iload_n h rfl 2 rfl dX12_compares_28 ?_
  refine g_if_le (tgt := 62) h (by decide) dX12_compares_29 (fun q29 => ?_) (fun q29 => ?_)
  · replace hw := hw.1 q29
    refine g_iconst (v := 0) h (by decide) dX12_compares_62 ?_
    exact g_iret h hr dX12_compares_63 hw
  · replace hw := hw.2 q29
    refine g_aload_n h rfl 0 rfl dX12_compares_32 ?_
    refine g_iload_n h rfl 2 rfl dX12_compares_33 ?_
    obtain ⟨hi34, hw⟩ := hw
    refine g_iald h ph0 hi34 dX12_compares_34 ?_
    refine g_aload_n h rfl 1 rfl dX12_compares_35 ?_
    refine g_iload_n h rfl 2 rfl dX12_compares_36 ?_
    obtain ⟨hi37, hw⟩ := hw
    refine g_iald h ph1 hi37 dX12_compares_37 ?_
    refine g_icmp_eq (tgt := 56) h (by decide) dX12_compares_38 (fun q38 => ?_) (fun q38 => ?_)
    · replace hw := hw.1 q38
      obtain ⟨v2_56, ev2_56⟩ : ∃ z : Int32, z = x2 + (-1) := ⟨_, rfl⟩
      replace hw := hw v2_56 ev2_56
      refine g_iinc (v := v2_56) (lo2 := [(2, .int v2_56), (0, .ref h0), (1, .ref h1)]) h 2 rfl (by rw [ev2_56]; rfl) (by decide) rfl dX12_compares_56 ?_
      refine g_goto (tgt := 28) h (by decide) dX12_compares_59 ?_
      exact g_sub [1, 2, 0] rfl (hk28 _ _ _ hw)
    · replace hw := hw.2 q38
      refine g_aload_n h rfl 0 rfl dX12_compares_41 ?_
      refine g_iload_n h rfl 2 rfl dX12_compares_42 ?_
      obtain ⟨hi43, hw⟩ := hw
      refine g_iald h ph0 hi43 dX12_compares_43 ?_
      refine g_aload_n h rfl 1 rfl dX12_compares_44 ?_
      refine g_iload_n h rfl 2 rfl dX12_compares_45 ?_
      obtain ⟨hi46, hw⟩ := hw
      refine g_iald h ph1 hi46 dX12_compares_46 ?_
      refine g_icmp_ge (tgt := 54) h (by decide) dX12_compares_47 (fun q47 => ?_) (fun q47 => ?_)
      · replace hw := hw.1 q47
        refine g_iconst (v := 1) h (by decide) dX12_compares_54 ?_
        exact g_iret h hr dX12_compares_55 hw
      · replace hw := hw.2 q47
        refine g_iconst (v := (-1)) h (by decide) dX12_compares_50 ?_
        refine g_goto (tgt := 55) h (by decide) dX12_compares_51 ?_
        exact g_iret h hr dX12_compares_55 hw
theorem t_X12_compares_28 {X : sX} {h0 : Nat} {h1 : Nat} (ph0 : sAr h0 1 65) (ph1 : sAr h1 1 65) {post : Int32 → sI → sJ → Prop} (h : sOK X cX12_compares RX12 3 0 0) (hr : sRt X (some .int) (sPi post)) {x2 : Int32} {I : sI} {J : sJ} (hw : w_X12_compares_28 h0 h1 post x2 I J) : sG X 3 28 [(0, .ref h0), (1, .ref h1), (2, .int x2)] [] I J := by
  obtain ⟨n, hw⟩ := hw
  induction n generalizing x2 I J with
  | zero => exact hw.elim
  | succ n ih => exact t_X12_compares_28_s ph0 ph1 h hr (fun _ _ _ q => ih q) hw
def w_X12_compares (h0 : Nat) (h1 : Nat) (I : sI) (J : sJ) (post : Int32 → sI → sJ → Prop) : Prop :=
  (vp_in 0 65 ∧ (vp_in 0 65 ∧ (((I h0 (Int32.toNatClampNeg 0)) = (I h1 (Int32.toNatClampNeg 0)) → (vp_in 0 65 ∧ (∀ v2_27 : Int32, v2_27 = I h0 (Int32.toNatClampNeg 0) → w_X12_compares_28 h0 h1 post v2_27 I J))) ∧ (¬ (I h0 (Int32.toNatClampNeg 0)) = (I h1 (Int32.toNatClampNeg 0)) → (vp_in 0 65 ∧ (vp_in 0 65 ∧ (((I h1 (Int32.toNatClampNeg 0)) ≤ (I h0 (Int32.toNatClampNeg 0)) → post 1 I J) ∧ (¬ (I h1 (Int32.toNatClampNeg 0)) ≤ (I h0 (Int32.toNatClampNeg 0)) → post (-1) I J))))))))
set_option maxHeartbeats 4000000 in
set_option maxRecDepth 100000 in
theorem t_X12_compares {X : sX} {h0 : Nat} {h1 : Nat} (ph0 : sAr h0 1 65) (ph1 : sAr h1 1 65) {I : sI} {J : sJ} {post : Int32 → sI → sJ → Prop} (h : sOK X cX12_compares RX12 3 0 0) (hr : sRt X (some .int) (sPi post)) (hw : w_X12_compares h0 h1 I J post) : sG X 3 0 [(0, .ref h0), (1, .ref h1)] [] I J := by
  unfold w_X12_compares at hw
  refine g_aload_n h rfl 0 rfl dX12_compares_0 ?_
  refine g_iconst (v := 0) h (by decide) dX12_compares_1 ?_
  obtain ⟨hi2, hw⟩ := hw
  refine g_iald h ph0 hi2 dX12_compares_2 ?_
  refine g_aload_n h rfl 1 rfl dX12_compares_3 ?_
  refine g_iconst (v := 0) h (by decide) dX12_compares_4 ?_
  obtain ⟨hi5, hw⟩ := hw
  refine g_iald h ph1 hi5 dX12_compares_5 ?_
  refine g_icmp_eq (tgt := 24) h (by decide) dX12_compares_6 (fun q6 => ?_) (fun q6 => ?_)
  · replace hw := hw.1 q6
    refine g_aload_n h rfl 0 rfl dX12_compares_24 ?_
    refine g_iconst (v := 0) h (by decide) dX12_compares_25 ?_
    obtain ⟨hi26, hw⟩ := hw
    refine g_iald h ph0 hi26 dX12_compares_26 ?_
    refine g_ni (fun v2_27 ev2_27 => ?_)
    replace hw := hw v2_27 ev2_27
    refine g_istore_n (lo2 := [(2, .int v2_27), (0, .ref h0), (1, .ref h1)]) h rfl (by decide) rfl dX12_compares_27 ?_
    exact g_sub [1, 2, 0] rfl (t_X12_compares_28 ph0 ph1 h hr hw)
  · replace hw := hw.2 q6
    refine g_aload_n h rfl 0 rfl dX12_compares_9 ?_
    refine g_iconst (v := 0) h (by decide) dX12_compares_10 ?_
    obtain ⟨hi11, hw⟩ := hw
    refine g_iald h ph0 hi11 dX12_compares_11 ?_
    refine g_aload_n h rfl 1 rfl dX12_compares_12 ?_
    refine g_iconst (v := 0) h (by decide) dX12_compares_13 ?_
    obtain ⟨hi14, hw⟩ := hw
    refine g_iald h ph1 hi14 dX12_compares_14 ?_
    refine g_icmp_ge (tgt := 22) h (by decide) dX12_compares_15 (fun q15 => ?_) (fun q15 => ?_)
    · replace hw := hw.1 q15
      refine g_iconst (v := 1) h (by decide) dX12_compares_22 ?_
      exact g_iret h hr dX12_compares_23 hw
    · replace hw := hw.2 q15
      refine g_iconst (v := (-1)) h (by decide) dX12_compares_18 ?_
      refine g_goto (tgt := 23) h (by decide) dX12_compares_19 ?_
      exact g_iret h hr dX12_compares_23 hw
theorem c_X12_compares (X : sX) {h0 : Nat} {h1 : Nat} (ph0 : sAr h0 1 65) (ph1 : sAr h1 1 65) {I : sI} {J : sJ} {post : Int32 → sI → sJ → Prop} (hw : w_X12_compares h0 h1 I J post) : sCall X yX12_compares cX12_compares 3 (some .int) 0 0 [.ref h0, .ref h1] I J (sPi post) := sCall_of (by decide +kernel) (Nat.le_of_ble_eq_true rfl) (fun X h hr => t_X12_compares ph0 ph1 h hr hw)
theorem dX12_weighs_0 : decode cX12_weighs 0 = .ok (.aload_n 1, 1) := by decide +kernel
theorem dX12_weighs_1 : decode cX12_weighs 1 = .ok (.invokestatic 303, 3) := by decide +kernel
theorem dX12_weighs_4 : decode cX12_weighs 4 = .ok (.iconst 0, 1) := by decide +kernel
theorem dX12_weighs_5 : decode cX12_weighs 5 = .ok (.istore 4, 2) := by decide +kernel
theorem dX12_weighs_7 : decode cX12_weighs 7 = .ok (.iload 4, 2) := by decide +kernel
theorem dX12_weighs_9 : decode cX12_weighs 9 = .ok (.aload_n 0, 1) := by decide +kernel
theorem dX12_weighs_10 : decode cX12_weighs 10 = .ok (.getfield 292, 3) := by decide +kernel
theorem dX12_weighs_13 : decode cX12_weighs 13 = .ok (.if_icmp .ge 21, 3) := by decide +kernel
theorem dX12_weighs_16 : decode cX12_weighs 16 = .ok (.aload_n 1, 1) := by decide +kernel
theorem dX12_weighs_17 : decode cX12_weighs 17 = .ok (.iconst 0, 1) := by decide +kernel
theorem dX12_weighs_18 : decode cX12_weighs 18 = .ok (.iload_n 2, 1) := by decide +kernel
theorem dX12_weighs_19 : decode cX12_weighs 19 = .ok (.iload 4, 2) := by decide +kernel
theorem dX12_weighs_21 : decode cX12_weighs 21 = .ok (.isub, 1) := by decide +kernel
theorem dX12_weighs_22 : decode cX12_weighs 22 = .ok (.invokestatic 237, 3) := by decide +kernel
theorem dX12_weighs_25 : decode cX12_weighs 25 = .ok (.invokestatic 307, 3) := by decide +kernel
theorem dX12_weighs_28 : decode cX12_weighs 28 = .ok (.iinc 4 1, 3) := by decide +kernel
theorem dX12_weighs_31 : decode cX12_weighs 31 = .ok (.goto (-24), 3) := by decide +kernel
theorem dX12_weighs_34 : decode cX12_weighs 34 = .ok (.iconst 0, 1) := by decide +kernel
theorem dX12_weighs_35 : decode cX12_weighs 35 = .ok (.istore 4, 2) := by decide +kernel
theorem dX12_weighs_37 : decode cX12_weighs 37 = .ok (.iload 4, 2) := by decide +kernel
theorem dX12_weighs_39 : decode cX12_weighs 39 = .ok (.aload_n 0, 1) := by decide +kernel
theorem dX12_weighs_40 : decode cX12_weighs 40 = .ok (.getfield 289, 3) := by decide +kernel
theorem dX12_weighs_43 : decode cX12_weighs 43 = .ok (.if_icmp .ge 14, 3) := by decide +kernel
theorem dX12_weighs_46 : decode cX12_weighs 46 = .ok (.aload_n 1, 1) := by decide +kernel
theorem dX12_weighs_47 : decode cX12_weighs 47 = .ok (.iload_n 3, 1) := by decide +kernel
theorem dX12_weighs_48 : decode cX12_weighs 48 = .ok (.invokestatic 307, 3) := by decide +kernel
theorem dX12_weighs_51 : decode cX12_weighs 51 = .ok (.iinc 4 1, 3) := by decide +kernel
theorem dX12_weighs_54 : decode cX12_weighs 54 = .ok (.goto (-17), 3) := by decide +kernel
theorem dX12_weighs_57 : decode cX12_weighs 57 = .ok (.return_, 1) := by decide +kernel
def w_X12_weighs_37_s (h1 : Nat) (post : sI → sJ → Prop) (k37 : Int32 → Int32 → sI → sJ → Prop) (x3 : Int32) (x4 : Int32) (I : sI) (J : sJ) : Prop :=
  (((I 248 42) ≤ x4 → post I J) ∧ (¬ (I 248 42) ≤ x4 → w_X12_times h1 x3 I J (fun (I_48 : sI) (J_48 : sJ) => ((∀ v4_51 : Int32, v4_51 = x4 + 1 → k37 x3 v4_51 I_48 J_48)))))
def w_X12_weighs_37_n (h1 : Nat) (post : sI → sJ → Prop) : Nat → Int32 → Int32 → sI → sJ → Prop
  | 0 => fun _ _ _ _ => False
  | n + 1 => fun x3 x4 I J => w_X12_weighs_37_s h1 post (w_X12_weighs_37_n h1 post n) x3 x4 I J
def w_X12_weighs_37 (h1 : Nat) (post : sI → sJ → Prop) (x3 : Int32) (x4 : Int32) (I : sI) (J : sJ) : Prop := ∃ n, w_X12_weighs_37_n h1 post n x3 x4 I J
set_option maxHeartbeats 4000000 in
set_option maxRecDepth 100000 in
theorem t_X12_weighs_37_s {X : sX} {h1 : Nat} (ph1 : sAr h1 1 65) {post : sI → sJ → Prop} (h : sOK X cX12_weighs RX12 5 1 24) (hr : sRt X none (sPv post)) {k37 : Int32 → Int32 → sI → sJ → Prop} (hk37 : ∀ (x3 : Int32) (x4 : Int32) (I : sI) (J : sJ), k37 x3 x4 I J → sG X 5 37 [(0, .ref 248), (1, .ref h1), (3, .int x3), (4, .int x4)] [] I J) {x3 : Int32} {x4 : Int32} {I : sI} {J : sJ} (hw : w_X12_weighs_37_s h1 post k37 x3 x4 I J) : sG X 5 37 [(0, .ref 248), (1, .ref h1), (3, .int x3), (4, .int x4)] [] I J := by
  unfold w_X12_weighs_37_s at hw
  refine g_iload h 3 rfl dX12_weighs_37 ?_
  refine g_aload_n h rfl 0 rfl dX12_weighs_39 ?_
  refine g_get h is_248 fl_X12_289 rfl dX12_weighs_40 ?_
  refine g_icmp_ge (tgt := 57) h (by decide) dX12_weighs_43 (fun q43 => ?_) (fun q43 => ?_)
  · replace hw := hw.1 q43
    exact g_vret h hr dX12_weighs_57 hw
  · replace hw := hw.2 q43
    refine g_aload_n h rfl 1 rfl dX12_weighs_46 ?_
    refine g_iload_n h rfl 2 rfl dX12_weighs_47 ?_
    refine g_callS [.ref h1, .int x3] h (c_X12_times X ph1 hw) sPv_v mw_X12_times lk_X12_307 rfl ⟨by decide, by decide⟩ (Nat.le_of_ble_eq_true rfl) dX12_weighs_48 (sPv_k (fun I_48 J_48 hw => ?_))
    obtain ⟨v4_51, ev4_51⟩ : ∃ z : Int32, z = x4 + 1 := ⟨_, rfl⟩
    replace hw := hw v4_51 ev4_51
    refine g_iinc (v := v4_51) (lo2 := [(4, .int v4_51), (0, .ref 248), (1, .ref h1), (3, .int x3)]) h 3 rfl (by rw [ev4_51]; rfl) (by decide) rfl dX12_weighs_51 ?_
    refine g_goto (tgt := 37) h (by decide) dX12_weighs_54 ?_
    exact g_sub [1, 2, 3, 0] rfl (hk37 _ _ _ _ hw)
theorem t_X12_weighs_37 {X : sX} {h1 : Nat} (ph1 : sAr h1 1 65) {post : sI → sJ → Prop} (h : sOK X cX12_weighs RX12 5 1 24) (hr : sRt X none (sPv post)) {x3 : Int32} {x4 : Int32} {I : sI} {J : sJ} (hw : w_X12_weighs_37 h1 post x3 x4 I J) : sG X 5 37 [(0, .ref 248), (1, .ref h1), (3, .int x3), (4, .int x4)] [] I J := by
  obtain ⟨n, hw⟩ := hw
  induction n generalizing x3 x4 I J with
  | zero => exact hw.elim
  | succ n ih => exact t_X12_weighs_37_s ph1 h hr (fun _ _ _ _ q => ih q) hw
def w_X12_weighs_7_s (h1 : Nat) (post : sI → sJ → Prop) (k7 : Int32 → Int32 → Int32 → sI → sJ → Prop) (x2 : Int32) (x3 : Int32) (x4 : Int32) (I : sI) (J : sJ) : Prop :=
  (((I 248 43) ≤ x4 → w_X12_weighs_37 h1 post x3 0 I J) ∧ (¬ (I 248 43) ≤ x4 → w_J9_max_7cf53 0 (x2 - x4) I J (fun (r_22 : Int32) (I_22 : sI) (J_22 : sJ) => (w_X12_times h1 r_22 I_22 J_22 (fun (I_25 : sI) (J_25 : sJ) => ((∀ v4_28 : Int32, v4_28 = x4 + 1 → k7 x2 x3 v4_28 I_25 J_25)))))))
def w_X12_weighs_7_n (h1 : Nat) (post : sI → sJ → Prop) : Nat → Int32 → Int32 → Int32 → sI → sJ → Prop
  | 0 => fun _ _ _ _ _ => False
  | n + 1 => fun x2 x3 x4 I J => w_X12_weighs_7_s h1 post (w_X12_weighs_7_n h1 post n) x2 x3 x4 I J
def w_X12_weighs_7 (h1 : Nat) (post : sI → sJ → Prop) (x2 : Int32) (x3 : Int32) (x4 : Int32) (I : sI) (J : sJ) : Prop := ∃ n, w_X12_weighs_7_n h1 post n x2 x3 x4 I J
set_option maxHeartbeats 4000000 in
set_option maxRecDepth 100000 in
theorem t_X12_weighs_7_s {X : sX} {h1 : Nat} (ph1 : sAr h1 1 65) {post : sI → sJ → Prop} (h : sOK X cX12_weighs RX12 5 1 24) (hr : sRt X none (sPv post)) {k7 : Int32 → Int32 → Int32 → sI → sJ → Prop} (hk7 : ∀ (x2 : Int32) (x3 : Int32) (x4 : Int32) (I : sI) (J : sJ), k7 x2 x3 x4 I J → sG X 5 7 [(0, .ref 248), (1, .ref h1), (2, .int x2), (3, .int x3), (4, .int x4)] [] I J) {x2 : Int32} {x3 : Int32} {x4 : Int32} {I : sI} {J : sJ} (hw : w_X12_weighs_7_s h1 post k7 x2 x3 x4 I J) : sG X 5 7 [(0, .ref 248), (1, .ref h1), (2, .int x2), (3, .int x3), (4, .int x4)] [] I J := by
  unfold w_X12_weighs_7_s at hw
  refine g_iload h 4 rfl dX12_weighs_7 ?_
  refine g_aload_n h rfl 0 rfl dX12_weighs_9 ?_
  refine g_get h is_248 fl_X12_292 rfl dX12_weighs_10 ?_
  refine g_icmp_ge (tgt := 34) h (by decide) dX12_weighs_13 (fun q13 => ?_) (fun q13 => ?_)
  · replace hw := hw.1 q13
    refine g_iconst (v := 0) h (by decide) dX12_weighs_34 ?_
    refine g_istore (lo2 := [(4, .int 0), (0, .ref 248), (1, .ref h1), (2, .int x2), (3, .int x3)]) h (by decide) rfl dX12_weighs_35 ?_
    exact g_sub [1, 2, 4, 0] rfl (t_X12_weighs_37 ph1 h hr hw)
  · replace hw := hw.2 q13
    refine g_aload_n h rfl 1 rfl dX12_weighs_16 ?_
    refine g_iconst (v := 0) h (by decide) dX12_weighs_17 ?_
    refine g_iload_n h rfl 2 rfl dX12_weighs_18 ?_
    refine g_iload h 4 rfl dX12_weighs_19 ?_
    refine g_isub h dX12_weighs_21 ?_
    refine g_callS [.int 0, .int (x2 - x4)] h (c_J9_max_7cf53 X hw) sPi_v mw_J9_max_7cf53 lk_X12_237 rfl ⟨by decide, by decide⟩ (Nat.le_of_ble_eq_true rfl) dX12_weighs_22 (sPi_k (fun r_22 I_22 J_22 hw => ?_))
    refine g_callS [.ref h1, .int r_22] h (c_X12_times X ph1 hw) sPv_v mw_X12_times lk_X12_307 rfl ⟨by decide, by decide⟩ (Nat.le_of_ble_eq_true rfl) dX12_weighs_25 (sPv_k (fun I_25 J_25 hw => ?_))
    obtain ⟨v4_28, ev4_28⟩ : ∃ z : Int32, z = x4 + 1 := ⟨_, rfl⟩
    replace hw := hw v4_28 ev4_28
    refine g_iinc (v := v4_28) (lo2 := [(4, .int v4_28), (0, .ref 248), (1, .ref h1), (2, .int x2), (3, .int x3)]) h 4 rfl (by rw [ev4_28]; rfl) (by decide) rfl dX12_weighs_28 ?_
    refine g_goto (tgt := 7) h (by decide) dX12_weighs_31 ?_
    exact g_sub [1, 2, 3, 4, 0] rfl (hk7 _ _ _ _ _ hw)
theorem t_X12_weighs_7 {X : sX} {h1 : Nat} (ph1 : sAr h1 1 65) {post : sI → sJ → Prop} (h : sOK X cX12_weighs RX12 5 1 24) (hr : sRt X none (sPv post)) {x2 : Int32} {x3 : Int32} {x4 : Int32} {I : sI} {J : sJ} (hw : w_X12_weighs_7 h1 post x2 x3 x4 I J) : sG X 5 7 [(0, .ref 248), (1, .ref h1), (2, .int x2), (3, .int x3), (4, .int x4)] [] I J := by
  obtain ⟨n, hw⟩ := hw
  induction n generalizing x2 x3 x4 I J with
  | zero => exact hw.elim
  | succ n ih => exact t_X12_weighs_7_s ph1 h hr (fun _ _ _ _ _ q => ih q) hw
def w_X12_weighs (h1 : Nat) (a2 : Int32) (a3 : Int32) (I : sI) (J : sJ) (post : sI → sJ → Prop) : Prop :=
  w_X12_one h1 I J (fun (I_1 : sI) (J_1 : sJ) => (w_X12_weighs_7 h1 post a2 a3 0 I_1 J_1))
set_option maxHeartbeats 4000000 in
set_option maxRecDepth 100000 in
theorem t_X12_weighs {X : sX} {h1 : Nat} {a2 : Int32} {a3 : Int32} (ph1 : sAr h1 1 65) {I : sI} {J : sJ} {post : sI → sJ → Prop} (h : sOK X cX12_weighs RX12 5 1 24) (hr : sRt X none (sPv post)) (hw : w_X12_weighs h1 a2 a3 I J post) : sG X 5 0 [(0, .ref 248), (1, .ref h1), (2, .int a2), (3, .int a3)] [] I J := by
  unfold w_X12_weighs at hw
  refine g_aload_n h rfl 1 rfl dX12_weighs_0 ?_
  refine g_callS [.ref h1] h (c_X12_one X ph1 hw) sPv_v mw_X12_one lk_X12_303 rfl ⟨by decide, by decide⟩ (Nat.le_of_ble_eq_true rfl) dX12_weighs_1 (sPv_k (fun I_1 J_1 hw => ?_))
  refine g_iconst (v := 0) h (by decide) dX12_weighs_4 ?_
  refine g_istore (lo2 := [(4, .int 0), (0, .ref 248), (1, .ref h1), (2, .int a2), (3, .int a3)]) h (by decide) rfl dX12_weighs_5 ?_
  exact g_sub [1, 2, 3, 4, 0] rfl (t_X12_weighs_7 ph1 h hr hw)
theorem c_X12_weighs (X : sX) {h1 : Nat} {a2 : Int32} {a3 : Int32} (ph1 : sAr h1 1 65) {I : sI} {J : sJ} {post : sI → sJ → Prop} (hw : w_X12_weighs h1 a2 a3 I J post) : sCall X yX12_weighs cX12_weighs 5 none 1 24 [.ref 248, .ref h1, .int a2, .int a3] I J (sPv post) := sCall_of (by decide +kernel) (Nat.le_of_ble_eq_true rfl) (fun X h hr => t_X12_weighs ph1 h hr hw)
theorem dX12_likelier_0 : decode cX12_likelier 0 = .ok (.aload_n 0, 1) := by decide +kernel
theorem dX12_likelier_1 : decode cX12_likelier 1 = .ok (.aload_n 0, 1) := by decide +kernel
theorem dX12_likelier_2 : decode cX12_likelier 2 = .ok (.getfield 311, 3) := by decide +kernel
theorem dX12_likelier_5 : decode cX12_likelier 5 = .ok (.iload_n 1, 1) := by decide +kernel
theorem dX12_likelier_6 : decode cX12_likelier 6 = .ok (.iload_n 2, 1) := by decide +kernel
theorem dX12_likelier_7 : decode cX12_likelier 7 = .ok (.invokevirtual 314, 3) := by decide +kernel
theorem dX12_likelier_10 : decode cX12_likelier 10 = .ok (.aload_n 0, 1) := by decide +kernel
theorem dX12_likelier_11 : decode cX12_likelier 11 = .ok (.aload_n 0, 1) := by decide +kernel
theorem dX12_likelier_12 : decode cX12_likelier 12 = .ok (.getfield 318, 3) := by decide +kernel
theorem dX12_likelier_15 : decode cX12_likelier 15 = .ok (.iload_n 2, 1) := by decide +kernel
theorem dX12_likelier_16 : decode cX12_likelier 16 = .ok (.iload_n 1, 1) := by decide +kernel
theorem dX12_likelier_17 : decode cX12_likelier 17 = .ok (.invokevirtual 314, 3) := by decide +kernel
theorem dX12_likelier_20 : decode cX12_likelier 20 = .ok (.aload_n 0, 1) := by decide +kernel
theorem dX12_likelier_21 : decode cX12_likelier 21 = .ok (.getfield 311, 3) := by decide +kernel
theorem dX12_likelier_24 : decode cX12_likelier 24 = .ok (.aload_n 0, 1) := by decide +kernel
theorem dX12_likelier_25 : decode cX12_likelier 25 = .ok (.getfield 318, 3) := by decide +kernel
theorem dX12_likelier_28 : decode cX12_likelier 28 = .ok (.invokestatic 321, 3) := by decide +kernel
theorem dX12_likelier_31 : decode cX12_likelier 31 = .ok (.ireturn, 1) := by decide +kernel
def w_X12_likelier (a1 : Int32) (a2 : Int32) (I : sI) (J : sJ) (post : Int32 → sI → sJ → Prop) : Prop :=
  w_X12_weighs 273 a1 a2 I J (fun (I_7 : sI) (J_7 : sJ) => (w_X12_weighs 274 a2 a1 I_7 J_7 (fun (I_17 : sI) (J_17 : sJ) => (w_X12_compares 273 274 I_17 J_17 (fun (r_28 : Int32) (I_28 : sI) (J_28 : sJ) => (post r_28 I_28 J_28))))))
set_option maxHeartbeats 4000000 in
set_option maxRecDepth 100000 in
theorem t_X12_likelier {X : sX} {a1 : Int32} {a2 : Int32} {I : sI} {J : sJ} {post : Int32 → sI → sJ → Prop} (h : sOK X cX12_likelier RX12 3 2 48) (hr : sRt X (some .int) (sPi post)) (hw : w_X12_likelier a1 a2 I J post) : sG X 3 0 [(0, .ref 248), (1, .int a1), (2, .int a2)] [] I J := by
  unfold w_X12_likelier at hw
  refine g_aload_n h rfl 0 rfl dX12_likelier_0 ?_
  refine g_aload_n h rfl 0 rfl dX12_likelier_1 ?_
  refine g_get h is_248 fl_X12_311 fr_248_44 dX12_likelier_2 ?_
  refine g_iload_n h rfl 1 rfl dX12_likelier_5 ?_
  refine g_iload_n h rfl 2 rfl dX12_likelier_6 ?_
  refine g_callV [.ref 273, .int a1, .int a2] h (c_X12_weighs X ar_273 hw) sPv_v mw_X12_weighs lk_X12_314 is_248 rfl rfl ⟨by decide, by decide⟩ (Nat.le_of_ble_eq_true rfl) dX12_likelier_7 (sPv_k (fun I_7 J_7 hw => ?_))
  refine g_aload_n h rfl 0 rfl dX12_likelier_10 ?_
  refine g_aload_n h rfl 0 rfl dX12_likelier_11 ?_
  refine g_get h is_248 fl_X12_318 fr_248_45 dX12_likelier_12 ?_
  refine g_iload_n h rfl 2 rfl dX12_likelier_15 ?_
  refine g_iload_n h rfl 1 rfl dX12_likelier_16 ?_
  refine g_callV [.ref 274, .int a2, .int a1] h (c_X12_weighs X ar_274 hw) sPv_v mw_X12_weighs lk_X12_314 is_248 rfl rfl ⟨by decide, by decide⟩ (Nat.le_of_ble_eq_true rfl) dX12_likelier_17 (sPv_k (fun I_17 J_17 hw => ?_))
  refine g_aload_n h rfl 0 rfl dX12_likelier_20 ?_
  refine g_get h is_248 fl_X12_311 fr_248_44 dX12_likelier_21 ?_
  refine g_aload_n h rfl 0 rfl dX12_likelier_24 ?_
  refine g_get h is_248 fl_X12_318 fr_248_45 dX12_likelier_25 ?_
  refine g_callS [.ref 273, .ref 274] h (c_X12_compares X ar_273 ar_274 hw) sPi_v mw_X12_compares lk_X12_321 rfl ⟨by decide, by decide⟩ (Nat.le_of_ble_eq_true rfl) dX12_likelier_28 (sPi_k (fun r_28 I_28 J_28 hw => ?_))
  exact g_iret h hr dX12_likelier_31 hw
theorem c_X12_likelier (X : sX) {a1 : Int32} {a2 : Int32} {I : sI} {J : sJ} {post : Int32 → sI → sJ → Prop} (hw : w_X12_likelier a1 a2 I J post) : sCall X yX12_likelier cX12_likelier 3 (some .int) 2 48 [.ref 248, .int a1, .int a2] I J (sPi post) := sCall_of (by decide +kernel) (Nat.le_of_ble_eq_true rfl) (fun X h hr => t_X12_likelier h hr hw)
theorem dX12_many_0 : decode cX12_many 0 = .ok (.aload_n 0, 1) := by decide +kernel
theorem dX12_many_1 : decode cX12_many 1 = .ok (.iconst 0, 1) := by decide +kernel
theorem dX12_many_2 : decode cX12_many 2 = .ok (.putfield 1, 3) := by decide +kernel
theorem dX12_many_5 : decode cX12_many 5 = .ok (.aload_n 0, 1) := by decide +kernel
theorem dX12_many_6 : decode cX12_many 6 = .ok (.invokevirtual 298, 3) := by decide +kernel
theorem dX12_many_9 : decode cX12_many 9 = .ok (.aload_n 0, 1) := by decide +kernel
theorem dX12_many_10 : decode cX12_many 10 = .ok (.getfield 292, 3) := by decide +kernel
theorem dX12_many_13 : decode cX12_many 13 = .ok (.ifCond .ne 5, 3) := by decide +kernel
theorem dX12_many_16 : decode cX12_many 16 = .ok (.iconst (-1), 1) := by decide +kernel
theorem dX12_many_17 : decode cX12_many 17 = .ok (.ireturn, 1) := by decide +kernel
theorem dX12_many_18 : decode cX12_many 18 = .ok (.aload_n 0, 1) := by decide +kernel
theorem dX12_many_19 : decode cX12_many 19 = .ok (.getfield 292, 3) := by decide +kernel
theorem dX12_many_22 : decode cX12_many 22 = .ok (.istore_n 1, 1) := by decide +kernel
theorem dX12_many_23 : decode cX12_many 23 = .ok (.aload_n 0, 1) := by decide +kernel
theorem dX12_many_24 : decode cX12_many 24 = .ok (.getfield 292, 3) := by decide +kernel
theorem dX12_many_27 : decode cX12_many 27 = .ok (.iconst 1, 1) := by decide +kernel
theorem dX12_many_28 : decode cX12_many 28 = .ok (.iadd, 1) := by decide +kernel
theorem dX12_many_29 : decode cX12_many 29 = .ok (.istore_n 2, 1) := by decide +kernel
theorem dX12_many_30 : decode cX12_many 30 = .ok (.iload_n 2, 1) := by decide +kernel
theorem dX12_many_31 : decode cX12_many 31 = .ok (.sipush 200, 3) := by decide +kernel
theorem dX12_many_34 : decode cX12_many 34 = .ok (.if_icmp .gt 24, 3) := by decide +kernel
theorem dX12_many_37 : decode cX12_many 37 = .ok (.aload_n 0, 1) := by decide +kernel
theorem dX12_many_38 : decode cX12_many 38 = .ok (.iload_n 2, 1) := by decide +kernel
theorem dX12_many_39 : decode cX12_many 39 = .ok (.iload_n 1, 1) := by decide +kernel
theorem dX12_many_40 : decode cX12_many 40 = .ok (.invokevirtual 325, 3) := by decide +kernel
theorem dX12_many_43 : decode cX12_many 43 = .ok (.ifCond .le 7, 3) := by decide +kernel
theorem dX12_many_46 : decode cX12_many 46 = .ok (.iload_n 2, 1) := by decide +kernel
theorem dX12_many_47 : decode cX12_many 47 = .ok (.goto 4, 3) := by decide +kernel
theorem dX12_many_50 : decode cX12_many 50 = .ok (.iload_n 1, 1) := by decide +kernel
theorem dX12_many_51 : decode cX12_many 51 = .ok (.istore_n 1, 1) := by decide +kernel
theorem dX12_many_52 : decode cX12_many 52 = .ok (.iinc 2 1, 3) := by decide +kernel
theorem dX12_many_55 : decode cX12_many 55 = .ok (.goto (-25), 3) := by decide +kernel
theorem dX12_many_58 : decode cX12_many 58 = .ok (.iload_n 1, 1) := by decide +kernel
theorem dX12_many_59 : decode cX12_many 59 = .ok (.ireturn, 1) := by decide +kernel
def w_X12_many_51 (post : Int32 → sI → sJ → Prop) (k30 : Int32 → Int32 → sI → sJ → Prop) (x2 : Int32) (s0 : Int32) (I : sI) (J : sJ) : Prop :=
  (∀ v2_52 : Int32, v2_52 = x2 + 1 → k30 s0 v2_52 I J)
set_option maxHeartbeats 4000000 in
set_option maxRecDepth 100000 in
theorem t_X12_many_51 {X : sX} {post : Int32 → sI → sJ → Prop} (h : sOK X cX12_many RX12 3 3 70) (hr : sRt X (some .int) (sPi post)) {k30 : Int32 → Int32 → sI → sJ → Prop} (hk30 : ∀ (x1 : Int32) (x2 : Int32) (I : sI) (J : sJ), k30 x1 x2 I J → sG X 3 30 [(0, .ref 248), (1, .int x1), (2, .int x2)] [] I J) {x2 : Int32} {s0 : Int32} {I : sI} {J : sJ} (hw : w_X12_many_51 post k30 x2 s0 I J) : sG X 3 51 [(0, .ref 248), (2, .int x2)] [.int s0] I J := by
  unfold w_X12_many_51 at hw
  refine g_istore_n (lo2 := [(1, .int s0), (0, .ref 248), (2, .int x2)]) h rfl (by decide) rfl dX12_many_51 ?_
  obtain ⟨v2_52, ev2_52⟩ : ∃ z : Int32, z = x2 + 1 := ⟨_, rfl⟩
  replace hw := hw v2_52 ev2_52
  refine g_iinc (v := v2_52) (lo2 := [(2, .int v2_52), (1, .int s0), (0, .ref 248)]) h 2 rfl (by rw [ev2_52]; rfl) (by decide) rfl dX12_many_52 ?_
  refine g_goto (tgt := 30) h (by decide) dX12_many_55 ?_
  exact g_sub [2, 1, 0] rfl (hk30 _ _ _ _ hw)
def w_X12_many_30_s (post : Int32 → sI → sJ → Prop) (k30 : Int32 → Int32 → sI → sJ → Prop) (x1 : Int32) (x2 : Int32) (I : sI) (J : sJ) : Prop :=
  ((200 < x2 → post x1 I J) ∧ (¬ 200 < x2 → w_X12_likelier x2 x1 I J (fun (r_40 : Int32) (I_40 : sI) (J_40 : sJ) => (((r_40 ≤ 0 → w_X12_many_51 post k30 x2 x1 I_40 J_40) ∧ (¬ r_40 ≤ 0 → w_X12_many_51 post k30 x2 x2 I_40 J_40))))))
def w_X12_many_30_n (post : Int32 → sI → sJ → Prop) : Nat → Int32 → Int32 → sI → sJ → Prop
  | 0 => fun _ _ _ _ => False
  | n + 1 => fun x1 x2 I J => w_X12_many_30_s post (w_X12_many_30_n post n) x1 x2 I J
def w_X12_many_30 (post : Int32 → sI → sJ → Prop) (x1 : Int32) (x2 : Int32) (I : sI) (J : sJ) : Prop := ∃ n, w_X12_many_30_n post n x1 x2 I J
set_option maxHeartbeats 4000000 in
set_option maxRecDepth 100000 in
theorem t_X12_many_30_s {X : sX} {post : Int32 → sI → sJ → Prop} (h : sOK X cX12_many RX12 3 3 70) (hr : sRt X (some .int) (sPi post)) {k30 : Int32 → Int32 → sI → sJ → Prop} (hk30 : ∀ (x1 : Int32) (x2 : Int32) (I : sI) (J : sJ), k30 x1 x2 I J → sG X 3 30 [(0, .ref 248), (1, .int x1), (2, .int x2)] [] I J) {x1 : Int32} {x2 : Int32} {I : sI} {J : sJ} (hw : w_X12_many_30_s post k30 x1 x2 I J) : sG X 3 30 [(0, .ref 248), (1, .int x1), (2, .int x2)] [] I J := by
  unfold w_X12_many_30_s at hw
  refine g_iload_n h rfl 2 rfl dX12_many_30 ?_
  refine g_sipush (v := 200) h (by decide) dX12_many_31 ?_
  refine g_icmp_gt (tgt := 58) h (by decide) dX12_many_34 (fun q34 => ?_) (fun q34 => ?_)
  · replace hw := hw.1 q34
    refine g_iload_n h rfl 1 rfl dX12_many_58 ?_
    exact g_iret h hr dX12_many_59 hw
  · replace hw := hw.2 q34
    refine g_aload_n h rfl 0 rfl dX12_many_37 ?_
    refine g_iload_n h rfl 2 rfl dX12_many_38 ?_
    refine g_iload_n h rfl 1 rfl dX12_many_39 ?_
    refine g_callV [.int x2, .int x1] h (c_X12_likelier X hw) sPi_v mw_X12_likelier lk_X12_325 is_248 rfl rfl ⟨by decide, by decide⟩ (Nat.le_of_ble_eq_true rfl) dX12_many_40 (sPi_k (fun r_40 I_40 J_40 hw => ?_))
    refine g_if_le (tgt := 50) h (by decide) dX12_many_43 (fun q43 => ?_) (fun q43 => ?_)
    · replace hw := hw.1 q43
      refine g_iload_n h rfl 1 rfl dX12_many_50 ?_
      exact g_sub [0, 2] rfl (t_X12_many_51 h hr hk30 hw)
    · replace hw := hw.2 q43
      refine g_iload_n h rfl 2 rfl dX12_many_46 ?_
      refine g_goto (tgt := 51) h (by decide) dX12_many_47 ?_
      exact g_sub [0, 2] rfl (t_X12_many_51 h hr hk30 hw)
theorem t_X12_many_30 {X : sX} {post : Int32 → sI → sJ → Prop} (h : sOK X cX12_many RX12 3 3 70) (hr : sRt X (some .int) (sPi post)) {x1 : Int32} {x2 : Int32} {I : sI} {J : sJ} (hw : w_X12_many_30 post x1 x2 I J) : sG X 3 30 [(0, .ref 248), (1, .int x1), (2, .int x2)] [] I J := by
  obtain ⟨n, hw⟩ := hw
  induction n generalizing x1 x2 I J with
  | zero => exact hw.elim
  | succ n ih => exact t_X12_many_30_s h hr (fun _ _ _ _ q => ih q) hw
def w_X12_many (I : sI) (J : sJ) (post : Int32 → sI → sJ → Prop) : Prop :=
  (∀ I_2 : sI, I_2 = sUI I 248 0 0 → w_X12_counts I_2 J (fun (I_6 : sI) (J_6 : sJ) => (((¬ (I_6 248 43) = 0 → (∀ v1_22 : Int32, v1_22 = I_6 248 43 → (∀ v2_29 : Int32, v2_29 = (I_6 248 43) + 1 → w_X12_many_30 post v1_22 v2_29 I_6 J_6))) ∧ ((I_6 248 43) = 0 → post (-1) I_6 J_6)))))
set_option maxHeartbeats 4000000 in
set_option maxRecDepth 100000 in
theorem t_X12_many {X : sX} {I : sI} {J : sJ} {post : Int32 → sI → sJ → Prop} (h : sOK X cX12_many RX12 3 3 70) (hr : sRt X (some .int) (sPi post)) (hw : w_X12_many I J post) : sG X 3 0 [(0, .ref 248)] [] I J := by
  unfold w_X12_many at hw
  refine g_aload_n h rfl 0 rfl dX12_many_0 ?_
  refine g_iconst (v := 0) h (by decide) dX12_many_1 ?_
  refine g_putI h is_248 fl_X12_1 rfl rfl dX12_many_2 ?_
  refine g_nI (fun I_2 eI_2 => ?_)
  replace hw := hw I_2 eI_2
  refine g_aload_n h rfl 0 rfl dX12_many_5 ?_
  refine g_callV [] h (c_X12_counts X hw) sPv_v mw_X12_counts lk_X12_298 is_248 rfl rfl ⟨by decide, by decide⟩ (Nat.le_of_ble_eq_true rfl) dX12_many_6 (sPv_k (fun I_6 J_6 hw => ?_))
  refine g_aload_n h rfl 0 rfl dX12_many_9 ?_
  refine g_get h is_248 fl_X12_292 rfl dX12_many_10 ?_
  refine g_if_ne (tgt := 18) h (by decide) dX12_many_13 (fun q13 => ?_) (fun q13 => ?_)
  · replace hw := hw.1 q13
    refine g_aload_n h rfl 0 rfl dX12_many_18 ?_
    refine g_get h is_248 fl_X12_292 rfl dX12_many_19 ?_
    refine g_ni (fun v1_22 ev1_22 => ?_)
    replace hw := hw v1_22 ev1_22
    refine g_istore_n (lo2 := [(1, .int v1_22), (0, .ref 248)]) h rfl (by decide) rfl dX12_many_22 ?_
    refine g_aload_n h rfl 1 rfl dX12_many_23 ?_
    refine g_get h is_248 fl_X12_292 rfl dX12_many_24 ?_
    refine g_iconst (v := 1) h (by decide) dX12_many_27 ?_
    refine g_iadd h dX12_many_28 ?_
    refine g_ni (fun v2_29 ev2_29 => ?_)
    replace hw := hw v2_29 ev2_29
    refine g_istore_n (lo2 := [(2, .int v2_29), (1, .int v1_22), (0, .ref 248)]) h rfl (by decide) rfl dX12_many_29 ?_
    exact g_sub [2, 1, 0] rfl (t_X12_many_30 h hr hw)
  · replace hw := hw.2 q13
    refine g_iconst (v := (-1)) h (by decide) dX12_many_16 ?_
    exact g_iret h hr dX12_many_17 hw
theorem c_X12_many (X : sX) {I : sI} {J : sJ} {post : Int32 → sI → sJ → Prop} (hw : w_X12_many I J post) : sCall X yX12_many cX12_many 3 (some .int) 3 70 [.ref 248] I J (sPi post) := sCall_of (by decide +kernel) (Nat.le_of_ble_eq_true rfl) (fun X h hr => t_X12_many h hr hw)
theorem dX12_script_0 : decode cX12_script 0 = .ok (.aload_n 0, 1) := by decide +kernel
theorem dX12_script_1 : decode cX12_script 1 = .ok (.iconst 0, 1) := by decide +kernel
theorem dX12_script_2 : decode cX12_script 2 = .ok (.putfield 1, 3) := by decide +kernel
theorem dX12_script_5 : decode cX12_script 5 = .ok (.aload_n 0, 1) := by decide +kernel
theorem dX12_script_6 : decode cX12_script 6 = .ok (.invokevirtual 298, 3) := by decide +kernel
theorem dX12_script_9 : decode cX12_script 9 = .ok (.iload_n 1, 1) := by decide +kernel
theorem dX12_script_10 : decode cX12_script 10 = .ok (.i2l, 1) := by decide +kernel
theorem dX12_script_11 : decode cX12_script 11 = .ok (.lconst 1, 1) := by decide +kernel
theorem dX12_script_12 : decode cX12_script 12 = .ok (.ldc2_w 328, 3) := by decide +kernel
theorem dX12_script_15 : decode cX12_script 15 = .ok (.invokestatic 29, 3) := by decide +kernel
theorem dX12_script_18 : decode cX12_script 18 = .ok (.ifCond .eq 22, 3) := by decide +kernel
theorem dX12_script_21 : decode cX12_script 21 = .ok (.iload_n 2, 1) := by decide +kernel
theorem dX12_script_22 : decode cX12_script 22 = .ok (.i2l, 1) := by decide +kernel
theorem dX12_script_23 : decode cX12_script 23 = .ok (.lconst 1, 1) := by decide +kernel
theorem dX12_script_24 : decode cX12_script 24 = .ok (.ldc2_w 328, 3) := by decide +kernel
theorem dX12_script_27 : decode cX12_script 27 = .ok (.invokestatic 29, 3) := by decide +kernel
theorem dX12_script_30 : decode cX12_script 30 = .ok (.ifCond .eq 10, 3) := by decide +kernel
theorem dX12_script_33 : decode cX12_script 33 = .ok (.aload_n 0, 1) := by decide +kernel
theorem dX12_script_34 : decode cX12_script 34 = .ok (.getfield 292, 3) := by decide +kernel
theorem dX12_script_37 : decode cX12_script 37 = .ok (.ifCond .ne 5, 3) := by decide +kernel
theorem dX12_script_40 : decode cX12_script 40 = .ok (.iconst (-1), 1) := by decide +kernel
theorem dX12_script_41 : decode cX12_script 41 = .ok (.ireturn, 1) := by decide +kernel
theorem dX12_script_42 : decode cX12_script 42 = .ok (.iload_n 1, 1) := by decide +kernel
theorem dX12_script_43 : decode cX12_script 43 = .ok (.aload_n 0, 1) := by decide +kernel
theorem dX12_script_44 : decode cX12_script 44 = .ok (.getfield 292, 3) := by decide +kernel
theorem dX12_script_47 : decode cX12_script 47 = .ok (.if_icmp .ge 14, 3) := by decide +kernel
theorem dX12_script_50 : decode cX12_script 50 = .ok (.iload_n 2, 1) := by decide +kernel
theorem dX12_script_51 : decode cX12_script 51 = .ok (.aload_n 0, 1) := by decide +kernel
theorem dX12_script_52 : decode cX12_script 52 = .ok (.getfield 292, 3) := by decide +kernel
theorem dX12_script_55 : decode cX12_script 55 = .ok (.if_icmp .ge 6, 3) := by decide +kernel
theorem dX12_script_58 : decode cX12_script 58 = .ok (.bipush (-2), 2) := by decide +kernel
theorem dX12_script_60 : decode cX12_script 60 = .ok (.ireturn, 1) := by decide +kernel
theorem dX12_script_61 : decode cX12_script 61 = .ok (.aload_n 0, 1) := by decide +kernel
theorem dX12_script_62 : decode cX12_script 62 = .ok (.iload_n 1, 1) := by decide +kernel
theorem dX12_script_63 : decode cX12_script 63 = .ok (.iload_n 2, 1) := by decide +kernel
theorem dX12_script_64 : decode cX12_script 64 = .ok (.invokevirtual 325, 3) := by decide +kernel
theorem dX12_script_67 : decode cX12_script 67 = .ok (.istore_n 3, 1) := by decide +kernel
theorem dX12_script_68 : decode cX12_script 68 = .ok (.iload_n 3, 1) := by decide +kernel
theorem dX12_script_69 : decode cX12_script 69 = .ok (.ifCond .le 7, 3) := by decide +kernel
theorem dX12_script_72 : decode cX12_script 72 = .ok (.iconst 0, 1) := by decide +kernel
theorem dX12_script_73 : decode cX12_script 73 = .ok (.goto 12, 3) := by decide +kernel
theorem dX12_script_76 : decode cX12_script 76 = .ok (.iload_n 3, 1) := by decide +kernel
theorem dX12_script_77 : decode cX12_script 77 = .ok (.ifCond .ge 7, 3) := by decide +kernel
theorem dX12_script_80 : decode cX12_script 80 = .ok (.iconst 1, 1) := by decide +kernel
theorem dX12_script_81 : decode cX12_script 81 = .ok (.goto 4, 3) := by decide +kernel
theorem dX12_script_84 : decode cX12_script 84 = .ok (.iconst 2, 1) := by decide +kernel
theorem dX12_script_85 : decode cX12_script 85 = .ok (.ireturn, 1) := by decide +kernel
def w_X12_script_61 (post : Int32 → sI → sJ → Prop) (x1 : Int32) (x2 : Int32) (I : sI) (J : sJ) : Prop :=
  w_X12_likelier x1 x2 I J (fun (r_64 : Int32) (I_64 : sI) (J_64 : sJ) => (((r_64 ≤ 0 → ((0 ≤ r_64 → post 2 I_64 J_64) ∧ (¬ 0 ≤ r_64 → post 1 I_64 J_64))) ∧ (¬ r_64 ≤ 0 → post 0 I_64 J_64))))
set_option maxHeartbeats 4000000 in
set_option maxRecDepth 100000 in
theorem t_X12_script_61 {X : sX} {post : Int32 → sI → sJ → Prop} (h : sOK X cX12_script RX12 4 3 70) (hr : sRt X (some .int) (sPi post)) {x1 : Int32} {x2 : Int32} {I : sI} {J : sJ} (hw : w_X12_script_61 post x1 x2 I J) : sG X 4 61 [(0, .ref 248), (1, .int x1), (2, .int x2)] [] I J := by
  unfold w_X12_script_61 at hw
  refine g_aload_n h rfl 0 rfl dX12_script_61 ?_
  refine g_iload_n h rfl 1 rfl dX12_script_62 ?_
  refine g_iload_n h rfl 2 rfl dX12_script_63 ?_
  refine g_callV [.int x1, .int x2] h (c_X12_likelier X hw) sPi_v mw_X12_likelier lk_X12_325 is_248 rfl rfl ⟨by decide, by decide⟩ (Nat.le_of_ble_eq_true rfl) dX12_script_64 (sPi_k (fun r_64 I_64 J_64 hw => ?_))
  refine g_istore_n (lo2 := [(3, .int r_64), (0, .ref 248), (1, .int x1), (2, .int x2)]) h rfl (by decide) rfl dX12_script_67 ?_
  refine g_iload_n h rfl 0 rfl dX12_script_68 ?_
  refine g_if_le (tgt := 76) h (by decide) dX12_script_69 (fun q69 => ?_) (fun q69 => ?_)
  · replace hw := hw.1 q69
    refine g_iload_n h rfl 0 rfl dX12_script_76 ?_
    refine g_if_ge (tgt := 84) h (by decide) dX12_script_77 (fun q77 => ?_) (fun q77 => ?_)
    · replace hw := hw.1 q77
      refine g_iconst (v := 2) h (by decide) dX12_script_84 ?_
      exact g_iret h hr dX12_script_85 hw
    · replace hw := hw.2 q77
      refine g_iconst (v := 1) h (by decide) dX12_script_80 ?_
      refine g_goto (tgt := 85) h (by decide) dX12_script_81 ?_
      exact g_iret h hr dX12_script_85 hw
  · replace hw := hw.2 q69
    refine g_iconst (v := 0) h (by decide) dX12_script_72 ?_
    refine g_goto (tgt := 85) h (by decide) dX12_script_73 ?_
    exact g_iret h hr dX12_script_85 hw
def w_X12_script (a1 : Int32) (a2 : Int32) (I : sI) (J : sJ) (post : Int32 → sI → sJ → Prop) : Prop :=
  (∀ I_2 : sI, I_2 = sUI I 248 0 0 → w_X12_counts I_2 J (fun (I_6 : sI) (J_6 : sJ) => (w_X12_in (Int32.toInt64 a1) 1 200 I_6 J_6 (fun (r_15 : Int32) (I_15 : sI) (J_15 : sJ) => (((r_15 = 0 → post (-1) I_15 J_15) ∧ (¬ r_15 = 0 → w_X12_in (Int32.toInt64 a2) 1 200 I_15 J_15 (fun (r_27 : Int32) (I_27 : sI) (J_27 : sJ) => (((r_27 = 0 → post (-1) I_27 J_27) ∧ (¬ r_27 = 0 → ((¬ (I_27 248 43) = 0 → (((I_27 248 43) ≤ a1 → w_X12_script_61 post a1 a2 I_27 J_27) ∧ (¬ (I_27 248 43) ≤ a1 → (((I_27 248 43) ≤ a2 → w_X12_script_61 post a1 a2 I_27 J_27) ∧ (¬ (I_27 248 43) ≤ a2 → post (-2) I_27 J_27))))) ∧ ((I_27 248 43) = 0 → post (-1) I_27 J_27)))))))))))))
set_option maxHeartbeats 4000000 in
set_option maxRecDepth 100000 in
theorem t_X12_script {X : sX} {a1 : Int32} {a2 : Int32} {I : sI} {J : sJ} {post : Int32 → sI → sJ → Prop} (h : sOK X cX12_script RX12 4 3 70) (hr : sRt X (some .int) (sPi post)) (hw : w_X12_script a1 a2 I J post) : sG X 4 0 [(0, .ref 248), (1, .int a1), (2, .int a2)] [] I J := by
  unfold w_X12_script at hw
  refine g_aload_n h rfl 0 rfl dX12_script_0 ?_
  refine g_iconst (v := 0) h (by decide) dX12_script_1 ?_
  refine g_putI h is_248 fl_X12_1 rfl rfl dX12_script_2 ?_
  refine g_nI (fun I_2 eI_2 => ?_)
  replace hw := hw I_2 eI_2
  refine g_aload_n h rfl 0 rfl dX12_script_5 ?_
  refine g_callV [] h (c_X12_counts X hw) sPv_v mw_X12_counts lk_X12_298 is_248 rfl rfl ⟨by decide, by decide⟩ (Nat.le_of_ble_eq_true rfl) dX12_script_6 (sPv_k (fun I_6 J_6 hw => ?_))
  refine g_iload_n h rfl 1 rfl dX12_script_9 ?_
  refine g_i2l h dX12_script_10 ?_
  refine g_lconst (v := 1) h (by decide) dX12_script_11 ?_
  refine g_ldc2 h lc_X12_328 dX12_script_12 ?_
  refine g_callS [.long (Int32.toInt64 a1), .long 1, .long 200] h (c_X12_in X hw) sPi_v mw_X12_in lk_X12_29 rfl ⟨by decide, by decide⟩ (Nat.le_of_ble_eq_true rfl) dX12_script_15 (sPi_k (fun r_15 I_15 J_15 hw => ?_))
  refine g_if_eq (tgt := 40) h (by decide) dX12_script_18 (fun q18 => ?_) (fun q18 => ?_)
  · replace hw := hw.1 q18
    refine g_iconst (v := (-1)) h (by decide) dX12_script_40 ?_
    exact g_iret h hr dX12_script_41 hw
  · replace hw := hw.2 q18
    refine g_iload_n h rfl 2 rfl dX12_script_21 ?_
    refine g_i2l h dX12_script_22 ?_
    refine g_lconst (v := 1) h (by decide) dX12_script_23 ?_
    refine g_ldc2 h lc_X12_328 dX12_script_24 ?_
    refine g_callS [.long (Int32.toInt64 a2), .long 1, .long 200] h (c_X12_in X hw) sPi_v mw_X12_in lk_X12_29 rfl ⟨by decide, by decide⟩ (Nat.le_of_ble_eq_true rfl) dX12_script_27 (sPi_k (fun r_27 I_27 J_27 hw => ?_))
    refine g_if_eq (tgt := 40) h (by decide) dX12_script_30 (fun q30 => ?_) (fun q30 => ?_)
    · replace hw := hw.1 q30
      refine g_iconst (v := (-1)) h (by decide) dX12_script_40 ?_
      exact g_iret h hr dX12_script_41 hw
    · replace hw := hw.2 q30
      refine g_aload_n h rfl 0 rfl dX12_script_33 ?_
      refine g_get h is_248 fl_X12_292 rfl dX12_script_34 ?_
      refine g_if_ne (tgt := 42) h (by decide) dX12_script_37 (fun q37 => ?_) (fun q37 => ?_)
      · replace hw := hw.1 q37
        refine g_iload_n h rfl 1 rfl dX12_script_42 ?_
        refine g_aload_n h rfl 0 rfl dX12_script_43 ?_
        refine g_get h is_248 fl_X12_292 rfl dX12_script_44 ?_
        refine g_icmp_ge (tgt := 61) h (by decide) dX12_script_47 (fun q47 => ?_) (fun q47 => ?_)
        · replace hw := hw.1 q47
          exact g_sub [0, 1, 2] rfl (t_X12_script_61 h hr hw)
        · replace hw := hw.2 q47
          refine g_iload_n h rfl 2 rfl dX12_script_50 ?_
          refine g_aload_n h rfl 0 rfl dX12_script_51 ?_
          refine g_get h is_248 fl_X12_292 rfl dX12_script_52 ?_
          refine g_icmp_ge (tgt := 61) h (by decide) dX12_script_55 (fun q55 => ?_) (fun q55 => ?_)
          · replace hw := hw.1 q55
            exact g_sub [0, 1, 2] rfl (t_X12_script_61 h hr hw)
          · replace hw := hw.2 q55
            refine g_bipush (v := (-2)) h (by decide) dX12_script_58 ?_
            exact g_iret h hr dX12_script_60 hw
      · replace hw := hw.2 q37
        refine g_iconst (v := (-1)) h (by decide) dX12_script_40 ?_
        exact g_iret h hr dX12_script_41 hw
theorem c_X12_script (X : sX) {a1 : Int32} {a2 : Int32} {I : sI} {J : sJ} {post : Int32 → sI → sJ → Prop} (hw : w_X12_script a1 a2 I J post) : sCall X yX12_script cX12_script 4 (some .int) 3 70 [.ref 248, .int a1, .int a2] I J (sPi post) := sCall_of (by decide +kernel) (Nat.le_of_ble_eq_true rfl) (fun X h hr => t_X12_script h hr hw)
theorem dX12_like_0 : decode cX12_like 0 = .ok (.aload_n 0, 1) := by decide +kernel
theorem dX12_like_1 : decode cX12_like 1 = .ok (.iconst 0, 1) := by decide +kernel
theorem dX12_like_2 : decode cX12_like 2 = .ok (.putfield 1, 3) := by decide +kernel
theorem dX12_like_5 : decode cX12_like 5 = .ok (.aload_n 0, 1) := by decide +kernel
theorem dX12_like_6 : decode cX12_like 6 = .ok (.invokevirtual 298, 3) := by decide +kernel
theorem dX12_like_9 : decode cX12_like 9 = .ok (.aload_n 0, 1) := by decide +kernel
theorem dX12_like_10 : decode cX12_like 10 = .ok (.getfield 289, 3) := by decide +kernel
theorem dX12_like_13 : decode cX12_like 13 = .ok (.iconst 2, 1) := by decide +kernel
theorem dX12_like_14 : decode cX12_like 14 = .ok (.if_icmp .ge 5, 3) := by decide +kernel
theorem dX12_like_17 : decode cX12_like 17 = .ok (.iconst (-1), 1) := by decide +kernel
theorem dX12_like_18 : decode cX12_like 18 = .ok (.ireturn, 1) := by decide +kernel
theorem dX12_like_19 : decode cX12_like 19 = .ok (.iconst 0, 1) := by decide +kernel
theorem dX12_like_20 : decode cX12_like 20 = .ok (.istore_n 1, 1) := by decide +kernel
theorem dX12_like_21 : decode cX12_like 21 = .ok (.iconst 0, 1) := by decide +kernel
theorem dX12_like_22 : decode cX12_like 22 = .ok (.istore_n 2, 1) := by decide +kernel
theorem dX12_like_23 : decode cX12_like 23 = .ok (.iload_n 2, 1) := by decide +kernel
theorem dX12_like_24 : decode cX12_like 24 = .ok (.bipush 12, 2) := by decide +kernel
theorem dX12_like_26 : decode cX12_like 26 = .ok (.if_icmp .ge 29, 3) := by decide +kernel
theorem dX12_like_29 : decode cX12_like 29 = .ok (.iload_n 1, 1) := by decide +kernel
theorem dX12_like_30 : decode cX12_like 30 = .ok (.aload_n 0, 1) := by decide +kernel
theorem dX12_like_31 : decode cX12_like 31 = .ok (.getfield 295, 3) := by decide +kernel
theorem dX12_like_34 : decode cX12_like 34 = .ok (.iload_n 2, 1) := by decide +kernel
theorem dX12_like_35 : decode cX12_like 35 = .ok (.iaload, 1) := by decide +kernel
theorem dX12_like_36 : decode cX12_like 36 = .ok (.aload_n 0, 1) := by decide +kernel
theorem dX12_like_37 : decode cX12_like 37 = .ok (.getfield 295, 3) := by decide +kernel
theorem dX12_like_40 : decode cX12_like 40 = .ok (.iload_n 2, 1) := by decide +kernel
theorem dX12_like_41 : decode cX12_like 41 = .ok (.iaload, 1) := by decide +kernel
theorem dX12_like_42 : decode cX12_like 42 = .ok (.iconst 1, 1) := by decide +kernel
theorem dX12_like_43 : decode cX12_like 43 = .ok (.isub, 1) := by decide +kernel
theorem dX12_like_44 : decode cX12_like 44 = .ok (.imul, 1) := by decide +kernel
theorem dX12_like_45 : decode cX12_like 45 = .ok (.iconst 2, 1) := by decide +kernel
theorem dX12_like_46 : decode cX12_like 46 = .ok (.idiv, 1) := by decide +kernel
theorem dX12_like_47 : decode cX12_like 47 = .ok (.iadd, 1) := by decide +kernel
theorem dX12_like_48 : decode cX12_like 48 = .ok (.istore_n 1, 1) := by decide +kernel
theorem dX12_like_49 : decode cX12_like 49 = .ok (.iinc 2 1, 3) := by decide +kernel
theorem dX12_like_52 : decode cX12_like 52 = .ok (.goto (-29), 3) := by decide +kernel
theorem dX12_like_55 : decode cX12_like 55 = .ok (.aload_n 0, 1) := by decide +kernel
theorem dX12_like_56 : decode cX12_like 56 = .ok (.iconst 0, 1) := by decide +kernel
theorem dX12_like_57 : decode cX12_like 57 = .ok (.putfield 11, 3) := by decide +kernel
theorem dX12_like_60 : decode cX12_like 60 = .ok (.aload_n 0, 1) := by decide +kernel
theorem dX12_like_61 : decode cX12_like 61 = .ok (.iload_n 1, 1) := by decide +kernel
theorem dX12_like_62 : decode cX12_like 62 = .ok (.i2l, 1) := by decide +kernel
theorem dX12_like_63 : decode cX12_like 63 = .ok (.aload_n 0, 1) := by decide +kernel
theorem dX12_like_64 : decode cX12_like 64 = .ok (.getfield 289, 3) := by decide +kernel
theorem dX12_like_67 : decode cX12_like 67 = .ok (.i2l, 1) := by decide +kernel
theorem dX12_like_68 : decode cX12_like 68 = .ok (.aload_n 0, 1) := by decide +kernel
theorem dX12_like_69 : decode cX12_like 69 = .ok (.getfield 289, 3) := by decide +kernel
theorem dX12_like_72 : decode cX12_like 72 = .ok (.iconst 1, 1) := by decide +kernel
theorem dX12_like_73 : decode cX12_like 73 = .ok (.isub, 1) := by decide +kernel
theorem dX12_like_74 : decode cX12_like 74 = .ok (.i2l, 1) := by decide +kernel
theorem dX12_like_75 : decode cX12_like 75 = .ok (.lmul, 1) := by decide +kernel
theorem dX12_like_76 : decode cX12_like 76 = .ok (.ldc2_w 330, 3) := by decide +kernel
theorem dX12_like_79 : decode cX12_like 79 = .ok (.ldiv, 1) := by decide +kernel
theorem dX12_like_80 : decode cX12_like 80 = .ok (.invokevirtual 268, 3) := by decide +kernel
theorem dX12_like_83 : decode cX12_like 83 = .ok (.iconst 0, 1) := by decide +kernel
theorem dX12_like_84 : decode cX12_like 84 = .ok (.ireturn, 1) := by decide +kernel
def w_X12_like_23_s (post : Int32 → sI → sJ → Prop) (k23 : Int32 → Int32 → sI → sJ → Prop) (x1 : Int32) (x2 : Int32) (I : sI) (J : sJ) : Prop :=
  ((12 ≤ x2 → (∀ I_57 : sI, I_57 = sUI I 248 1 0 → w_X12_entersFraction (Int32.toInt64 x1) (((Int32.toInt64 (I_57 248 42)) * (Int32.toInt64 ((I_57 248 42) - 1))) / 2) I_57 J (fun (I_80 : sI) (J_80 : sJ) => (post 0 I_80 J_80)))) ∧ (¬ 12 ≤ x2 → (vp_in x2 13 ∧ (vp_in x2 13 ∧ (∀ v1_48 : Int32, v1_48 = x1 + (((I 272 (Int32.toNatClampNeg x2)) * ((I 272 (Int32.toNatClampNeg x2)) - 1)) / 2) → (∀ v2_49 : Int32, v2_49 = x2 + 1 → k23 v1_48 v2_49 I J))))))
def w_X12_like_23_n (post : Int32 → sI → sJ → Prop) : Nat → Int32 → Int32 → sI → sJ → Prop
  | 0 => fun _ _ _ _ => False
  | n + 1 => fun x1 x2 I J => w_X12_like_23_s post (w_X12_like_23_n post n) x1 x2 I J
def w_X12_like_23 (post : Int32 → sI → sJ → Prop) (x1 : Int32) (x2 : Int32) (I : sI) (J : sJ) : Prop := ∃ n, w_X12_like_23_n post n x1 x2 I J
set_option maxHeartbeats 4000000 in
set_option maxRecDepth 100000 in
theorem t_X12_like_23_s {X : sX} {post : Int32 → sI → sJ → Prop} (h : sOK X cX12_like RX12 3 2 55) (hr : sRt X (some .int) (sPi post)) {k23 : Int32 → Int32 → sI → sJ → Prop} (hk23 : ∀ (x1 : Int32) (x2 : Int32) (I : sI) (J : sJ), k23 x1 x2 I J → sG X 3 23 [(0, .ref 248), (1, .int x1), (2, .int x2)] [] I J) {x1 : Int32} {x2 : Int32} {I : sI} {J : sJ} (hw : w_X12_like_23_s post k23 x1 x2 I J) : sG X 3 23 [(0, .ref 248), (1, .int x1), (2, .int x2)] [] I J := by
  unfold w_X12_like_23_s at hw
  refine g_iload_n h rfl 2 rfl dX12_like_23 ?_
  refine g_bipush (v := 12) h (by decide) dX12_like_24 ?_
  refine g_icmp_ge (tgt := 55) h (by decide) dX12_like_26 (fun q26 => ?_) (fun q26 => ?_)
  · replace hw := hw.1 q26
    refine g_aload_n h rfl 0 rfl dX12_like_55 ?_
    refine g_iconst (v := 0) h (by decide) dX12_like_56 ?_
    refine g_putI h is_248 fl_X12_11 rfl rfl dX12_like_57 ?_
    refine g_nI (fun I_57 eI_57 => ?_)
    replace hw := hw I_57 eI_57
    refine g_aload_n h rfl 0 rfl dX12_like_60 ?_
    refine g_iload_n h rfl 1 rfl dX12_like_61 ?_
    refine g_i2l h dX12_like_62 ?_
    refine g_aload_n h rfl 0 rfl dX12_like_63 ?_
    refine g_get h is_248 fl_X12_289 rfl dX12_like_64 ?_
    refine g_i2l h dX12_like_67 ?_
    refine g_aload_n h rfl 0 rfl dX12_like_68 ?_
    refine g_get h is_248 fl_X12_289 rfl dX12_like_69 ?_
    refine g_iconst (v := 1) h (by decide) dX12_like_72 ?_
    refine g_isub h dX12_like_73 ?_
    refine g_i2l h dX12_like_74 ?_
    refine g_lmul h dX12_like_75 ?_
    refine g_ldc2 h lc_X12_330 dX12_like_76 ?_
    refine g_ldiv h (by decide) dX12_like_79 ?_
    refine g_callV [.long (Int32.toInt64 x1), .long (((Int32.toInt64 (I_57 248 42)) * (Int32.toInt64 ((I_57 248 42) - 1))) / 2)] h (c_X12_entersFraction X hw) sPv_v mw_X12_entersFraction lk_X12_268 is_248 rfl rfl ⟨by decide, by decide⟩ (Nat.le_of_ble_eq_true rfl) dX12_like_80 (sPv_k (fun I_80 J_80 hw => ?_))
    refine g_iconst (v := 0) h (by decide) dX12_like_83 ?_
    exact g_iret h hr dX12_like_84 hw
  · replace hw := hw.2 q26
    refine g_iload_n h rfl 1 rfl dX12_like_29 ?_
    refine g_aload_n h rfl 0 rfl dX12_like_30 ?_
    refine g_get h is_248 fl_X12_295 fr_248_41 dX12_like_31 ?_
    refine g_iload_n h rfl 2 rfl dX12_like_34 ?_
    obtain ⟨hi35, hw⟩ := hw
    refine g_iald h ar_272 hi35 dX12_like_35 ?_
    refine g_aload_n h rfl 0 rfl dX12_like_36 ?_
    refine g_get h is_248 fl_X12_295 fr_248_41 dX12_like_37 ?_
    refine g_iload_n h rfl 2 rfl dX12_like_40 ?_
    obtain ⟨hi41, hw⟩ := hw
    refine g_iald h ar_272 hi41 dX12_like_41 ?_
    refine g_iconst (v := 1) h (by decide) dX12_like_42 ?_
    refine g_isub h dX12_like_43 ?_
    refine g_imul h dX12_like_44 ?_
    refine g_iconst (v := 2) h (by decide) dX12_like_45 ?_
    refine g_idiv h (by decide) dX12_like_46 ?_
    refine g_iadd h dX12_like_47 ?_
    refine g_ni (fun v1_48 ev1_48 => ?_)
    replace hw := hw v1_48 ev1_48
    refine g_istore_n (lo2 := [(1, .int v1_48), (0, .ref 248), (2, .int x2)]) h rfl (by decide) rfl dX12_like_48 ?_
    obtain ⟨v2_49, ev2_49⟩ : ∃ z : Int32, z = x2 + 1 := ⟨_, rfl⟩
    replace hw := hw v2_49 ev2_49
    refine g_iinc (v := v2_49) (lo2 := [(2, .int v2_49), (1, .int v1_48), (0, .ref 248)]) h 2 rfl (by rw [ev2_49]; rfl) (by decide) rfl dX12_like_49 ?_
    refine g_goto (tgt := 23) h (by decide) dX12_like_52 ?_
    exact g_sub [2, 1, 0] rfl (hk23 _ _ _ _ hw)
theorem t_X12_like_23 {X : sX} {post : Int32 → sI → sJ → Prop} (h : sOK X cX12_like RX12 3 2 55) (hr : sRt X (some .int) (sPi post)) {x1 : Int32} {x2 : Int32} {I : sI} {J : sJ} (hw : w_X12_like_23 post x1 x2 I J) : sG X 3 23 [(0, .ref 248), (1, .int x1), (2, .int x2)] [] I J := by
  obtain ⟨n, hw⟩ := hw
  induction n generalizing x1 x2 I J with
  | zero => exact hw.elim
  | succ n ih => exact t_X12_like_23_s h hr (fun _ _ _ _ q => ih q) hw
def w_X12_like (I : sI) (J : sJ) (post : Int32 → sI → sJ → Prop) : Prop :=
  (∀ I_2 : sI, I_2 = sUI I 248 0 0 → w_X12_counts I_2 J (fun (I_6 : sI) (J_6 : sJ) => (((2 ≤ (I_6 248 42) → w_X12_like_23 post 0 0 I_6 J_6) ∧ (¬ 2 ≤ (I_6 248 42) → post (-1) I_6 J_6)))))
set_option maxHeartbeats 4000000 in
set_option maxRecDepth 100000 in
theorem t_X12_like {X : sX} {I : sI} {J : sJ} {post : Int32 → sI → sJ → Prop} (h : sOK X cX12_like RX12 3 2 55) (hr : sRt X (some .int) (sPi post)) (hw : w_X12_like I J post) : sG X 3 0 [(0, .ref 248)] [] I J := by
  unfold w_X12_like at hw
  refine g_aload_n h rfl 0 rfl dX12_like_0 ?_
  refine g_iconst (v := 0) h (by decide) dX12_like_1 ?_
  refine g_putI h is_248 fl_X12_1 rfl rfl dX12_like_2 ?_
  refine g_nI (fun I_2 eI_2 => ?_)
  replace hw := hw I_2 eI_2
  refine g_aload_n h rfl 0 rfl dX12_like_5 ?_
  refine g_callV [] h (c_X12_counts X hw) sPv_v mw_X12_counts lk_X12_298 is_248 rfl rfl ⟨by decide, by decide⟩ (Nat.le_of_ble_eq_true rfl) dX12_like_6 (sPv_k (fun I_6 J_6 hw => ?_))
  refine g_aload_n h rfl 0 rfl dX12_like_9 ?_
  refine g_get h is_248 fl_X12_289 rfl dX12_like_10 ?_
  refine g_iconst (v := 2) h (by decide) dX12_like_13 ?_
  refine g_icmp_ge (tgt := 19) h (by decide) dX12_like_14 (fun q14 => ?_) (fun q14 => ?_)
  · replace hw := hw.1 q14
    refine g_iconst (v := 0) h (by decide) dX12_like_19 ?_
    refine g_istore_n (lo2 := [(1, .int 0), (0, .ref 248)]) h rfl (by decide) rfl dX12_like_20 ?_
    refine g_iconst (v := 0) h (by decide) dX12_like_21 ?_
    refine g_istore_n (lo2 := [(2, .int 0), (1, .int 0), (0, .ref 248)]) h rfl (by decide) rfl dX12_like_22 ?_
    exact g_sub [2, 1, 0] rfl (t_X12_like_23 h hr hw)
  · replace hw := hw.2 q14
    refine g_iconst (v := (-1)) h (by decide) dX12_like_17 ?_
    exact g_iret h hr dX12_like_18 hw
theorem c_X12_like (X : sX) {I : sI} {J : sJ} {post : Int32 → sI → sJ → Prop} (hw : w_X12_like I J post) : sCall X yX12_like cX12_like 3 (some .int) 2 55 [.ref 248] I J (sPi post) := sCall_of (by decide +kernel) (Nat.le_of_ble_eq_true rfl) (fun X h hr => t_X12_like h hr hw)
theorem dX12_groupBegin_0 : decode cX12_groupBegin 0 = .ok (.iconst 0, 1) := by decide +kernel
theorem dX12_groupBegin_1 : decode cX12_groupBegin 1 = .ok (.istore_n 2, 1) := by decide +kernel
theorem dX12_groupBegin_2 : decode cX12_groupBegin 2 = .ok (.iconst 0, 1) := by decide +kernel
theorem dX12_groupBegin_3 : decode cX12_groupBegin 3 = .ok (.istore_n 3, 1) := by decide +kernel
theorem dX12_groupBegin_4 : decode cX12_groupBegin 4 = .ok (.iload_n 3, 1) := by decide +kernel
theorem dX12_groupBegin_5 : decode cX12_groupBegin 5 = .ok (.iload_n 1, 1) := by decide +kernel
theorem dX12_groupBegin_6 : decode cX12_groupBegin 6 = .ok (.if_icmp .ge 18, 3) := by decide +kernel
theorem dX12_groupBegin_9 : decode cX12_groupBegin 9 = .ok (.iload_n 2, 1) := by decide +kernel
theorem dX12_groupBegin_10 : decode cX12_groupBegin 10 = .ok (.aload_n 0, 1) := by decide +kernel
theorem dX12_groupBegin_11 : decode cX12_groupBegin 11 = .ok (.getfield 82, 3) := by decide +kernel
theorem dX12_groupBegin_14 : decode cX12_groupBegin 14 = .ok (.iload_n 3, 1) := by decide +kernel
theorem dX12_groupBegin_15 : decode cX12_groupBegin 15 = .ok (.iaload, 1) := by decide +kernel
theorem dX12_groupBegin_16 : decode cX12_groupBegin 16 = .ok (.iadd, 1) := by decide +kernel
theorem dX12_groupBegin_17 : decode cX12_groupBegin 17 = .ok (.istore_n 2, 1) := by decide +kernel
theorem dX12_groupBegin_18 : decode cX12_groupBegin 18 = .ok (.iinc 3 1, 3) := by decide +kernel
theorem dX12_groupBegin_21 : decode cX12_groupBegin 21 = .ok (.goto (-17), 3) := by decide +kernel
theorem dX12_groupBegin_24 : decode cX12_groupBegin 24 = .ok (.iload_n 2, 1) := by decide +kernel
theorem dX12_groupBegin_25 : decode cX12_groupBegin 25 = .ok (.ireturn, 1) := by decide +kernel
def w_X12_groupBegin_4_s (post : Int32 → sI → sJ → Prop) (k4 : Int32 → Int32 → Int32 → sI → sJ → Prop) (x1 : Int32) (x2 : Int32) (x3 : Int32) (I : sI) (J : sJ) : Prop :=
  ((x1 ≤ x3 → post x2 I J) ∧ (¬ x1 ≤ x3 → (vp_in x3 24 ∧ (∀ v2_17 : Int32, v2_17 = x2 + (I 253 (Int32.toNatClampNeg x3)) → (∀ v3_18 : Int32, v3_18 = x3 + 1 → k4 x1 v2_17 v3_18 I J)))))
def w_X12_groupBegin_4_n (post : Int32 → sI → sJ → Prop) : Nat → Int32 → Int32 → Int32 → sI → sJ → Prop
  | 0 => fun _ _ _ _ _ => False
  | n + 1 => fun x1 x2 x3 I J => w_X12_groupBegin_4_s post (w_X12_groupBegin_4_n post n) x1 x2 x3 I J
def w_X12_groupBegin_4 (post : Int32 → sI → sJ → Prop) (x1 : Int32) (x2 : Int32) (x3 : Int32) (I : sI) (J : sJ) : Prop := ∃ n, w_X12_groupBegin_4_n post n x1 x2 x3 I J
set_option maxHeartbeats 4000000 in
set_option maxRecDepth 100000 in
theorem t_X12_groupBegin_4_s {X : sX} {post : Int32 → sI → sJ → Prop} (h : sOK X cX12_groupBegin RX12 4 0 0) (hr : sRt X (some .int) (sPi post)) {k4 : Int32 → Int32 → Int32 → sI → sJ → Prop} (hk4 : ∀ (x1 : Int32) (x2 : Int32) (x3 : Int32) (I : sI) (J : sJ), k4 x1 x2 x3 I J → sG X 4 4 [(0, .ref 248), (1, .int x1), (2, .int x2), (3, .int x3)] [] I J) {x1 : Int32} {x2 : Int32} {x3 : Int32} {I : sI} {J : sJ} (hw : w_X12_groupBegin_4_s post k4 x1 x2 x3 I J) : sG X 4 4 [(0, .ref 248), (1, .int x1), (2, .int x2), (3, .int x3)] [] I J := by
  unfold w_X12_groupBegin_4_s at hw
  refine g_iload_n h rfl 3 rfl dX12_groupBegin_4 ?_
  refine g_iload_n h rfl 1 rfl dX12_groupBegin_5 ?_
  refine g_icmp_ge (tgt := 24) h (by decide) dX12_groupBegin_6 (fun q6 => ?_) (fun q6 => ?_)
  · replace hw := hw.1 q6
    refine g_iload_n h rfl 2 rfl dX12_groupBegin_24 ?_
    exact g_iret h hr dX12_groupBegin_25 hw
  · replace hw := hw.2 q6
    refine g_iload_n h rfl 2 rfl dX12_groupBegin_9 ?_
    refine g_aload_n h rfl 0 rfl dX12_groupBegin_10 ?_
    refine g_get h is_248 fl_X12_82 fr_248_13 dX12_groupBegin_11 ?_
    refine g_iload_n h rfl 3 rfl dX12_groupBegin_14 ?_
    obtain ⟨hi15, hw⟩ := hw
    refine g_iald h ar_253 hi15 dX12_groupBegin_15 ?_
    refine g_iadd h dX12_groupBegin_16 ?_
    refine g_ni (fun v2_17 ev2_17 => ?_)
    replace hw := hw v2_17 ev2_17
    refine g_istore_n (lo2 := [(2, .int v2_17), (0, .ref 248), (1, .int x1), (3, .int x3)]) h rfl (by decide) rfl dX12_groupBegin_17 ?_
    obtain ⟨v3_18, ev3_18⟩ : ∃ z : Int32, z = x3 + 1 := ⟨_, rfl⟩
    replace hw := hw v3_18 ev3_18
    refine g_iinc (v := v3_18) (lo2 := [(3, .int v3_18), (2, .int v2_17), (0, .ref 248), (1, .int x1)]) h 3 rfl (by rw [ev3_18]; rfl) (by decide) rfl dX12_groupBegin_18 ?_
    refine g_goto (tgt := 4) h (by decide) dX12_groupBegin_21 ?_
    exact g_sub [2, 3, 1, 0] rfl (hk4 _ _ _ _ _ hw)
theorem t_X12_groupBegin_4 {X : sX} {post : Int32 → sI → sJ → Prop} (h : sOK X cX12_groupBegin RX12 4 0 0) (hr : sRt X (some .int) (sPi post)) {x1 : Int32} {x2 : Int32} {x3 : Int32} {I : sI} {J : sJ} (hw : w_X12_groupBegin_4 post x1 x2 x3 I J) : sG X 4 4 [(0, .ref 248), (1, .int x1), (2, .int x2), (3, .int x3)] [] I J := by
  obtain ⟨n, hw⟩ := hw
  induction n generalizing x1 x2 x3 I J with
  | zero => exact hw.elim
  | succ n ih => exact t_X12_groupBegin_4_s h hr (fun _ _ _ _ _ q => ih q) hw
def w_X12_groupBegin (a1 : Int32) (I : sI) (J : sJ) (post : Int32 → sI → sJ → Prop) : Prop :=
  w_X12_groupBegin_4 post a1 0 0 I J
set_option maxHeartbeats 4000000 in
set_option maxRecDepth 100000 in
theorem t_X12_groupBegin {X : sX} {a1 : Int32} {I : sI} {J : sJ} {post : Int32 → sI → sJ → Prop} (h : sOK X cX12_groupBegin RX12 4 0 0) (hr : sRt X (some .int) (sPi post)) (hw : w_X12_groupBegin a1 I J post) : sG X 4 0 [(0, .ref 248), (1, .int a1)] [] I J := by
  unfold w_X12_groupBegin at hw
  refine g_iconst (v := 0) h (by decide) dX12_groupBegin_0 ?_
  refine g_istore_n (lo2 := [(2, .int 0), (0, .ref 248), (1, .int a1)]) h rfl (by decide) rfl dX12_groupBegin_1 ?_
  refine g_iconst (v := 0) h (by decide) dX12_groupBegin_2 ?_
  refine g_istore_n (lo2 := [(3, .int 0), (2, .int 0), (0, .ref 248), (1, .int a1)]) h rfl (by decide) rfl dX12_groupBegin_3 ?_
  exact g_sub [2, 3, 1, 0] rfl (t_X12_groupBegin_4 h hr hw)
theorem c_X12_groupBegin (X : sX) {a1 : Int32} {I : sI} {J : sJ} {post : Int32 → sI → sJ → Prop} (hw : w_X12_groupBegin a1 I J post) : sCall X yX12_groupBegin cX12_groupBegin 4 (some .int) 0 0 [.ref 248, .int a1] I J (sPi post) := sCall_of (by decide +kernel) (Nat.le_of_ble_eq_true rfl) (fun X h hr => t_X12_groupBegin h hr hw)
theorem dX12_areAlike_0 : decode cX12_areAlike 0 = .ok (.iconst 1, 1) := by decide +kernel
theorem dX12_areAlike_1 : decode cX12_areAlike 1 = .ok (.istore 4, 2) := by decide +kernel
theorem dX12_areAlike_3 : decode cX12_areAlike 3 = .ok (.iconst 0, 1) := by decide +kernel
theorem dX12_areAlike_4 : decode cX12_areAlike 4 = .ok (.istore 5, 2) := by decide +kernel
theorem dX12_areAlike_6 : decode cX12_areAlike 6 = .ok (.iload 5, 2) := by decide +kernel
theorem dX12_areAlike_8 : decode cX12_areAlike 8 = .ok (.iload_n 3, 1) := by decide +kernel
theorem dX12_areAlike_9 : decode cX12_areAlike 9 = .ok (.if_icmp .ge 56, 3) := by decide +kernel
theorem dX12_areAlike_12 : decode cX12_areAlike 12 = .ok (.iload 4, 2) := by decide +kernel
theorem dX12_areAlike_14 : decode cX12_areAlike 14 = .ok (.ifCond .eq 42, 3) := by decide +kernel
theorem dX12_areAlike_17 : decode cX12_areAlike 17 = .ok (.aload_n 0, 1) := by decide +kernel
theorem dX12_areAlike_18 : decode cX12_areAlike 18 = .ok (.getfield 85, 3) := by decide +kernel
theorem dX12_areAlike_21 : decode cX12_areAlike 21 = .ok (.iload_n 1, 1) := by decide +kernel
theorem dX12_areAlike_22 : decode cX12_areAlike 22 = .ok (.iload 5, 2) := by decide +kernel
theorem dX12_areAlike_24 : decode cX12_areAlike 24 = .ok (.iadd, 1) := by decide +kernel
theorem dX12_areAlike_25 : decode cX12_areAlike 25 = .ok (.iaload, 1) := by decide +kernel
theorem dX12_areAlike_26 : decode cX12_areAlike 26 = .ok (.bipush 12, 2) := by decide +kernel
theorem dX12_areAlike_28 : decode cX12_areAlike 28 = .ok (.if_icmp .eq 28, 3) := by decide +kernel
theorem dX12_areAlike_31 : decode cX12_areAlike 31 = .ok (.aload_n 0, 1) := by decide +kernel
theorem dX12_areAlike_32 : decode cX12_areAlike 32 = .ok (.getfield 85, 3) := by decide +kernel
theorem dX12_areAlike_35 : decode cX12_areAlike 35 = .ok (.iload_n 1, 1) := by decide +kernel
theorem dX12_areAlike_36 : decode cX12_areAlike 36 = .ok (.iload 5, 2) := by decide +kernel
theorem dX12_areAlike_38 : decode cX12_areAlike 38 = .ok (.iadd, 1) := by decide +kernel
theorem dX12_areAlike_39 : decode cX12_areAlike 39 = .ok (.iaload, 1) := by decide +kernel
theorem dX12_areAlike_40 : decode cX12_areAlike 40 = .ok (.aload_n 0, 1) := by decide +kernel
theorem dX12_areAlike_41 : decode cX12_areAlike 41 = .ok (.getfield 85, 3) := by decide +kernel
theorem dX12_areAlike_44 : decode cX12_areAlike 44 = .ok (.iload_n 2, 1) := by decide +kernel
theorem dX12_areAlike_45 : decode cX12_areAlike 45 = .ok (.iload 5, 2) := by decide +kernel
theorem dX12_areAlike_47 : decode cX12_areAlike 47 = .ok (.iadd, 1) := by decide +kernel
theorem dX12_areAlike_48 : decode cX12_areAlike 48 = .ok (.iaload, 1) := by decide +kernel
theorem dX12_areAlike_49 : decode cX12_areAlike 49 = .ok (.if_icmp .ne 7, 3) := by decide +kernel
theorem dX12_areAlike_52 : decode cX12_areAlike 52 = .ok (.iconst 1, 1) := by decide +kernel
theorem dX12_areAlike_53 : decode cX12_areAlike 53 = .ok (.goto 4, 3) := by decide +kernel
theorem dX12_areAlike_56 : decode cX12_areAlike 56 = .ok (.iconst 0, 1) := by decide +kernel
theorem dX12_areAlike_57 : decode cX12_areAlike 57 = .ok (.istore 4, 2) := by decide +kernel
theorem dX12_areAlike_59 : decode cX12_areAlike 59 = .ok (.iinc 5 1, 3) := by decide +kernel
theorem dX12_areAlike_62 : decode cX12_areAlike 62 = .ok (.goto (-56), 3) := by decide +kernel
theorem dX12_areAlike_65 : decode cX12_areAlike 65 = .ok (.iload 4, 2) := by decide +kernel
theorem dX12_areAlike_67 : decode cX12_areAlike 67 = .ok (.ireturn, 1) := by decide +kernel
def w_X12_areAlike_57 (post : Int32 → sI → sJ → Prop) (k6 : Int32 → Int32 → Int32 → Int32 → Int32 → sI → sJ → Prop) (x1 : Int32) (x2 : Int32) (x3 : Int32) (x5 : Int32) (s0 : Int32) (I : sI) (J : sJ) : Prop :=
  (∀ v5_59 : Int32, v5_59 = x5 + 1 → k6 x1 x2 x3 s0 v5_59 I J)
set_option maxHeartbeats 4000000 in
set_option maxRecDepth 100000 in
theorem t_X12_areAlike_57 {X : sX} {post : Int32 → sI → sJ → Prop} (h : sOK X cX12_areAlike RX12 6 0 0) (hr : sRt X (some .boolean) (sPi post)) {k6 : Int32 → Int32 → Int32 → Int32 → Int32 → sI → sJ → Prop} (hk6 : ∀ (x1 : Int32) (x2 : Int32) (x3 : Int32) (x4 : Int32) (x5 : Int32) (I : sI) (J : sJ), k6 x1 x2 x3 x4 x5 I J → sG X 6 6 [(0, .ref 248), (1, .int x1), (2, .int x2), (3, .int x3), (4, .int x4), (5, .int x5)] [] I J) {x1 : Int32} {x2 : Int32} {x3 : Int32} {x5 : Int32} {s0 : Int32} {I : sI} {J : sJ} (hw : w_X12_areAlike_57 post k6 x1 x2 x3 x5 s0 I J) : sG X 6 57 [(0, .ref 248), (1, .int x1), (2, .int x2), (3, .int x3), (5, .int x5)] [.int s0] I J := by
  unfold w_X12_areAlike_57 at hw
  refine g_istore (lo2 := [(4, .int s0), (0, .ref 248), (1, .int x1), (2, .int x2), (3, .int x3), (5, .int x5)]) h (by decide) rfl dX12_areAlike_57 ?_
  obtain ⟨v5_59, ev5_59⟩ : ∃ z : Int32, z = x5 + 1 := ⟨_, rfl⟩
  replace hw := hw v5_59 ev5_59
  refine g_iinc (v := v5_59) (lo2 := [(5, .int v5_59), (4, .int s0), (0, .ref 248), (1, .int x1), (2, .int x2), (3, .int x3)]) h 5 rfl (by rw [ev5_59]; rfl) (by decide) rfl dX12_areAlike_59 ?_
  refine g_goto (tgt := 6) h (by decide) dX12_areAlike_62 ?_
  exact g_sub [2, 3, 4, 5, 1, 0] rfl (hk6 _ _ _ _ _ _ _ hw)
def w_X12_areAlike_56 (post : Int32 → sI → sJ → Prop) (k6 : Int32 → Int32 → Int32 → Int32 → Int32 → sI → sJ → Prop) (x1 : Int32) (x2 : Int32) (x3 : Int32) (x5 : Int32) (I : sI) (J : sJ) : Prop :=
  w_X12_areAlike_57 post k6 x1 x2 x3 x5 0 I J
set_option maxHeartbeats 4000000 in
set_option maxRecDepth 100000 in
theorem t_X12_areAlike_56 {X : sX} {post : Int32 → sI → sJ → Prop} (h : sOK X cX12_areAlike RX12 6 0 0) (hr : sRt X (some .boolean) (sPi post)) {k6 : Int32 → Int32 → Int32 → Int32 → Int32 → sI → sJ → Prop} (hk6 : ∀ (x1 : Int32) (x2 : Int32) (x3 : Int32) (x4 : Int32) (x5 : Int32) (I : sI) (J : sJ), k6 x1 x2 x3 x4 x5 I J → sG X 6 6 [(0, .ref 248), (1, .int x1), (2, .int x2), (3, .int x3), (4, .int x4), (5, .int x5)] [] I J) {x1 : Int32} {x2 : Int32} {x3 : Int32} {x5 : Int32} {I : sI} {J : sJ} (hw : w_X12_areAlike_56 post k6 x1 x2 x3 x5 I J) : sG X 6 56 [(0, .ref 248), (1, .int x1), (2, .int x2), (3, .int x3), (5, .int x5)] [] I J := by
  unfold w_X12_areAlike_56 at hw
  refine g_iconst (v := 0) h (by decide) dX12_areAlike_56 ?_
  exact g_sub [0, 1, 2, 3, 4] rfl (t_X12_areAlike_57 h hr hk6 hw)
def w_X12_areAlike_6_s (post : Int32 → sI → sJ → Prop) (k6 : Int32 → Int32 → Int32 → Int32 → Int32 → sI → sJ → Prop) (x1 : Int32) (x2 : Int32) (x3 : Int32) (x4 : Int32) (x5 : Int32) (I : sI) (J : sJ) : Prop :=
  ((x3 ≤ x5 → (sZ x4 ∧ post x4 I J)) ∧ (¬ x3 ≤ x5 → ((x4 = 0 → w_X12_areAlike_56 post k6 x1 x2 x3 x5 I J) ∧ (¬ x4 = 0 → (vp_in (x1 + x5) 80 ∧ (((I 254 (Int32.toNatClampNeg (x1 + x5))) = 12 → w_X12_areAlike_56 post k6 x1 x2 x3 x5 I J) ∧ (¬ (I 254 (Int32.toNatClampNeg (x1 + x5))) = 12 → (vp_in (x1 + x5) 80 ∧ (vp_in (x2 + x5) 80 ∧ ((¬ (I 254 (Int32.toNatClampNeg (x1 + x5))) = (I 254 (Int32.toNatClampNeg (x2 + x5))) → w_X12_areAlike_56 post k6 x1 x2 x3 x5 I J) ∧ ((I 254 (Int32.toNatClampNeg (x1 + x5))) = (I 254 (Int32.toNatClampNeg (x2 + x5))) → w_X12_areAlike_57 post k6 x1 x2 x3 x5 1 I J)))))))))))
def w_X12_areAlike_6_n (post : Int32 → sI → sJ → Prop) : Nat → Int32 → Int32 → Int32 → Int32 → Int32 → sI → sJ → Prop
  | 0 => fun _ _ _ _ _ _ _ => False
  | n + 1 => fun x1 x2 x3 x4 x5 I J => w_X12_areAlike_6_s post (w_X12_areAlike_6_n post n) x1 x2 x3 x4 x5 I J
def w_X12_areAlike_6 (post : Int32 → sI → sJ → Prop) (x1 : Int32) (x2 : Int32) (x3 : Int32) (x4 : Int32) (x5 : Int32) (I : sI) (J : sJ) : Prop := ∃ n, w_X12_areAlike_6_n post n x1 x2 x3 x4 x5 I J
set_option maxHeartbeats 4000000 in
set_option maxRecDepth 100000 in
theorem t_X12_areAlike_6_s {X : sX} {post : Int32 → sI → sJ → Prop} (h : sOK X cX12_areAlike RX12 6 0 0) (hr : sRt X (some .boolean) (sPi post)) {k6 : Int32 → Int32 → Int32 → Int32 → Int32 → sI → sJ → Prop} (hk6 : ∀ (x1 : Int32) (x2 : Int32) (x3 : Int32) (x4 : Int32) (x5 : Int32) (I : sI) (J : sJ), k6 x1 x2 x3 x4 x5 I J → sG X 6 6 [(0, .ref 248), (1, .int x1), (2, .int x2), (3, .int x3), (4, .int x4), (5, .int x5)] [] I J) {x1 : Int32} {x2 : Int32} {x3 : Int32} {x4 : Int32} {x5 : Int32} {I : sI} {J : sJ} (hw : w_X12_areAlike_6_s post k6 x1 x2 x3 x4 x5 I J) : sG X 6 6 [(0, .ref 248), (1, .int x1), (2, .int x2), (3, .int x3), (4, .int x4), (5, .int x5)] [] I J := by
  unfold w_X12_areAlike_6_s at hw
  refine g_iload h 5 rfl dX12_areAlike_6 ?_
  refine g_iload_n h rfl 3 rfl dX12_areAlike_8 ?_
  refine g_icmp_ge (tgt := 65) h (by decide) dX12_areAlike_9 (fun q9 => ?_) (fun q9 => ?_)
  · replace hw := hw.1 q9
    refine g_iload h 4 rfl dX12_areAlike_65 ?_
    exact g_zret h hr hw.1 dX12_areAlike_67 hw.2
  · replace hw := hw.2 q9
    refine g_iload h 4 rfl dX12_areAlike_12 ?_
    refine g_if_eq (tgt := 56) h (by decide) dX12_areAlike_14 (fun q14 => ?_) (fun q14 => ?_)
    · replace hw := hw.1 q14
      exact g_sub [0, 1, 2, 3, 5] rfl (t_X12_areAlike_56 h hr hk6 hw)
    · replace hw := hw.2 q14
      refine g_aload_n h rfl 0 rfl dX12_areAlike_17 ?_
      refine g_get h is_248 fl_X12_85 fr_248_14 dX12_areAlike_18 ?_
      refine g_iload_n h rfl 1 rfl dX12_areAlike_21 ?_
      refine g_iload h 5 rfl dX12_areAlike_22 ?_
      refine g_iadd h dX12_areAlike_24 ?_
      obtain ⟨hi25, hw⟩ := hw
      refine g_iald h ar_254 hi25 dX12_areAlike_25 ?_
      refine g_bipush (v := 12) h (by decide) dX12_areAlike_26 ?_
      refine g_icmp_eq (tgt := 56) h (by decide) dX12_areAlike_28 (fun q28 => ?_) (fun q28 => ?_)
      · replace hw := hw.1 q28
        exact g_sub [0, 1, 2, 3, 5] rfl (t_X12_areAlike_56 h hr hk6 hw)
      · replace hw := hw.2 q28
        refine g_aload_n h rfl 0 rfl dX12_areAlike_31 ?_
        refine g_get h is_248 fl_X12_85 fr_248_14 dX12_areAlike_32 ?_
        refine g_iload_n h rfl 1 rfl dX12_areAlike_35 ?_
        refine g_iload h 5 rfl dX12_areAlike_36 ?_
        refine g_iadd h dX12_areAlike_38 ?_
        obtain ⟨hi39, hw⟩ := hw
        refine g_iald h ar_254 hi39 dX12_areAlike_39 ?_
        refine g_aload_n h rfl 0 rfl dX12_areAlike_40 ?_
        refine g_get h is_248 fl_X12_85 fr_248_14 dX12_areAlike_41 ?_
        refine g_iload_n h rfl 2 rfl dX12_areAlike_44 ?_
        refine g_iload h 5 rfl dX12_areAlike_45 ?_
        refine g_iadd h dX12_areAlike_47 ?_
        obtain ⟨hi48, hw⟩ := hw
        refine g_iald h ar_254 hi48 dX12_areAlike_48 ?_
        refine g_icmp_ne (tgt := 56) h (by decide) dX12_areAlike_49 (fun q49 => ?_) (fun q49 => ?_)
        · replace hw := hw.1 q49
          exact g_sub [0, 1, 2, 3, 5] rfl (t_X12_areAlike_56 h hr hk6 hw)
        · replace hw := hw.2 q49
          refine g_iconst (v := 1) h (by decide) dX12_areAlike_52 ?_
          refine g_goto (tgt := 57) h (by decide) dX12_areAlike_53 ?_
          exact g_sub [0, 1, 2, 3, 5] rfl (t_X12_areAlike_57 h hr hk6 hw)
theorem t_X12_areAlike_6 {X : sX} {post : Int32 → sI → sJ → Prop} (h : sOK X cX12_areAlike RX12 6 0 0) (hr : sRt X (some .boolean) (sPi post)) {x1 : Int32} {x2 : Int32} {x3 : Int32} {x4 : Int32} {x5 : Int32} {I : sI} {J : sJ} (hw : w_X12_areAlike_6 post x1 x2 x3 x4 x5 I J) : sG X 6 6 [(0, .ref 248), (1, .int x1), (2, .int x2), (3, .int x3), (4, .int x4), (5, .int x5)] [] I J := by
  obtain ⟨n, hw⟩ := hw
  induction n generalizing x1 x2 x3 x4 x5 I J with
  | zero => exact hw.elim
  | succ n ih => exact t_X12_areAlike_6_s h hr (fun _ _ _ _ _ _ _ q => ih q) hw
def w_X12_areAlike (a1 : Int32) (a2 : Int32) (a3 : Int32) (I : sI) (J : sJ) (post : Int32 → sI → sJ → Prop) : Prop :=
  w_X12_areAlike_6 post a1 a2 a3 1 0 I J
set_option maxHeartbeats 4000000 in
set_option maxRecDepth 100000 in
theorem t_X12_areAlike {X : sX} {a1 : Int32} {a2 : Int32} {a3 : Int32} {I : sI} {J : sJ} {post : Int32 → sI → sJ → Prop} (h : sOK X cX12_areAlike RX12 6 0 0) (hr : sRt X (some .boolean) (sPi post)) (hw : w_X12_areAlike a1 a2 a3 I J post) : sG X 6 0 [(0, .ref 248), (1, .int a1), (2, .int a2), (3, .int a3)] [] I J := by
  unfold w_X12_areAlike at hw
  refine g_iconst (v := 1) h (by decide) dX12_areAlike_0 ?_
  refine g_istore (lo2 := [(4, .int 1), (0, .ref 248), (1, .int a1), (2, .int a2), (3, .int a3)]) h (by decide) rfl dX12_areAlike_1 ?_
  refine g_iconst (v := 0) h (by decide) dX12_areAlike_3 ?_
  refine g_istore (lo2 := [(5, .int 0), (4, .int 1), (0, .ref 248), (1, .int a1), (2, .int a2), (3, .int a3)]) h (by decide) rfl dX12_areAlike_4 ?_
  exact g_sub [2, 3, 4, 5, 1, 0] rfl (t_X12_areAlike_6 h hr hw)
theorem c_X12_areAlike (X : sX) {a1 : Int32} {a2 : Int32} {a3 : Int32} {I : sI} {J : sJ} {post : Int32 → sI → sJ → Prop} (hw : w_X12_areAlike a1 a2 a3 I J post) : sCall X yX12_areAlike cX12_areAlike 6 (some .boolean) 0 0 [.ref 248, .int a1, .int a2, .int a3] I J (sPi post) := sCall_of (by decide +kernel) (Nat.le_of_ble_eq_true rfl) (fun X h hr => t_X12_areAlike h hr hw)
theorem dX12_isWhole_0 : decode cX12_isWhole 0 = .ok (.iconst 1, 1) := by decide +kernel
theorem dX12_isWhole_1 : decode cX12_isWhole 1 = .ok (.istore_n 2, 1) := by decide +kernel
theorem dX12_isWhole_2 : decode cX12_isWhole 2 = .ok (.iconst 0, 1) := by decide +kernel
theorem dX12_isWhole_3 : decode cX12_isWhole 3 = .ok (.istore_n 3, 1) := by decide +kernel
theorem dX12_isWhole_4 : decode cX12_isWhole 4 = .ok (.iload_n 3, 1) := by decide +kernel
theorem dX12_isWhole_5 : decode cX12_isWhole 5 = .ok (.aload_n 0, 1) := by decide +kernel
theorem dX12_isWhole_6 : decode cX12_isWhole 6 = .ok (.getfield 82, 3) := by decide +kernel
theorem dX12_isWhole_9 : decode cX12_isWhole 9 = .ok (.iload_n 1, 1) := by decide +kernel
theorem dX12_isWhole_10 : decode cX12_isWhole 10 = .ok (.iaload, 1) := by decide +kernel
theorem dX12_isWhole_11 : decode cX12_isWhole 11 = .ok (.if_icmp .ge 36, 3) := by decide +kernel
theorem dX12_isWhole_14 : decode cX12_isWhole 14 = .ok (.iload_n 2, 1) := by decide +kernel
theorem dX12_isWhole_15 : decode cX12_isWhole 15 = .ok (.ifCond .eq 24, 3) := by decide +kernel
theorem dX12_isWhole_18 : decode cX12_isWhole 18 = .ok (.aload_n 0, 1) := by decide +kernel
theorem dX12_isWhole_19 : decode cX12_isWhole 19 = .ok (.getfield 85, 3) := by decide +kernel
theorem dX12_isWhole_22 : decode cX12_isWhole 22 = .ok (.aload_n 0, 1) := by decide +kernel
theorem dX12_isWhole_23 : decode cX12_isWhole 23 = .ok (.iload_n 1, 1) := by decide +kernel
theorem dX12_isWhole_24 : decode cX12_isWhole 24 = .ok (.invokevirtual 332, 3) := by decide +kernel
theorem dX12_isWhole_27 : decode cX12_isWhole 27 = .ok (.iload_n 3, 1) := by decide +kernel
theorem dX12_isWhole_28 : decode cX12_isWhole 28 = .ok (.iadd, 1) := by decide +kernel
theorem dX12_isWhole_29 : decode cX12_isWhole 29 = .ok (.iaload, 1) := by decide +kernel
theorem dX12_isWhole_30 : decode cX12_isWhole 30 = .ok (.bipush 12, 2) := by decide +kernel
theorem dX12_isWhole_32 : decode cX12_isWhole 32 = .ok (.if_icmp .eq 7, 3) := by decide +kernel
theorem dX12_isWhole_35 : decode cX12_isWhole 35 = .ok (.iconst 1, 1) := by decide +kernel
theorem dX12_isWhole_36 : decode cX12_isWhole 36 = .ok (.goto 4, 3) := by decide +kernel
theorem dX12_isWhole_39 : decode cX12_isWhole 39 = .ok (.iconst 0, 1) := by decide +kernel
theorem dX12_isWhole_40 : decode cX12_isWhole 40 = .ok (.istore_n 2, 1) := by decide +kernel
theorem dX12_isWhole_41 : decode cX12_isWhole 41 = .ok (.iinc 3 1, 3) := by decide +kernel
theorem dX12_isWhole_44 : decode cX12_isWhole 44 = .ok (.goto (-40), 3) := by decide +kernel
theorem dX12_isWhole_47 : decode cX12_isWhole 47 = .ok (.iload_n 2, 1) := by decide +kernel
theorem dX12_isWhole_48 : decode cX12_isWhole 48 = .ok (.ireturn, 1) := by decide +kernel
def w_X12_isWhole_40 (post : Int32 → sI → sJ → Prop) (k4 : Int32 → Int32 → Int32 → sI → sJ → Prop) (x1 : Int32) (x3 : Int32) (s0 : Int32) (I : sI) (J : sJ) : Prop :=
  (∀ v3_41 : Int32, v3_41 = x3 + 1 → k4 x1 s0 v3_41 I J)
set_option maxHeartbeats 4000000 in
set_option maxRecDepth 100000 in
theorem t_X12_isWhole_40 {X : sX} {post : Int32 → sI → sJ → Prop} (h : sOK X cX12_isWhole RX12 4 1 23) (hr : sRt X (some .boolean) (sPi post)) {k4 : Int32 → Int32 → Int32 → sI → sJ → Prop} (hk4 : ∀ (x1 : Int32) (x2 : Int32) (x3 : Int32) (I : sI) (J : sJ), k4 x1 x2 x3 I J → sG X 4 4 [(0, .ref 248), (1, .int x1), (2, .int x2), (3, .int x3)] [] I J) {x1 : Int32} {x3 : Int32} {s0 : Int32} {I : sI} {J : sJ} (hw : w_X12_isWhole_40 post k4 x1 x3 s0 I J) : sG X 4 40 [(0, .ref 248), (1, .int x1), (3, .int x3)] [.int s0] I J := by
  unfold w_X12_isWhole_40 at hw
  refine g_istore_n (lo2 := [(2, .int s0), (0, .ref 248), (1, .int x1), (3, .int x3)]) h rfl (by decide) rfl dX12_isWhole_40 ?_
  obtain ⟨v3_41, ev3_41⟩ : ∃ z : Int32, z = x3 + 1 := ⟨_, rfl⟩
  replace hw := hw v3_41 ev3_41
  refine g_iinc (v := v3_41) (lo2 := [(3, .int v3_41), (2, .int s0), (0, .ref 248), (1, .int x1)]) h 3 rfl (by rw [ev3_41]; rfl) (by decide) rfl dX12_isWhole_41 ?_
  refine g_goto (tgt := 4) h (by decide) dX12_isWhole_44 ?_
  exact g_sub [2, 3, 1, 0] rfl (hk4 _ _ _ _ _ hw)
def w_X12_isWhole_39 (post : Int32 → sI → sJ → Prop) (k4 : Int32 → Int32 → Int32 → sI → sJ → Prop) (x1 : Int32) (x3 : Int32) (I : sI) (J : sJ) : Prop :=
  w_X12_isWhole_40 post k4 x1 x3 0 I J
set_option maxHeartbeats 4000000 in
set_option maxRecDepth 100000 in
theorem t_X12_isWhole_39 {X : sX} {post : Int32 → sI → sJ → Prop} (h : sOK X cX12_isWhole RX12 4 1 23) (hr : sRt X (some .boolean) (sPi post)) {k4 : Int32 → Int32 → Int32 → sI → sJ → Prop} (hk4 : ∀ (x1 : Int32) (x2 : Int32) (x3 : Int32) (I : sI) (J : sJ), k4 x1 x2 x3 I J → sG X 4 4 [(0, .ref 248), (1, .int x1), (2, .int x2), (3, .int x3)] [] I J) {x1 : Int32} {x3 : Int32} {I : sI} {J : sJ} (hw : w_X12_isWhole_39 post k4 x1 x3 I J) : sG X 4 39 [(0, .ref 248), (1, .int x1), (3, .int x3)] [] I J := by
  unfold w_X12_isWhole_39 at hw
  refine g_iconst (v := 0) h (by decide) dX12_isWhole_39 ?_
  exact g_sub [0, 1, 2] rfl (t_X12_isWhole_40 h hr hk4 hw)
def w_X12_isWhole_4_s (post : Int32 → sI → sJ → Prop) (k4 : Int32 → Int32 → Int32 → sI → sJ → Prop) (x1 : Int32) (x2 : Int32) (x3 : Int32) (I : sI) (J : sJ) : Prop :=
  (vp_in x1 24 ∧ (((I 253 (Int32.toNatClampNeg x1)) ≤ x3 → (sZ x2 ∧ post x2 I J)) ∧ (¬ (I 253 (Int32.toNatClampNeg x1)) ≤ x3 → ((x2 = 0 → w_X12_isWhole_39 post k4 x1 x3 I J) ∧ (¬ x2 = 0 → w_X12_groupBegin x1 I J (fun (r_24 : Int32) (I_24 : sI) (J_24 : sJ) => ((vp_in (r_24 + x3) 80 ∧ (((I_24 254 (Int32.toNatClampNeg (r_24 + x3))) = 12 → w_X12_isWhole_39 post k4 x1 x3 I_24 J_24) ∧ (¬ (I_24 254 (Int32.toNatClampNeg (r_24 + x3))) = 12 → w_X12_isWhole_40 post k4 x1 x3 1 I_24 J_24))))))))))
def w_X12_isWhole_4_n (post : Int32 → sI → sJ → Prop) : Nat → Int32 → Int32 → Int32 → sI → sJ → Prop
  | 0 => fun _ _ _ _ _ => False
  | n + 1 => fun x1 x2 x3 I J => w_X12_isWhole_4_s post (w_X12_isWhole_4_n post n) x1 x2 x3 I J
def w_X12_isWhole_4 (post : Int32 → sI → sJ → Prop) (x1 : Int32) (x2 : Int32) (x3 : Int32) (I : sI) (J : sJ) : Prop := ∃ n, w_X12_isWhole_4_n post n x1 x2 x3 I J
set_option maxHeartbeats 4000000 in
set_option maxRecDepth 100000 in
theorem t_X12_isWhole_4_s {X : sX} {post : Int32 → sI → sJ → Prop} (h : sOK X cX12_isWhole RX12 4 1 23) (hr : sRt X (some .boolean) (sPi post)) {k4 : Int32 → Int32 → Int32 → sI → sJ → Prop} (hk4 : ∀ (x1 : Int32) (x2 : Int32) (x3 : Int32) (I : sI) (J : sJ), k4 x1 x2 x3 I J → sG X 4 4 [(0, .ref 248), (1, .int x1), (2, .int x2), (3, .int x3)] [] I J) {x1 : Int32} {x2 : Int32} {x3 : Int32} {I : sI} {J : sJ} (hw : w_X12_isWhole_4_s post k4 x1 x2 x3 I J) : sG X 4 4 [(0, .ref 248), (1, .int x1), (2, .int x2), (3, .int x3)] [] I J := by
  unfold w_X12_isWhole_4_s at hw
  refine g_iload_n h rfl 3 rfl dX12_isWhole_4 ?_
  refine g_aload_n h rfl 0 rfl dX12_isWhole_5 ?_
  refine g_get h is_248 fl_X12_82 fr_248_13 dX12_isWhole_6 ?_
  refine g_iload_n h rfl 1 rfl dX12_isWhole_9 ?_
  obtain ⟨hi10, hw⟩ := hw
  refine g_iald h ar_253 hi10 dX12_isWhole_10 ?_
  refine g_icmp_ge (tgt := 47) h (by decide) dX12_isWhole_11 (fun q11 => ?_) (fun q11 => ?_)
  · replace hw := hw.1 q11
    refine g_iload_n h rfl 2 rfl dX12_isWhole_47 ?_
    exact g_zret h hr hw.1 dX12_isWhole_48 hw.2
  · replace hw := hw.2 q11
    refine g_iload_n h rfl 2 rfl dX12_isWhole_14 ?_
    refine g_if_eq (tgt := 39) h (by decide) dX12_isWhole_15 (fun q15 => ?_) (fun q15 => ?_)
    · replace hw := hw.1 q15
      exact g_sub [0, 1, 3] rfl (t_X12_isWhole_39 h hr hk4 hw)
    · replace hw := hw.2 q15
      refine g_aload_n h rfl 0 rfl dX12_isWhole_18 ?_
      refine g_get h is_248 fl_X12_85 fr_248_14 dX12_isWhole_19 ?_
      refine g_aload_n h rfl 0 rfl dX12_isWhole_22 ?_
      refine g_iload_n h rfl 1 rfl dX12_isWhole_23 ?_
      refine g_callV [.int x1] h (c_X12_groupBegin X hw) sPi_v mw_X12_groupBegin lk_X12_332 is_248 rfl rfl ⟨by decide, by decide⟩ (Nat.le_of_ble_eq_true rfl) dX12_isWhole_24 (sPi_k (fun r_24 I_24 J_24 hw => ?_))
      refine g_iload_n h rfl 3 rfl dX12_isWhole_27 ?_
      refine g_iadd h dX12_isWhole_28 ?_
      obtain ⟨hi29, hw⟩ := hw
      refine g_iald h ar_254 hi29 dX12_isWhole_29 ?_
      refine g_bipush (v := 12) h (by decide) dX12_isWhole_30 ?_
      refine g_icmp_eq (tgt := 39) h (by decide) dX12_isWhole_32 (fun q32 => ?_) (fun q32 => ?_)
      · replace hw := hw.1 q32
        exact g_sub [0, 1, 3] rfl (t_X12_isWhole_39 h hr hk4 hw)
      · replace hw := hw.2 q32
        refine g_iconst (v := 1) h (by decide) dX12_isWhole_35 ?_
        refine g_goto (tgt := 40) h (by decide) dX12_isWhole_36 ?_
        exact g_sub [0, 1, 3] rfl (t_X12_isWhole_40 h hr hk4 hw)
theorem t_X12_isWhole_4 {X : sX} {post : Int32 → sI → sJ → Prop} (h : sOK X cX12_isWhole RX12 4 1 23) (hr : sRt X (some .boolean) (sPi post)) {x1 : Int32} {x2 : Int32} {x3 : Int32} {I : sI} {J : sJ} (hw : w_X12_isWhole_4 post x1 x2 x3 I J) : sG X 4 4 [(0, .ref 248), (1, .int x1), (2, .int x2), (3, .int x3)] [] I J := by
  obtain ⟨n, hw⟩ := hw
  induction n generalizing x1 x2 x3 I J with
  | zero => exact hw.elim
  | succ n ih => exact t_X12_isWhole_4_s h hr (fun _ _ _ _ _ q => ih q) hw
def w_X12_isWhole (a1 : Int32) (I : sI) (J : sJ) (post : Int32 → sI → sJ → Prop) : Prop :=
  w_X12_isWhole_4 post a1 1 0 I J
set_option maxHeartbeats 4000000 in
set_option maxRecDepth 100000 in
theorem t_X12_isWhole {X : sX} {a1 : Int32} {I : sI} {J : sJ} {post : Int32 → sI → sJ → Prop} (h : sOK X cX12_isWhole RX12 4 1 23) (hr : sRt X (some .boolean) (sPi post)) (hw : w_X12_isWhole a1 I J post) : sG X 4 0 [(0, .ref 248), (1, .int a1)] [] I J := by
  unfold w_X12_isWhole at hw
  refine g_iconst (v := 1) h (by decide) dX12_isWhole_0 ?_
  refine g_istore_n (lo2 := [(2, .int 1), (0, .ref 248), (1, .int a1)]) h rfl (by decide) rfl dX12_isWhole_1 ?_
  refine g_iconst (v := 0) h (by decide) dX12_isWhole_2 ?_
  refine g_istore_n (lo2 := [(3, .int 0), (2, .int 1), (0, .ref 248), (1, .int a1)]) h rfl (by decide) rfl dX12_isWhole_3 ?_
  exact g_sub [2, 3, 1, 0] rfl (t_X12_isWhole_4 h hr hw)
theorem c_X12_isWhole (X : sX) {a1 : Int32} {I : sI} {J : sJ} {post : Int32 → sI → sJ → Prop} (hw : w_X12_isWhole a1 I J post) : sCall X yX12_isWhole cX12_isWhole 4 (some .boolean) 1 23 [.ref 248, .int a1] I J (sPi post) := sCall_of (by decide +kernel) (Nat.le_of_ble_eq_true rfl) (fun X h hr => t_X12_isWhole h hr hw)
theorem dX12_millionths_0 : decode cX12_millionths 0 = .ok (.iconst 0, 1) := by decide +kernel
theorem dX12_millionths_1 : decode cX12_millionths 1 = .ok (.istore 4, 2) := by decide +kernel
theorem dX12_millionths_3 : decode cX12_millionths 3 = .ok (.ldc_w 335, 3) := by decide +kernel
theorem dX12_millionths_6 : decode cX12_millionths 6 = .ok (.istore 5, 2) := by decide +kernel
theorem dX12_millionths_8 : decode cX12_millionths 8 = .ok (.iload 4, 2) := by decide +kernel
theorem dX12_millionths_10 : decode cX12_millionths 10 = .ok (.iload 5, 2) := by decide +kernel
theorem dX12_millionths_12 : decode cX12_millionths 12 = .ok (.if_icmp .ge 108, 3) := by decide +kernel
theorem dX12_millionths_15 : decode cX12_millionths 15 = .ok (.iload 4, 2) := by decide +kernel
theorem dX12_millionths_17 : decode cX12_millionths 17 = .ok (.iload 5, 2) := by decide +kernel
theorem dX12_millionths_19 : decode cX12_millionths 19 = .ok (.iadd, 1) := by decide +kernel
theorem dX12_millionths_20 : decode cX12_millionths 20 = .ok (.iconst 1, 1) := by decide +kernel
theorem dX12_millionths_21 : decode cX12_millionths 21 = .ok (.iadd, 1) := by decide +kernel
theorem dX12_millionths_22 : decode cX12_millionths 22 = .ok (.iconst 2, 1) := by decide +kernel
theorem dX12_millionths_23 : decode cX12_millionths 23 = .ok (.idiv, 1) := by decide +kernel
theorem dX12_millionths_24 : decode cX12_millionths 24 = .ok (.istore 6, 2) := by decide +kernel
theorem dX12_millionths_26 : decode cX12_millionths 26 = .ok (.aload_n 0, 1) := by decide +kernel
theorem dX12_millionths_27 : decode cX12_millionths 27 = .ok (.getfield 311, 3) := by decide +kernel
theorem dX12_millionths_30 : decode cX12_millionths 30 = .ok (.invokestatic 303, 3) := by decide +kernel
theorem dX12_millionths_33 : decode cX12_millionths 33 = .ok (.aload_n 0, 1) := by decide +kernel
theorem dX12_millionths_34 : decode cX12_millionths 34 = .ok (.getfield 311, 3) := by decide +kernel
theorem dX12_millionths_37 : decode cX12_millionths 37 = .ok (.iload 6, 2) := by decide +kernel
theorem dX12_millionths_39 : decode cX12_millionths 39 = .ok (.invokestatic 307, 3) := by decide +kernel
theorem dX12_millionths_42 : decode cX12_millionths 42 = .ok (.aload_n 0, 1) := by decide +kernel
theorem dX12_millionths_43 : decode cX12_millionths 43 = .ok (.getfield 318, 3) := by decide +kernel
theorem dX12_millionths_46 : decode cX12_millionths 46 = .ok (.invokestatic 303, 3) := by decide +kernel
theorem dX12_millionths_49 : decode cX12_millionths 49 = .ok (.aload_n 0, 1) := by decide +kernel
theorem dX12_millionths_50 : decode cX12_millionths 50 = .ok (.getfield 318, 3) := by decide +kernel
theorem dX12_millionths_53 : decode cX12_millionths 53 = .ok (.ldc_w 335, 3) := by decide +kernel
theorem dX12_millionths_56 : decode cX12_millionths 56 = .ok (.invokestatic 307, 3) := by decide +kernel
theorem dX12_millionths_59 : decode cX12_millionths 59 = .ok (.iconst 0, 1) := by decide +kernel
theorem dX12_millionths_60 : decode cX12_millionths 60 = .ok (.istore 7, 2) := by decide +kernel
theorem dX12_millionths_62 : decode cX12_millionths 62 = .ok (.iload 7, 2) := by decide +kernel
theorem dX12_millionths_64 : decode cX12_millionths 64 = .ok (.iload_n 3, 1) := by decide +kernel
theorem dX12_millionths_65 : decode cX12_millionths 65 = .ok (.if_icmp .ge 25, 3) := by decide +kernel
theorem dX12_millionths_68 : decode cX12_millionths 68 = .ok (.aload_n 0, 1) := by decide +kernel
theorem dX12_millionths_69 : decode cX12_millionths 69 = .ok (.getfield 311, 3) := by decide +kernel
theorem dX12_millionths_72 : decode cX12_millionths 72 = .ok (.iload_n 2, 1) := by decide +kernel
theorem dX12_millionths_73 : decode cX12_millionths 73 = .ok (.invokestatic 307, 3) := by decide +kernel
theorem dX12_millionths_76 : decode cX12_millionths 76 = .ok (.aload_n 0, 1) := by decide +kernel
theorem dX12_millionths_77 : decode cX12_millionths 77 = .ok (.getfield 318, 3) := by decide +kernel
theorem dX12_millionths_80 : decode cX12_millionths 80 = .ok (.iload_n 1, 1) := by decide +kernel
theorem dX12_millionths_81 : decode cX12_millionths 81 = .ok (.invokestatic 307, 3) := by decide +kernel
theorem dX12_millionths_84 : decode cX12_millionths 84 = .ok (.iinc 7 1, 3) := by decide +kernel
theorem dX12_millionths_87 : decode cX12_millionths 87 = .ok (.goto (-25), 3) := by decide +kernel
theorem dX12_millionths_90 : decode cX12_millionths 90 = .ok (.aload_n 0, 1) := by decide +kernel
theorem dX12_millionths_91 : decode cX12_millionths 91 = .ok (.getfield 311, 3) := by decide +kernel
theorem dX12_millionths_94 : decode cX12_millionths 94 = .ok (.aload_n 0, 1) := by decide +kernel
theorem dX12_millionths_95 : decode cX12_millionths 95 = .ok (.getfield 318, 3) := by decide +kernel
theorem dX12_millionths_98 : decode cX12_millionths 98 = .ok (.invokestatic 321, 3) := by decide +kernel
theorem dX12_millionths_101 : decode cX12_millionths 101 = .ok (.ifCond .gt 10, 3) := by decide +kernel
theorem dX12_millionths_104 : decode cX12_millionths 104 = .ok (.iload 6, 2) := by decide +kernel
theorem dX12_millionths_106 : decode cX12_millionths 106 = .ok (.istore 4, 2) := by decide +kernel
theorem dX12_millionths_108 : decode cX12_millionths 108 = .ok (.goto 9, 3) := by decide +kernel
theorem dX12_millionths_111 : decode cX12_millionths 111 = .ok (.iload 6, 2) := by decide +kernel
theorem dX12_millionths_113 : decode cX12_millionths 113 = .ok (.iconst 1, 1) := by decide +kernel
theorem dX12_millionths_114 : decode cX12_millionths 114 = .ok (.isub, 1) := by decide +kernel
theorem dX12_millionths_115 : decode cX12_millionths 115 = .ok (.istore 5, 2) := by decide +kernel
theorem dX12_millionths_117 : decode cX12_millionths 117 = .ok (.goto (-109), 3) := by decide +kernel
theorem dX12_millionths_120 : decode cX12_millionths 120 = .ok (.iload 4, 2) := by decide +kernel
theorem dX12_millionths_122 : decode cX12_millionths 122 = .ok (.ireturn, 1) := by decide +kernel
def w_X12_millionths_117 (post : Int32 → sI → sJ → Prop) (k8 : Int32 → Int32 → Int32 → Int32 → Int32 → sI → sJ → Prop) (x1 : Int32) (x2 : Int32) (x3 : Int32) (x4 : Int32) (x5 : Int32) (I : sI) (J : sJ) : Prop :=
  k8 x1 x2 x3 x4 x5 I J
set_option maxHeartbeats 4000000 in
set_option maxRecDepth 100000 in
theorem t_X12_millionths_117 {X : sX} {post : Int32 → sI → sJ → Prop} (h : sOK X cX12_millionths RX12 8 1 24) (hr : sRt X (some .int) (sPi post)) {k8 : Int32 → Int32 → Int32 → Int32 → Int32 → sI → sJ → Prop} (hk8 : ∀ (x1 : Int32) (x2 : Int32) (x3 : Int32) (x4 : Int32) (x5 : Int32) (I : sI) (J : sJ), k8 x1 x2 x3 x4 x5 I J → sG X 8 8 [(0, .ref 248), (1, .int x1), (2, .int x2), (3, .int x3), (4, .int x4), (5, .int x5)] [] I J) {x1 : Int32} {x2 : Int32} {x3 : Int32} {x4 : Int32} {x5 : Int32} {I : sI} {J : sJ} (hw : w_X12_millionths_117 post k8 x1 x2 x3 x4 x5 I J) : sG X 8 117 [(0, .ref 248), (1, .int x1), (2, .int x2), (3, .int x3), (4, .int x4), (5, .int x5)] [] I J := by
  unfold w_X12_millionths_117 at hw
  refine g_goto (tgt := 8) h (by decide) dX12_millionths_117 ?_
  exact g_sub [0, 1, 2, 3, 4, 5] rfl (hk8 _ _ _ _ _ _ _ hw)
def w_X12_millionths_62_s (post : Int32 → sI → sJ → Prop) (k8 : Int32 → Int32 → Int32 → Int32 → Int32 → sI → sJ → Prop) (k62 : Int32 → Int32 → Int32 → Int32 → Int32 → Int32 → Int32 → sI → sJ → Prop) (x1 : Int32) (x2 : Int32) (x3 : Int32) (x4 : Int32) (x5 : Int32) (x6 : Int32) (x7 : Int32) (I : sI) (J : sJ) : Prop :=
  ((x3 ≤ x7 → w_X12_compares 273 274 I J (fun (r_98 : Int32) (I_98 : sI) (J_98 : sJ) => (((0 < r_98 → (∀ v5_115 : Int32, v5_115 = x6 - 1 → w_X12_millionths_117 post k8 x1 x2 x3 x4 v5_115 I_98 J_98)) ∧ (¬ 0 < r_98 → w_X12_millionths_117 post k8 x1 x2 x3 x6 x5 I_98 J_98))))) ∧ (¬ x3 ≤ x7 → w_X12_times 273 x2 I J (fun (I_73 : sI) (J_73 : sJ) => (w_X12_times 274 x1 I_73 J_73 (fun (I_81 : sI) (J_81 : sJ) => ((∀ v7_84 : Int32, v7_84 = x7 + 1 → k62 x1 x2 x3 x4 x5 x6 v7_84 I_81 J_81)))))))
def w_X12_millionths_62_n (post : Int32 → sI → sJ → Prop) (k8 : Int32 → Int32 → Int32 → Int32 → Int32 → sI → sJ → Prop) : Nat → Int32 → Int32 → Int32 → Int32 → Int32 → Int32 → Int32 → sI → sJ → Prop
  | 0 => fun _ _ _ _ _ _ _ _ _ => False
  | n + 1 => fun x1 x2 x3 x4 x5 x6 x7 I J => w_X12_millionths_62_s post k8 (w_X12_millionths_62_n post k8 n) x1 x2 x3 x4 x5 x6 x7 I J
def w_X12_millionths_62 (post : Int32 → sI → sJ → Prop) (k8 : Int32 → Int32 → Int32 → Int32 → Int32 → sI → sJ → Prop) (x1 : Int32) (x2 : Int32) (x3 : Int32) (x4 : Int32) (x5 : Int32) (x6 : Int32) (x7 : Int32) (I : sI) (J : sJ) : Prop := ∃ n, w_X12_millionths_62_n post k8 n x1 x2 x3 x4 x5 x6 x7 I J
set_option maxHeartbeats 4000000 in
set_option maxRecDepth 100000 in
theorem t_X12_millionths_62_s {X : sX} {post : Int32 → sI → sJ → Prop} (h : sOK X cX12_millionths RX12 8 1 24) (hr : sRt X (some .int) (sPi post)) {k8 : Int32 → Int32 → Int32 → Int32 → Int32 → sI → sJ → Prop} (hk8 : ∀ (x1 : Int32) (x2 : Int32) (x3 : Int32) (x4 : Int32) (x5 : Int32) (I : sI) (J : sJ), k8 x1 x2 x3 x4 x5 I J → sG X 8 8 [(0, .ref 248), (1, .int x1), (2, .int x2), (3, .int x3), (4, .int x4), (5, .int x5)] [] I J) {k62 : Int32 → Int32 → Int32 → Int32 → Int32 → Int32 → Int32 → sI → sJ → Prop} (hk62 : ∀ (x1 : Int32) (x2 : Int32) (x3 : Int32) (x4 : Int32) (x5 : Int32) (x6 : Int32) (x7 : Int32) (I : sI) (J : sJ), k62 x1 x2 x3 x4 x5 x6 x7 I J → sG X 8 62 [(0, .ref 248), (1, .int x1), (2, .int x2), (3, .int x3), (4, .int x4), (5, .int x5), (6, .int x6), (7, .int x7)] [] I J) {x1 : Int32} {x2 : Int32} {x3 : Int32} {x4 : Int32} {x5 : Int32} {x6 : Int32} {x7 : Int32} {I : sI} {J : sJ} (hw : w_X12_millionths_62_s post k8 k62 x1 x2 x3 x4 x5 x6 x7 I J) : sG X 8 62 [(0, .ref 248), (1, .int x1), (2, .int x2), (3, .int x3), (4, .int x4), (5, .int x5), (6, .int x6), (7, .int x7)] [] I J := by
  unfold w_X12_millionths_62_s at hw
  refine g_iload h 7 rfl dX12_millionths_62 ?_
  refine g_iload_n h rfl 3 rfl dX12_millionths_64 ?_
  refine g_icmp_ge (tgt := 90) h (by decide) dX12_millionths_65 (fun q65 => ?_) (fun q65 => ?_)
  · replace hw := hw.1 q65
    refine g_aload_n h rfl 0 rfl dX12_millionths_90 ?_
    refine g_get h is_248 fl_X12_311 fr_248_44 dX12_millionths_91 ?_
    refine g_aload_n h rfl 0 rfl dX12_millionths_94 ?_
    refine g_get h is_248 fl_X12_318 fr_248_45 dX12_millionths_95 ?_
    refine g_callS [.ref 273, .ref 274] h (c_X12_compares X ar_273 ar_274 hw) sPi_v mw_X12_compares lk_X12_321 rfl ⟨by decide, by decide⟩ (Nat.le_of_ble_eq_true rfl) dX12_millionths_98 (sPi_k (fun r_98 I_98 J_98 hw => ?_))
    refine g_if_gt (tgt := 111) h (by decide) dX12_millionths_101 (fun q101 => ?_) (fun q101 => ?_)
    · replace hw := hw.1 q101
      refine g_iload h 6 rfl dX12_millionths_111 ?_
      refine g_iconst (v := 1) h (by decide) dX12_millionths_113 ?_
      refine g_isub h dX12_millionths_114 ?_
      refine g_ni (fun v5_115 ev5_115 => ?_)
      replace hw := hw v5_115 ev5_115
      refine g_istore (lo2 := [(5, .int v5_115), (0, .ref 248), (1, .int x1), (2, .int x2), (3, .int x3), (4, .int x4), (6, .int x6), (7, .int x7)]) h (by decide) rfl dX12_millionths_115 ?_
      exact g_sub [1, 2, 3, 4, 5, 0] rfl (t_X12_millionths_117 h hr hk8 hw)
    · replace hw := hw.2 q101
      refine g_iload h 6 rfl dX12_millionths_104 ?_
      refine g_istore (lo2 := [(4, .int x6), (0, .ref 248), (1, .int x1), (2, .int x2), (3, .int x3), (5, .int x5), (6, .int x6), (7, .int x7)]) h (by decide) rfl dX12_millionths_106 ?_
      refine g_goto (tgt := 117) h (by decide) dX12_millionths_108 ?_
      exact g_sub [1, 2, 3, 4, 0, 5] rfl (t_X12_millionths_117 h hr hk8 hw)
  · replace hw := hw.2 q65
    refine g_aload_n h rfl 0 rfl dX12_millionths_68 ?_
    refine g_get h is_248 fl_X12_311 fr_248_44 dX12_millionths_69 ?_
    refine g_iload_n h rfl 2 rfl dX12_millionths_72 ?_
    refine g_callS [.ref 273, .int x2] h (c_X12_times X ar_273 hw) sPv_v mw_X12_times lk_X12_307 rfl ⟨by decide, by decide⟩ (Nat.le_of_ble_eq_true rfl) dX12_millionths_73 (sPv_k (fun I_73 J_73 hw => ?_))
    refine g_aload_n h rfl 0 rfl dX12_millionths_76 ?_
    refine g_get h is_248 fl_X12_318 fr_248_45 dX12_millionths_77 ?_
    refine g_iload_n h rfl 1 rfl dX12_millionths_80 ?_
    refine g_callS [.ref 274, .int x1] h (c_X12_times X ar_274 hw) sPv_v mw_X12_times lk_X12_307 rfl ⟨by decide, by decide⟩ (Nat.le_of_ble_eq_true rfl) dX12_millionths_81 (sPv_k (fun I_81 J_81 hw => ?_))
    obtain ⟨v7_84, ev7_84⟩ : ∃ z : Int32, z = x7 + 1 := ⟨_, rfl⟩
    replace hw := hw v7_84 ev7_84
    refine g_iinc (v := v7_84) (lo2 := [(7, .int v7_84), (0, .ref 248), (1, .int x1), (2, .int x2), (3, .int x3), (4, .int x4), (5, .int x5), (6, .int x6)]) h 7 rfl (by rw [ev7_84]; rfl) (by decide) rfl dX12_millionths_84 ?_
    refine g_goto (tgt := 62) h (by decide) dX12_millionths_87 ?_
    exact g_sub [1, 2, 3, 4, 5, 6, 7, 0] rfl (hk62 _ _ _ _ _ _ _ _ _ hw)
theorem t_X12_millionths_62 {X : sX} {post : Int32 → sI → sJ → Prop} (h : sOK X cX12_millionths RX12 8 1 24) (hr : sRt X (some .int) (sPi post)) {k8 : Int32 → Int32 → Int32 → Int32 → Int32 → sI → sJ → Prop} (hk8 : ∀ (x1 : Int32) (x2 : Int32) (x3 : Int32) (x4 : Int32) (x5 : Int32) (I : sI) (J : sJ), k8 x1 x2 x3 x4 x5 I J → sG X 8 8 [(0, .ref 248), (1, .int x1), (2, .int x2), (3, .int x3), (4, .int x4), (5, .int x5)] [] I J) {x1 : Int32} {x2 : Int32} {x3 : Int32} {x4 : Int32} {x5 : Int32} {x6 : Int32} {x7 : Int32} {I : sI} {J : sJ} (hw : w_X12_millionths_62 post k8 x1 x2 x3 x4 x5 x6 x7 I J) : sG X 8 62 [(0, .ref 248), (1, .int x1), (2, .int x2), (3, .int x3), (4, .int x4), (5, .int x5), (6, .int x6), (7, .int x7)] [] I J := by
  obtain ⟨n, hw⟩ := hw
  induction n generalizing x1 x2 x3 x4 x5 x6 x7 I J with
  | zero => exact hw.elim
  | succ n ih => exact t_X12_millionths_62_s h hr hk8 (fun _ _ _ _ _ _ _ _ _ q => ih q) hw
def w_X12_millionths_8_s (post : Int32 → sI → sJ → Prop) (k8 : Int32 → Int32 → Int32 → Int32 → Int32 → sI → sJ → Prop) (x1 : Int32) (x2 : Int32) (x3 : Int32) (x4 : Int32) (x5 : Int32) (I : sI) (J : sJ) : Prop :=
  ((x5 ≤ x4 → post x4 I J) ∧ (¬ x5 ≤ x4 → (∀ v6_24 : Int32, v6_24 = ((x4 + x5) + 1) / 2 → w_X12_one 273 I J (fun (I_30 : sI) (J_30 : sJ) => (w_X12_times 273 v6_24 I_30 J_30 (fun (I_39 : sI) (J_39 : sJ) => (w_X12_one 274 I_39 J_39 (fun (I_46 : sI) (J_46 : sJ) => (w_X12_times 274 1000000 I_46 J_46 (fun (I_56 : sI) (J_56 : sJ) => (w_X12_millionths_62 post k8 x1 x2 x3 x4 x5 v6_24 0 I_56 J_56)))))))))))
def w_X12_millionths_8_n (post : Int32 → sI → sJ → Prop) : Nat → Int32 → Int32 → Int32 → Int32 → Int32 → sI → sJ → Prop
  | 0 => fun _ _ _ _ _ _ _ => False
  | n + 1 => fun x1 x2 x3 x4 x5 I J => w_X12_millionths_8_s post (w_X12_millionths_8_n post n) x1 x2 x3 x4 x5 I J
def w_X12_millionths_8 (post : Int32 → sI → sJ → Prop) (x1 : Int32) (x2 : Int32) (x3 : Int32) (x4 : Int32) (x5 : Int32) (I : sI) (J : sJ) : Prop := ∃ n, w_X12_millionths_8_n post n x1 x2 x3 x4 x5 I J
set_option maxHeartbeats 4000000 in
set_option maxRecDepth 100000 in
theorem t_X12_millionths_8_s {X : sX} {post : Int32 → sI → sJ → Prop} (h : sOK X cX12_millionths RX12 8 1 24) (hr : sRt X (some .int) (sPi post)) {k8 : Int32 → Int32 → Int32 → Int32 → Int32 → sI → sJ → Prop} (hk8 : ∀ (x1 : Int32) (x2 : Int32) (x3 : Int32) (x4 : Int32) (x5 : Int32) (I : sI) (J : sJ), k8 x1 x2 x3 x4 x5 I J → sG X 8 8 [(0, .ref 248), (1, .int x1), (2, .int x2), (3, .int x3), (4, .int x4), (5, .int x5)] [] I J) {x1 : Int32} {x2 : Int32} {x3 : Int32} {x4 : Int32} {x5 : Int32} {I : sI} {J : sJ} (hw : w_X12_millionths_8_s post k8 x1 x2 x3 x4 x5 I J) : sG X 8 8 [(0, .ref 248), (1, .int x1), (2, .int x2), (3, .int x3), (4, .int x4), (5, .int x5)] [] I J := by
  unfold w_X12_millionths_8_s at hw
  refine g_iload h 4 rfl dX12_millionths_8 ?_
  refine g_iload h 5 rfl dX12_millionths_10 ?_
  refine g_icmp_ge (tgt := 120) h (by decide) dX12_millionths_12 (fun q12 => ?_) (fun q12 => ?_)
  · replace hw := hw.1 q12
    refine g_iload h 4 rfl dX12_millionths_120 ?_
    exact g_iret h hr dX12_millionths_122 hw
  · replace hw := hw.2 q12
    refine g_iload h 4 rfl dX12_millionths_15 ?_
    refine g_iload h 5 rfl dX12_millionths_17 ?_
    refine g_iadd h dX12_millionths_19 ?_
    refine g_iconst (v := 1) h (by decide) dX12_millionths_20 ?_
    refine g_iadd h dX12_millionths_21 ?_
    refine g_iconst (v := 2) h (by decide) dX12_millionths_22 ?_
    refine g_idiv h (by decide) dX12_millionths_23 ?_
    refine g_ni (fun v6_24 ev6_24 => ?_)
    replace hw := hw v6_24 ev6_24
    refine g_istore (lo2 := [(6, .int v6_24), (0, .ref 248), (1, .int x1), (2, .int x2), (3, .int x3), (4, .int x4), (5, .int x5)]) h (by decide) rfl dX12_millionths_24 ?_
    refine g_aload_n h rfl 1 rfl dX12_millionths_26 ?_
    refine g_get h is_248 fl_X12_311 fr_248_44 dX12_millionths_27 ?_
    refine g_callS [.ref 273] h (c_X12_one X ar_273 hw) sPv_v mw_X12_one lk_X12_303 rfl ⟨by decide, by decide⟩ (Nat.le_of_ble_eq_true rfl) dX12_millionths_30 (sPv_k (fun I_30 J_30 hw => ?_))
    refine g_aload_n h rfl 1 rfl dX12_millionths_33 ?_
    refine g_get h is_248 fl_X12_311 fr_248_44 dX12_millionths_34 ?_
    refine g_iload h 0 rfl dX12_millionths_37 ?_
    refine g_callS [.ref 273, .int v6_24] h (c_X12_times X ar_273 hw) sPv_v mw_X12_times lk_X12_307 rfl ⟨by decide, by decide⟩ (Nat.le_of_ble_eq_true rfl) dX12_millionths_39 (sPv_k (fun I_39 J_39 hw => ?_))
    refine g_aload_n h rfl 1 rfl dX12_millionths_42 ?_
    refine g_get h is_248 fl_X12_318 fr_248_45 dX12_millionths_43 ?_
    refine g_callS [.ref 274] h (c_X12_one X ar_274 hw) sPv_v mw_X12_one lk_X12_303 rfl ⟨by decide, by decide⟩ (Nat.le_of_ble_eq_true rfl) dX12_millionths_46 (sPv_k (fun I_46 J_46 hw => ?_))
    refine g_aload_n h rfl 1 rfl dX12_millionths_49 ?_
    refine g_get h is_248 fl_X12_318 fr_248_45 dX12_millionths_50 ?_
    refine g_ldcw h lc_X12_335 dX12_millionths_53 ?_
    refine g_callS [.ref 274, .int 1000000] h (c_X12_times X ar_274 hw) sPv_v mw_X12_times lk_X12_307 rfl ⟨by decide, by decide⟩ (Nat.le_of_ble_eq_true rfl) dX12_millionths_56 (sPv_k (fun I_56 J_56 hw => ?_))
    refine g_iconst (v := 0) h (by decide) dX12_millionths_59 ?_
    refine g_istore (lo2 := [(7, .int 0), (6, .int v6_24), (0, .ref 248), (1, .int x1), (2, .int x2), (3, .int x3), (4, .int x4), (5, .int x5)]) h (by decide) rfl dX12_millionths_60 ?_
    exact g_sub [2, 3, 4, 5, 6, 7, 1, 0] rfl (t_X12_millionths_62 h hr hk8 hw)
theorem t_X12_millionths_8 {X : sX} {post : Int32 → sI → sJ → Prop} (h : sOK X cX12_millionths RX12 8 1 24) (hr : sRt X (some .int) (sPi post)) {x1 : Int32} {x2 : Int32} {x3 : Int32} {x4 : Int32} {x5 : Int32} {I : sI} {J : sJ} (hw : w_X12_millionths_8 post x1 x2 x3 x4 x5 I J) : sG X 8 8 [(0, .ref 248), (1, .int x1), (2, .int x2), (3, .int x3), (4, .int x4), (5, .int x5)] [] I J := by
  obtain ⟨n, hw⟩ := hw
  induction n generalizing x1 x2 x3 x4 x5 I J with
  | zero => exact hw.elim
  | succ n ih => exact t_X12_millionths_8_s h hr (fun _ _ _ _ _ _ _ q => ih q) hw
def w_X12_millionths (a1 : Int32) (a2 : Int32) (a3 : Int32) (I : sI) (J : sJ) (post : Int32 → sI → sJ → Prop) : Prop :=
  w_X12_millionths_8 post a1 a2 a3 0 1000000 I J
set_option maxHeartbeats 4000000 in
set_option maxRecDepth 100000 in
theorem t_X12_millionths {X : sX} {a1 : Int32} {a2 : Int32} {a3 : Int32} {I : sI} {J : sJ} {post : Int32 → sI → sJ → Prop} (h : sOK X cX12_millionths RX12 8 1 24) (hr : sRt X (some .int) (sPi post)) (hw : w_X12_millionths a1 a2 a3 I J post) : sG X 8 0 [(0, .ref 248), (1, .int a1), (2, .int a2), (3, .int a3)] [] I J := by
  unfold w_X12_millionths at hw
  refine g_iconst (v := 0) h (by decide) dX12_millionths_0 ?_
  refine g_istore (lo2 := [(4, .int 0), (0, .ref 248), (1, .int a1), (2, .int a2), (3, .int a3)]) h (by decide) rfl dX12_millionths_1 ?_
  refine g_ldcw h lc_X12_335 dX12_millionths_3 ?_
  refine g_istore (lo2 := [(5, .int 1000000), (4, .int 0), (0, .ref 248), (1, .int a1), (2, .int a2), (3, .int a3)]) h (by decide) rfl dX12_millionths_6 ?_
  exact g_sub [2, 3, 4, 5, 1, 0] rfl (t_X12_millionths_8 h hr hw)
theorem c_X12_millionths (X : sX) {a1 : Int32} {a2 : Int32} {a3 : Int32} {I : sI} {J : sJ} {post : Int32 → sI → sJ → Prop} (hw : w_X12_millionths a1 a2 a3 I J post) : sCall X yX12_millionths cX12_millionths 8 (some .int) 1 24 [.ref 248, .int a1, .int a2, .int a3] I J (sPi post) := sCall_of (by decide +kernel) (Nat.le_of_ble_eq_true rfl) (fun X h hr => t_X12_millionths h hr hw)
theorem dX12_repeat_0 : decode cX12_repeat 0 = .ok (.aload_n 0, 1) := by decide +kernel
theorem dX12_repeat_1 : decode cX12_repeat 1 = .ok (.iconst 0, 1) := by decide +kernel
theorem dX12_repeat_2 : decode cX12_repeat 2 = .ok (.putfield 1, 3) := by decide +kernel
theorem dX12_repeat_5 : decode cX12_repeat 5 = .ok (.aload_n 0, 1) := by decide +kernel
theorem dX12_repeat_6 : decode cX12_repeat 6 = .ok (.getfield 76, 3) := by decide +kernel
theorem dX12_repeat_9 : decode cX12_repeat 9 = .ok (.ifCond .ne 5, 3) := by decide +kernel
theorem dX12_repeat_12 : decode cX12_repeat 12 = .ok (.iconst (-1), 1) := by decide +kernel
theorem dX12_repeat_13 : decode cX12_repeat 13 = .ok (.ireturn, 1) := by decide +kernel
theorem dX12_repeat_14 : decode cX12_repeat 14 = .ok (.aload_n 0, 1) := by decide +kernel
theorem dX12_repeat_15 : decode cX12_repeat 15 = .ok (.invokevirtual 298, 3) := by decide +kernel
theorem dX12_repeat_18 : decode cX12_repeat 18 = .ok (.iconst 0, 1) := by decide +kernel
theorem dX12_repeat_19 : decode cX12_repeat 19 = .ok (.istore_n 1, 1) := by decide +kernel
theorem dX12_repeat_20 : decode cX12_repeat 20 = .ok (.iconst 0, 1) := by decide +kernel
theorem dX12_repeat_21 : decode cX12_repeat 21 = .ok (.istore_n 2, 1) := by decide +kernel
theorem dX12_repeat_22 : decode cX12_repeat 22 = .ok (.iload_n 2, 1) := by decide +kernel
theorem dX12_repeat_23 : decode cX12_repeat 23 = .ok (.bipush 12, 2) := by decide +kernel
theorem dX12_repeat_25 : decode cX12_repeat 25 = .ok (.if_icmp .ge 25, 3) := by decide +kernel
theorem dX12_repeat_28 : decode cX12_repeat 28 = .ok (.iload_n 1, 1) := by decide +kernel
theorem dX12_repeat_29 : decode cX12_repeat 29 = .ok (.aload_n 0, 1) := by decide +kernel
theorem dX12_repeat_30 : decode cX12_repeat 30 = .ok (.getfield 295, 3) := by decide +kernel
theorem dX12_repeat_33 : decode cX12_repeat 33 = .ok (.iload_n 2, 1) := by decide +kernel
theorem dX12_repeat_34 : decode cX12_repeat 34 = .ok (.iaload, 1) := by decide +kernel
theorem dX12_repeat_35 : decode cX12_repeat 35 = .ok (.aload_n 0, 1) := by decide +kernel
theorem dX12_repeat_36 : decode cX12_repeat 36 = .ok (.getfield 295, 3) := by decide +kernel
theorem dX12_repeat_39 : decode cX12_repeat 39 = .ok (.iload_n 2, 1) := by decide +kernel
theorem dX12_repeat_40 : decode cX12_repeat 40 = .ok (.iaload, 1) := by decide +kernel
theorem dX12_repeat_41 : decode cX12_repeat 41 = .ok (.imul, 1) := by decide +kernel
theorem dX12_repeat_42 : decode cX12_repeat 42 = .ok (.iadd, 1) := by decide +kernel
theorem dX12_repeat_43 : decode cX12_repeat 43 = .ok (.istore_n 1, 1) := by decide +kernel
theorem dX12_repeat_44 : decode cX12_repeat 44 = .ok (.iinc 2 1, 3) := by decide +kernel
theorem dX12_repeat_47 : decode cX12_repeat 47 = .ok (.goto (-25), 3) := by decide +kernel
theorem dX12_repeat_50 : decode cX12_repeat 50 = .ok (.iconst 0, 1) := by decide +kernel
theorem dX12_repeat_51 : decode cX12_repeat 51 = .ok (.istore_n 2, 1) := by decide +kernel
theorem dX12_repeat_52 : decode cX12_repeat 52 = .ok (.lconst 0, 1) := by decide +kernel
theorem dX12_repeat_53 : decode cX12_repeat 53 = .ok (.lstore_n 3, 1) := by decide +kernel
theorem dX12_repeat_54 : decode cX12_repeat 54 = .ok (.iconst 0, 1) := by decide +kernel
theorem dX12_repeat_55 : decode cX12_repeat 55 = .ok (.istore 5, 2) := by decide +kernel
theorem dX12_repeat_57 : decode cX12_repeat 57 = .ok (.iload 5, 2) := by decide +kernel
theorem dX12_repeat_59 : decode cX12_repeat 59 = .ok (.aload_n 0, 1) := by decide +kernel
theorem dX12_repeat_60 : decode cX12_repeat 60 = .ok (.getfield 76, 3) := by decide +kernel
theorem dX12_repeat_63 : decode cX12_repeat 63 = .ok (.if_icmp .ge 122, 3) := by decide +kernel
theorem dX12_repeat_66 : decode cX12_repeat 66 = .ok (.iload 5, 2) := by decide +kernel
theorem dX12_repeat_68 : decode cX12_repeat 68 = .ok (.iconst 1, 1) := by decide +kernel
theorem dX12_repeat_69 : decode cX12_repeat 69 = .ok (.iadd, 1) := by decide +kernel
theorem dX12_repeat_70 : decode cX12_repeat 70 = .ok (.istore 6, 2) := by decide +kernel
theorem dX12_repeat_72 : decode cX12_repeat 72 = .ok (.iload 6, 2) := by decide +kernel
theorem dX12_repeat_74 : decode cX12_repeat 74 = .ok (.aload_n 0, 1) := by decide +kernel
theorem dX12_repeat_75 : decode cX12_repeat 75 = .ok (.getfield 76, 3) := by decide +kernel
theorem dX12_repeat_78 : decode cX12_repeat 78 = .ok (.if_icmp .ge 101, 3) := by decide +kernel
theorem dX12_repeat_81 : decode cX12_repeat 81 = .ok (.aload_n 0, 1) := by decide +kernel
theorem dX12_repeat_82 : decode cX12_repeat 82 = .ok (.getfield 82, 3) := by decide +kernel
theorem dX12_repeat_85 : decode cX12_repeat 85 = .ok (.iload 5, 2) := by decide +kernel
theorem dX12_repeat_87 : decode cX12_repeat 87 = .ok (.iaload, 1) := by decide +kernel
theorem dX12_repeat_88 : decode cX12_repeat 88 = .ok (.aload_n 0, 1) := by decide +kernel
theorem dX12_repeat_89 : decode cX12_repeat 89 = .ok (.getfield 82, 3) := by decide +kernel
theorem dX12_repeat_92 : decode cX12_repeat 92 = .ok (.iload 6, 2) := by decide +kernel
theorem dX12_repeat_94 : decode cX12_repeat 94 = .ok (.iaload, 1) := by decide +kernel
theorem dX12_repeat_95 : decode cX12_repeat 95 = .ok (.if_icmp .ne 78, 3) := by decide +kernel
theorem dX12_repeat_98 : decode cX12_repeat 98 = .ok (.aload_n 0, 1) := by decide +kernel
theorem dX12_repeat_99 : decode cX12_repeat 99 = .ok (.iload 5, 2) := by decide +kernel
theorem dX12_repeat_101 : decode cX12_repeat 101 = .ok (.invokevirtual 336, 3) := by decide +kernel
theorem dX12_repeat_104 : decode cX12_repeat 104 = .ok (.ifCond .eq 69, 3) := by decide +kernel
theorem dX12_repeat_107 : decode cX12_repeat 107 = .ok (.aload_n 0, 1) := by decide +kernel
theorem dX12_repeat_108 : decode cX12_repeat 108 = .ok (.iload 6, 2) := by decide +kernel
theorem dX12_repeat_110 : decode cX12_repeat 110 = .ok (.invokevirtual 336, 3) := by decide +kernel
theorem dX12_repeat_113 : decode cX12_repeat 113 = .ok (.ifCond .ne 6, 3) := by decide +kernel
theorem dX12_repeat_116 : decode cX12_repeat 116 = .ok (.goto 57, 3) := by decide +kernel
theorem dX12_repeat_119 : decode cX12_repeat 119 = .ok (.iload_n 2, 1) := by decide +kernel
theorem dX12_repeat_120 : decode cX12_repeat 120 = .ok (.aload_n 0, 1) := by decide +kernel
theorem dX12_repeat_121 : decode cX12_repeat 121 = .ok (.aload_n 0, 1) := by decide +kernel
theorem dX12_repeat_122 : decode cX12_repeat 122 = .ok (.iload 5, 2) := by decide +kernel
theorem dX12_repeat_124 : decode cX12_repeat 124 = .ok (.invokevirtual 332, 3) := by decide +kernel
theorem dX12_repeat_127 : decode cX12_repeat 127 = .ok (.aload_n 0, 1) := by decide +kernel
theorem dX12_repeat_128 : decode cX12_repeat 128 = .ok (.iload 6, 2) := by decide +kernel
theorem dX12_repeat_130 : decode cX12_repeat 130 = .ok (.invokevirtual 332, 3) := by decide +kernel
theorem dX12_repeat_133 : decode cX12_repeat 133 = .ok (.aload_n 0, 1) := by decide +kernel
theorem dX12_repeat_134 : decode cX12_repeat 134 = .ok (.getfield 82, 3) := by decide +kernel
theorem dX12_repeat_137 : decode cX12_repeat 137 = .ok (.iload 5, 2) := by decide +kernel
theorem dX12_repeat_139 : decode cX12_repeat 139 = .ok (.iaload, 1) := by decide +kernel
theorem dX12_repeat_140 : decode cX12_repeat 140 = .ok (.invokevirtual 339, 3) := by decide +kernel
theorem dX12_repeat_143 : decode cX12_repeat 143 = .ok (.invokestatic 65, 3) := by decide +kernel
theorem dX12_repeat_146 : decode cX12_repeat 146 = .ok (.iadd, 1) := by decide +kernel
theorem dX12_repeat_147 : decode cX12_repeat 147 = .ok (.istore_n 2, 1) := by decide +kernel
theorem dX12_repeat_148 : decode cX12_repeat 148 = .ok (.lload_n 3, 1) := by decide +kernel
theorem dX12_repeat_149 : decode cX12_repeat 149 = .ok (.aload_n 0, 1) := by decide +kernel
theorem dX12_repeat_150 : decode cX12_repeat 150 = .ok (.iload_n 1, 1) := by decide +kernel
theorem dX12_repeat_151 : decode cX12_repeat 151 = .ok (.aload_n 0, 1) := by decide +kernel
theorem dX12_repeat_152 : decode cX12_repeat 152 = .ok (.getfield 289, 3) := by decide +kernel
theorem dX12_repeat_155 : decode cX12_repeat 155 = .ok (.aload_n 0, 1) := by decide +kernel
theorem dX12_repeat_156 : decode cX12_repeat 156 = .ok (.getfield 289, 3) := by decide +kernel
theorem dX12_repeat_159 : decode cX12_repeat 159 = .ok (.imul, 1) := by decide +kernel
theorem dX12_repeat_160 : decode cX12_repeat 160 = .ok (.aload_n 0, 1) := by decide +kernel
theorem dX12_repeat_161 : decode cX12_repeat 161 = .ok (.getfield 82, 3) := by decide +kernel
theorem dX12_repeat_164 : decode cX12_repeat 164 = .ok (.iload 5, 2) := by decide +kernel
theorem dX12_repeat_166 : decode cX12_repeat 166 = .ok (.iaload, 1) := by decide +kernel
theorem dX12_repeat_167 : decode cX12_repeat 167 = .ok (.invokevirtual 343, 3) := by decide +kernel
theorem dX12_repeat_170 : decode cX12_repeat 170 = .ok (.i2l, 1) := by decide +kernel
theorem dX12_repeat_171 : decode cX12_repeat 171 = .ok (.ladd, 1) := by decide +kernel
theorem dX12_repeat_172 : decode cX12_repeat 172 = .ok (.lstore_n 3, 1) := by decide +kernel
theorem dX12_repeat_173 : decode cX12_repeat 173 = .ok (.iinc 6 1, 3) := by decide +kernel
theorem dX12_repeat_176 : decode cX12_repeat 176 = .ok (.goto (-104), 3) := by decide +kernel
theorem dX12_repeat_179 : decode cX12_repeat 179 = .ok (.iinc 5 1, 3) := by decide +kernel
theorem dX12_repeat_182 : decode cX12_repeat 182 = .ok (.goto (-125), 3) := by decide +kernel
theorem dX12_repeat_185 : decode cX12_repeat 185 = .ok (.aload_n 0, 1) := by decide +kernel
theorem dX12_repeat_186 : decode cX12_repeat 186 = .ok (.iconst 0, 1) := by decide +kernel
theorem dX12_repeat_187 : decode cX12_repeat 187 = .ok (.putfield 11, 3) := by decide +kernel
theorem dX12_repeat_190 : decode cX12_repeat 190 = .ok (.aload_n 0, 1) := by decide +kernel
theorem dX12_repeat_191 : decode cX12_repeat 191 = .ok (.lload_n 3, 1) := by decide +kernel
theorem dX12_repeat_192 : decode cX12_repeat 192 = .ok (.invokevirtual 18, 3) := by decide +kernel
theorem dX12_repeat_195 : decode cX12_repeat 195 = .ok (.iload_n 2, 1) := by decide +kernel
theorem dX12_repeat_196 : decode cX12_repeat 196 = .ok (.ireturn, 1) := by decide +kernel
def w_X12_repeat_173 (post : Int32 → sI → sJ → Prop) (k57 : Int32 → Int32 → Int64 → Int32 → sI → sJ → Prop) (k72 : Int32 → Int32 → Int64 → Int32 → Int32 → sI → sJ → Prop) (x1 : Int32) (x2 : Int32) (x3 : Int64) (x5 : Int32) (x6 : Int32) (I : sI) (J : sJ) : Prop :=
  (∀ v6_173 : Int32, v6_173 = x6 + 1 → k72 x1 x2 x3 x5 v6_173 I J)
set_option maxHeartbeats 4000000 in
set_option maxRecDepth 100000 in
theorem t_X12_repeat_173 {X : sX} {post : Int32 → sI → sJ → Prop} (h : sOK X cX12_repeat RX12 7 2 51) (hr : sRt X (some .int) (sPi post)) {k57 : Int32 → Int32 → Int64 → Int32 → sI → sJ → Prop} (hk57 : ∀ (x1 : Int32) (x2 : Int32) (x3 : Int64) (x5 : Int32) (I : sI) (J : sJ), k57 x1 x2 x3 x5 I J → sG X 7 57 [(0, .ref 248), (1, .int x1), (2, .int x2), (3, .long x3), (5, .int x5)] [] I J) {k72 : Int32 → Int32 → Int64 → Int32 → Int32 → sI → sJ → Prop} (hk72 : ∀ (x1 : Int32) (x2 : Int32) (x3 : Int64) (x5 : Int32) (x6 : Int32) (I : sI) (J : sJ), k72 x1 x2 x3 x5 x6 I J → sG X 7 72 [(0, .ref 248), (1, .int x1), (2, .int x2), (3, .long x3), (5, .int x5), (6, .int x6)] [] I J) {x1 : Int32} {x2 : Int32} {x3 : Int64} {x5 : Int32} {x6 : Int32} {I : sI} {J : sJ} (hw : w_X12_repeat_173 post k57 k72 x1 x2 x3 x5 x6 I J) : sG X 7 173 [(0, .ref 248), (1, .int x1), (2, .int x2), (3, .long x3), (5, .int x5), (6, .int x6)] [] I J := by
  unfold w_X12_repeat_173 at hw
  obtain ⟨v6_173, ev6_173⟩ : ∃ z : Int32, z = x6 + 1 := ⟨_, rfl⟩
  replace hw := hw v6_173 ev6_173
  refine g_iinc (v := v6_173) (lo2 := [(6, .int v6_173), (0, .ref 248), (1, .int x1), (2, .int x2), (3, .long x3), (5, .int x5)]) h 5 rfl (by rw [ev6_173]; rfl) (by decide) rfl dX12_repeat_173 ?_
  refine g_goto (tgt := 72) h (by decide) dX12_repeat_176 ?_
  exact g_sub [1, 2, 3, 4, 5, 0] rfl (hk72 _ _ _ _ _ _ _ hw)
def w_X12_repeat_72_s (post : Int32 → sI → sJ → Prop) (k57 : Int32 → Int32 → Int64 → Int32 → sI → sJ → Prop) (k72 : Int32 → Int32 → Int64 → Int32 → Int32 → sI → sJ → Prop) (x1 : Int32) (x2 : Int32) (x3 : Int64) (x5 : Int32) (x6 : Int32) (I : sI) (J : sJ) : Prop :=
  (((I 248 11) ≤ x6 → (∀ v5_179 : Int32, v5_179 = x5 + 1 → k57 x1 x2 x3 v5_179 I J)) ∧ (¬ (I 248 11) ≤ x6 → (vp_in x5 24 ∧ (vp_in x6 24 ∧ ((¬ (I 253 (Int32.toNatClampNeg x5)) = (I 253 (Int32.toNatClampNeg x6)) → w_X12_repeat_173 post k57 k72 x1 x2 x3 x5 x6 I J) ∧ ((I 253 (Int32.toNatClampNeg x5)) = (I 253 (Int32.toNatClampNeg x6)) → w_X12_isWhole x5 I J (fun (r_101 : Int32) (I_101 : sI) (J_101 : sJ) => (((r_101 = 0 → w_X12_repeat_173 post k57 k72 x1 x2 x3 x5 x6 I_101 J_101) ∧ (¬ r_101 = 0 → w_X12_isWhole x6 I_101 J_101 (fun (r_110 : Int32) (I_110 : sI) (J_110 : sJ) => (((¬ r_110 = 0 → w_X12_groupBegin x5 I_110 J_110 (fun (r_124 : Int32) (I_124 : sI) (J_124 : sJ) => (w_X12_groupBegin x6 I_124 J_124 (fun (r_130 : Int32) (I_130 : sI) (J_130 : sJ) => ((vp_in x5 24 ∧ w_X12_areAlike r_124 r_130 (I_130 253 (Int32.toNatClampNeg x5)) I_130 J_130 (fun (r_140 : Int32) (I_140 : sI) (J_140 : sJ) => (w_X12_flag r_140 I_140 J_140 (fun (r_143 : Int32) (I_143 : sI) (J_143 : sJ) => ((∀ v2_147 : Int32, v2_147 = x2 + r_143 → (vp_in x5 24 ∧ w_X12_millionths x1 ((I_143 248 42) * (I_143 248 42)) (I_143 253 (Int32.toNatClampNeg x5)) I_143 J_143 (fun (r_167 : Int32) (I_167 : sI) (J_167 : sJ) => ((∀ v3_172 : Int64, v3_172 = x3 + (Int32.toInt64 r_167) → w_X12_repeat_173 post k57 k72 x1 v2_147 v3_172 x5 x6 I_167 J_167))))))))))))))) ∧ (r_110 = 0 → w_X12_repeat_173 post k57 k72 x1 x2 x3 x5 x6 I_110 J_110))))))))))))))
def w_X12_repeat_72_n (post : Int32 → sI → sJ → Prop) (k57 : Int32 → Int32 → Int64 → Int32 → sI → sJ → Prop) : Nat → Int32 → Int32 → Int64 → Int32 → Int32 → sI → sJ → Prop
  | 0 => fun _ _ _ _ _ _ _ => False
  | n + 1 => fun x1 x2 x3 x5 x6 I J => w_X12_repeat_72_s post k57 (w_X12_repeat_72_n post k57 n) x1 x2 x3 x5 x6 I J
def w_X12_repeat_72 (post : Int32 → sI → sJ → Prop) (k57 : Int32 → Int32 → Int64 → Int32 → sI → sJ → Prop) (x1 : Int32) (x2 : Int32) (x3 : Int64) (x5 : Int32) (x6 : Int32) (I : sI) (J : sJ) : Prop := ∃ n, w_X12_repeat_72_n post k57 n x1 x2 x3 x5 x6 I J
set_option maxHeartbeats 4000000 in
set_option maxRecDepth 100000 in
theorem t_X12_repeat_72_s {X : sX} {post : Int32 → sI → sJ → Prop} (h : sOK X cX12_repeat RX12 7 2 51) (hr : sRt X (some .int) (sPi post)) {k57 : Int32 → Int32 → Int64 → Int32 → sI → sJ → Prop} (hk57 : ∀ (x1 : Int32) (x2 : Int32) (x3 : Int64) (x5 : Int32) (I : sI) (J : sJ), k57 x1 x2 x3 x5 I J → sG X 7 57 [(0, .ref 248), (1, .int x1), (2, .int x2), (3, .long x3), (5, .int x5)] [] I J) {k72 : Int32 → Int32 → Int64 → Int32 → Int32 → sI → sJ → Prop} (hk72 : ∀ (x1 : Int32) (x2 : Int32) (x3 : Int64) (x5 : Int32) (x6 : Int32) (I : sI) (J : sJ), k72 x1 x2 x3 x5 x6 I J → sG X 7 72 [(0, .ref 248), (1, .int x1), (2, .int x2), (3, .long x3), (5, .int x5), (6, .int x6)] [] I J) {x1 : Int32} {x2 : Int32} {x3 : Int64} {x5 : Int32} {x6 : Int32} {I : sI} {J : sJ} (hw : w_X12_repeat_72_s post k57 k72 x1 x2 x3 x5 x6 I J) : sG X 7 72 [(0, .ref 248), (1, .int x1), (2, .int x2), (3, .long x3), (5, .int x5), (6, .int x6)] [] I J := by
  unfold w_X12_repeat_72_s at hw
  refine g_iload h 5 rfl dX12_repeat_72 ?_
  refine g_aload_n h rfl 0 rfl dX12_repeat_74 ?_
  refine g_get h is_248 fl_X12_76 rfl dX12_repeat_75 ?_
  refine g_icmp_ge (tgt := 179) h (by decide) dX12_repeat_78 (fun q78 => ?_) (fun q78 => ?_)
  · replace hw := hw.1 q78
    obtain ⟨v5_179, ev5_179⟩ : ∃ z : Int32, z = x5 + 1 := ⟨_, rfl⟩
    replace hw := hw v5_179 ev5_179
    refine g_iinc (v := v5_179) (lo2 := [(5, .int v5_179), (0, .ref 248), (1, .int x1), (2, .int x2), (3, .long x3), (6, .int x6)]) h 4 rfl (by rw [ev5_179]; rfl) (by decide) rfl dX12_repeat_179 ?_
    refine g_goto (tgt := 57) h (by decide) dX12_repeat_182 ?_
    exact g_sub [1, 2, 3, 4, 0] rfl (hk57 _ _ _ _ _ _ hw)
  · replace hw := hw.2 q78
    refine g_aload_n h rfl 0 rfl dX12_repeat_81 ?_
    refine g_get h is_248 fl_X12_82 fr_248_13 dX12_repeat_82 ?_
    refine g_iload h 4 rfl dX12_repeat_85 ?_
    obtain ⟨hi87, hw⟩ := hw
    refine g_iald h ar_253 hi87 dX12_repeat_87 ?_
    refine g_aload_n h rfl 0 rfl dX12_repeat_88 ?_
    refine g_get h is_248 fl_X12_82 fr_248_13 dX12_repeat_89 ?_
    refine g_iload h 5 rfl dX12_repeat_92 ?_
    obtain ⟨hi94, hw⟩ := hw
    refine g_iald h ar_253 hi94 dX12_repeat_94 ?_
    refine g_icmp_ne (tgt := 173) h (by decide) dX12_repeat_95 (fun q95 => ?_) (fun q95 => ?_)
    · replace hw := hw.1 q95
      exact g_sub [0, 1, 2, 3, 4, 5] rfl (t_X12_repeat_173 h hr hk57 hk72 hw)
    · replace hw := hw.2 q95
      refine g_aload_n h rfl 0 rfl dX12_repeat_98 ?_
      refine g_iload h 4 rfl dX12_repeat_99 ?_
      refine g_callV [.int x5] h (c_X12_isWhole X hw) sPi_v mw_X12_isWhole lk_X12_336 is_248 rfl rfl ⟨by decide, by decide⟩ (Nat.le_of_ble_eq_true rfl) dX12_repeat_101 (sPi_k (fun r_101 I_101 J_101 hw => ?_))
      refine g_if_eq (tgt := 173) h (by decide) dX12_repeat_104 (fun q104 => ?_) (fun q104 => ?_)
      · replace hw := hw.1 q104
        exact g_sub [0, 1, 2, 3, 4, 5] rfl (t_X12_repeat_173 h hr hk57 hk72 hw)
      · replace hw := hw.2 q104
        refine g_aload_n h rfl 0 rfl dX12_repeat_107 ?_
        refine g_iload h 5 rfl dX12_repeat_108 ?_
        refine g_callV [.int x6] h (c_X12_isWhole X hw) sPi_v mw_X12_isWhole lk_X12_336 is_248 rfl rfl ⟨by decide, by decide⟩ (Nat.le_of_ble_eq_true rfl) dX12_repeat_110 (sPi_k (fun r_110 I_110 J_110 hw => ?_))
        refine g_if_ne (tgt := 119) h (by decide) dX12_repeat_113 (fun q113 => ?_) (fun q113 => ?_)
        · replace hw := hw.1 q113
          refine g_iload_n h rfl 2 rfl dX12_repeat_119 ?_
          refine g_aload_n h rfl 0 rfl dX12_repeat_120 ?_
          refine g_aload_n h rfl 0 rfl dX12_repeat_121 ?_
          refine g_iload h 4 rfl dX12_repeat_122 ?_
          refine g_callV [.int x5] h (c_X12_groupBegin X hw) sPi_v mw_X12_groupBegin lk_X12_332 is_248 rfl rfl ⟨by decide, by decide⟩ (Nat.le_of_ble_eq_true rfl) dX12_repeat_124 (sPi_k (fun r_124 I_124 J_124 hw => ?_))
          refine g_aload_n h rfl 0 rfl dX12_repeat_127 ?_
          refine g_iload h 5 rfl dX12_repeat_128 ?_
          refine g_callV [.int x6] h (c_X12_groupBegin X hw) sPi_v mw_X12_groupBegin lk_X12_332 is_248 rfl rfl ⟨by decide, by decide⟩ (Nat.le_of_ble_eq_true rfl) dX12_repeat_130 (sPi_k (fun r_130 I_130 J_130 hw => ?_))
          refine g_aload_n h rfl 0 rfl dX12_repeat_133 ?_
          refine g_get h is_248 fl_X12_82 fr_248_13 dX12_repeat_134 ?_
          refine g_iload h 4 rfl dX12_repeat_137 ?_
          obtain ⟨hi139, hw⟩ := hw
          refine g_iald h ar_253 hi139 dX12_repeat_139 ?_
          refine g_callV [.int r_124, .int r_130, .int (I_130 253 (Int32.toNatClampNeg x5))] h (c_X12_areAlike X hw) sPi_v mw_X12_areAlike lk_X12_339 is_248 rfl rfl ⟨by decide, by decide⟩ (Nat.le_of_ble_eq_true rfl) dX12_repeat_140 (sPi_k (fun r_140 I_140 J_140 hw => ?_))
          refine g_callS [.int r_140] h (c_X12_flag X hw) sPi_v mw_X12_flag lk_X12_65 rfl ⟨by decide, by decide⟩ (Nat.le_of_ble_eq_true rfl) dX12_repeat_143 (sPi_k (fun r_143 I_143 J_143 hw => ?_))
          refine g_iadd h dX12_repeat_146 ?_
          refine g_ni (fun v2_147 ev2_147 => ?_)
          replace hw := hw v2_147 ev2_147
          refine g_istore_n (lo2 := [(2, .int v2_147), (0, .ref 248), (1, .int x1), (3, .long x3), (5, .int x5), (6, .int x6)]) h rfl (by decide) rfl dX12_repeat_147 ?_
          refine g_lload_n h rfl 3 rfl dX12_repeat_148 ?_
          refine g_aload_n h rfl 1 rfl dX12_repeat_149 ?_
          refine g_iload_n h rfl 2 rfl dX12_repeat_150 ?_
          refine g_aload_n h rfl 1 rfl dX12_repeat_151 ?_
          refine g_get h is_248 fl_X12_289 rfl dX12_repeat_152 ?_
          refine g_aload_n h rfl 1 rfl dX12_repeat_155 ?_
          refine g_get h is_248 fl_X12_289 rfl dX12_repeat_156 ?_
          refine g_imul h dX12_repeat_159 ?_
          refine g_aload_n h rfl 1 rfl dX12_repeat_160 ?_
          refine g_get h is_248 fl_X12_82 fr_248_13 dX12_repeat_161 ?_
          refine g_iload h 4 rfl dX12_repeat_164 ?_
          obtain ⟨hi166, hw⟩ := hw
          refine g_iald h ar_253 hi166 dX12_repeat_166 ?_
          refine g_callV [.int x1, .int ((I_143 248 42) * (I_143 248 42)), .int (I_143 253 (Int32.toNatClampNeg x5))] h (c_X12_millionths X hw) sPi_v mw_X12_millionths lk_X12_343 is_248 rfl rfl ⟨by decide, by decide⟩ (Nat.le_of_ble_eq_true rfl) dX12_repeat_167 (sPi_k (fun r_167 I_167 J_167 hw => ?_))
          refine g_i2l h dX12_repeat_170 ?_
          refine g_ladd h dX12_repeat_171 ?_
          refine g_nl (fun v3_172 ev3_172 => ?_)
          replace hw := hw v3_172 ev3_172
          refine g_lstore_n (lo2 := [(3, .long v3_172), (2, .int v2_147), (0, .ref 248), (1, .int x1), (5, .int x5), (6, .int x6)]) h rfl (by decide) rfl dX12_repeat_172 ?_
          exact g_sub [2, 3, 1, 0, 4, 5] rfl (t_X12_repeat_173 h hr hk57 hk72 hw)
        · replace hw := hw.2 q113
          refine g_goto (tgt := 173) h (by decide) dX12_repeat_116 ?_
          exact g_sub [0, 1, 2, 3, 4, 5] rfl (t_X12_repeat_173 h hr hk57 hk72 hw)
theorem t_X12_repeat_72 {X : sX} {post : Int32 → sI → sJ → Prop} (h : sOK X cX12_repeat RX12 7 2 51) (hr : sRt X (some .int) (sPi post)) {k57 : Int32 → Int32 → Int64 → Int32 → sI → sJ → Prop} (hk57 : ∀ (x1 : Int32) (x2 : Int32) (x3 : Int64) (x5 : Int32) (I : sI) (J : sJ), k57 x1 x2 x3 x5 I J → sG X 7 57 [(0, .ref 248), (1, .int x1), (2, .int x2), (3, .long x3), (5, .int x5)] [] I J) {x1 : Int32} {x2 : Int32} {x3 : Int64} {x5 : Int32} {x6 : Int32} {I : sI} {J : sJ} (hw : w_X12_repeat_72 post k57 x1 x2 x3 x5 x6 I J) : sG X 7 72 [(0, .ref 248), (1, .int x1), (2, .int x2), (3, .long x3), (5, .int x5), (6, .int x6)] [] I J := by
  obtain ⟨n, hw⟩ := hw
  induction n generalizing x1 x2 x3 x5 x6 I J with
  | zero => exact hw.elim
  | succ n ih => exact t_X12_repeat_72_s h hr hk57 (fun _ _ _ _ _ _ _ q => ih q) hw
def w_X12_repeat_57_s (post : Int32 → sI → sJ → Prop) (k57 : Int32 → Int32 → Int64 → Int32 → sI → sJ → Prop) (x1 : Int32) (x2 : Int32) (x3 : Int64) (x5 : Int32) (I : sI) (J : sJ) : Prop :=
  (((I 248 11) ≤ x5 → (∀ I_187 : sI, I_187 = sUI I 248 1 0 → w_X12_enters x3 I_187 J (fun (I_192 : sI) (J_192 : sJ) => (post x2 I_192 J_192)))) ∧ (¬ (I 248 11) ≤ x5 → (∀ v6_70 : Int32, v6_70 = x5 + 1 → w_X12_repeat_72 post k57 x1 x2 x3 x5 v6_70 I J)))
def w_X12_repeat_57_n (post : Int32 → sI → sJ → Prop) : Nat → Int32 → Int32 → Int64 → Int32 → sI → sJ → Prop
  | 0 => fun _ _ _ _ _ _ => False
  | n + 1 => fun x1 x2 x3 x5 I J => w_X12_repeat_57_s post (w_X12_repeat_57_n post n) x1 x2 x3 x5 I J
def w_X12_repeat_57 (post : Int32 → sI → sJ → Prop) (x1 : Int32) (x2 : Int32) (x3 : Int64) (x5 : Int32) (I : sI) (J : sJ) : Prop := ∃ n, w_X12_repeat_57_n post n x1 x2 x3 x5 I J
set_option maxHeartbeats 4000000 in
set_option maxRecDepth 100000 in
theorem t_X12_repeat_57_s {X : sX} {post : Int32 → sI → sJ → Prop} (h : sOK X cX12_repeat RX12 7 2 51) (hr : sRt X (some .int) (sPi post)) {k57 : Int32 → Int32 → Int64 → Int32 → sI → sJ → Prop} (hk57 : ∀ (x1 : Int32) (x2 : Int32) (x3 : Int64) (x5 : Int32) (I : sI) (J : sJ), k57 x1 x2 x3 x5 I J → sG X 7 57 [(0, .ref 248), (1, .int x1), (2, .int x2), (3, .long x3), (5, .int x5)] [] I J) {x1 : Int32} {x2 : Int32} {x3 : Int64} {x5 : Int32} {I : sI} {J : sJ} (hw : w_X12_repeat_57_s post k57 x1 x2 x3 x5 I J) : sG X 7 57 [(0, .ref 248), (1, .int x1), (2, .int x2), (3, .long x3), (5, .int x5)] [] I J := by
  unfold w_X12_repeat_57_s at hw
  refine g_iload h 4 rfl dX12_repeat_57 ?_
  refine g_aload_n h rfl 0 rfl dX12_repeat_59 ?_
  refine g_get h is_248 fl_X12_76 rfl dX12_repeat_60 ?_
  refine g_icmp_ge (tgt := 185) h (by decide) dX12_repeat_63 (fun q63 => ?_) (fun q63 => ?_)
  · replace hw := hw.1 q63
    refine g_aload_n h rfl 0 rfl dX12_repeat_185 ?_
    refine g_iconst (v := 0) h (by decide) dX12_repeat_186 ?_
    refine g_putI h is_248 fl_X12_11 rfl rfl dX12_repeat_187 ?_
    refine g_nI (fun I_187 eI_187 => ?_)
    replace hw := hw I_187 eI_187
    refine g_aload_n h rfl 0 rfl dX12_repeat_190 ?_
    refine g_lload_n h rfl 3 rfl dX12_repeat_191 ?_
    refine g_callV [.long x3] h (c_X12_enters X hw) sPv_v mw_X12_enters lk_X12_18 is_248 rfl rfl ⟨by decide, by decide⟩ (Nat.le_of_ble_eq_true rfl) dX12_repeat_192 (sPv_k (fun I_192 J_192 hw => ?_))
    refine g_iload_n h rfl 2 rfl dX12_repeat_195 ?_
    exact g_iret h hr dX12_repeat_196 hw
  · replace hw := hw.2 q63
    refine g_iload h 4 rfl dX12_repeat_66 ?_
    refine g_iconst (v := 1) h (by decide) dX12_repeat_68 ?_
    refine g_iadd h dX12_repeat_69 ?_
    refine g_ni (fun v6_70 ev6_70 => ?_)
    replace hw := hw v6_70 ev6_70
    refine g_istore (lo2 := [(6, .int v6_70), (0, .ref 248), (1, .int x1), (2, .int x2), (3, .long x3), (5, .int x5)]) h (by decide) rfl dX12_repeat_70 ?_
    exact g_sub [1, 2, 3, 4, 5, 0] rfl (t_X12_repeat_72 h hr hk57 hw)
theorem t_X12_repeat_57 {X : sX} {post : Int32 → sI → sJ → Prop} (h : sOK X cX12_repeat RX12 7 2 51) (hr : sRt X (some .int) (sPi post)) {x1 : Int32} {x2 : Int32} {x3 : Int64} {x5 : Int32} {I : sI} {J : sJ} (hw : w_X12_repeat_57 post x1 x2 x3 x5 I J) : sG X 7 57 [(0, .ref 248), (1, .int x1), (2, .int x2), (3, .long x3), (5, .int x5)] [] I J := by
  obtain ⟨n, hw⟩ := hw
  induction n generalizing x1 x2 x3 x5 I J with
  | zero => exact hw.elim
  | succ n ih => exact t_X12_repeat_57_s h hr (fun _ _ _ _ _ _ q => ih q) hw
def w_X12_repeat_22_s (post : Int32 → sI → sJ → Prop) (k22 : Int32 → Int32 → sI → sJ → Prop) (x1 : Int32) (x2 : Int32) (I : sI) (J : sJ) : Prop :=
  ((12 ≤ x2 → w_X12_repeat_57 post x1 0 0 0 I J) ∧ (¬ 12 ≤ x2 → (vp_in x2 13 ∧ (vp_in x2 13 ∧ (∀ v1_43 : Int32, v1_43 = x1 + ((I 272 (Int32.toNatClampNeg x2)) * (I 272 (Int32.toNatClampNeg x2))) → (∀ v2_44 : Int32, v2_44 = x2 + 1 → k22 v1_43 v2_44 I J))))))
def w_X12_repeat_22_n (post : Int32 → sI → sJ → Prop) : Nat → Int32 → Int32 → sI → sJ → Prop
  | 0 => fun _ _ _ _ => False
  | n + 1 => fun x1 x2 I J => w_X12_repeat_22_s post (w_X12_repeat_22_n post n) x1 x2 I J
def w_X12_repeat_22 (post : Int32 → sI → sJ → Prop) (x1 : Int32) (x2 : Int32) (I : sI) (J : sJ) : Prop := ∃ n, w_X12_repeat_22_n post n x1 x2 I J
set_option maxHeartbeats 4000000 in
set_option maxRecDepth 100000 in
theorem t_X12_repeat_22_s {X : sX} {post : Int32 → sI → sJ → Prop} (h : sOK X cX12_repeat RX12 7 2 51) (hr : sRt X (some .int) (sPi post)) {k22 : Int32 → Int32 → sI → sJ → Prop} (hk22 : ∀ (x1 : Int32) (x2 : Int32) (I : sI) (J : sJ), k22 x1 x2 I J → sG X 7 22 [(0, .ref 248), (1, .int x1), (2, .int x2)] [] I J) {x1 : Int32} {x2 : Int32} {I : sI} {J : sJ} (hw : w_X12_repeat_22_s post k22 x1 x2 I J) : sG X 7 22 [(0, .ref 248), (1, .int x1), (2, .int x2)] [] I J := by
  unfold w_X12_repeat_22_s at hw
  refine g_iload_n h rfl 2 rfl dX12_repeat_22 ?_
  refine g_bipush (v := 12) h (by decide) dX12_repeat_23 ?_
  refine g_icmp_ge (tgt := 50) h (by decide) dX12_repeat_25 (fun q25 => ?_) (fun q25 => ?_)
  · replace hw := hw.1 q25
    refine g_iconst (v := 0) h (by decide) dX12_repeat_50 ?_
    refine g_istore_n (lo2 := [(2, .int 0), (0, .ref 248), (1, .int x1)]) h rfl (by decide) rfl dX12_repeat_51 ?_
    refine g_lconst (v := 0) h (by decide) dX12_repeat_52 ?_
    refine g_lstore_n (lo2 := [(3, .long 0), (2, .int 0), (0, .ref 248), (1, .int x1)]) h rfl (by decide) rfl dX12_repeat_53 ?_
    refine g_iconst (v := 0) h (by decide) dX12_repeat_54 ?_
    refine g_istore (lo2 := [(5, .int 0), (3, .long 0), (2, .int 0), (0, .ref 248), (1, .int x1)]) h (by decide) rfl dX12_repeat_55 ?_
    exact g_sub [3, 4, 2, 1, 0] rfl (t_X12_repeat_57 h hr hw)
  · replace hw := hw.2 q25
    refine g_iload_n h rfl 1 rfl dX12_repeat_28 ?_
    refine g_aload_n h rfl 0 rfl dX12_repeat_29 ?_
    refine g_get h is_248 fl_X12_295 fr_248_41 dX12_repeat_30 ?_
    refine g_iload_n h rfl 2 rfl dX12_repeat_33 ?_
    obtain ⟨hi34, hw⟩ := hw
    refine g_iald h ar_272 hi34 dX12_repeat_34 ?_
    refine g_aload_n h rfl 0 rfl dX12_repeat_35 ?_
    refine g_get h is_248 fl_X12_295 fr_248_41 dX12_repeat_36 ?_
    refine g_iload_n h rfl 2 rfl dX12_repeat_39 ?_
    obtain ⟨hi40, hw⟩ := hw
    refine g_iald h ar_272 hi40 dX12_repeat_40 ?_
    refine g_imul h dX12_repeat_41 ?_
    refine g_iadd h dX12_repeat_42 ?_
    refine g_ni (fun v1_43 ev1_43 => ?_)
    replace hw := hw v1_43 ev1_43
    refine g_istore_n (lo2 := [(1, .int v1_43), (0, .ref 248), (2, .int x2)]) h rfl (by decide) rfl dX12_repeat_43 ?_
    obtain ⟨v2_44, ev2_44⟩ : ∃ z : Int32, z = x2 + 1 := ⟨_, rfl⟩
    replace hw := hw v2_44 ev2_44
    refine g_iinc (v := v2_44) (lo2 := [(2, .int v2_44), (1, .int v1_43), (0, .ref 248)]) h 2 rfl (by rw [ev2_44]; rfl) (by decide) rfl dX12_repeat_44 ?_
    refine g_goto (tgt := 22) h (by decide) dX12_repeat_47 ?_
    exact g_sub [2, 1, 0] rfl (hk22 _ _ _ _ hw)
theorem t_X12_repeat_22 {X : sX} {post : Int32 → sI → sJ → Prop} (h : sOK X cX12_repeat RX12 7 2 51) (hr : sRt X (some .int) (sPi post)) {x1 : Int32} {x2 : Int32} {I : sI} {J : sJ} (hw : w_X12_repeat_22 post x1 x2 I J) : sG X 7 22 [(0, .ref 248), (1, .int x1), (2, .int x2)] [] I J := by
  obtain ⟨n, hw⟩ := hw
  induction n generalizing x1 x2 I J with
  | zero => exact hw.elim
  | succ n ih => exact t_X12_repeat_22_s h hr (fun _ _ _ _ q => ih q) hw
def w_X12_repeat (I : sI) (J : sJ) (post : Int32 → sI → sJ → Prop) : Prop :=
  (∀ I_2 : sI, I_2 = sUI I 248 0 0 → ((¬ (I_2 248 11) = 0 → w_X12_counts I_2 J (fun (I_15 : sI) (J_15 : sJ) => (w_X12_repeat_22 post 0 0 I_15 J_15))) ∧ ((I_2 248 11) = 0 → post (-1) I_2 J)))
set_option maxHeartbeats 4000000 in
set_option maxRecDepth 100000 in
theorem t_X12_repeat {X : sX} {I : sI} {J : sJ} {post : Int32 → sI → sJ → Prop} (h : sOK X cX12_repeat RX12 7 2 51) (hr : sRt X (some .int) (sPi post)) (hw : w_X12_repeat I J post) : sG X 7 0 [(0, .ref 248)] [] I J := by
  unfold w_X12_repeat at hw
  refine g_aload_n h rfl 0 rfl dX12_repeat_0 ?_
  refine g_iconst (v := 0) h (by decide) dX12_repeat_1 ?_
  refine g_putI h is_248 fl_X12_1 rfl rfl dX12_repeat_2 ?_
  refine g_nI (fun I_2 eI_2 => ?_)
  replace hw := hw I_2 eI_2
  refine g_aload_n h rfl 0 rfl dX12_repeat_5 ?_
  refine g_get h is_248 fl_X12_76 rfl dX12_repeat_6 ?_
  refine g_if_ne (tgt := 14) h (by decide) dX12_repeat_9 (fun q9 => ?_) (fun q9 => ?_)
  · replace hw := hw.1 q9
    refine g_aload_n h rfl 0 rfl dX12_repeat_14 ?_
    refine g_callV [] h (c_X12_counts X hw) sPv_v mw_X12_counts lk_X12_298 is_248 rfl rfl ⟨by decide, by decide⟩ (Nat.le_of_ble_eq_true rfl) dX12_repeat_15 (sPv_k (fun I_15 J_15 hw => ?_))
    refine g_iconst (v := 0) h (by decide) dX12_repeat_18 ?_
    refine g_istore_n (lo2 := [(1, .int 0), (0, .ref 248)]) h rfl (by decide) rfl dX12_repeat_19 ?_
    refine g_iconst (v := 0) h (by decide) dX12_repeat_20 ?_
    refine g_istore_n (lo2 := [(2, .int 0), (1, .int 0), (0, .ref 248)]) h rfl (by decide) rfl dX12_repeat_21 ?_
    exact g_sub [2, 1, 0] rfl (t_X12_repeat_22 h hr hw)
  · replace hw := hw.2 q9
    refine g_iconst (v := (-1)) h (by decide) dX12_repeat_12 ?_
    exact g_iret h hr dX12_repeat_13 hw
theorem c_X12_repeat (X : sX) {I : sI} {J : sJ} {post : Int32 → sI → sJ → Prop} (hw : w_X12_repeat I J post) : sCall X yX12_repeat cX12_repeat 7 (some .int) 2 51 [.ref 248] I J (sPi post) := sCall_of (by decide +kernel) (Nat.le_of_ble_eq_true rfl) (fun X h hr => t_X12_repeat h hr hw)
theorem dX12_rhyme_0 : decode cX12_rhyme 0 = .ok (.aload_n 0, 1) := by decide +kernel
theorem dX12_rhyme_1 : decode cX12_rhyme 1 = .ok (.iconst 0, 1) := by decide +kernel
theorem dX12_rhyme_2 : decode cX12_rhyme 2 = .ok (.putfield 1, 3) := by decide +kernel
theorem dX12_rhyme_5 : decode cX12_rhyme 5 = .ok (.iload_n 1, 1) := by decide +kernel
theorem dX12_rhyme_6 : decode cX12_rhyme 6 = .ok (.i2l, 1) := by decide +kernel
theorem dX12_rhyme_7 : decode cX12_rhyme 7 = .ok (.lconst 0, 1) := by decide +kernel
theorem dX12_rhyme_8 : decode cX12_rhyme 8 = .ok (.lconst 1, 1) := by decide +kernel
theorem dX12_rhyme_9 : decode cX12_rhyme 9 = .ok (.invokestatic 29, 3) := by decide +kernel
theorem dX12_rhyme_12 : decode cX12_rhyme 12 = .ok (.ifCond .eq 15, 3) := by decide +kernel
theorem dX12_rhyme_15 : decode cX12_rhyme 15 = .ok (.iload_n 2, 1) := by decide +kernel
theorem dX12_rhyme_16 : decode cX12_rhyme 16 = .ok (.i2l, 1) := by decide +kernel
theorem dX12_rhyme_17 : decode cX12_rhyme 17 = .ok (.lconst 1, 1) := by decide +kernel
theorem dX12_rhyme_18 : decode cX12_rhyme 18 = .ok (.ldc2_w 94, 3) := by decide +kernel
theorem dX12_rhyme_21 : decode cX12_rhyme 21 = .ok (.invokestatic 29, 3) := by decide +kernel
theorem dX12_rhyme_24 : decode cX12_rhyme 24 = .ok (.ifCond .ne 5, 3) := by decide +kernel
theorem dX12_rhyme_27 : decode cX12_rhyme 27 = .ok (.iconst (-1), 1) := by decide +kernel
theorem dX12_rhyme_28 : decode cX12_rhyme 28 = .ok (.ireturn, 1) := by decide +kernel
theorem dX12_rhyme_29 : decode cX12_rhyme 29 = .ok (.iconst 0, 1) := by decide +kernel
theorem dX12_rhyme_30 : decode cX12_rhyme 30 = .ok (.istore_n 3, 1) := by decide +kernel
theorem dX12_rhyme_31 : decode cX12_rhyme 31 = .ok (.iconst 0, 1) := by decide +kernel
theorem dX12_rhyme_32 : decode cX12_rhyme 32 = .ok (.istore 4, 2) := by decide +kernel
theorem dX12_rhyme_34 : decode cX12_rhyme 34 = .ok (.iconst 0, 1) := by decide +kernel
theorem dX12_rhyme_35 : decode cX12_rhyme 35 = .ok (.istore 5, 2) := by decide +kernel
theorem dX12_rhyme_37 : decode cX12_rhyme 37 = .ok (.iload 5, 2) := by decide +kernel
theorem dX12_rhyme_39 : decode cX12_rhyme 39 = .ok (.aload_n 0, 1) := by decide +kernel
theorem dX12_rhyme_40 : decode cX12_rhyme 40 = .ok (.getfield 76, 3) := by decide +kernel
theorem dX12_rhyme_43 : decode cX12_rhyme 43 = .ok (.if_icmp .ge 149, 3) := by decide +kernel
theorem dX12_rhyme_46 : decode cX12_rhyme 46 = .ok (.iload 5, 2) := by decide +kernel
theorem dX12_rhyme_48 : decode cX12_rhyme 48 = .ok (.iconst 1, 1) := by decide +kernel
theorem dX12_rhyme_49 : decode cX12_rhyme 49 = .ok (.iadd, 1) := by decide +kernel
theorem dX12_rhyme_50 : decode cX12_rhyme 50 = .ok (.istore 6, 2) := by decide +kernel
theorem dX12_rhyme_52 : decode cX12_rhyme 52 = .ok (.iload 6, 2) := by decide +kernel
theorem dX12_rhyme_54 : decode cX12_rhyme 54 = .ok (.aload_n 0, 1) := by decide +kernel
theorem dX12_rhyme_55 : decode cX12_rhyme 55 = .ok (.getfield 76, 3) := by decide +kernel
theorem dX12_rhyme_58 : decode cX12_rhyme 58 = .ok (.if_icmp .ge 128, 3) := by decide +kernel
theorem dX12_rhyme_61 : decode cX12_rhyme 61 = .ok (.aload_n 0, 1) := by decide +kernel
theorem dX12_rhyme_62 : decode cX12_rhyme 62 = .ok (.getfield 82, 3) := by decide +kernel
theorem dX12_rhyme_65 : decode cX12_rhyme 65 = .ok (.iload 5, 2) := by decide +kernel
theorem dX12_rhyme_67 : decode cX12_rhyme 67 = .ok (.iaload, 1) := by decide +kernel
theorem dX12_rhyme_68 : decode cX12_rhyme 68 = .ok (.iload_n 2, 1) := by decide +kernel
theorem dX12_rhyme_69 : decode cX12_rhyme 69 = .ok (.if_icmp .lt 111, 3) := by decide +kernel
theorem dX12_rhyme_72 : decode cX12_rhyme 72 = .ok (.aload_n 0, 1) := by decide +kernel
theorem dX12_rhyme_73 : decode cX12_rhyme 73 = .ok (.getfield 82, 3) := by decide +kernel
theorem dX12_rhyme_76 : decode cX12_rhyme 76 = .ok (.iload 6, 2) := by decide +kernel
theorem dX12_rhyme_78 : decode cX12_rhyme 78 = .ok (.iaload, 1) := by decide +kernel
theorem dX12_rhyme_79 : decode cX12_rhyme 79 = .ok (.iload_n 2, 1) := by decide +kernel
theorem dX12_rhyme_80 : decode cX12_rhyme 80 = .ok (.if_icmp .ge 6, 3) := by decide +kernel
theorem dX12_rhyme_83 : decode cX12_rhyme 83 = .ok (.goto 97, 3) := by decide +kernel
theorem dX12_rhyme_86 : decode cX12_rhyme 86 = .ok (.aload_n 0, 1) := by decide +kernel
theorem dX12_rhyme_87 : decode cX12_rhyme 87 = .ok (.iload 5, 2) := by decide +kernel
theorem dX12_rhyme_89 : decode cX12_rhyme 89 = .ok (.invokevirtual 332, 3) := by decide +kernel
theorem dX12_rhyme_92 : decode cX12_rhyme 92 = .ok (.iload_n 1, 1) := by decide +kernel
theorem dX12_rhyme_93 : decode cX12_rhyme 93 = .ok (.ifCond .ne 15, 3) := by decide +kernel
theorem dX12_rhyme_96 : decode cX12_rhyme 96 = .ok (.aload_n 0, 1) := by decide +kernel
theorem dX12_rhyme_97 : decode cX12_rhyme 97 = .ok (.getfield 82, 3) := by decide +kernel
theorem dX12_rhyme_100 : decode cX12_rhyme 100 = .ok (.iload 5, 2) := by decide +kernel
theorem dX12_rhyme_102 : decode cX12_rhyme 102 = .ok (.iaload, 1) := by decide +kernel
theorem dX12_rhyme_103 : decode cX12_rhyme 103 = .ok (.iload_n 2, 1) := by decide +kernel
theorem dX12_rhyme_104 : decode cX12_rhyme 104 = .ok (.isub, 1) := by decide +kernel
theorem dX12_rhyme_105 : decode cX12_rhyme 105 = .ok (.goto 4, 3) := by decide +kernel
theorem dX12_rhyme_108 : decode cX12_rhyme 108 = .ok (.iconst 0, 1) := by decide +kernel
theorem dX12_rhyme_109 : decode cX12_rhyme 109 = .ok (.iadd, 1) := by decide +kernel
theorem dX12_rhyme_110 : decode cX12_rhyme 110 = .ok (.istore 7, 2) := by decide +kernel
theorem dX12_rhyme_112 : decode cX12_rhyme 112 = .ok (.aload_n 0, 1) := by decide +kernel
theorem dX12_rhyme_113 : decode cX12_rhyme 113 = .ok (.iload 6, 2) := by decide +kernel
theorem dX12_rhyme_115 : decode cX12_rhyme 115 = .ok (.invokevirtual 332, 3) := by decide +kernel
theorem dX12_rhyme_118 : decode cX12_rhyme 118 = .ok (.iload_n 1, 1) := by decide +kernel
theorem dX12_rhyme_119 : decode cX12_rhyme 119 = .ok (.ifCond .ne 15, 3) := by decide +kernel
theorem dX12_rhyme_122 : decode cX12_rhyme 122 = .ok (.aload_n 0, 1) := by decide +kernel
theorem dX12_rhyme_123 : decode cX12_rhyme 123 = .ok (.getfield 82, 3) := by decide +kernel
theorem dX12_rhyme_126 : decode cX12_rhyme 126 = .ok (.iload 6, 2) := by decide +kernel
theorem dX12_rhyme_128 : decode cX12_rhyme 128 = .ok (.iaload, 1) := by decide +kernel
theorem dX12_rhyme_129 : decode cX12_rhyme 129 = .ok (.iload_n 2, 1) := by decide +kernel
theorem dX12_rhyme_130 : decode cX12_rhyme 130 = .ok (.isub, 1) := by decide +kernel
theorem dX12_rhyme_131 : decode cX12_rhyme 131 = .ok (.goto 4, 3) := by decide +kernel
theorem dX12_rhyme_134 : decode cX12_rhyme 134 = .ok (.iconst 0, 1) := by decide +kernel
theorem dX12_rhyme_135 : decode cX12_rhyme 135 = .ok (.iadd, 1) := by decide +kernel
theorem dX12_rhyme_136 : decode cX12_rhyme 136 = .ok (.istore 8, 2) := by decide +kernel
theorem dX12_rhyme_138 : decode cX12_rhyme 138 = .ok (.aload_n 0, 1) := by decide +kernel
theorem dX12_rhyme_139 : decode cX12_rhyme 139 = .ok (.iload 7, 2) := by decide +kernel
theorem dX12_rhyme_141 : decode cX12_rhyme 141 = .ok (.iload 8, 2) := by decide +kernel
theorem dX12_rhyme_143 : decode cX12_rhyme 143 = .ok (.iload_n 2, 1) := by decide +kernel
theorem dX12_rhyme_144 : decode cX12_rhyme 144 = .ok (.invokevirtual 339, 3) := by decide +kernel
theorem dX12_rhyme_147 : decode cX12_rhyme 147 = .ok (.istore 9, 2) := by decide +kernel
theorem dX12_rhyme_149 : decode cX12_rhyme 149 = .ok (.iload_n 3, 1) := by decide +kernel
theorem dX12_rhyme_150 : decode cX12_rhyme 150 = .ok (.iload 9, 2) := by decide +kernel
theorem dX12_rhyme_152 : decode cX12_rhyme 152 = .ok (.invokestatic 65, 3) := by decide +kernel
theorem dX12_rhyme_155 : decode cX12_rhyme 155 = .ok (.iadd, 1) := by decide +kernel
theorem dX12_rhyme_156 : decode cX12_rhyme 156 = .ok (.istore_n 3, 1) := by decide +kernel
theorem dX12_rhyme_157 : decode cX12_rhyme 157 = .ok (.iload 4, 2) := by decide +kernel
theorem dX12_rhyme_159 : decode cX12_rhyme 159 = .ok (.iload 9, 2) := by decide +kernel
theorem dX12_rhyme_161 : decode cX12_rhyme 161 = .ok (.ifCond .eq 15, 3) := by decide +kernel
theorem dX12_rhyme_164 : decode cX12_rhyme 164 = .ok (.iconst 1, 1) := by decide +kernel
theorem dX12_rhyme_165 : decode cX12_rhyme 165 = .ok (.iload 5, 2) := by decide +kernel
theorem dX12_rhyme_167 : decode cX12_rhyme 167 = .ok (.ishl, 1) := by decide +kernel
theorem dX12_rhyme_168 : decode cX12_rhyme 168 = .ok (.iconst 1, 1) := by decide +kernel
theorem dX12_rhyme_169 : decode cX12_rhyme 169 = .ok (.iload 6, 2) := by decide +kernel
theorem dX12_rhyme_171 : decode cX12_rhyme 171 = .ok (.ishl, 1) := by decide +kernel
theorem dX12_rhyme_172 : decode cX12_rhyme 172 = .ok (.ior, 1) := by decide +kernel
theorem dX12_rhyme_173 : decode cX12_rhyme 173 = .ok (.goto 4, 3) := by decide +kernel
theorem dX12_rhyme_176 : decode cX12_rhyme 176 = .ok (.iconst 0, 1) := by decide +kernel
theorem dX12_rhyme_177 : decode cX12_rhyme 177 = .ok (.ior, 1) := by decide +kernel
theorem dX12_rhyme_178 : decode cX12_rhyme 178 = .ok (.istore 4, 2) := by decide +kernel
theorem dX12_rhyme_180 : decode cX12_rhyme 180 = .ok (.iinc 6 1, 3) := by decide +kernel
theorem dX12_rhyme_183 : decode cX12_rhyme 183 = .ok (.goto (-131), 3) := by decide +kernel
theorem dX12_rhyme_186 : decode cX12_rhyme 186 = .ok (.iinc 5 1, 3) := by decide +kernel
theorem dX12_rhyme_189 : decode cX12_rhyme 189 = .ok (.goto (-152), 3) := by decide +kernel
theorem dX12_rhyme_192 : decode cX12_rhyme 192 = .ok (.aload_n 0, 1) := by decide +kernel
theorem dX12_rhyme_193 : decode cX12_rhyme 193 = .ok (.iconst 0, 1) := by decide +kernel
theorem dX12_rhyme_194 : decode cX12_rhyme 194 = .ok (.putfield 11, 3) := by decide +kernel
theorem dX12_rhyme_197 : decode cX12_rhyme 197 = .ok (.aload_n 0, 1) := by decide +kernel
theorem dX12_rhyme_198 : decode cX12_rhyme 198 = .ok (.iload 4, 2) := by decide +kernel
theorem dX12_rhyme_200 : decode cX12_rhyme 200 = .ok (.i2l, 1) := by decide +kernel
theorem dX12_rhyme_201 : decode cX12_rhyme 201 = .ok (.invokevirtual 18, 3) := by decide +kernel
theorem dX12_rhyme_204 : decode cX12_rhyme 204 = .ok (.iload_n 3, 1) := by decide +kernel
theorem dX12_rhyme_205 : decode cX12_rhyme 205 = .ok (.ireturn, 1) := by decide +kernel
def w_X12_rhyme_180 (post : Int32 → sI → sJ → Prop) (k37 : Int32 → Int32 → Int32 → Int32 → Int32 → sI → sJ → Prop) (k52 : Int32 → Int32 → Int32 → Int32 → Int32 → Int32 → sI → sJ → Prop) (x1 : Int32) (x2 : Int32) (x3 : Int32) (x4 : Int32) (x5 : Int32) (x6 : Int32) (I : sI) (J : sJ) : Prop :=
  (∀ v6_180 : Int32, v6_180 = x6 + 1 → k52 x1 x2 x3 x4 x5 v6_180 I J)
set_option maxHeartbeats 4000000 in
set_option maxRecDepth 100000 in
theorem t_X12_rhyme_180 {X : sX} {post : Int32 → sI → sJ → Prop} (h : sOK X cX12_rhyme RX12 10 1 25) (hr : sRt X (some .int) (sPi post)) {k37 : Int32 → Int32 → Int32 → Int32 → Int32 → sI → sJ → Prop} (hk37 : ∀ (x1 : Int32) (x2 : Int32) (x3 : Int32) (x4 : Int32) (x5 : Int32) (I : sI) (J : sJ), k37 x1 x2 x3 x4 x5 I J → sG X 10 37 [(0, .ref 248), (1, .int x1), (2, .int x2), (3, .int x3), (4, .int x4), (5, .int x5)] [] I J) {k52 : Int32 → Int32 → Int32 → Int32 → Int32 → Int32 → sI → sJ → Prop} (hk52 : ∀ (x1 : Int32) (x2 : Int32) (x3 : Int32) (x4 : Int32) (x5 : Int32) (x6 : Int32) (I : sI) (J : sJ), k52 x1 x2 x3 x4 x5 x6 I J → sG X 10 52 [(0, .ref 248), (1, .int x1), (2, .int x2), (3, .int x3), (4, .int x4), (5, .int x5), (6, .int x6)] [] I J) {x1 : Int32} {x2 : Int32} {x3 : Int32} {x4 : Int32} {x5 : Int32} {x6 : Int32} {I : sI} {J : sJ} (hw : w_X12_rhyme_180 post k37 k52 x1 x2 x3 x4 x5 x6 I J) : sG X 10 180 [(0, .ref 248), (1, .int x1), (2, .int x2), (3, .int x3), (4, .int x4), (5, .int x5), (6, .int x6)] [] I J := by
  unfold w_X12_rhyme_180 at hw
  obtain ⟨v6_180, ev6_180⟩ : ∃ z : Int32, z = x6 + 1 := ⟨_, rfl⟩
  replace hw := hw v6_180 ev6_180
  refine g_iinc (v := v6_180) (lo2 := [(6, .int v6_180), (0, .ref 248), (1, .int x1), (2, .int x2), (3, .int x3), (4, .int x4), (5, .int x5)]) h 6 rfl (by rw [ev6_180]; rfl) (by decide) rfl dX12_rhyme_180 ?_
  refine g_goto (tgt := 52) h (by decide) dX12_rhyme_183 ?_
  exact g_sub [1, 2, 3, 4, 5, 6, 0] rfl (hk52 _ _ _ _ _ _ _ _ hw)
def w_X12_rhyme_177 (post : Int32 → sI → sJ → Prop) (k37 : Int32 → Int32 → Int32 → Int32 → Int32 → sI → sJ → Prop) (k52 : Int32 → Int32 → Int32 → Int32 → Int32 → Int32 → sI → sJ → Prop) (x1 : Int32) (x2 : Int32) (x3 : Int32) (x5 : Int32) (x6 : Int32) (s0 : Int32) (s1 : Int32) (I : sI) (J : sJ) : Prop :=
  (∀ v4_178 : Int32, v4_178 = s1 ||| s0 → w_X12_rhyme_180 post k37 k52 x1 x2 x3 v4_178 x5 x6 I J)
set_option maxHeartbeats 4000000 in
set_option maxRecDepth 100000 in
theorem t_X12_rhyme_177 {X : sX} {post : Int32 → sI → sJ → Prop} (h : sOK X cX12_rhyme RX12 10 1 25) (hr : sRt X (some .int) (sPi post)) {k37 : Int32 → Int32 → Int32 → Int32 → Int32 → sI → sJ → Prop} (hk37 : ∀ (x1 : Int32) (x2 : Int32) (x3 : Int32) (x4 : Int32) (x5 : Int32) (I : sI) (J : sJ), k37 x1 x2 x3 x4 x5 I J → sG X 10 37 [(0, .ref 248), (1, .int x1), (2, .int x2), (3, .int x3), (4, .int x4), (5, .int x5)] [] I J) {k52 : Int32 → Int32 → Int32 → Int32 → Int32 → Int32 → sI → sJ → Prop} (hk52 : ∀ (x1 : Int32) (x2 : Int32) (x3 : Int32) (x4 : Int32) (x5 : Int32) (x6 : Int32) (I : sI) (J : sJ), k52 x1 x2 x3 x4 x5 x6 I J → sG X 10 52 [(0, .ref 248), (1, .int x1), (2, .int x2), (3, .int x3), (4, .int x4), (5, .int x5), (6, .int x6)] [] I J) {x1 : Int32} {x2 : Int32} {x3 : Int32} {x5 : Int32} {x6 : Int32} {s0 : Int32} {s1 : Int32} {I : sI} {J : sJ} (hw : w_X12_rhyme_177 post k37 k52 x1 x2 x3 x5 x6 s0 s1 I J) : sG X 10 177 [(0, .ref 248), (1, .int x1), (2, .int x2), (3, .int x3), (5, .int x5), (6, .int x6)] [.int s0, .int s1] I J := by
  unfold w_X12_rhyme_177 at hw
  refine g_ior h dX12_rhyme_177 ?_
  refine g_ni (fun v4_178 ev4_178 => ?_)
  replace hw := hw v4_178 ev4_178
  refine g_istore (lo2 := [(4, .int v4_178), (0, .ref 248), (1, .int x1), (2, .int x2), (3, .int x3), (5, .int x5), (6, .int x6)]) h (by decide) rfl dX12_rhyme_178 ?_
  exact g_sub [1, 2, 3, 4, 0, 5, 6] rfl (t_X12_rhyme_180 h hr hk37 hk52 hw)
def w_X12_rhyme_135 (post : Int32 → sI → sJ → Prop) (k37 : Int32 → Int32 → Int32 → Int32 → Int32 → sI → sJ → Prop) (k52 : Int32 → Int32 → Int32 → Int32 → Int32 → Int32 → sI → sJ → Prop) (x1 : Int32) (x2 : Int32) (x3 : Int32) (x4 : Int32) (x5 : Int32) (x6 : Int32) (x7 : Int32) (s0 : Int32) (s1 : Int32) (I : sI) (J : sJ) : Prop :=
  (∀ v8_136 : Int32, v8_136 = s1 + s0 → w_X12_areAlike x7 v8_136 x2 I J (fun (r_144 : Int32) (I_144 : sI) (J_144 : sJ) => (w_X12_flag r_144 I_144 J_144 (fun (r_152 : Int32) (I_152 : sI) (J_152 : sJ) => ((∀ v3_156 : Int32, v3_156 = x3 + r_152 → ((r_144 = 0 → w_X12_rhyme_177 post k37 k52 x1 x2 v3_156 x5 x6 0 x4 I_152 J_152) ∧ (¬ r_144 = 0 → w_X12_rhyme_177 post k37 k52 x1 x2 v3_156 x5 x6 ((1 <<< (x5 &&& 31)) ||| (1 <<< (x6 &&& 31))) x4 I_152 J_152))))))))
set_option maxHeartbeats 4000000 in
set_option maxRecDepth 100000 in
theorem t_X12_rhyme_135 {X : sX} {post : Int32 → sI → sJ → Prop} (h : sOK X cX12_rhyme RX12 10 1 25) (hr : sRt X (some .int) (sPi post)) {k37 : Int32 → Int32 → Int32 → Int32 → Int32 → sI → sJ → Prop} (hk37 : ∀ (x1 : Int32) (x2 : Int32) (x3 : Int32) (x4 : Int32) (x5 : Int32) (I : sI) (J : sJ), k37 x1 x2 x3 x4 x5 I J → sG X 10 37 [(0, .ref 248), (1, .int x1), (2, .int x2), (3, .int x3), (4, .int x4), (5, .int x5)] [] I J) {k52 : Int32 → Int32 → Int32 → Int32 → Int32 → Int32 → sI → sJ → Prop} (hk52 : ∀ (x1 : Int32) (x2 : Int32) (x3 : Int32) (x4 : Int32) (x5 : Int32) (x6 : Int32) (I : sI) (J : sJ), k52 x1 x2 x3 x4 x5 x6 I J → sG X 10 52 [(0, .ref 248), (1, .int x1), (2, .int x2), (3, .int x3), (4, .int x4), (5, .int x5), (6, .int x6)] [] I J) {x1 : Int32} {x2 : Int32} {x3 : Int32} {x4 : Int32} {x5 : Int32} {x6 : Int32} {x7 : Int32} {s0 : Int32} {s1 : Int32} {I : sI} {J : sJ} (hw : w_X12_rhyme_135 post k37 k52 x1 x2 x3 x4 x5 x6 x7 s0 s1 I J) : sG X 10 135 [(0, .ref 248), (1, .int x1), (2, .int x2), (3, .int x3), (4, .int x4), (5, .int x5), (6, .int x6), (7, .int x7)] [.int s0, .int s1] I J := by
  unfold w_X12_rhyme_135 at hw
  refine g_iadd h dX12_rhyme_135 ?_
  refine g_ni (fun v8_136 ev8_136 => ?_)
  replace hw := hw v8_136 ev8_136
  refine g_istore (lo2 := [(8, .int v8_136), (0, .ref 248), (1, .int x1), (2, .int x2), (3, .int x3), (4, .int x4), (5, .int x5), (6, .int x6), (7, .int x7)]) h (by decide) rfl dX12_rhyme_136 ?_
  refine g_aload_n h rfl 1 rfl dX12_rhyme_138 ?_
  refine g_iload h 8 rfl dX12_rhyme_139 ?_
  refine g_iload h 0 rfl dX12_rhyme_141 ?_
  refine g_iload_n h rfl 3 rfl dX12_rhyme_143 ?_
  refine g_callV [.int x7, .int v8_136, .int x2] h (c_X12_areAlike X hw) sPi_v mw_X12_areAlike lk_X12_339 is_248 rfl rfl ⟨by decide, by decide⟩ (Nat.le_of_ble_eq_true rfl) dX12_rhyme_144 (sPi_k (fun r_144 I_144 J_144 hw => ?_))
  refine g_istore (lo2 := [(9, .int r_144), (8, .int v8_136), (0, .ref 248), (1, .int x1), (2, .int x2), (3, .int x3), (4, .int x4), (5, .int x5), (6, .int x6), (7, .int x7)]) h (by decide) rfl dX12_rhyme_147 ?_
  refine g_iload_n h rfl 5 rfl dX12_rhyme_149 ?_
  refine g_iload h 0 rfl dX12_rhyme_150 ?_
  refine g_callS [.int r_144] h (c_X12_flag X hw) sPi_v mw_X12_flag lk_X12_65 rfl ⟨by decide, by decide⟩ (Nat.le_of_ble_eq_true rfl) dX12_rhyme_152 (sPi_k (fun r_152 I_152 J_152 hw => ?_))
  refine g_iadd h dX12_rhyme_155 ?_
  refine g_ni (fun v3_156 ev3_156 => ?_)
  replace hw := hw v3_156 ev3_156
  refine g_istore_n (lo2 := [(3, .int v3_156), (9, .int r_144), (8, .int v8_136), (0, .ref 248), (1, .int x1), (2, .int x2), (4, .int x4), (5, .int x5), (6, .int x6), (7, .int x7)]) h rfl (by decide) rfl dX12_rhyme_156 ?_
  refine g_iload h 6 rfl dX12_rhyme_157 ?_
  refine g_iload h 1 rfl dX12_rhyme_159 ?_
  refine g_if_eq (tgt := 176) h (by decide) dX12_rhyme_161 (fun q161 => ?_) (fun q161 => ?_)
  · replace hw := hw.1 q161
    refine g_iconst (v := 0) h (by decide) dX12_rhyme_176 ?_
    exact g_sub [3, 4, 5, 0, 7, 8] rfl (t_X12_rhyme_177 h hr hk37 hk52 hw)
  · replace hw := hw.2 q161
    refine g_iconst (v := 1) h (by decide) dX12_rhyme_164 ?_
    refine g_iload h 7 rfl dX12_rhyme_165 ?_
    refine g_ishl h dX12_rhyme_167 ?_
    refine g_iconst (v := 1) h (by decide) dX12_rhyme_168 ?_
    refine g_iload h 8 rfl dX12_rhyme_169 ?_
    refine g_ishl h dX12_rhyme_171 ?_
    refine g_ior h dX12_rhyme_172 ?_
    refine g_goto (tgt := 177) h (by decide) dX12_rhyme_173 ?_
    exact g_sub [3, 4, 5, 0, 7, 8] rfl (t_X12_rhyme_177 h hr hk37 hk52 hw)
def w_X12_rhyme_109 (post : Int32 → sI → sJ → Prop) (k37 : Int32 → Int32 → Int32 → Int32 → Int32 → sI → sJ → Prop) (k52 : Int32 → Int32 → Int32 → Int32 → Int32 → Int32 → sI → sJ → Prop) (x1 : Int32) (x2 : Int32) (x3 : Int32) (x4 : Int32) (x5 : Int32) (x6 : Int32) (s0 : Int32) (s1 : Int32) (I : sI) (J : sJ) : Prop :=
  (∀ v7_110 : Int32, v7_110 = s1 + s0 → w_X12_groupBegin x6 I J (fun (r_115 : Int32) (I_115 : sI) (J_115 : sJ) => (((¬ x1 = 0 → w_X12_rhyme_135 post k37 k52 x1 x2 x3 x4 x5 x6 v7_110 0 r_115 I_115 J_115) ∧ (x1 = 0 → (vp_in x6 24 ∧ w_X12_rhyme_135 post k37 k52 x1 x2 x3 x4 x5 x6 v7_110 ((I_115 253 (Int32.toNatClampNeg x6)) - x2) r_115 I_115 J_115))))))
set_option maxHeartbeats 4000000 in
set_option maxRecDepth 100000 in
theorem t_X12_rhyme_109 {X : sX} {post : Int32 → sI → sJ → Prop} (h : sOK X cX12_rhyme RX12 10 1 25) (hr : sRt X (some .int) (sPi post)) {k37 : Int32 → Int32 → Int32 → Int32 → Int32 → sI → sJ → Prop} (hk37 : ∀ (x1 : Int32) (x2 : Int32) (x3 : Int32) (x4 : Int32) (x5 : Int32) (I : sI) (J : sJ), k37 x1 x2 x3 x4 x5 I J → sG X 10 37 [(0, .ref 248), (1, .int x1), (2, .int x2), (3, .int x3), (4, .int x4), (5, .int x5)] [] I J) {k52 : Int32 → Int32 → Int32 → Int32 → Int32 → Int32 → sI → sJ → Prop} (hk52 : ∀ (x1 : Int32) (x2 : Int32) (x3 : Int32) (x4 : Int32) (x5 : Int32) (x6 : Int32) (I : sI) (J : sJ), k52 x1 x2 x3 x4 x5 x6 I J → sG X 10 52 [(0, .ref 248), (1, .int x1), (2, .int x2), (3, .int x3), (4, .int x4), (5, .int x5), (6, .int x6)] [] I J) {x1 : Int32} {x2 : Int32} {x3 : Int32} {x4 : Int32} {x5 : Int32} {x6 : Int32} {s0 : Int32} {s1 : Int32} {I : sI} {J : sJ} (hw : w_X12_rhyme_109 post k37 k52 x1 x2 x3 x4 x5 x6 s0 s1 I J) : sG X 10 109 [(0, .ref 248), (1, .int x1), (2, .int x2), (3, .int x3), (4, .int x4), (5, .int x5), (6, .int x6)] [.int s0, .int s1] I J := by
  unfold w_X12_rhyme_109 at hw
  refine g_iadd h dX12_rhyme_109 ?_
  refine g_ni (fun v7_110 ev7_110 => ?_)
  replace hw := hw v7_110 ev7_110
  refine g_istore (lo2 := [(7, .int v7_110), (0, .ref 248), (1, .int x1), (2, .int x2), (3, .int x3), (4, .int x4), (5, .int x5), (6, .int x6)]) h (by decide) rfl dX12_rhyme_110 ?_
  refine g_aload_n h rfl 1 rfl dX12_rhyme_112 ?_
  refine g_iload h 7 rfl dX12_rhyme_113 ?_
  refine g_callV [.int x6] h (c_X12_groupBegin X hw) sPi_v mw_X12_groupBegin lk_X12_332 is_248 rfl rfl ⟨by decide, by decide⟩ (Nat.le_of_ble_eq_true rfl) dX12_rhyme_115 (sPi_k (fun r_115 I_115 J_115 hw => ?_))
  refine g_iload_n h rfl 2 rfl dX12_rhyme_118 ?_
  refine g_if_ne (tgt := 134) h (by decide) dX12_rhyme_119 (fun q119 => ?_) (fun q119 => ?_)
  · replace hw := hw.1 q119
    refine g_iconst (v := 0) h (by decide) dX12_rhyme_134 ?_
    exact g_sub [1, 2, 3, 4, 5, 6, 7, 0] rfl (t_X12_rhyme_135 h hr hk37 hk52 hw)
  · replace hw := hw.2 q119
    refine g_aload_n h rfl 1 rfl dX12_rhyme_122 ?_
    refine g_get h is_248 fl_X12_82 fr_248_13 dX12_rhyme_123 ?_
    refine g_iload h 7 rfl dX12_rhyme_126 ?_
    obtain ⟨hi128, hw⟩ := hw
    refine g_iald h ar_253 hi128 dX12_rhyme_128 ?_
    refine g_iload_n h rfl 3 rfl dX12_rhyme_129 ?_
    refine g_isub h dX12_rhyme_130 ?_
    refine g_goto (tgt := 135) h (by decide) dX12_rhyme_131 ?_
    exact g_sub [1, 2, 3, 4, 5, 6, 7, 0] rfl (t_X12_rhyme_135 h hr hk37 hk52 hw)
def w_X12_rhyme_52_s (post : Int32 → sI → sJ → Prop) (k37 : Int32 → Int32 → Int32 → Int32 → Int32 → sI → sJ → Prop) (k52 : Int32 → Int32 → Int32 → Int32 → Int32 → Int32 → sI → sJ → Prop) (x1 : Int32) (x2 : Int32) (x3 : Int32) (x4 : Int32) (x5 : Int32) (x6 : Int32) (I : sI) (J : sJ) : Prop :=
  (((I 248 11) ≤ x6 → (∀ v5_186 : Int32, v5_186 = x5 + 1 → k37 x1 x2 x3 x4 v5_186 I J)) ∧ (¬ (I 248 11) ≤ x6 → (vp_in x5 24 ∧ (((I 253 (Int32.toNatClampNeg x5)) < x2 → w_X12_rhyme_180 post k37 k52 x1 x2 x3 x4 x5 x6 I J) ∧ (¬ (I 253 (Int32.toNatClampNeg x5)) < x2 → (vp_in x6 24 ∧ ((x2 ≤ (I 253 (Int32.toNatClampNeg x6)) → w_X12_groupBegin x5 I J (fun (r_89 : Int32) (I_89 : sI) (J_89 : sJ) => (((¬ x1 = 0 → w_X12_rhyme_109 post k37 k52 x1 x2 x3 x4 x5 x6 0 r_89 I_89 J_89) ∧ (x1 = 0 → (vp_in x5 24 ∧ w_X12_rhyme_109 post k37 k52 x1 x2 x3 x4 x5 x6 ((I_89 253 (Int32.toNatClampNeg x5)) - x2) r_89 I_89 J_89)))))) ∧ (¬ x2 ≤ (I 253 (Int32.toNatClampNeg x6)) → w_X12_rhyme_180 post k37 k52 x1 x2 x3 x4 x5 x6 I J))))))))
def w_X12_rhyme_52_n (post : Int32 → sI → sJ → Prop) (k37 : Int32 → Int32 → Int32 → Int32 → Int32 → sI → sJ → Prop) : Nat → Int32 → Int32 → Int32 → Int32 → Int32 → Int32 → sI → sJ → Prop
  | 0 => fun _ _ _ _ _ _ _ _ => False
  | n + 1 => fun x1 x2 x3 x4 x5 x6 I J => w_X12_rhyme_52_s post k37 (w_X12_rhyme_52_n post k37 n) x1 x2 x3 x4 x5 x6 I J
def w_X12_rhyme_52 (post : Int32 → sI → sJ → Prop) (k37 : Int32 → Int32 → Int32 → Int32 → Int32 → sI → sJ → Prop) (x1 : Int32) (x2 : Int32) (x3 : Int32) (x4 : Int32) (x5 : Int32) (x6 : Int32) (I : sI) (J : sJ) : Prop := ∃ n, w_X12_rhyme_52_n post k37 n x1 x2 x3 x4 x5 x6 I J
set_option maxHeartbeats 4000000 in
set_option maxRecDepth 100000 in
theorem t_X12_rhyme_52_s {X : sX} {post : Int32 → sI → sJ → Prop} (h : sOK X cX12_rhyme RX12 10 1 25) (hr : sRt X (some .int) (sPi post)) {k37 : Int32 → Int32 → Int32 → Int32 → Int32 → sI → sJ → Prop} (hk37 : ∀ (x1 : Int32) (x2 : Int32) (x3 : Int32) (x4 : Int32) (x5 : Int32) (I : sI) (J : sJ), k37 x1 x2 x3 x4 x5 I J → sG X 10 37 [(0, .ref 248), (1, .int x1), (2, .int x2), (3, .int x3), (4, .int x4), (5, .int x5)] [] I J) {k52 : Int32 → Int32 → Int32 → Int32 → Int32 → Int32 → sI → sJ → Prop} (hk52 : ∀ (x1 : Int32) (x2 : Int32) (x3 : Int32) (x4 : Int32) (x5 : Int32) (x6 : Int32) (I : sI) (J : sJ), k52 x1 x2 x3 x4 x5 x6 I J → sG X 10 52 [(0, .ref 248), (1, .int x1), (2, .int x2), (3, .int x3), (4, .int x4), (5, .int x5), (6, .int x6)] [] I J) {x1 : Int32} {x2 : Int32} {x3 : Int32} {x4 : Int32} {x5 : Int32} {x6 : Int32} {I : sI} {J : sJ} (hw : w_X12_rhyme_52_s post k37 k52 x1 x2 x3 x4 x5 x6 I J) : sG X 10 52 [(0, .ref 248), (1, .int x1), (2, .int x2), (3, .int x3), (4, .int x4), (5, .int x5), (6, .int x6)] [] I J := by
  unfold w_X12_rhyme_52_s at hw
  refine g_iload h 6 rfl dX12_rhyme_52 ?_
  refine g_aload_n h rfl 0 rfl dX12_rhyme_54 ?_
  refine g_get h is_248 fl_X12_76 rfl dX12_rhyme_55 ?_
  refine g_icmp_ge (tgt := 186) h (by decide) dX12_rhyme_58 (fun q58 => ?_) (fun q58 => ?_)
  · replace hw := hw.1 q58
    obtain ⟨v5_186, ev5_186⟩ : ∃ z : Int32, z = x5 + 1 := ⟨_, rfl⟩
    replace hw := hw v5_186 ev5_186
    refine g_iinc (v := v5_186) (lo2 := [(5, .int v5_186), (0, .ref 248), (1, .int x1), (2, .int x2), (3, .int x3), (4, .int x4), (6, .int x6)]) h 5 rfl (by rw [ev5_186]; rfl) (by decide) rfl dX12_rhyme_186 ?_
    refine g_goto (tgt := 37) h (by decide) dX12_rhyme_189 ?_
    exact g_sub [1, 2, 3, 4, 5, 0] rfl (hk37 _ _ _ _ _ _ _ hw)
  · replace hw := hw.2 q58
    refine g_aload_n h rfl 0 rfl dX12_rhyme_61 ?_
    refine g_get h is_248 fl_X12_82 fr_248_13 dX12_rhyme_62 ?_
    refine g_iload h 5 rfl dX12_rhyme_65 ?_
    obtain ⟨hi67, hw⟩ := hw
    refine g_iald h ar_253 hi67 dX12_rhyme_67 ?_
    refine g_iload_n h rfl 2 rfl dX12_rhyme_68 ?_
    refine g_icmp_lt (tgt := 180) h (by decide) dX12_rhyme_69 (fun q69 => ?_) (fun q69 => ?_)
    · replace hw := hw.1 q69
      exact g_sub [0, 1, 2, 3, 4, 5, 6] rfl (t_X12_rhyme_180 h hr hk37 hk52 hw)
    · replace hw := hw.2 q69
      refine g_aload_n h rfl 0 rfl dX12_rhyme_72 ?_
      refine g_get h is_248 fl_X12_82 fr_248_13 dX12_rhyme_73 ?_
      refine g_iload h 6 rfl dX12_rhyme_76 ?_
      obtain ⟨hi78, hw⟩ := hw
      refine g_iald h ar_253 hi78 dX12_rhyme_78 ?_
      refine g_iload_n h rfl 2 rfl dX12_rhyme_79 ?_
      refine g_icmp_ge (tgt := 86) h (by decide) dX12_rhyme_80 (fun q80 => ?_) (fun q80 => ?_)
      · replace hw := hw.1 q80
        refine g_aload_n h rfl 0 rfl dX12_rhyme_86 ?_
        refine g_iload h 5 rfl dX12_rhyme_87 ?_
        refine g_callV [.int x5] h (c_X12_groupBegin X hw) sPi_v mw_X12_groupBegin lk_X12_332 is_248 rfl rfl ⟨by decide, by decide⟩ (Nat.le_of_ble_eq_true rfl) dX12_rhyme_89 (sPi_k (fun r_89 I_89 J_89 hw => ?_))
        refine g_iload_n h rfl 1 rfl dX12_rhyme_92 ?_
        refine g_if_ne (tgt := 108) h (by decide) dX12_rhyme_93 (fun q93 => ?_) (fun q93 => ?_)
        · replace hw := hw.1 q93
          refine g_iconst (v := 0) h (by decide) dX12_rhyme_108 ?_
          exact g_sub [0, 1, 2, 3, 4, 5, 6] rfl (t_X12_rhyme_109 h hr hk37 hk52 hw)
        · replace hw := hw.2 q93
          refine g_aload_n h rfl 0 rfl dX12_rhyme_96 ?_
          refine g_get h is_248 fl_X12_82 fr_248_13 dX12_rhyme_97 ?_
          refine g_iload h 5 rfl dX12_rhyme_100 ?_
          obtain ⟨hi102, hw⟩ := hw
          refine g_iald h ar_253 hi102 dX12_rhyme_102 ?_
          refine g_iload_n h rfl 2 rfl dX12_rhyme_103 ?_
          refine g_isub h dX12_rhyme_104 ?_
          refine g_goto (tgt := 109) h (by decide) dX12_rhyme_105 ?_
          exact g_sub [0, 1, 2, 3, 4, 5, 6] rfl (t_X12_rhyme_109 h hr hk37 hk52 hw)
      · replace hw := hw.2 q80
        refine g_goto (tgt := 180) h (by decide) dX12_rhyme_83 ?_
        exact g_sub [0, 1, 2, 3, 4, 5, 6] rfl (t_X12_rhyme_180 h hr hk37 hk52 hw)
theorem t_X12_rhyme_52 {X : sX} {post : Int32 → sI → sJ → Prop} (h : sOK X cX12_rhyme RX12 10 1 25) (hr : sRt X (some .int) (sPi post)) {k37 : Int32 → Int32 → Int32 → Int32 → Int32 → sI → sJ → Prop} (hk37 : ∀ (x1 : Int32) (x2 : Int32) (x3 : Int32) (x4 : Int32) (x5 : Int32) (I : sI) (J : sJ), k37 x1 x2 x3 x4 x5 I J → sG X 10 37 [(0, .ref 248), (1, .int x1), (2, .int x2), (3, .int x3), (4, .int x4), (5, .int x5)] [] I J) {x1 : Int32} {x2 : Int32} {x3 : Int32} {x4 : Int32} {x5 : Int32} {x6 : Int32} {I : sI} {J : sJ} (hw : w_X12_rhyme_52 post k37 x1 x2 x3 x4 x5 x6 I J) : sG X 10 52 [(0, .ref 248), (1, .int x1), (2, .int x2), (3, .int x3), (4, .int x4), (5, .int x5), (6, .int x6)] [] I J := by
  obtain ⟨n, hw⟩ := hw
  induction n generalizing x1 x2 x3 x4 x5 x6 I J with
  | zero => exact hw.elim
  | succ n ih => exact t_X12_rhyme_52_s h hr hk37 (fun _ _ _ _ _ _ _ _ q => ih q) hw
def w_X12_rhyme_37_s (post : Int32 → sI → sJ → Prop) (k37 : Int32 → Int32 → Int32 → Int32 → Int32 → sI → sJ → Prop) (x1 : Int32) (x2 : Int32) (x3 : Int32) (x4 : Int32) (x5 : Int32) (I : sI) (J : sJ) : Prop :=
  (((I 248 11) ≤ x5 → (∀ I_194 : sI, I_194 = sUI I 248 1 0 → w_X12_enters (Int32.toInt64 x4) I_194 J (fun (I_201 : sI) (J_201 : sJ) => (post x3 I_201 J_201)))) ∧ (¬ (I 248 11) ≤ x5 → (∀ v6_50 : Int32, v6_50 = x5 + 1 → w_X12_rhyme_52 post k37 x1 x2 x3 x4 x5 v6_50 I J)))
def w_X12_rhyme_37_n (post : Int32 → sI → sJ → Prop) : Nat → Int32 → Int32 → Int32 → Int32 → Int32 → sI → sJ → Prop
  | 0 => fun _ _ _ _ _ _ _ => False
  | n + 1 => fun x1 x2 x3 x4 x5 I J => w_X12_rhyme_37_s post (w_X12_rhyme_37_n post n) x1 x2 x3 x4 x5 I J
def w_X12_rhyme_37 (post : Int32 → sI → sJ → Prop) (x1 : Int32) (x2 : Int32) (x3 : Int32) (x4 : Int32) (x5 : Int32) (I : sI) (J : sJ) : Prop := ∃ n, w_X12_rhyme_37_n post n x1 x2 x3 x4 x5 I J
set_option maxHeartbeats 4000000 in
set_option maxRecDepth 100000 in
theorem t_X12_rhyme_37_s {X : sX} {post : Int32 → sI → sJ → Prop} (h : sOK X cX12_rhyme RX12 10 1 25) (hr : sRt X (some .int) (sPi post)) {k37 : Int32 → Int32 → Int32 → Int32 → Int32 → sI → sJ → Prop} (hk37 : ∀ (x1 : Int32) (x2 : Int32) (x3 : Int32) (x4 : Int32) (x5 : Int32) (I : sI) (J : sJ), k37 x1 x2 x3 x4 x5 I J → sG X 10 37 [(0, .ref 248), (1, .int x1), (2, .int x2), (3, .int x3), (4, .int x4), (5, .int x5)] [] I J) {x1 : Int32} {x2 : Int32} {x3 : Int32} {x4 : Int32} {x5 : Int32} {I : sI} {J : sJ} (hw : w_X12_rhyme_37_s post k37 x1 x2 x3 x4 x5 I J) : sG X 10 37 [(0, .ref 248), (1, .int x1), (2, .int x2), (3, .int x3), (4, .int x4), (5, .int x5)] [] I J := by
  unfold w_X12_rhyme_37_s at hw
  refine g_iload h 5 rfl dX12_rhyme_37 ?_
  refine g_aload_n h rfl 0 rfl dX12_rhyme_39 ?_
  refine g_get h is_248 fl_X12_76 rfl dX12_rhyme_40 ?_
  refine g_icmp_ge (tgt := 192) h (by decide) dX12_rhyme_43 (fun q43 => ?_) (fun q43 => ?_)
  · replace hw := hw.1 q43
    refine g_aload_n h rfl 0 rfl dX12_rhyme_192 ?_
    refine g_iconst (v := 0) h (by decide) dX12_rhyme_193 ?_
    refine g_putI h is_248 fl_X12_11 rfl rfl dX12_rhyme_194 ?_
    refine g_nI (fun I_194 eI_194 => ?_)
    replace hw := hw I_194 eI_194
    refine g_aload_n h rfl 0 rfl dX12_rhyme_197 ?_
    refine g_iload h 4 rfl dX12_rhyme_198 ?_
    refine g_i2l h dX12_rhyme_200 ?_
    refine g_callV [.long (Int32.toInt64 x4)] h (c_X12_enters X hw) sPv_v mw_X12_enters lk_X12_18 is_248 rfl rfl ⟨by decide, by decide⟩ (Nat.le_of_ble_eq_true rfl) dX12_rhyme_201 (sPv_k (fun I_201 J_201 hw => ?_))
    refine g_iload_n h rfl 3 rfl dX12_rhyme_204 ?_
    exact g_iret h hr dX12_rhyme_205 hw
  · replace hw := hw.2 q43
    refine g_iload h 5 rfl dX12_rhyme_46 ?_
    refine g_iconst (v := 1) h (by decide) dX12_rhyme_48 ?_
    refine g_iadd h dX12_rhyme_49 ?_
    refine g_ni (fun v6_50 ev6_50 => ?_)
    replace hw := hw v6_50 ev6_50
    refine g_istore (lo2 := [(6, .int v6_50), (0, .ref 248), (1, .int x1), (2, .int x2), (3, .int x3), (4, .int x4), (5, .int x5)]) h (by decide) rfl dX12_rhyme_50 ?_
    exact g_sub [1, 2, 3, 4, 5, 6, 0] rfl (t_X12_rhyme_52 h hr hk37 hw)
theorem t_X12_rhyme_37 {X : sX} {post : Int32 → sI → sJ → Prop} (h : sOK X cX12_rhyme RX12 10 1 25) (hr : sRt X (some .int) (sPi post)) {x1 : Int32} {x2 : Int32} {x3 : Int32} {x4 : Int32} {x5 : Int32} {I : sI} {J : sJ} (hw : w_X12_rhyme_37 post x1 x2 x3 x4 x5 I J) : sG X 10 37 [(0, .ref 248), (1, .int x1), (2, .int x2), (3, .int x3), (4, .int x4), (5, .int x5)] [] I J := by
  obtain ⟨n, hw⟩ := hw
  induction n generalizing x1 x2 x3 x4 x5 I J with
  | zero => exact hw.elim
  | succ n ih => exact t_X12_rhyme_37_s h hr (fun _ _ _ _ _ _ _ q => ih q) hw
def w_X12_rhyme (a1 : Int32) (a2 : Int32) (I : sI) (J : sJ) (post : Int32 → sI → sJ → Prop) : Prop :=
  (∀ I_2 : sI, I_2 = sUI I 248 0 0 → w_X12_in (Int32.toInt64 a1) 0 1 I_2 J (fun (r_9 : Int32) (I_9 : sI) (J_9 : sJ) => (((r_9 = 0 → post (-1) I_9 J_9) ∧ (¬ r_9 = 0 → w_X12_in (Int32.toInt64 a2) 1 3 I_9 J_9 (fun (r_21 : Int32) (I_21 : sI) (J_21 : sJ) => (((¬ r_21 = 0 → w_X12_rhyme_37 post a1 a2 0 0 0 I_21 J_21) ∧ (r_21 = 0 → post (-1) I_21 J_21)))))))))
set_option maxHeartbeats 4000000 in
set_option maxRecDepth 100000 in
theorem t_X12_rhyme {X : sX} {a1 : Int32} {a2 : Int32} {I : sI} {J : sJ} {post : Int32 → sI → sJ → Prop} (h : sOK X cX12_rhyme RX12 10 1 25) (hr : sRt X (some .int) (sPi post)) (hw : w_X12_rhyme a1 a2 I J post) : sG X 10 0 [(0, .ref 248), (1, .int a1), (2, .int a2)] [] I J := by
  unfold w_X12_rhyme at hw
  refine g_aload_n h rfl 0 rfl dX12_rhyme_0 ?_
  refine g_iconst (v := 0) h (by decide) dX12_rhyme_1 ?_
  refine g_putI h is_248 fl_X12_1 rfl rfl dX12_rhyme_2 ?_
  refine g_nI (fun I_2 eI_2 => ?_)
  replace hw := hw I_2 eI_2
  refine g_iload_n h rfl 1 rfl dX12_rhyme_5 ?_
  refine g_i2l h dX12_rhyme_6 ?_
  refine g_lconst (v := 0) h (by decide) dX12_rhyme_7 ?_
  refine g_lconst (v := 1) h (by decide) dX12_rhyme_8 ?_
  refine g_callS [.long (Int32.toInt64 a1), .long 0, .long 1] h (c_X12_in X hw) sPi_v mw_X12_in lk_X12_29 rfl ⟨by decide, by decide⟩ (Nat.le_of_ble_eq_true rfl) dX12_rhyme_9 (sPi_k (fun r_9 I_9 J_9 hw => ?_))
  refine g_if_eq (tgt := 27) h (by decide) dX12_rhyme_12 (fun q12 => ?_) (fun q12 => ?_)
  · replace hw := hw.1 q12
    refine g_iconst (v := (-1)) h (by decide) dX12_rhyme_27 ?_
    exact g_iret h hr dX12_rhyme_28 hw
  · replace hw := hw.2 q12
    refine g_iload_n h rfl 2 rfl dX12_rhyme_15 ?_
    refine g_i2l h dX12_rhyme_16 ?_
    refine g_lconst (v := 1) h (by decide) dX12_rhyme_17 ?_
    refine g_ldc2 h lc_X12_94 dX12_rhyme_18 ?_
    refine g_callS [.long (Int32.toInt64 a2), .long 1, .long 3] h (c_X12_in X hw) sPi_v mw_X12_in lk_X12_29 rfl ⟨by decide, by decide⟩ (Nat.le_of_ble_eq_true rfl) dX12_rhyme_21 (sPi_k (fun r_21 I_21 J_21 hw => ?_))
    refine g_if_ne (tgt := 29) h (by decide) dX12_rhyme_24 (fun q24 => ?_) (fun q24 => ?_)
    · replace hw := hw.1 q24
      refine g_iconst (v := 0) h (by decide) dX12_rhyme_29 ?_
      refine g_istore_n (lo2 := [(3, .int 0), (0, .ref 248), (1, .int a1), (2, .int a2)]) h rfl (by decide) rfl dX12_rhyme_30 ?_
      refine g_iconst (v := 0) h (by decide) dX12_rhyme_31 ?_
      refine g_istore (lo2 := [(4, .int 0), (3, .int 0), (0, .ref 248), (1, .int a1), (2, .int a2)]) h (by decide) rfl dX12_rhyme_32 ?_
      refine g_iconst (v := 0) h (by decide) dX12_rhyme_34 ?_
      refine g_istore (lo2 := [(5, .int 0), (4, .int 0), (3, .int 0), (0, .ref 248), (1, .int a1), (2, .int a2)]) h (by decide) rfl dX12_rhyme_35 ?_
      exact g_sub [3, 4, 5, 2, 1, 0] rfl (t_X12_rhyme_37 h hr hw)
    · replace hw := hw.2 q24
      refine g_iconst (v := (-1)) h (by decide) dX12_rhyme_27 ?_
      exact g_iret h hr dX12_rhyme_28 hw
theorem c_X12_rhyme (X : sX) {a1 : Int32} {a2 : Int32} {I : sI} {J : sJ} {post : Int32 → sI → sJ → Prop} (hw : w_X12_rhyme a1 a2 I J post) : sCall X yX12_rhyme cX12_rhyme 10 (some .int) 1 25 [.ref 248, .int a1, .int a2] I J (sPi post) := sCall_of (by decide +kernel) (Nat.le_of_ble_eq_true rfl) (fun X h hr => t_X12_rhyme h hr hw)
theorem dX12_choices_0 : decode cX12_choices 0 = .ok (.iload_n 1, 1) := by decide +kernel
theorem dX12_choices_1 : decode cX12_choices 1 = .ok (.ifCond .lt 8, 3) := by decide +kernel
theorem dX12_choices_4 : decode cX12_choices 4 = .ok (.iload_n 1, 1) := by decide +kernel
theorem dX12_choices_5 : decode cX12_choices 5 = .ok (.iload_n 0, 1) := by decide +kernel
theorem dX12_choices_6 : decode cX12_choices 6 = .ok (.if_icmp .le 5, 3) := by decide +kernel
theorem dX12_choices_9 : decode cX12_choices 9 = .ok (.lconst 0, 1) := by decide +kernel
theorem dX12_choices_10 : decode cX12_choices 10 = .ok (.lreturn, 1) := by decide +kernel
theorem dX12_choices_11 : decode cX12_choices 11 = .ok (.lconst 1, 1) := by decide +kernel
theorem dX12_choices_12 : decode cX12_choices 12 = .ok (.lstore_n 2, 1) := by decide +kernel
theorem dX12_choices_13 : decode cX12_choices 13 = .ok (.iconst 1, 1) := by decide +kernel
theorem dX12_choices_14 : decode cX12_choices 14 = .ok (.istore 4, 2) := by decide +kernel
theorem dX12_choices_16 : decode cX12_choices 16 = .ok (.iload 4, 2) := by decide +kernel
theorem dX12_choices_18 : decode cX12_choices 18 = .ok (.iload_n 1, 1) := by decide +kernel
theorem dX12_choices_19 : decode cX12_choices 19 = .ok (.if_icmp .gt 23, 3) := by decide +kernel
theorem dX12_choices_22 : decode cX12_choices 22 = .ok (.lload_n 2, 1) := by decide +kernel
theorem dX12_choices_23 : decode cX12_choices 23 = .ok (.iload_n 0, 1) := by decide +kernel
theorem dX12_choices_24 : decode cX12_choices 24 = .ok (.iload_n 1, 1) := by decide +kernel
theorem dX12_choices_25 : decode cX12_choices 25 = .ok (.isub, 1) := by decide +kernel
theorem dX12_choices_26 : decode cX12_choices 26 = .ok (.iload 4, 2) := by decide +kernel
theorem dX12_choices_28 : decode cX12_choices 28 = .ok (.iadd, 1) := by decide +kernel
theorem dX12_choices_29 : decode cX12_choices 29 = .ok (.i2l, 1) := by decide +kernel
theorem dX12_choices_30 : decode cX12_choices 30 = .ok (.lmul, 1) := by decide +kernel
theorem dX12_choices_31 : decode cX12_choices 31 = .ok (.iload 4, 2) := by decide +kernel
theorem dX12_choices_33 : decode cX12_choices 33 = .ok (.i2l, 1) := by decide +kernel
theorem dX12_choices_34 : decode cX12_choices 34 = .ok (.ldiv, 1) := by decide +kernel
theorem dX12_choices_35 : decode cX12_choices 35 = .ok (.lstore_n 2, 1) := by decide +kernel
theorem dX12_choices_36 : decode cX12_choices 36 = .ok (.iinc 4 1, 3) := by decide +kernel
theorem dX12_choices_39 : decode cX12_choices 39 = .ok (.goto (-23), 3) := by decide +kernel
theorem dX12_choices_42 : decode cX12_choices 42 = .ok (.lload_n 2, 1) := by decide +kernel
theorem dX12_choices_43 : decode cX12_choices 43 = .ok (.lreturn, 1) := by decide +kernel
def w_X12_choices_16_s (post : Int64 → sI → sJ → Prop) (k16 : Int32 → Int32 → Int64 → Int32 → sI → sJ → Prop) (x0 : Int32) (x1 : Int32) (x2 : Int64) (x4 : Int32) (I : sI) (J : sJ) : Prop :=
  ((x1 < x4 → post x2 I J) ∧ (¬ x1 < x4 → (¬ (Int32.toInt64 x4) = 0 ∧ (∀ v2_35 : Int64, v2_35 = (x2 * (Int32.toInt64 ((x0 - x1) + x4))) / (Int32.toInt64 x4) → (∀ v4_36 : Int32, v4_36 = x4 + 1 → k16 x0 x1 v2_35 v4_36 I J)))))
def w_X12_choices_16_n (post : Int64 → sI → sJ → Prop) : Nat → Int32 → Int32 → Int64 → Int32 → sI → sJ → Prop
  | 0 => fun _ _ _ _ _ _ => False
  | n + 1 => fun x0 x1 x2 x4 I J => w_X12_choices_16_s post (w_X12_choices_16_n post n) x0 x1 x2 x4 I J
def w_X12_choices_16 (post : Int64 → sI → sJ → Prop) (x0 : Int32) (x1 : Int32) (x2 : Int64) (x4 : Int32) (I : sI) (J : sJ) : Prop := ∃ n, w_X12_choices_16_n post n x0 x1 x2 x4 I J
set_option maxHeartbeats 4000000 in
set_option maxRecDepth 100000 in
theorem t_X12_choices_16_s {X : sX} {post : Int64 → sI → sJ → Prop} (h : sOK X cX12_choices RX12 5 0 0) (hr : sRt X (some .long) (sPl post)) {k16 : Int32 → Int32 → Int64 → Int32 → sI → sJ → Prop} (hk16 : ∀ (x0 : Int32) (x1 : Int32) (x2 : Int64) (x4 : Int32) (I : sI) (J : sJ), k16 x0 x1 x2 x4 I J → sG X 5 16 [(0, .int x0), (1, .int x1), (2, .long x2), (4, .int x4)] [] I J) {x0 : Int32} {x1 : Int32} {x2 : Int64} {x4 : Int32} {I : sI} {J : sJ} (hw : w_X12_choices_16_s post k16 x0 x1 x2 x4 I J) : sG X 5 16 [(0, .int x0), (1, .int x1), (2, .long x2), (4, .int x4)] [] I J := by
  unfold w_X12_choices_16_s at hw
  refine g_iload h 3 rfl dX12_choices_16 ?_
  refine g_iload_n h rfl 1 rfl dX12_choices_18 ?_
  refine g_icmp_gt (tgt := 42) h (by decide) dX12_choices_19 (fun q19 => ?_) (fun q19 => ?_)
  · replace hw := hw.1 q19
    refine g_lload_n h rfl 2 rfl dX12_choices_42 ?_
    exact g_lret h hr dX12_choices_43 hw
  · replace hw := hw.2 q19
    refine g_lload_n h rfl 2 rfl dX12_choices_22 ?_
    refine g_iload_n h rfl 0 rfl dX12_choices_23 ?_
    refine g_iload_n h rfl 1 rfl dX12_choices_24 ?_
    refine g_isub h dX12_choices_25 ?_
    refine g_iload h 3 rfl dX12_choices_26 ?_
    refine g_iadd h dX12_choices_28 ?_
    refine g_i2l h dX12_choices_29 ?_
    refine g_lmul h dX12_choices_30 ?_
    refine g_iload h 3 rfl dX12_choices_31 ?_
    refine g_i2l h dX12_choices_33 ?_
    obtain ⟨hz34, hw⟩ := hw
    refine g_ldiv h hz34 dX12_choices_34 ?_
    refine g_nl (fun v2_35 ev2_35 => ?_)
    replace hw := hw v2_35 ev2_35
    refine g_lstore_n (lo2 := [(2, .long v2_35), (0, .int x0), (1, .int x1), (4, .int x4)]) h rfl (by decide) rfl dX12_choices_35 ?_
    obtain ⟨v4_36, ev4_36⟩ : ∃ z : Int32, z = x4 + 1 := ⟨_, rfl⟩
    replace hw := hw v4_36 ev4_36
    refine g_iinc (v := v4_36) (lo2 := [(4, .int v4_36), (2, .long v2_35), (0, .int x0), (1, .int x1)]) h 3 rfl (by rw [ev4_36]; rfl) (by decide) rfl dX12_choices_36 ?_
    refine g_goto (tgt := 16) h (by decide) dX12_choices_39 ?_
    exact g_sub [2, 3, 1, 0] rfl (hk16 _ _ _ _ _ _ hw)
theorem t_X12_choices_16 {X : sX} {post : Int64 → sI → sJ → Prop} (h : sOK X cX12_choices RX12 5 0 0) (hr : sRt X (some .long) (sPl post)) {x0 : Int32} {x1 : Int32} {x2 : Int64} {x4 : Int32} {I : sI} {J : sJ} (hw : w_X12_choices_16 post x0 x1 x2 x4 I J) : sG X 5 16 [(0, .int x0), (1, .int x1), (2, .long x2), (4, .int x4)] [] I J := by
  obtain ⟨n, hw⟩ := hw
  induction n generalizing x0 x1 x2 x4 I J with
  | zero => exact hw.elim
  | succ n ih => exact t_X12_choices_16_s h hr (fun _ _ _ _ _ _ q => ih q) hw
def w_X12_choices (a0 : Int32) (a1 : Int32) (I : sI) (J : sJ) (post : Int64 → sI → sJ → Prop) : Prop :=
  ((a1 < 0 → post 0 I J) ∧ (¬ a1 < 0 → ((a1 ≤ a0 → w_X12_choices_16 post a0 a1 1 1 I J) ∧ (¬ a1 ≤ a0 → post 0 I J))))
set_option maxHeartbeats 4000000 in
set_option maxRecDepth 100000 in
theorem t_X12_choices {X : sX} {a0 : Int32} {a1 : Int32} {I : sI} {J : sJ} {post : Int64 → sI → sJ → Prop} (h : sOK X cX12_choices RX12 5 0 0) (hr : sRt X (some .long) (sPl post)) (hw : w_X12_choices a0 a1 I J post) : sG X 5 0 [(0, .int a0), (1, .int a1)] [] I J := by
  unfold w_X12_choices at hw
  refine g_iload_n h rfl 1 rfl dX12_choices_0 ?_
  refine g_if_lt (tgt := 9) h (by decide) dX12_choices_1 (fun q1 => ?_) (fun q1 => ?_)
  · replace hw := hw.1 q1
    refine g_lconst (v := 0) h (by decide) dX12_choices_9 ?_
    exact g_lret h hr dX12_choices_10 hw
  · replace hw := hw.2 q1
    refine g_iload_n h rfl 1 rfl dX12_choices_4 ?_
    refine g_iload_n h rfl 0 rfl dX12_choices_5 ?_
    refine g_icmp_le (tgt := 11) h (by decide) dX12_choices_6 (fun q6 => ?_) (fun q6 => ?_)
    · replace hw := hw.1 q6
      refine g_lconst (v := 1) h (by decide) dX12_choices_11 ?_
      refine g_lstore_n (lo2 := [(2, .long 1), (0, .int a0), (1, .int a1)]) h rfl (by decide) rfl dX12_choices_12 ?_
      refine g_iconst (v := 1) h (by decide) dX12_choices_13 ?_
      refine g_istore (lo2 := [(4, .int 1), (2, .long 1), (0, .int a0), (1, .int a1)]) h (by decide) rfl dX12_choices_14 ?_
      exact g_sub [2, 3, 1, 0] rfl (t_X12_choices_16 h hr hw)
    · replace hw := hw.2 q6
      refine g_lconst (v := 0) h (by decide) dX12_choices_9 ?_
      exact g_lret h hr dX12_choices_10 hw
theorem c_X12_choices (X : sX) {a0 : Int32} {a1 : Int32} {I : sI} {J : sJ} {post : Int64 → sI → sJ → Prop} (hw : w_X12_choices a0 a1 I J post) : sCall X yX12_choices cX12_choices 5 (some .long) 0 0 [.int a0, .int a1] I J (sPl post) := sCall_of (by decide +kernel) (Nat.le_of_ble_eq_true rfl) (fun X h hr => t_X12_choices h hr hw)
theorem dX12_axe_0 : decode cX12_axe 0 = .ok (.aload_n 0, 1) := by decide +kernel
theorem dX12_axe_1 : decode cX12_axe 1 = .ok (.iconst 0, 1) := by decide +kernel
theorem dX12_axe_2 : decode cX12_axe 2 = .ok (.putfield 1, 3) := by decide +kernel
theorem dX12_axe_5 : decode cX12_axe 5 = .ok (.iload_n 1, 1) := by decide +kernel
theorem dX12_axe_6 : decode cX12_axe 6 = .ok (.i2l, 1) := by decide +kernel
theorem dX12_axe_7 : decode cX12_axe 7 = .ok (.lconst 1, 1) := by decide +kernel
theorem dX12_axe_8 : decode cX12_axe 8 = .ok (.ldc2_w 347, 3) := by decide +kernel
theorem dX12_axe_11 : decode cX12_axe 11 = .ok (.invokestatic 29, 3) := by decide +kernel
theorem dX12_axe_14 : decode cX12_axe 14 = .ok (.ifCond .eq 37, 3) := by decide +kernel
theorem dX12_axe_17 : decode cX12_axe 17 = .ok (.iload_n 2, 1) := by decide +kernel
theorem dX12_axe_18 : decode cX12_axe 18 = .ok (.i2l, 1) := by decide +kernel
theorem dX12_axe_19 : decode cX12_axe 19 = .ok (.lconst 0, 1) := by decide +kernel
theorem dX12_axe_20 : decode cX12_axe 20 = .ok (.iload_n 1, 1) := by decide +kernel
theorem dX12_axe_21 : decode cX12_axe 21 = .ok (.i2l, 1) := by decide +kernel
theorem dX12_axe_22 : decode cX12_axe 22 = .ok (.invokestatic 29, 3) := by decide +kernel
theorem dX12_axe_25 : decode cX12_axe 25 = .ok (.ifCond .eq 26, 3) := by decide +kernel
theorem dX12_axe_28 : decode cX12_axe 28 = .ok (.iload_n 3, 1) := by decide +kernel
theorem dX12_axe_29 : decode cX12_axe 29 = .ok (.i2l, 1) := by decide +kernel
theorem dX12_axe_30 : decode cX12_axe 30 = .ok (.lconst 0, 1) := by decide +kernel
theorem dX12_axe_31 : decode cX12_axe 31 = .ok (.iload_n 1, 1) := by decide +kernel
theorem dX12_axe_32 : decode cX12_axe 32 = .ok (.i2l, 1) := by decide +kernel
theorem dX12_axe_33 : decode cX12_axe 33 = .ok (.invokestatic 29, 3) := by decide +kernel
theorem dX12_axe_36 : decode cX12_axe 36 = .ok (.ifCond .eq 15, 3) := by decide +kernel
theorem dX12_axe_39 : decode cX12_axe 39 = .ok (.iload 4, 2) := by decide +kernel
theorem dX12_axe_41 : decode cX12_axe 41 = .ok (.i2l, 1) := by decide +kernel
theorem dX12_axe_42 : decode cX12_axe 42 = .ok (.lconst 0, 1) := by decide +kernel
theorem dX12_axe_43 : decode cX12_axe 43 = .ok (.iload_n 3, 1) := by decide +kernel
theorem dX12_axe_44 : decode cX12_axe 44 = .ok (.i2l, 1) := by decide +kernel
theorem dX12_axe_45 : decode cX12_axe 45 = .ok (.invokestatic 29, 3) := by decide +kernel
theorem dX12_axe_48 : decode cX12_axe 48 = .ok (.ifCond .ne 5, 3) := by decide +kernel
theorem dX12_axe_51 : decode cX12_axe 51 = .ok (.iconst (-1), 1) := by decide +kernel
theorem dX12_axe_52 : decode cX12_axe 52 = .ok (.ireturn, 1) := by decide +kernel
theorem dX12_axe_53 : decode cX12_axe 53 = .ok (.lconst 0, 1) := by decide +kernel
theorem dX12_axe_54 : decode cX12_axe 54 = .ok (.lstore 5, 2) := by decide +kernel
theorem dX12_axe_56 : decode cX12_axe 56 = .ok (.iload 4, 2) := by decide +kernel
theorem dX12_axe_58 : decode cX12_axe 58 = .ok (.istore 7, 2) := by decide +kernel
theorem dX12_axe_60 : decode cX12_axe 60 = .ok (.iload 7, 2) := by decide +kernel
theorem dX12_axe_62 : decode cX12_axe 62 = .ok (.iload_n 3, 1) := by decide +kernel
theorem dX12_axe_63 : decode cX12_axe 63 = .ok (.if_icmp .gt 31, 3) := by decide +kernel
theorem dX12_axe_66 : decode cX12_axe 66 = .ok (.lload 5, 2) := by decide +kernel
theorem dX12_axe_68 : decode cX12_axe 68 = .ok (.iload_n 2, 1) := by decide +kernel
theorem dX12_axe_69 : decode cX12_axe 69 = .ok (.iload 7, 2) := by decide +kernel
theorem dX12_axe_71 : decode cX12_axe 71 = .ok (.invokestatic 349, 3) := by decide +kernel
theorem dX12_axe_74 : decode cX12_axe 74 = .ok (.iload_n 1, 1) := by decide +kernel
theorem dX12_axe_75 : decode cX12_axe 75 = .ok (.iload_n 2, 1) := by decide +kernel
theorem dX12_axe_76 : decode cX12_axe 76 = .ok (.isub, 1) := by decide +kernel
theorem dX12_axe_77 : decode cX12_axe 77 = .ok (.iload_n 3, 1) := by decide +kernel
theorem dX12_axe_78 : decode cX12_axe 78 = .ok (.iload 7, 2) := by decide +kernel
theorem dX12_axe_80 : decode cX12_axe 80 = .ok (.isub, 1) := by decide +kernel
theorem dX12_axe_81 : decode cX12_axe 81 = .ok (.invokestatic 349, 3) := by decide +kernel
theorem dX12_axe_84 : decode cX12_axe 84 = .ok (.lmul, 1) := by decide +kernel
theorem dX12_axe_85 : decode cX12_axe 85 = .ok (.ladd, 1) := by decide +kernel
theorem dX12_axe_86 : decode cX12_axe 86 = .ok (.lstore 5, 2) := by decide +kernel
theorem dX12_axe_88 : decode cX12_axe 88 = .ok (.iinc 7 1, 3) := by decide +kernel
theorem dX12_axe_91 : decode cX12_axe 91 = .ok (.goto (-31), 3) := by decide +kernel
theorem dX12_axe_94 : decode cX12_axe 94 = .ok (.aload_n 0, 1) := by decide +kernel
theorem dX12_axe_95 : decode cX12_axe 95 = .ok (.iconst 0, 1) := by decide +kernel
theorem dX12_axe_96 : decode cX12_axe 96 = .ok (.putfield 11, 3) := by decide +kernel
theorem dX12_axe_99 : decode cX12_axe 99 = .ok (.aload_n 0, 1) := by decide +kernel
theorem dX12_axe_100 : decode cX12_axe 100 = .ok (.lload 5, 2) := by decide +kernel
theorem dX12_axe_102 : decode cX12_axe 102 = .ok (.iload_n 1, 1) := by decide +kernel
theorem dX12_axe_103 : decode cX12_axe 103 = .ok (.iload_n 3, 1) := by decide +kernel
theorem dX12_axe_104 : decode cX12_axe 104 = .ok (.invokestatic 349, 3) := by decide +kernel
theorem dX12_axe_107 : decode cX12_axe 107 = .ok (.invokevirtual 268, 3) := by decide +kernel
theorem dX12_axe_110 : decode cX12_axe 110 = .ok (.iconst 0, 1) := by decide +kernel
theorem dX12_axe_111 : decode cX12_axe 111 = .ok (.ireturn, 1) := by decide +kernel
def w_X12_axe_60_s (post : Int32 → sI → sJ → Prop) (k60 : Int32 → Int32 → Int32 → Int64 → Int32 → sI → sJ → Prop) (x1 : Int32) (x2 : Int32) (x3 : Int32) (x5 : Int64) (x7 : Int32) (I : sI) (J : sJ) : Prop :=
  ((x3 < x7 → (∀ I_96 : sI, I_96 = sUI I 248 1 0 → w_X12_choices x1 x3 I_96 J (fun (r_104 : Int64) (I_104 : sI) (J_104 : sJ) => (w_X12_entersFraction x5 r_104 I_104 J_104 (fun (I_107 : sI) (J_107 : sJ) => (post 0 I_107 J_107)))))) ∧ (¬ x3 < x7 → w_X12_choices x2 x7 I J (fun (r_71 : Int64) (I_71 : sI) (J_71 : sJ) => (w_X12_choices (x1 - x2) (x3 - x7) I_71 J_71 (fun (r_81 : Int64) (I_81 : sI) (J_81 : sJ) => ((∀ v5_86 : Int64, v5_86 = x5 + (r_71 * r_81) → (∀ v7_88 : Int32, v7_88 = x7 + 1 → k60 x1 x2 x3 v5_86 v7_88 I_81 J_81))))))))
def w_X12_axe_60_n (post : Int32 → sI → sJ → Prop) : Nat → Int32 → Int32 → Int32 → Int64 → Int32 → sI → sJ → Prop
  | 0 => fun _ _ _ _ _ _ _ => False
  | n + 1 => fun x1 x2 x3 x5 x7 I J => w_X12_axe_60_s post (w_X12_axe_60_n post n) x1 x2 x3 x5 x7 I J
def w_X12_axe_60 (post : Int32 → sI → sJ → Prop) (x1 : Int32) (x2 : Int32) (x3 : Int32) (x5 : Int64) (x7 : Int32) (I : sI) (J : sJ) : Prop := ∃ n, w_X12_axe_60_n post n x1 x2 x3 x5 x7 I J
set_option maxHeartbeats 4000000 in
set_option maxRecDepth 100000 in
theorem t_X12_axe_60_s {X : sX} {post : Int32 → sI → sJ → Prop} (h : sOK X cX12_axe RX12 8 2 55) (hr : sRt X (some .int) (sPi post)) {k60 : Int32 → Int32 → Int32 → Int64 → Int32 → sI → sJ → Prop} (hk60 : ∀ (x1 : Int32) (x2 : Int32) (x3 : Int32) (x5 : Int64) (x7 : Int32) (I : sI) (J : sJ), k60 x1 x2 x3 x5 x7 I J → sG X 8 60 [(0, .ref 248), (1, .int x1), (2, .int x2), (3, .int x3), (5, .long x5), (7, .int x7)] [] I J) {x1 : Int32} {x2 : Int32} {x3 : Int32} {x5 : Int64} {x7 : Int32} {I : sI} {J : sJ} (hw : w_X12_axe_60_s post k60 x1 x2 x3 x5 x7 I J) : sG X 8 60 [(0, .ref 248), (1, .int x1), (2, .int x2), (3, .int x3), (5, .long x5), (7, .int x7)] [] I J := by
  unfold w_X12_axe_60_s at hw
  refine g_iload h 5 rfl dX12_axe_60 ?_
  refine g_iload_n h rfl 3 rfl dX12_axe_62 ?_
  refine g_icmp_gt (tgt := 94) h (by decide) dX12_axe_63 (fun q63 => ?_) (fun q63 => ?_)
  · replace hw := hw.1 q63
    refine g_aload_n h rfl 0 rfl dX12_axe_94 ?_
    refine g_iconst (v := 0) h (by decide) dX12_axe_95 ?_
    refine g_putI h is_248 fl_X12_11 rfl rfl dX12_axe_96 ?_
    refine g_nI (fun I_96 eI_96 => ?_)
    replace hw := hw I_96 eI_96
    refine g_aload_n h rfl 0 rfl dX12_axe_99 ?_
    refine g_lload h 4 rfl dX12_axe_100 ?_
    refine g_iload_n h rfl 1 rfl dX12_axe_102 ?_
    refine g_iload_n h rfl 3 rfl dX12_axe_103 ?_
    refine g_callS [.int x1, .int x3] h (c_X12_choices X hw) sPl_v mw_X12_choices lk_X12_349 rfl ⟨by decide, by decide⟩ (Nat.le_of_ble_eq_true rfl) dX12_axe_104 (sPl_k (fun r_104 I_104 J_104 hw => ?_))
    refine g_callV [.long x5, .long r_104] h (c_X12_entersFraction X hw) sPv_v mw_X12_entersFraction lk_X12_268 is_248 rfl rfl ⟨by decide, by decide⟩ (Nat.le_of_ble_eq_true rfl) dX12_axe_107 (sPv_k (fun I_107 J_107 hw => ?_))
    refine g_iconst (v := 0) h (by decide) dX12_axe_110 ?_
    exact g_iret h hr dX12_axe_111 hw
  · replace hw := hw.2 q63
    refine g_lload h 4 rfl dX12_axe_66 ?_
    refine g_iload_n h rfl 2 rfl dX12_axe_68 ?_
    refine g_iload h 5 rfl dX12_axe_69 ?_
    refine g_callS [.int x2, .int x7] h (c_X12_choices X hw) sPl_v mw_X12_choices lk_X12_349 rfl ⟨by decide, by decide⟩ (Nat.le_of_ble_eq_true rfl) dX12_axe_71 (sPl_k (fun r_71 I_71 J_71 hw => ?_))
    refine g_iload_n h rfl 1 rfl dX12_axe_74 ?_
    refine g_iload_n h rfl 2 rfl dX12_axe_75 ?_
    refine g_isub h dX12_axe_76 ?_
    refine g_iload_n h rfl 3 rfl dX12_axe_77 ?_
    refine g_iload h 5 rfl dX12_axe_78 ?_
    refine g_isub h dX12_axe_80 ?_
    refine g_callS [.int (x1 - x2), .int (x3 - x7)] h (c_X12_choices X hw) sPl_v mw_X12_choices lk_X12_349 rfl ⟨by decide, by decide⟩ (Nat.le_of_ble_eq_true rfl) dX12_axe_81 (sPl_k (fun r_81 I_81 J_81 hw => ?_))
    refine g_lmul h dX12_axe_84 ?_
    refine g_ladd h dX12_axe_85 ?_
    refine g_nl (fun v5_86 ev5_86 => ?_)
    replace hw := hw v5_86 ev5_86
    refine g_lstore (lo2 := [(5, .long v5_86), (0, .ref 248), (1, .int x1), (2, .int x2), (3, .int x3), (7, .int x7)]) h (by decide) rfl dX12_axe_86 ?_
    obtain ⟨v7_88, ev7_88⟩ : ∃ z : Int32, z = x7 + 1 := ⟨_, rfl⟩
    replace hw := hw v7_88 ev7_88
    refine g_iinc (v := v7_88) (lo2 := [(7, .int v7_88), (5, .long v5_86), (0, .ref 248), (1, .int x1), (2, .int x2), (3, .int x3)]) h 5 rfl (by rw [ev7_88]; rfl) (by decide) rfl dX12_axe_88 ?_
    refine g_goto (tgt := 60) h (by decide) dX12_axe_91 ?_
    exact g_sub [2, 3, 4, 5, 1, 0] rfl (hk60 _ _ _ _ _ _ _ hw)
theorem t_X12_axe_60 {X : sX} {post : Int32 → sI → sJ → Prop} (h : sOK X cX12_axe RX12 8 2 55) (hr : sRt X (some .int) (sPi post)) {x1 : Int32} {x2 : Int32} {x3 : Int32} {x5 : Int64} {x7 : Int32} {I : sI} {J : sJ} (hw : w_X12_axe_60 post x1 x2 x3 x5 x7 I J) : sG X 8 60 [(0, .ref 248), (1, .int x1), (2, .int x2), (3, .int x3), (5, .long x5), (7, .int x7)] [] I J := by
  obtain ⟨n, hw⟩ := hw
  induction n generalizing x1 x2 x3 x5 x7 I J with
  | zero => exact hw.elim
  | succ n ih => exact t_X12_axe_60_s h hr (fun _ _ _ _ _ _ _ q => ih q) hw
def w_X12_axe (a1 : Int32) (a2 : Int32) (a3 : Int32) (a4 : Int32) (I : sI) (J : sJ) (post : Int32 → sI → sJ → Prop) : Prop :=
  (∀ I_2 : sI, I_2 = sUI I 248 0 0 → w_X12_in (Int32.toInt64 a1) 1 45 I_2 J (fun (r_11 : Int32) (I_11 : sI) (J_11 : sJ) => (((r_11 = 0 → post (-1) I_11 J_11) ∧ (¬ r_11 = 0 → w_X12_in (Int32.toInt64 a2) 0 (Int32.toInt64 a1) I_11 J_11 (fun (r_22 : Int32) (I_22 : sI) (J_22 : sJ) => (((r_22 = 0 → post (-1) I_22 J_22) ∧ (¬ r_22 = 0 → w_X12_in (Int32.toInt64 a3) 0 (Int32.toInt64 a1) I_22 J_22 (fun (r_33 : Int32) (I_33 : sI) (J_33 : sJ) => (((r_33 = 0 → post (-1) I_33 J_33) ∧ (¬ r_33 = 0 → w_X12_in (Int32.toInt64 a4) 0 (Int32.toInt64 a3) I_33 J_33 (fun (r_45 : Int32) (I_45 : sI) (J_45 : sJ) => (((¬ r_45 = 0 → w_X12_axe_60 post a1 a2 a3 0 a4 I_45 J_45) ∧ (r_45 = 0 → post (-1) I_45 J_45)))))))))))))))))
set_option maxHeartbeats 4000000 in
set_option maxRecDepth 100000 in
theorem t_X12_axe {X : sX} {a1 : Int32} {a2 : Int32} {a3 : Int32} {a4 : Int32} {I : sI} {J : sJ} {post : Int32 → sI → sJ → Prop} (h : sOK X cX12_axe RX12 8 2 55) (hr : sRt X (some .int) (sPi post)) (hw : w_X12_axe a1 a2 a3 a4 I J post) : sG X 8 0 [(0, .ref 248), (1, .int a1), (2, .int a2), (3, .int a3), (4, .int a4)] [] I J := by
  unfold w_X12_axe at hw
  refine g_aload_n h rfl 0 rfl dX12_axe_0 ?_
  refine g_iconst (v := 0) h (by decide) dX12_axe_1 ?_
  refine g_putI h is_248 fl_X12_1 rfl rfl dX12_axe_2 ?_
  refine g_nI (fun I_2 eI_2 => ?_)
  replace hw := hw I_2 eI_2
  refine g_iload_n h rfl 1 rfl dX12_axe_5 ?_
  refine g_i2l h dX12_axe_6 ?_
  refine g_lconst (v := 1) h (by decide) dX12_axe_7 ?_
  refine g_ldc2 h lc_X12_347 dX12_axe_8 ?_
  refine g_callS [.long (Int32.toInt64 a1), .long 1, .long 45] h (c_X12_in X hw) sPi_v mw_X12_in lk_X12_29 rfl ⟨by decide, by decide⟩ (Nat.le_of_ble_eq_true rfl) dX12_axe_11 (sPi_k (fun r_11 I_11 J_11 hw => ?_))
  refine g_if_eq (tgt := 51) h (by decide) dX12_axe_14 (fun q14 => ?_) (fun q14 => ?_)
  · replace hw := hw.1 q14
    refine g_iconst (v := (-1)) h (by decide) dX12_axe_51 ?_
    exact g_iret h hr dX12_axe_52 hw
  · replace hw := hw.2 q14
    refine g_iload_n h rfl 2 rfl dX12_axe_17 ?_
    refine g_i2l h dX12_axe_18 ?_
    refine g_lconst (v := 0) h (by decide) dX12_axe_19 ?_
    refine g_iload_n h rfl 1 rfl dX12_axe_20 ?_
    refine g_i2l h dX12_axe_21 ?_
    refine g_callS [.long (Int32.toInt64 a2), .long 0, .long (Int32.toInt64 a1)] h (c_X12_in X hw) sPi_v mw_X12_in lk_X12_29 rfl ⟨by decide, by decide⟩ (Nat.le_of_ble_eq_true rfl) dX12_axe_22 (sPi_k (fun r_22 I_22 J_22 hw => ?_))
    refine g_if_eq (tgt := 51) h (by decide) dX12_axe_25 (fun q25 => ?_) (fun q25 => ?_)
    · replace hw := hw.1 q25
      refine g_iconst (v := (-1)) h (by decide) dX12_axe_51 ?_
      exact g_iret h hr dX12_axe_52 hw
    · replace hw := hw.2 q25
      refine g_iload_n h rfl 3 rfl dX12_axe_28 ?_
      refine g_i2l h dX12_axe_29 ?_
      refine g_lconst (v := 0) h (by decide) dX12_axe_30 ?_
      refine g_iload_n h rfl 1 rfl dX12_axe_31 ?_
      refine g_i2l h dX12_axe_32 ?_
      refine g_callS [.long (Int32.toInt64 a3), .long 0, .long (Int32.toInt64 a1)] h (c_X12_in X hw) sPi_v mw_X12_in lk_X12_29 rfl ⟨by decide, by decide⟩ (Nat.le_of_ble_eq_true rfl) dX12_axe_33 (sPi_k (fun r_33 I_33 J_33 hw => ?_))
      refine g_if_eq (tgt := 51) h (by decide) dX12_axe_36 (fun q36 => ?_) (fun q36 => ?_)
      · replace hw := hw.1 q36
        refine g_iconst (v := (-1)) h (by decide) dX12_axe_51 ?_
        exact g_iret h hr dX12_axe_52 hw
      · replace hw := hw.2 q36
        refine g_iload h 4 rfl dX12_axe_39 ?_
        refine g_i2l h dX12_axe_41 ?_
        refine g_lconst (v := 0) h (by decide) dX12_axe_42 ?_
        refine g_iload_n h rfl 3 rfl dX12_axe_43 ?_
        refine g_i2l h dX12_axe_44 ?_
        refine g_callS [.long (Int32.toInt64 a4), .long 0, .long (Int32.toInt64 a3)] h (c_X12_in X hw) sPi_v mw_X12_in lk_X12_29 rfl ⟨by decide, by decide⟩ (Nat.le_of_ble_eq_true rfl) dX12_axe_45 (sPi_k (fun r_45 I_45 J_45 hw => ?_))
        refine g_if_ne (tgt := 53) h (by decide) dX12_axe_48 (fun q48 => ?_) (fun q48 => ?_)
        · replace hw := hw.1 q48
          refine g_lconst (v := 0) h (by decide) dX12_axe_53 ?_
          refine g_lstore (lo2 := [(5, .long 0), (0, .ref 248), (1, .int a1), (2, .int a2), (3, .int a3), (4, .int a4)]) h (by decide) rfl dX12_axe_54 ?_
          refine g_iload h 5 rfl dX12_axe_56 ?_
          refine g_istore (lo2 := [(7, .int a4), (5, .long 0), (0, .ref 248), (1, .int a1), (2, .int a2), (3, .int a3), (4, .int a4)]) h (by decide) rfl dX12_axe_58 ?_
          exact g_sub [2, 3, 4, 5, 1, 0] rfl (t_X12_axe_60 h hr hw)
        · replace hw := hw.2 q48
          refine g_iconst (v := (-1)) h (by decide) dX12_axe_51 ?_
          exact g_iret h hr dX12_axe_52 hw
theorem c_X12_axe (X : sX) {a1 : Int32} {a2 : Int32} {a3 : Int32} {a4 : Int32} {I : sI} {J : sJ} {post : Int32 → sI → sJ → Prop} (hw : w_X12_axe a1 a2 a3 a4 I J post) : sCall X yX12_axe cX12_axe 8 (some .int) 2 55 [.ref 248, .int a1, .int a2, .int a3, .int a4] I J (sPi post) := sCall_of (by decide +kernel) (Nat.le_of_ble_eq_true rfl) (fun X h hr => t_X12_axe h hr hw)
