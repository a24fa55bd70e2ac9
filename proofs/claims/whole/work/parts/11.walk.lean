theorem dX3_grow_0 : decode cX3_grow 0 = .ok (.iconst 0, 1) := by decide +kernel
theorem dX3_grow_1 : decode cX3_grow 1 = .ok (.istore_n 2, 1) := by decide +kernel
theorem dX3_grow_2 : decode cX3_grow 2 = .ok (.iload_n 2, 1) := by decide +kernel
theorem dX3_grow_3 : decode cX3_grow 3 = .ok (.aload_n 0, 1) := by decide +kernel
theorem dX3_grow_4 : decode cX3_grow 4 = .ok (.getfield 25, 3) := by decide +kernel
theorem dX3_grow_7 : decode cX3_grow 7 = .ok (.if_icmp .ge 49, 3) := by decide +kernel
theorem dX3_grow_10 : decode cX3_grow 10 = .ok (.iload_n 1, 1) := by decide +kernel
theorem dX3_grow_11 : decode cX3_grow 11 = .ok (.iload_n 2, 1) := by decide +kernel
theorem dX3_grow_12 : decode cX3_grow 12 = .ok (.ishr, 1) := by decide +kernel
theorem dX3_grow_13 : decode cX3_grow 13 = .ok (.iconst 1, 1) := by decide +kernel
theorem dX3_grow_14 : decode cX3_grow 14 = .ok (.iand, 1) := by decide +kernel
theorem dX3_grow_15 : decode cX3_grow 15 = .ok (.ifCond .ne 35, 3) := by decide +kernel
theorem dX3_grow_18 : decode cX3_grow 18 = .ok (.aload_n 0, 1) := by decide +kernel
theorem dX3_grow_19 : decode cX3_grow 19 = .ok (.getfield 15, 3) := by decide +kernel
theorem dX3_grow_22 : decode cX3_grow 22 = .ok (.iload_n 2, 1) := by decide +kernel
theorem dX3_grow_23 : decode cX3_grow 23 = .ok (.iaload, 1) := by decide +kernel
theorem dX3_grow_24 : decode cX3_grow 24 = .ok (.iload_n 1, 1) := by decide +kernel
theorem dX3_grow_25 : decode cX3_grow 25 = .ok (.iconst (-1), 1) := by decide +kernel
theorem dX3_grow_26 : decode cX3_grow 26 = .ok (.ixor, 1) := by decide +kernel
theorem dX3_grow_27 : decode cX3_grow 27 = .ok (.iand, 1) := by decide +kernel
theorem dX3_grow_28 : decode cX3_grow 28 = .ok (.ifCond .ne 22, 3) := by decide +kernel
theorem dX3_grow_31 : decode cX3_grow 31 = .ok (.aload_n 0, 1) := by decide +kernel
theorem dX3_grow_32 : decode cX3_grow 32 = .ok (.getfield 9, 3) := by decide +kernel
theorem dX3_grow_35 : decode cX3_grow 35 = .ok (.iload_n 1, 1) := by decide +kernel
theorem dX3_grow_36 : decode cX3_grow 36 = .ok (.iconst 1, 1) := by decide +kernel
theorem dX3_grow_37 : decode cX3_grow 37 = .ok (.iload_n 2, 1) := by decide +kernel
theorem dX3_grow_38 : decode cX3_grow 38 = .ok (.ishl, 1) := by decide +kernel
theorem dX3_grow_39 : decode cX3_grow 39 = .ok (.ior, 1) := by decide +kernel
theorem dX3_grow_40 : decode cX3_grow 40 = .ok (.dup2, 1) := by decide +kernel
theorem dX3_grow_41 : decode cX3_grow 41 = .ok (.laload, 1) := by decide +kernel
theorem dX3_grow_42 : decode cX3_grow 42 = .ok (.aload_n 0, 1) := by decide +kernel
theorem dX3_grow_43 : decode cX3_grow 43 = .ok (.getfield 9, 3) := by decide +kernel
theorem dX3_grow_46 : decode cX3_grow 46 = .ok (.iload_n 1, 1) := by decide +kernel
theorem dX3_grow_47 : decode cX3_grow 47 = .ok (.laload, 1) := by decide +kernel
theorem dX3_grow_48 : decode cX3_grow 48 = .ok (.ladd, 1) := by decide +kernel
theorem dX3_grow_49 : decode cX3_grow 49 = .ok (.lastore, 1) := by decide +kernel
theorem dX3_grow_50 : decode cX3_grow 50 = .ok (.iinc 2 1, 3) := by decide +kernel
theorem dX3_grow_53 : decode cX3_grow 53 = .ok (.goto (-51), 3) := by decide +kernel
theorem dX3_grow_56 : decode cX3_grow 56 = .ok (.return_, 1) := by decide +kernel
def w_X3_grow_50 (post : sI → sJ → Prop) (k2 : Int32 → Int32 → sI → sJ → Prop) (x1 : Int32) (x2 : Int32) (I : sI) (J : sJ) : Prop :=
  (∀ v2_50 : Int32, v2_50 = x2 + 1 → k2 x1 v2_50 I J)
set_option maxHeartbeats 4000000 in
set_option maxRecDepth 100000 in
theorem t_X3_grow_50 {X : sX} {post : sI → sJ → Prop} (h : sOK X cX3_grow RX3 3 0 0) (hr : sRt X none (sPv post)) {k2 : Int32 → Int32 → sI → sJ → Prop} (hk2 : ∀ (x1 : Int32) (x2 : Int32) (I : sI) (J : sJ), k2 x1 x2 I J → sG X 3 2 [(0, .ref 224), (1, .int x1), (2, .int x2)] [] I J) {x1 : Int32} {x2 : Int32} {I : sI} {J : sJ} (hw : w_X3_grow_50 post k2 x1 x2 I J) : sG X 3 50 [(0, .ref 224), (1, .int x1), (2, .int x2)] [] I J := by
  unfold w_X3_grow_50 at hw
  obtain ⟨v2_50, ev2_50⟩ : ∃ z : Int32, z = x2 + 1 := ⟨_, rfl⟩
  replace hw := hw v2_50 ev2_50
  refine g_iinc (v := v2_50) (lo2 := [(2, .int v2_50), (0, .ref 224), (1, .int x1)]) h 2 rfl (by rw [ev2_50]; rfl) (by decide) rfl dX3_grow_50 ?_
  refine g_goto (tgt := 2) h (by decide) dX3_grow_53 ?_
  exact g_sub [1, 2, 0] rfl (hk2 _ _ _ _ hw)
def w_X3_grow_2_s (post : sI → sJ → Prop) (k2 : Int32 → Int32 → sI → sJ → Prop) (x1 : Int32) (x2 : Int32) (I : sI) (J : sJ) : Prop :=
  (((I 224 2) ≤ x2 → post I J) ∧ (¬ (I 224 2) ≤ x2 → ((¬ ((x1 >>> (x2 &&& 31)) &&& 1) = 0 → w_X3_grow_50 post k2 x1 x2 I J) ∧ (((x1 >>> (x2 &&& 31)) &&& 1) = 0 → (vp_in x2 14 ∧ ((¬ ((I 226 (Int32.toNatClampNeg x2)) &&& (x1 ^^^ (-1))) = 0 → w_X3_grow_50 post k2 x1 x2 I J) ∧ (((I 226 (Int32.toNatClampNeg x2)) &&& (x1 ^^^ (-1))) = 0 → (vp_in (x1 ||| (1 <<< (x2 &&& 31))) 16384 ∧ (vp_in x1 16384 ∧ (vp_in (x1 ||| (1 <<< (x2 &&& 31))) 16384 ∧ (∀ J_49 : sJ, J_49 = sUJ J 225 (Int32.toNatClampNeg (x1 ||| (1 <<< (x2 &&& 31)))) ((J 225 (Int32.toNatClampNeg (x1 ||| (1 <<< (x2 &&& 31))))) + (J 225 (Int32.toNatClampNeg x1))) → w_X3_grow_50 post k2 x1 x2 I J_49)))))))))))
def w_X3_grow_2_n (post : sI → sJ → Prop) : Nat → Int32 → Int32 → sI → sJ → Prop
  | 0 => fun _ _ _ _ => False
  | n + 1 => fun x1 x2 I J => w_X3_grow_2_s post (w_X3_grow_2_n post n) x1 x2 I J
def w_X3_grow_2 (post : sI → sJ → Prop) (x1 : Int32) (x2 : Int32) (I : sI) (J : sJ) : Prop := ∃ n, w_X3_grow_2_n post n x1 x2 I J
set_option maxHeartbeats 4000000 in
set_option maxRecDepth 100000 in
theorem t_X3_grow_2_s {X : sX} {post : sI → sJ → Prop} (h : sOK X cX3_grow RX3 3 0 0) (hr : sRt X none (sPv post)) {k2 : Int32 → Int32 → sI → sJ → Prop} (hk2 : ∀ (x1 : Int32) (x2 : Int32) (I : sI) (J : sJ), k2 x1 x2 I J → sG X 3 2 [(0, .ref 224), (1, .int x1), (2, .int x2)] [] I J) {x1 : Int32} {x2 : Int32} {I : sI} {J : sJ} (hw : w_X3_grow_2_s post k2 x1 x2 I J) : sG X 3 2 [(0, .ref 224), (1, .int x1), (2, .int x2)] [] I J := by
  unfold w_X3_grow_2_s at hw
  refine g_iload_n h rfl 2 rfl dX3_grow_2 ?_
  refine g_aload_n h rfl 0 rfl dX3_grow_3 ?_
  refine g_get h is_224 fl_X3_25 rfl dX3_grow_4 ?_
  refine g_icmp_ge (tgt := 56) h (by decide) dX3_grow_7 (fun q7 => ?_) (fun q7 => ?_)
  · replace hw := hw.1 q7
    exact g_vret h hr dX3_grow_56 hw
  · replace hw := hw.2 q7
    refine g_iload_n h rfl 1 rfl dX3_grow_10 ?_
    refine g_iload_n h rfl 2 rfl dX3_grow_11 ?_
    refine g_ishr h dX3_grow_12 ?_
    refine g_iconst (v := 1) h (by decide) dX3_grow_13 ?_
    refine g_iand h dX3_grow_14 ?_
    refine g_if_ne (tgt := 50) h (by decide) dX3_grow_15 (fun q15 => ?_) (fun q15 => ?_)
    · replace hw := hw.1 q15
      exact g_sub [0, 1, 2] rfl (t_X3_grow_50 h hr hk2 hw)
    · replace hw := hw.2 q15
      refine g_aload_n h rfl 0 rfl dX3_grow_18 ?_
      refine g_get h is_224 fl_X3_15 fr_224_1 dX3_grow_19 ?_
      refine g_iload_n h rfl 2 rfl dX3_grow_22 ?_
      obtain ⟨hi23, hw⟩ := hw
      refine g_iald h ar_226 hi23 dX3_grow_23 ?_
      refine g_iload_n h rfl 1 rfl dX3_grow_24 ?_
      refine g_iconst (v := (-1)) h (by decide) dX3_grow_25 ?_
      refine g_ixor h dX3_grow_26 ?_
      refine g_iand h dX3_grow_27 ?_
      refine g_if_ne (tgt := 50) h (by decide) dX3_grow_28 (fun q28 => ?_) (fun q28 => ?_)
      · replace hw := hw.1 q28
        exact g_sub [0, 1, 2] rfl (t_X3_grow_50 h hr hk2 hw)
      · replace hw := hw.2 q28
        refine g_aload_n h rfl 0 rfl dX3_grow_31 ?_
        refine g_get h is_224 fl_X3_9 fr_224_0 dX3_grow_32 ?_
        refine g_iload_n h rfl 1 rfl dX3_grow_35 ?_
        refine g_iconst (v := 1) h (by decide) dX3_grow_36 ?_
        refine g_iload_n h rfl 2 rfl dX3_grow_37 ?_
        refine g_ishl h dX3_grow_38 ?_
        refine g_ior h dX3_grow_39 ?_
        refine g_dup2 h rfl rfl dX3_grow_40 ?_
        obtain ⟨hi41, hw⟩ := hw
        refine g_lald h ar_225 hi41 dX3_grow_41 ?_
        refine g_aload_n h rfl 0 rfl dX3_grow_42 ?_
        refine g_get h is_224 fl_X3_9 fr_224_0 dX3_grow_43 ?_
        refine g_iload_n h rfl 1 rfl dX3_grow_46 ?_
        obtain ⟨hi47, hw⟩ := hw
        refine g_lald h ar_225 hi47 dX3_grow_47 ?_
        refine g_ladd h dX3_grow_48 ?_
        obtain ⟨hi49, hw⟩ := hw
        refine g_last h ar_225 hi49 dX3_grow_49 ?_
        refine g_nJ (fun J_49 eJ_49 => ?_)
        replace hw := hw J_49 eJ_49
        exact g_sub [0, 1, 2] rfl (t_X3_grow_50 h hr hk2 hw)
theorem t_X3_grow_2 {X : sX} {post : sI → sJ → Prop} (h : sOK X cX3_grow RX3 3 0 0) (hr : sRt X none (sPv post)) {x1 : Int32} {x2 : Int32} {I : sI} {J : sJ} (hw : w_X3_grow_2 post x1 x2 I J) : sG X 3 2 [(0, .ref 224), (1, .int x1), (2, .int x2)] [] I J := by
  obtain ⟨n, hw⟩ := hw
  induction n generalizing x1 x2 I J with
  | zero => exact hw.elim
  | succ n ih => exact t_X3_grow_2_s h hr (fun _ _ _ _ q => ih q) hw
def w_X3_grow (a1 : Int32) (I : sI) (J : sJ) (post : sI → sJ → Prop) : Prop :=
  w_X3_grow_2 post a1 0 I J
set_option maxHeartbeats 4000000 in
set_option maxRecDepth 100000 in
theorem t_X3_grow {X : sX} {a1 : Int32} {I : sI} {J : sJ} {post : sI → sJ → Prop} (h : sOK X cX3_grow RX3 3 0 0) (hr : sRt X none (sPv post)) (hw : w_X3_grow a1 I J post) : sG X 3 0 [(0, .ref 224), (1, .int a1)] [] I J := by
  unfold w_X3_grow at hw
  refine g_iconst (v := 0) h (by decide) dX3_grow_0 ?_
  refine g_istore_n (lo2 := [(2, .int 0), (0, .ref 224), (1, .int a1)]) h rfl (by decide) rfl dX3_grow_1 ?_
  exact g_sub [1, 2, 0] rfl (t_X3_grow_2 h hr hw)
theorem c_X3_grow (X : sX) {a1 : Int32} {I : sI} {J : sJ} {post : sI → sJ → Prop} (hw : w_X3_grow a1 I J post) : sCall X yX3_grow cX3_grow 3 none 0 0 [.ref 224, .int a1] I J (sPv post) := sCall_of (by decide +kernel) (Nat.le_of_ble_eq_true rfl) (fun X h hr => t_X3_grow h hr hw)
theorem dX3_number_0 : decode cX3_number 0 = .ok (.iconst 1, 1) := by decide +kernel
theorem dX3_number_1 : decode cX3_number 1 = .ok (.aload_n 0, 1) := by decide +kernel
theorem dX3_number_2 : decode cX3_number 2 = .ok (.getfield 25, 3) := by decide +kernel
theorem dX3_number_5 : decode cX3_number 5 = .ok (.ishl, 1) := by decide +kernel
theorem dX3_number_6 : decode cX3_number 6 = .ok (.istore_n 1, 1) := by decide +kernel
theorem dX3_number_7 : decode cX3_number 7 = .ok (.iconst 0, 1) := by decide +kernel
theorem dX3_number_8 : decode cX3_number 8 = .ok (.istore_n 2, 1) := by decide +kernel
theorem dX3_number_9 : decode cX3_number 9 = .ok (.iload_n 2, 1) := by decide +kernel
theorem dX3_number_10 : decode cX3_number 10 = .ok (.iload_n 1, 1) := by decide +kernel
theorem dX3_number_11 : decode cX3_number 11 = .ok (.if_icmp .ge 16, 3) := by decide +kernel
theorem dX3_number_14 : decode cX3_number 14 = .ok (.aload_n 0, 1) := by decide +kernel
theorem dX3_number_15 : decode cX3_number 15 = .ok (.getfield 9, 3) := by decide +kernel
theorem dX3_number_18 : decode cX3_number 18 = .ok (.iload_n 2, 1) := by decide +kernel
theorem dX3_number_19 : decode cX3_number 19 = .ok (.lconst 0, 1) := by decide +kernel
theorem dX3_number_20 : decode cX3_number 20 = .ok (.lastore, 1) := by decide +kernel
theorem dX3_number_21 : decode cX3_number 21 = .ok (.iinc 2 1, 3) := by decide +kernel
theorem dX3_number_24 : decode cX3_number 24 = .ok (.goto (-15), 3) := by decide +kernel
theorem dX3_number_27 : decode cX3_number 27 = .ok (.aload_n 0, 1) := by decide +kernel
theorem dX3_number_28 : decode cX3_number 28 = .ok (.getfield 9, 3) := by decide +kernel
theorem dX3_number_31 : decode cX3_number 31 = .ok (.iconst 0, 1) := by decide +kernel
theorem dX3_number_32 : decode cX3_number 32 = .ok (.lconst 1, 1) := by decide +kernel
theorem dX3_number_33 : decode cX3_number 33 = .ok (.lastore, 1) := by decide +kernel
theorem dX3_number_34 : decode cX3_number 34 = .ok (.iconst 0, 1) := by decide +kernel
theorem dX3_number_35 : decode cX3_number 35 = .ok (.istore_n 2, 1) := by decide +kernel
theorem dX3_number_36 : decode cX3_number 36 = .ok (.iload_n 2, 1) := by decide +kernel
theorem dX3_number_37 : decode cX3_number 37 = .ok (.iload_n 1, 1) := by decide +kernel
theorem dX3_number_38 : decode cX3_number 38 = .ok (.iconst 1, 1) := by decide +kernel
theorem dX3_number_39 : decode cX3_number 39 = .ok (.isub, 1) := by decide +kernel
theorem dX3_number_40 : decode cX3_number 40 = .ok (.if_icmp .ge 25, 3) := by decide +kernel
theorem dX3_number_43 : decode cX3_number 43 = .ok (.aload_n 0, 1) := by decide +kernel
theorem dX3_number_44 : decode cX3_number 44 = .ok (.getfield 9, 3) := by decide +kernel
theorem dX3_number_47 : decode cX3_number 47 = .ok (.iload_n 2, 1) := by decide +kernel
theorem dX3_number_48 : decode cX3_number 48 = .ok (.laload, 1) := by decide +kernel
theorem dX3_number_49 : decode cX3_number 49 = .ok (.lconst 0, 1) := by decide +kernel
theorem dX3_number_50 : decode cX3_number 50 = .ok (.lcmp, 1) := by decide +kernel
theorem dX3_number_51 : decode cX3_number 51 = .ok (.ifCond .eq 8, 3) := by decide +kernel
theorem dX3_number_54 : decode cX3_number 54 = .ok (.aload_n 0, 1) := by decide +kernel
theorem dX3_number_55 : decode cX3_number 55 = .ok (.iload_n 2, 1) := by decide +kernel
theorem dX3_number_56 : decode cX3_number 56 = .ok (.invokevirtual 44, 3) := by decide +kernel
theorem dX3_number_59 : decode cX3_number 59 = .ok (.iinc 2 1, 3) := by decide +kernel
theorem dX3_number_62 : decode cX3_number 62 = .ok (.goto (-26), 3) := by decide +kernel
theorem dX3_number_65 : decode cX3_number 65 = .ok (.aload_n 0, 1) := by decide +kernel
theorem dX3_number_66 : decode cX3_number 66 = .ok (.getfield 9, 3) := by decide +kernel
theorem dX3_number_69 : decode cX3_number 69 = .ok (.iload_n 1, 1) := by decide +kernel
theorem dX3_number_70 : decode cX3_number 70 = .ok (.iconst 1, 1) := by decide +kernel
theorem dX3_number_71 : decode cX3_number 71 = .ok (.isub, 1) := by decide +kernel
theorem dX3_number_72 : decode cX3_number 72 = .ok (.laload, 1) := by decide +kernel
theorem dX3_number_73 : decode cX3_number 73 = .ok (.lreturn, 1) := by decide +kernel
def w_X3_number_59 (post : Int64 → sI → sJ → Prop) (k36 : Int32 → Int32 → sI → sJ → Prop) (x1 : Int32) (x2 : Int32) (I : sI) (J : sJ) : Prop :=
  (∀ v2_59 : Int32, v2_59 = x2 + 1 → k36 x1 v2_59 I J)
set_option maxHeartbeats 4000000 in
set_option maxRecDepth 100000 in
theorem t_X3_number_59 {X : sX} {post : Int64 → sI → sJ → Prop} (h : sOK X cX3_number RX3 3 1 22) (hr : sRt X (some .long) (sPl post)) {k36 : Int32 → Int32 → sI → sJ → Prop} (hk36 : ∀ (x1 : Int32) (x2 : Int32) (I : sI) (J : sJ), k36 x1 x2 I J → sG X 3 36 [(0, .ref 224), (1, .int x1), (2, .int x2)] [] I J) {x1 : Int32} {x2 : Int32} {I : sI} {J : sJ} (hw : w_X3_number_59 post k36 x1 x2 I J) : sG X 3 59 [(0, .ref 224), (1, .int x1), (2, .int x2)] [] I J := by
  unfold w_X3_number_59 at hw
  obtain ⟨v2_59, ev2_59⟩ : ∃ z : Int32, z = x2 + 1 := ⟨_, rfl⟩
  replace hw := hw v2_59 ev2_59
  refine g_iinc (v := v2_59) (lo2 := [(2, .int v2_59), (0, .ref 224), (1, .int x1)]) h 2 rfl (by rw [ev2_59]; rfl) (by decide) rfl dX3_number_59 ?_
  refine g_goto (tgt := 36) h (by decide) dX3_number_62 ?_
  exact g_sub [1, 2, 0] rfl (hk36 _ _ _ _ hw)
def w_X3_number_36_s (post : Int64 → sI → sJ → Prop) (k36 : Int32 → Int32 → sI → sJ → Prop) (x1 : Int32) (x2 : Int32) (I : sI) (J : sJ) : Prop :=
  (((x1 - 1) ≤ x2 → (vp_in (x1 - 1) 16384 ∧ post (J 225 (Int32.toNatClampNeg (x1 - 1))) I J)) ∧ (¬ (x1 - 1) ≤ x2 → (vp_in x2 16384 ∧ (((lg_cmp (J 225 (Int32.toNatClampNeg x2)) 0) = 0 → w_X3_number_59 post k36 x1 x2 I J) ∧ (¬ (lg_cmp (J 225 (Int32.toNatClampNeg x2)) 0) = 0 → w_X3_grow x2 I J (fun (I_56 : sI) (J_56 : sJ) => (w_X3_number_59 post k36 x1 x2 I_56 J_56)))))))
def w_X3_number_36_n (post : Int64 → sI → sJ → Prop) : Nat → Int32 → Int32 → sI → sJ → Prop
  | 0 => fun _ _ _ _ => False
  | n + 1 => fun x1 x2 I J => w_X3_number_36_s post (w_X3_number_36_n post n) x1 x2 I J
def w_X3_number_36 (post : Int64 → sI → sJ → Prop) (x1 : Int32) (x2 : Int32) (I : sI) (J : sJ) : Prop := ∃ n, w_X3_number_36_n post n x1 x2 I J
set_option maxHeartbeats 4000000 in
set_option maxRecDepth 100000 in
theorem t_X3_number_36_s {X : sX} {post : Int64 → sI → sJ → Prop} (h : sOK X cX3_number RX3 3 1 22) (hr : sRt X (some .long) (sPl post)) {k36 : Int32 → Int32 → sI → sJ → Prop} (hk36 : ∀ (x1 : Int32) (x2 : Int32) (I : sI) (J : sJ), k36 x1 x2 I J → sG X 3 36 [(0, .ref 224), (1, .int x1), (2, .int x2)] [] I J) {x1 : Int32} {x2 : Int32} {I : sI} {J : sJ} (hw : w_X3_number_36_s post k36 x1 x2 I J) : sG X 3 36 [(0, .ref 224), (1, .int x1), (2, .int x2)] [] I J := by
  unfold w_X3_number_36_s at hw
  refine g_iload_n h rfl 2 rfl dX3_number_36 ?_
  refine g_iload_n h rfl 1 rfl dX3_number_37 ?_
  refine g_iconst (v := 1) h (by decide) dX3_number_38 ?_
  refine g_isub h dX3_number_39 ?_
  refine g_icmp_ge (tgt := 65) h (by decide) dX3_number_40 (fun q40 => ?_) (fun q40 => ?_)
  · replace hw := hw.1 q40
    refine g_aload_n h rfl 0 rfl dX3_number_65 ?_
    refine g_get h is_224 fl_X3_9 fr_224_0 dX3_number_66 ?_
    refine g_iload_n h rfl 1 rfl dX3_number_69 ?_
    refine g_iconst (v := 1) h (by decide) dX3_number_70 ?_
    refine g_isub h dX3_number_71 ?_
    obtain ⟨hi72, hw⟩ := hw
    refine g_lald h ar_225 hi72 dX3_number_72 ?_
    exact g_lret h hr dX3_number_73 hw
  · replace hw := hw.2 q40
    refine g_aload_n h rfl 0 rfl dX3_number_43 ?_
    refine g_get h is_224 fl_X3_9 fr_224_0 dX3_number_44 ?_
    refine g_iload_n h rfl 2 rfl dX3_number_47 ?_
    obtain ⟨hi48, hw⟩ := hw
    refine g_lald h ar_225 hi48 dX3_number_48 ?_
    refine g_lconst (v := 0) h (by decide) dX3_number_49 ?_
    refine g_lcmp h dX3_number_50 ?_
    refine g_if_eq (tgt := 59) h (by decide) dX3_number_51 (fun q51 => ?_) (fun q51 => ?_)
    · replace hw := hw.1 q51
      exact g_sub [0, 1, 2] rfl (t_X3_number_59 h hr hk36 hw)
    · replace hw := hw.2 q51
      refine g_aload_n h rfl 0 rfl dX3_number_54 ?_
      refine g_iload_n h rfl 2 rfl dX3_number_55 ?_
      refine g_callV [.int x2] h (c_X3_grow X hw) sPv_v mw_X3_grow lk_X3_44 is_224 rfl rfl ⟨by decide, by decide⟩ (Nat.le_of_ble_eq_true rfl) dX3_number_56 (sPv_k (fun I_56 J_56 hw => ?_))
      exact g_sub [0, 1, 2] rfl (t_X3_number_59 h hr hk36 hw)
theorem t_X3_number_36 {X : sX} {post : Int64 → sI → sJ → Prop} (h : sOK X cX3_number RX3 3 1 22) (hr : sRt X (some .long) (sPl post)) {x1 : Int32} {x2 : Int32} {I : sI} {J : sJ} (hw : w_X3_number_36 post x1 x2 I J) : sG X 3 36 [(0, .ref 224), (1, .int x1), (2, .int x2)] [] I J := by
  obtain ⟨n, hw⟩ := hw
  induction n generalizing x1 x2 I J with
  | zero => exact hw.elim
  | succ n ih => exact t_X3_number_36_s h hr (fun _ _ _ _ q => ih q) hw
def w_X3_number_9_s (post : Int64 → sI → sJ → Prop) (k9 : Int32 → Int32 → sI → sJ → Prop) (x1 : Int32) (x2 : Int32) (I : sI) (J : sJ) : Prop :=
  ((x1 ≤ x2 → (vp_in 0 16384 ∧ (∀ J_33 : sJ, J_33 = sUJ J 225 (Int32.toNatClampNeg 0) 1 → w_X3_number_36 post x1 0 I J_33))) ∧ (¬ x1 ≤ x2 → (vp_in x2 16384 ∧ (∀ J_20 : sJ, J_20 = sUJ J 225 (Int32.toNatClampNeg x2) 0 → (∀ v2_21 : Int32, v2_21 = x2 + 1 → k9 x1 v2_21 I J_20)))))
def w_X3_number_9_n (post : Int64 → sI → sJ → Prop) : Nat → Int32 → Int32 → sI → sJ → Prop
  | 0 => fun _ _ _ _ => False
  | n + 1 => fun x1 x2 I J => w_X3_number_9_s post (w_X3_number_9_n post n) x1 x2 I J
def w_X3_number_9 (post : Int64 → sI → sJ → Prop) (x1 : Int32) (x2 : Int32) (I : sI) (J : sJ) : Prop := ∃ n, w_X3_number_9_n post n x1 x2 I J
set_option maxHeartbeats 4000000 in
set_option maxRecDepth 100000 in
theorem t_X3_number_9_s {X : sX} {post : Int64 → sI → sJ → Prop} (h : sOK X cX3_number RX3 3 1 22) (hr : sRt X (some .long) (sPl post)) {k9 : Int32 → Int32 → sI → sJ → Prop} (hk9 : ∀ (x1 : Int32) (x2 : Int32) (I : sI) (J : sJ), k9 x1 x2 I J → sG X 3 9 [(0, .ref 224), (1, .int x1), (2, .int x2)] [] I J) {x1 : Int32} {x2 : Int32} {I : sI} {J : sJ} (hw : w_X3_number_9_s post k9 x1 x2 I J) : sG X 3 9 [(0, .ref 224), (1, .int x1), (2, .int x2)] [] I J := by
  unfold w_X3_number_9_s at hw
  refine g_iload_n h rfl 2 rfl dX3_number_9 ?_
  refine g_iload_n h rfl 1 rfl dX3_number_10 ?_
  refine g_icmp_ge (tgt := 27) h (by decide) dX3_number_11 (fun q11 => ?_) (fun q11 => ?_)
  · replace hw := hw.1 q11
    refine g_aload_n h rfl 0 rfl dX3_number_27 ?_
    refine g_get h is_224 fl_X3_9 fr_224_0 dX3_number_28 ?_
    refine g_iconst (v := 0) h (by decide) dX3_number_31 ?_
    refine g_lconst (v := 1) h (by decide) dX3_number_32 ?_
    obtain ⟨hi33, hw⟩ := hw
    refine g_last h ar_225 hi33 dX3_number_33 ?_
    refine g_nJ (fun J_33 eJ_33 => ?_)
    replace hw := hw J_33 eJ_33
    refine g_iconst (v := 0) h (by decide) dX3_number_34 ?_
    refine g_istore_n (lo2 := [(2, .int 0), (0, .ref 224), (1, .int x1)]) h rfl (by decide) rfl dX3_number_35 ?_
    exact g_sub [1, 2, 0] rfl (t_X3_number_36 h hr hw)
  · replace hw := hw.2 q11
    refine g_aload_n h rfl 0 rfl dX3_number_14 ?_
    refine g_get h is_224 fl_X3_9 fr_224_0 dX3_number_15 ?_
    refine g_iload_n h rfl 2 rfl dX3_number_18 ?_
    refine g_lconst (v := 0) h (by decide) dX3_number_19 ?_
    obtain ⟨hi20, hw⟩ := hw
    refine g_last h ar_225 hi20 dX3_number_20 ?_
    refine g_nJ (fun J_20 eJ_20 => ?_)
    replace hw := hw J_20 eJ_20
    obtain ⟨v2_21, ev2_21⟩ : ∃ z : Int32, z = x2 + 1 := ⟨_, rfl⟩
    replace hw := hw v2_21 ev2_21
    refine g_iinc (v := v2_21) (lo2 := [(2, .int v2_21), (0, .ref 224), (1, .int x1)]) h 2 rfl (by rw [ev2_21]; rfl) (by decide) rfl dX3_number_21 ?_
    refine g_goto (tgt := 9) h (by decide) dX3_number_24 ?_
    exact g_sub [1, 2, 0] rfl (hk9 _ _ _ _ hw)
theorem t_X3_number_9 {X : sX} {post : Int64 → sI → sJ → Prop} (h : sOK X cX3_number RX3 3 1 22) (hr : sRt X (some .long) (sPl post)) {x1 : Int32} {x2 : Int32} {I : sI} {J : sJ} (hw : w_X3_number_9 post x1 x2 I J) : sG X 3 9 [(0, .ref 224), (1, .int x1), (2, .int x2)] [] I J := by
  obtain ⟨n, hw⟩ := hw
  induction n generalizing x1 x2 I J with
  | zero => exact hw.elim
  | succ n ih => exact t_X3_number_9_s h hr (fun _ _ _ _ q => ih q) hw
def w_X3_number (I : sI) (J : sJ) (post : Int64 → sI → sJ → Prop) : Prop :=
  (∀ v1_6 : Int32, v1_6 = 1 <<< ((I 224 2) &&& 31) → w_X3_number_9 post v1_6 0 I J)
set_option maxHeartbeats 4000000 in
set_option maxRecDepth 100000 in
theorem t_X3_number {X : sX} {I : sI} {J : sJ} {post : Int64 → sI → sJ → Prop} (h : sOK X cX3_number RX3 3 1 22) (hr : sRt X (some .long) (sPl post)) (hw : w_X3_number I J post) : sG X 3 0 [(0, .ref 224)] [] I J := by
  unfold w_X3_number at hw
  refine g_iconst (v := 1) h (by decide) dX3_number_0 ?_
  refine g_aload_n h rfl 0 rfl dX3_number_1 ?_
  refine g_get h is_224 fl_X3_25 rfl dX3_number_2 ?_
  refine g_ishl h dX3_number_5 ?_
  refine g_ni (fun v1_6 ev1_6 => ?_)
  replace hw := hw v1_6 ev1_6
  refine g_istore_n (lo2 := [(1, .int v1_6), (0, .ref 224)]) h rfl (by decide) rfl dX3_number_6 ?_
  refine g_iconst (v := 0) h (by decide) dX3_number_7 ?_
  refine g_istore_n (lo2 := [(2, .int 0), (1, .int v1_6), (0, .ref 224)]) h rfl (by decide) rfl dX3_number_8 ?_
  exact g_sub [2, 1, 0] rfl (t_X3_number_9 h hr hw)
theorem c_X3_number (X : sX) {I : sI} {J : sJ} {post : Int64 → sI → sJ → Prop} (hw : w_X3_number I J post) : sCall X yX3_number cX3_number 3 (some .long) 1 22 [.ref 224] I J (sPl post) := sCall_of (by decide +kernel) (Nat.le_of_ble_eq_true rfl) (fun X h hr => t_X3_number h hr hw)
theorem dX4_has_0 : decode cX4_has 0 = .ok (.iconst 0, 1) := by decide +kernel
theorem dX4_has_1 : decode cX4_has 1 = .ok (.istore_n 3, 1) := by decide +kernel
theorem dX4_has_2 : decode cX4_has 2 = .ok (.iload_n 3, 1) := by decide +kernel
theorem dX4_has_3 : decode cX4_has 3 = .ok (.aload_n 0, 1) := by decide +kernel
theorem dX4_has_4 : decode cX4_has 4 = .ok (.getfield 18, 3) := by decide +kernel
theorem dX4_has_7 : decode cX4_has 7 = .ok (.if_icmp .ge 31, 3) := by decide +kernel
theorem dX4_has_10 : decode cX4_has 10 = .ok (.aload_n 0, 1) := by decide +kernel
theorem dX4_has_11 : decode cX4_has 11 = .ok (.getfield 9, 3) := by decide +kernel
theorem dX4_has_14 : decode cX4_has 14 = .ok (.iload_n 3, 1) := by decide +kernel
theorem dX4_has_15 : decode cX4_has 15 = .ok (.iaload, 1) := by decide +kernel
theorem dX4_has_16 : decode cX4_has 16 = .ok (.iload_n 1, 1) := by decide +kernel
theorem dX4_has_17 : decode cX4_has 17 = .ok (.if_icmp .ne 15, 3) := by decide +kernel
theorem dX4_has_20 : decode cX4_has 20 = .ok (.aload_n 0, 1) := by decide +kernel
theorem dX4_has_21 : decode cX4_has 21 = .ok (.getfield 15, 3) := by decide +kernel
theorem dX4_has_24 : decode cX4_has 24 = .ok (.iload_n 3, 1) := by decide +kernel
theorem dX4_has_25 : decode cX4_has 25 = .ok (.iaload, 1) := by decide +kernel
theorem dX4_has_26 : decode cX4_has 26 = .ok (.iload_n 2, 1) := by decide +kernel
theorem dX4_has_27 : decode cX4_has 27 = .ok (.if_icmp .ne 5, 3) := by decide +kernel
theorem dX4_has_30 : decode cX4_has 30 = .ok (.iconst 1, 1) := by decide +kernel
theorem dX4_has_31 : decode cX4_has 31 = .ok (.ireturn, 1) := by decide +kernel
theorem dX4_has_32 : decode cX4_has 32 = .ok (.iinc 3 1, 3) := by decide +kernel
theorem dX4_has_35 : decode cX4_has 35 = .ok (.goto (-33), 3) := by decide +kernel
theorem dX4_has_38 : decode cX4_has 38 = .ok (.iconst 0, 1) := by decide +kernel
theorem dX4_has_39 : decode cX4_has 39 = .ok (.ireturn, 1) := by decide +kernel
def w_X4_has_32 (h0 : Nat) (post : Int32 → sI → sJ → Prop) (k2 : Int32 → Int32 → Int32 → sI → sJ → Prop) (x1 : Int32) (x2 : Int32) (x3 : Int32) (I : sI) (J : sJ) : Prop :=
  (∀ v3_32 : Int32, v3_32 = x3 + 1 → k2 x1 x2 v3_32 I J)
set_option maxHeartbeats 4000000 in
set_option maxRecDepth 100000 in
theorem t_X4_has_32 {X : sX} {h0 : Nat} (ph0 : sIs h0 4) {post : Int32 → sI → sJ → Prop} (h : sOK X cX4_has RX4 4 0 0) (hr : sRt X (some .boolean) (sPi post)) {k2 : Int32 → Int32 → Int32 → sI → sJ → Prop} (hk2 : ∀ (x1 : Int32) (x2 : Int32) (x3 : Int32) (I : sI) (J : sJ), k2 x1 x2 x3 I J → sG X 4 2 [(0, .ref h0), (1, .int x1), (2, .int x2), (3, .int x3)] [] I J) {x1 : Int32} {x2 : Int32} {x3 : Int32} {I : sI} {J : sJ} (hw : w_X4_has_32 h0 post k2 x1 x2 x3 I J) : sG X 4 32 [(0, .ref h0), (1, .int x1), (2, .int x2), (3, .int x3)] [] I J := by
  unfold w_X4_has_32 at hw
  obtain ⟨v3_32, ev3_32⟩ : ∃ z : Int32, z = x3 + 1 := ⟨_, rfl⟩
  replace hw := hw v3_32 ev3_32
  refine g_iinc (v := v3_32) (lo2 := [(3, .int v3_32), (0, .ref h0), (1, .int x1), (2, .int x2)]) h 3 rfl (by rw [ev3_32]; rfl) (by decide) rfl dX4_has_32 ?_
  refine g_goto (tgt := 2) h (by decide) dX4_has_35 ?_
  exact g_sub [1, 2, 3, 0] rfl (hk2 _ _ _ _ _ hw)
def w_X4_has_2_s (h0 : Nat) (post : Int32 → sI → sJ → Prop) (k2 : Int32 → Int32 → Int32 → sI → sJ → Prop) (x1 : Int32) (x2 : Int32) (x3 : Int32) (I : sI) (J : sJ) : Prop :=
  (((I h0 2) ≤ x3 → post 0 I J) ∧ (¬ (I h0 2) ≤ x3 → (vp_in x3 12 ∧ ((¬ (I (sR h0 0) (Int32.toNatClampNeg x3)) = x1 → w_X4_has_32 h0 post k2 x1 x2 x3 I J) ∧ ((I (sR h0 0) (Int32.toNatClampNeg x3)) = x1 → (vp_in x3 12 ∧ ((¬ (I (sR h0 1) (Int32.toNatClampNeg x3)) = x2 → w_X4_has_32 h0 post k2 x1 x2 x3 I J) ∧ ((I (sR h0 1) (Int32.toNatClampNeg x3)) = x2 → post 1 I J))))))))
def w_X4_has_2_n (h0 : Nat) (post : Int32 → sI → sJ → Prop) : Nat → Int32 → Int32 → Int32 → sI → sJ → Prop
  | 0 => fun _ _ _ _ _ => False
  | n + 1 => fun x1 x2 x3 I J => w_X4_has_2_s h0 post (w_X4_has_2_n h0 post n) x1 x2 x3 I J
def w_X4_has_2 (h0 : Nat) (post : Int32 → sI → sJ → Prop) (x1 : Int32) (x2 : Int32) (x3 : Int32) (I : sI) (J : sJ) : Prop := ∃ n, w_X4_has_2_n h0 post n x1 x2 x3 I J
set_option maxHeartbeats 4000000 in
set_option maxRecDepth 100000 in
theorem t_X4_has_2_s {X : sX} {h0 : Nat} (ph0 : sIs h0 4) {post : Int32 → sI → sJ → Prop} (h : sOK X cX4_has RX4 4 0 0) (hr : sRt X (some .boolean) (sPi post)) {k2 : Int32 → Int32 → Int32 → sI → sJ → Prop} (hk2 : ∀ (x1 : Int32) (x2 : Int32) (x3 : Int32) (I : sI) (J : sJ), k2 x1 x2 x3 I J → sG X 4 2 [(0, .ref h0), (1, .int x1), (2, .int x2), (3, .int x3)] [] I J) {x1 : Int32} {x2 : Int32} {x3 : Int32} {I : sI} {J : sJ} (hw : w_X4_has_2_s h0 post k2 x1 x2 x3 I J) : sG X 4 2 [(0, .ref h0), (1, .int x1), (2, .int x2), (3, .int x3)] [] I J := by
  unfold w_X4_has_2_s at hw
  refine g_iload_n h rfl 3 rfl dX4_has_2 ?_
  refine g_aload_n h rfl 0 rfl dX4_has_3 ?_
  refine g_get h ph0 fl_X4_18 rfl dX4_has_4 ?_
  refine g_icmp_ge (tgt := 38) h (by decide) dX4_has_7 (fun q7 => ?_) (fun q7 => ?_)
  · replace hw := hw.1 q7
    refine g_iconst (v := 0) h (by decide) dX4_has_38 ?_
    exact g_zret h hr (Or.inl rfl) dX4_has_39 hw
  · replace hw := hw.2 q7
    refine g_aload_n h rfl 0 rfl dX4_has_10 ?_
    refine g_get h ph0 fl_X4_9 rfl dX4_has_11 ?_
    refine g_iload_n h rfl 3 rfl dX4_has_14 ?_
    obtain ⟨hi15, hw⟩ := hw
    refine g_iald h (arF_4_0 ph0) hi15 dX4_has_15 ?_
    refine g_iload_n h rfl 1 rfl dX4_has_16 ?_
    refine g_icmp_ne (tgt := 32) h (by decide) dX4_has_17 (fun q17 => ?_) (fun q17 => ?_)
    · replace hw := hw.1 q17
      exact g_sub [0, 1, 2, 3] rfl (t_X4_has_32 ph0 h hr hk2 hw)
    · replace hw := hw.2 q17
      refine g_aload_n h rfl 0 rfl dX4_has_20 ?_
      refine g_get h ph0 fl_X4_15 rfl dX4_has_21 ?_
      refine g_iload_n h rfl 3 rfl dX4_has_24 ?_
      obtain ⟨hi25, hw⟩ := hw
      refine g_iald h (arF_4_1 ph0) hi25 dX4_has_25 ?_
      refine g_iload_n h rfl 2 rfl dX4_has_26 ?_
      refine g_icmp_ne (tgt := 32) h (by decide) dX4_has_27 (fun q27 => ?_) (fun q27 => ?_)
      · replace hw := hw.1 q27
        exact g_sub [0, 1, 2, 3] rfl (t_X4_has_32 ph0 h hr hk2 hw)
      · replace hw := hw.2 q27
        refine g_iconst (v := 1) h (by decide) dX4_has_30 ?_
        exact g_zret h hr (Or.inr rfl) dX4_has_31 hw
theorem t_X4_has_2 {X : sX} {h0 : Nat} (ph0 : sIs h0 4) {post : Int32 → sI → sJ → Prop} (h : sOK X cX4_has RX4 4 0 0) (hr : sRt X (some .boolean) (sPi post)) {x1 : Int32} {x2 : Int32} {x3 : Int32} {I : sI} {J : sJ} (hw : w_X4_has_2 h0 post x1 x2 x3 I J) : sG X 4 2 [(0, .ref h0), (1, .int x1), (2, .int x2), (3, .int x3)] [] I J := by
  obtain ⟨n, hw⟩ := hw
  induction n generalizing x1 x2 x3 I J with
  | zero => exact hw.elim
  | succ n ih => exact t_X4_has_2_s ph0 h hr (fun _ _ _ _ _ q => ih q) hw
def w_X4_has (h0 : Nat) (a1 : Int32) (a2 : Int32) (I : sI) (J : sJ) (post : Int32 → sI → sJ → Prop) : Prop :=
  w_X4_has_2 h0 post a1 a2 0 I J
set_option maxHeartbeats 4000000 in
set_option maxRecDepth 100000 in
theorem t_X4_has {X : sX} {h0 : Nat} {a1 : Int32} {a2 : Int32} (ph0 : sIs h0 4) {I : sI} {J : sJ} {post : Int32 → sI → sJ → Prop} (h : sOK X cX4_has RX4 4 0 0) (hr : sRt X (some .boolean) (sPi post)) (hw : w_X4_has h0 a1 a2 I J post) : sG X 4 0 [(0, .ref h0), (1, .int a1), (2, .int a2)] [] I J := by
  unfold w_X4_has at hw
  refine g_iconst (v := 0) h (by decide) dX4_has_0 ?_
  refine g_istore_n (lo2 := [(3, .int 0), (0, .ref h0), (1, .int a1), (2, .int a2)]) h rfl (by decide) rfl dX4_has_1 ?_
  exact g_sub [1, 2, 3, 0] rfl (t_X4_has_2 ph0 h hr hw)
theorem c_X4_has (X : sX) {h0 : Nat} {a1 : Int32} {a2 : Int32} (ph0 : sIs h0 4) {I : sI} {J : sJ} {post : Int32 → sI → sJ → Prop} (hw : w_X4_has h0 a1 a2 I J post) : sCall X yX4_has cX4_has 4 (some .boolean) 0 0 [.ref h0, .int a1, .int a2] I J (sPi post) := sCall_of (by decide +kernel) (Nat.le_of_ble_eq_true rfl) (fun X h hr => t_X4_has ph0 h hr hw)
theorem dX4_add_0 : decode cX4_add 0 = .ok (.aload_n 0, 1) := by decide +kernel
theorem dX4_add_1 : decode cX4_add 1 = .ok (.getfield 18, 3) := by decide +kernel
theorem dX4_add_4 : decode cX4_add 4 = .ok (.bipush 12, 2) := by decide +kernel
theorem dX4_add_6 : decode cX4_add 6 = .ok (.if_icmp .ge 33, 3) := by decide +kernel
theorem dX4_add_9 : decode cX4_add 9 = .ok (.aload_n 0, 1) := by decide +kernel
theorem dX4_add_10 : decode cX4_add 10 = .ok (.getfield 9, 3) := by decide +kernel
theorem dX4_add_13 : decode cX4_add 13 = .ok (.aload_n 0, 1) := by decide +kernel
theorem dX4_add_14 : decode cX4_add 14 = .ok (.getfield 18, 3) := by decide +kernel
theorem dX4_add_17 : decode cX4_add 17 = .ok (.iload_n 1, 1) := by decide +kernel
theorem dX4_add_18 : decode cX4_add 18 = .ok (.iastore, 1) := by decide +kernel
theorem dX4_add_19 : decode cX4_add 19 = .ok (.aload_n 0, 1) := by decide +kernel
theorem dX4_add_20 : decode cX4_add 20 = .ok (.getfield 15, 3) := by decide +kernel
theorem dX4_add_23 : decode cX4_add 23 = .ok (.aload_n 0, 1) := by decide +kernel
theorem dX4_add_24 : decode cX4_add 24 = .ok (.getfield 18, 3) := by decide +kernel
theorem dX4_add_27 : decode cX4_add 27 = .ok (.iload_n 2, 1) := by decide +kernel
theorem dX4_add_28 : decode cX4_add 28 = .ok (.iastore, 1) := by decide +kernel
theorem dX4_add_29 : decode cX4_add 29 = .ok (.aload_n 0, 1) := by decide +kernel
theorem dX4_add_30 : decode cX4_add 30 = .ok (.dup, 1) := by decide +kernel
theorem dX4_add_31 : decode cX4_add 31 = .ok (.getfield 18, 3) := by decide +kernel
theorem dX4_add_34 : decode cX4_add 34 = .ok (.iconst 1, 1) := by decide +kernel
theorem dX4_add_35 : decode cX4_add 35 = .ok (.iadd, 1) := by decide +kernel
theorem dX4_add_36 : decode cX4_add 36 = .ok (.putfield 18, 3) := by decide +kernel
theorem dX4_add_39 : decode cX4_add 39 = .ok (.aload_n 0, 1) := by decide +kernel
theorem dX4_add_40 : decode cX4_add 40 = .ok (.getfield 18, 3) := by decide +kernel
theorem dX4_add_43 : decode cX4_add 43 = .ok (.ireturn, 1) := by decide +kernel
def w_X4_add_39 (h0 : Nat) (post : Int32 → sI → sJ → Prop) (I : sI) (J : sJ) : Prop :=
  post (I h0 2) I J
set_option maxHeartbeats 4000000 in
set_option maxRecDepth 100000 in
theorem t_X4_add_39 {X : sX} {h0 : Nat} (ph0 : sIs h0 4) {post : Int32 → sI → sJ → Prop} (h : sOK X cX4_add RX4 3 0 0) (hr : sRt X (some .int) (sPi post)) {I : sI} {J : sJ} (hw : w_X4_add_39 h0 post I J) : sG X 3 39 [(0, .ref h0)] [] I J := by
  unfold w_X4_add_39 at hw
  refine g_aload_n h rfl 0 rfl dX4_add_39 ?_
  refine g_get h ph0 fl_X4_18 rfl dX4_add_40 ?_
  exact g_iret h hr dX4_add_43 hw
def w_X4_add (h0 : Nat) (a1 : Int32) (a2 : Int32) (I : sI) (J : sJ) (post : Int32 → sI → sJ → Prop) : Prop :=
  ((12 ≤ (I h0 2) → w_X4_add_39 h0 post I J) ∧ (¬ 12 ≤ (I h0 2) → (vp_in (I h0 2) 12 ∧ (∀ I_18 : sI, I_18 = sUI I (sR h0 0) (Int32.toNatClampNeg (I h0 2)) a1 → (vp_in (I_18 h0 2) 12 ∧ (∀ I_28 : sI, I_28 = sUI I_18 (sR h0 1) (Int32.toNatClampNeg (I_18 h0 2)) a2 → (∀ I_36 : sI, I_36 = sUI I_28 h0 2 ((I_28 h0 2) + 1) → w_X4_add_39 h0 post I_36 J)))))))
set_option maxHeartbeats 4000000 in
set_option maxRecDepth 100000 in
theorem t_X4_add {X : sX} {h0 : Nat} {a1 : Int32} {a2 : Int32} (ph0 : sIs h0 4) {I : sI} {J : sJ} {post : Int32 → sI → sJ → Prop} (h : sOK X cX4_add RX4 3 0 0) (hr : sRt X (some .int) (sPi post)) (hw : w_X4_add h0 a1 a2 I J post) : sG X 3 0 [(0, .ref h0), (1, .int a1), (2, .int a2)] [] I J := by
  unfold w_X4_add at hw
  refine g_aload_n h rfl 0 rfl dX4_add_0 ?_
  refine g_get h ph0 fl_X4_18 rfl dX4_add_1 ?_
  refine g_bipush (v := 12) h (by decide) dX4_add_4 ?_
  refine g_icmp_ge (tgt := 39) h (by decide) dX4_add_6 (fun q6 => ?_) (fun q6 => ?_)
  · replace hw := hw.1 q6
    exact g_sub [0] rfl (t_X4_add_39 ph0 h hr hw)
  · replace hw := hw.2 q6
    refine g_aload_n h rfl 0 rfl dX4_add_9 ?_
    refine g_get h ph0 fl_X4_9 rfl dX4_add_10 ?_
    refine g_aload_n h rfl 0 rfl dX4_add_13 ?_
    refine g_get h ph0 fl_X4_18 rfl dX4_add_14 ?_
    refine g_iload_n h rfl 1 rfl dX4_add_17 ?_
    obtain ⟨hi18, hw⟩ := hw
    refine g_iast h (arF_4_0 ph0) hi18 dX4_add_18 ?_
    refine g_nI (fun I_18 eI_18 => ?_)
    replace hw := hw I_18 eI_18
    refine g_aload_n h rfl 0 rfl dX4_add_19 ?_
    refine g_get h ph0 fl_X4_15 rfl dX4_add_20 ?_
    refine g_aload_n h rfl 0 rfl dX4_add_23 ?_
    refine g_get h ph0 fl_X4_18 rfl dX4_add_24 ?_
    refine g_iload_n h rfl 2 rfl dX4_add_27 ?_
    obtain ⟨hi28, hw⟩ := hw
    refine g_iast h (arF_4_1 ph0) hi28 dX4_add_28 ?_
    refine g_nI (fun I_28 eI_28 => ?_)
    replace hw := hw I_28 eI_28
    refine g_aload_n h rfl 0 rfl dX4_add_29 ?_
    refine g_dup h rfl dX4_add_30 ?_
    refine g_get h ph0 fl_X4_18 rfl dX4_add_31 ?_
    refine g_iconst (v := 1) h (by decide) dX4_add_34 ?_
    refine g_iadd h dX4_add_35 ?_
    refine g_putI h ph0 fl_X4_18 rfl rfl dX4_add_36 ?_
    refine g_nI (fun I_36 eI_36 => ?_)
    replace hw := hw I_36 eI_36
    exact g_sub [0] rfl (t_X4_add_39 ph0 h hr hw)
theorem c_X4_add (X : sX) {h0 : Nat} {a1 : Int32} {a2 : Int32} (ph0 : sIs h0 4) {I : sI} {J : sJ} {post : Int32 → sI → sJ → Prop} (hw : w_X4_add h0 a1 a2 I J post) : sCall X yX4_add cX4_add 3 (some .int) 0 0 [.ref h0, .int a1, .int a2] I J (sPi post) := sCall_of (by decide +kernel) (Nat.le_of_ble_eq_true rfl) (fun X h hr => t_X4_add ph0 h hr hw)
theorem dX4_take_0 : decode cX4_take 0 = .ok (.aload_n 0, 1) := by decide +kernel
theorem dX4_take_1 : decode cX4_take 1 = .ok (.aload_n 1, 1) := by decide +kernel
theorem dX4_take_2 : decode cX4_take 2 = .ok (.getfield 18, 3) := by decide +kernel
theorem dX4_take_5 : decode cX4_take 5 = .ok (.putfield 18, 3) := by decide +kernel
theorem dX4_take_8 : decode cX4_take 8 = .ok (.iconst 0, 1) := by decide +kernel
theorem dX4_take_9 : decode cX4_take 9 = .ok (.istore_n 2, 1) := by decide +kernel
theorem dX4_take_10 : decode cX4_take 10 = .ok (.iload_n 2, 1) := by decide +kernel
theorem dX4_take_11 : decode cX4_take 11 = .ok (.aload_n 0, 1) := by decide +kernel
theorem dX4_take_12 : decode cX4_take 12 = .ok (.getfield 18, 3) := by decide +kernel
theorem dX4_take_15 : decode cX4_take 15 = .ok (.if_icmp .ge 33, 3) := by decide +kernel
theorem dX4_take_18 : decode cX4_take 18 = .ok (.aload_n 0, 1) := by decide +kernel
theorem dX4_take_19 : decode cX4_take 19 = .ok (.getfield 9, 3) := by decide +kernel
theorem dX4_take_22 : decode cX4_take 22 = .ok (.iload_n 2, 1) := by decide +kernel
theorem dX4_take_23 : decode cX4_take 23 = .ok (.aload_n 1, 1) := by decide +kernel
theorem dX4_take_24 : decode cX4_take 24 = .ok (.getfield 9, 3) := by decide +kernel
theorem dX4_take_27 : decode cX4_take 27 = .ok (.iload_n 2, 1) := by decide +kernel
theorem dX4_take_28 : decode cX4_take 28 = .ok (.iaload, 1) := by decide +kernel
theorem dX4_take_29 : decode cX4_take 29 = .ok (.iastore, 1) := by decide +kernel
theorem dX4_take_30 : decode cX4_take 30 = .ok (.aload_n 0, 1) := by decide +kernel
theorem dX4_take_31 : decode cX4_take 31 = .ok (.getfield 15, 3) := by decide +kernel
theorem dX4_take_34 : decode cX4_take 34 = .ok (.iload_n 2, 1) := by decide +kernel
theorem dX4_take_35 : decode cX4_take 35 = .ok (.aload_n 1, 1) := by decide +kernel
theorem dX4_take_36 : decode cX4_take 36 = .ok (.getfield 15, 3) := by decide +kernel
theorem dX4_take_39 : decode cX4_take 39 = .ok (.iload_n 2, 1) := by decide +kernel
theorem dX4_take_40 : decode cX4_take 40 = .ok (.iaload, 1) := by decide +kernel
theorem dX4_take_41 : decode cX4_take 41 = .ok (.iastore, 1) := by decide +kernel
theorem dX4_take_42 : decode cX4_take 42 = .ok (.iinc 2 1, 3) := by decide +kernel
theorem dX4_take_45 : decode cX4_take 45 = .ok (.goto (-35), 3) := by decide +kernel
theorem dX4_take_48 : decode cX4_take 48 = .ok (.return_, 1) := by decide +kernel
def w_X4_take_10_s (h0 : Nat) (h1 : Nat) (post : sI → sJ → Prop) (k10 : Int32 → sI → sJ → Prop) (x2 : Int32) (I : sI) (J : sJ) : Prop :=
  (((I h0 2) ≤ x2 → post I J) ∧ (¬ (I h0 2) ≤ x2 → (vp_in x2 12 ∧ (vp_in x2 12 ∧ (∀ I_29 : sI, I_29 = sUI I (sR h0 0) (Int32.toNatClampNeg x2) (I (sR h1 0) (Int32.toNatClampNeg x2)) → (vp_in x2 12 ∧ (vp_in x2 12 ∧ (∀ I_41 : sI, I_41 = sUI I_29 (sR h0 1) (Int32.toNatClampNeg x2) (I_29 (sR h1 1) (Int32.toNatClampNeg x2)) → (∀ v2_42 : Int32, v2_42 = x2 + 1 → k10 v2_42 I_41 J)))))))))
def w_X4_take_10_n (h0 : Nat) (h1 : Nat) (post : sI → sJ → Prop) : Nat → Int32 → sI → sJ → Prop
  | 0 => fun _ _ _ => False
  | n + 1 => fun x2 I J => w_X4_take_10_s h0 h1 post (w_X4_take_10_n h0 h1 post n) x2 I J
def w_X4_take_10 (h0 : Nat) (h1 : Nat) (post : sI → sJ → Prop) (x2 : Int32) (I : sI) (J : sJ) : Prop := ∃ n, w_X4_take_10_n h0 h1 post n x2 I J
set_option maxHeartbeats 4000000 in
set_option maxRecDepth 100000 in
theorem t_X4_take_10_s {X : sX} {h0 : Nat} {h1 : Nat} (ph0 : sIs h0 4) (ph1 : sIs h1 4) {post : sI → sJ → Prop} (h : sOK X cX4_take RX4 3 0 0) (hr : sRt X none (sPv post)) {k10 : Int32 → sI → sJ → Prop} (hk10 : ∀ (x2 : Int32) (I : sI) (J : sJ), k10 x2 I J → sG X 3 10 [(0, .ref h0), (1, .ref h1), (2, .int x2)] [] I J) {x2 : Int32} {I : sI} {J : sJ} (hw : w_X4_take_10_s h0 h1 post k10 x2 I J) : sG X 3 10 [(0, .ref h0), (1, .ref h1), (2, .int x2)] [] I J := by
  unfold w_X4_take_10_s at hw
  refine g_iload_n h rfl 2 rfl dX4_take_10 ?_
  refine g_aload_n h rfl 0 rfl dX4_take_11 ?_
  refine g_get h ph0 fl_X4_18 rfl dX4_take_12 ?_
  refine g_icmp_ge (tgt := 48) h (by decide) dX4_take_15 (fun q15 => ?_) (fun q15 => ?_)
  · replace hw := hw.1 q15
    exact g_vret h hr dX4_take_48 hw
  · replace hw := hw.2 q15
    refine g_aload_n h rfl 0 rfl dX4_take_18 ?_
    refine g_get h ph0 fl_X4_9 rfl dX4_take_19 ?_
    refine g_iload_n h rfl 2 rfl dX4_take_22 ?_
    refine g_aload_n h rfl 1 rfl dX4_take_23 ?_
    refine g_get h ph1 fl_X4_9 rfl dX4_take_24 ?_
    refine g_iload_n h rfl 2 rfl dX4_take_27 ?_
    obtain ⟨hi28, hw⟩ := hw
    refine g_iald h (arF_4_0 ph1) hi28 dX4_take_28 ?_
    obtain ⟨hi29, hw⟩ := hw
    refine g_iast h (arF_4_0 ph0) hi29 dX4_take_29 ?_
    refine g_nI (fun I_29 eI_29 => ?_)
    replace hw := hw I_29 eI_29
    refine g_aload_n h rfl 0 rfl dX4_take_30 ?_
    refine g_get h ph0 fl_X4_15 rfl dX4_take_31 ?_
    refine g_iload_n h rfl 2 rfl dX4_take_34 ?_
    refine g_aload_n h rfl 1 rfl dX4_take_35 ?_
    refine g_get h ph1 fl_X4_15 rfl dX4_take_36 ?_
    refine g_iload_n h rfl 2 rfl dX4_take_39 ?_
    obtain ⟨hi40, hw⟩ := hw
    refine g_iald h (arF_4_1 ph1) hi40 dX4_take_40 ?_
    obtain ⟨hi41, hw⟩ := hw
    refine g_iast h (arF_4_1 ph0) hi41 dX4_take_41 ?_
    refine g_nI (fun I_41 eI_41 => ?_)
    replace hw := hw I_41 eI_41
    obtain ⟨v2_42, ev2_42⟩ : ∃ z : Int32, z = x2 + 1 := ⟨_, rfl⟩
    replace hw := hw v2_42 ev2_42
    refine g_iinc (v := v2_42) (lo2 := [(2, .int v2_42), (0, .ref h0), (1, .ref h1)]) h 2 rfl (by rw [ev2_42]; rfl) (by decide) rfl dX4_take_42 ?_
    refine g_goto (tgt := 10) h (by decide) dX4_take_45 ?_
    exact g_sub [1, 2, 0] rfl (hk10 _ _ _ hw)
theorem t_X4_take_10 {X : sX} {h0 : Nat} {h1 : Nat} (ph0 : sIs h0 4) (ph1 : sIs h1 4) {post : sI → sJ → Prop} (h : sOK X cX4_take RX4 3 0 0) (hr : sRt X none (sPv post)) {x2 : Int32} {I : sI} {J : sJ} (hw : w_X4_take_10 h0 h1 post x2 I J) : sG X 3 10 [(0, .ref h0), (1, .ref h1), (2, .int x2)] [] I J := by
  obtain ⟨n, hw⟩ := hw
  induction n generalizing x2 I J with
  | zero => exact hw.elim
  | succ n ih => exact t_X4_take_10_s ph0 ph1 h hr (fun _ _ _ q => ih q) hw
def w_X4_take (h0 : Nat) (h1 : Nat) (I : sI) (J : sJ) (post : sI → sJ → Prop) : Prop :=
  (∀ I_5 : sI, I_5 = sUI I h0 2 (I h1 2) → w_X4_take_10 h0 h1 post 0 I_5 J)
set_option maxHeartbeats 4000000 in
set_option maxRecDepth 100000 in
theorem t_X4_take {X : sX} {h0 : Nat} {h1 : Nat} (ph0 : sIs h0 4) (ph1 : sIs h1 4) {I : sI} {J : sJ} {post : sI → sJ → Prop} (h : sOK X cX4_take RX4 3 0 0) (hr : sRt X none (sPv post)) (hw : w_X4_take h0 h1 I J post) : sG X 3 0 [(0, .ref h0), (1, .ref h1)] [] I J := by
  unfold w_X4_take at hw
  refine g_aload_n h rfl 0 rfl dX4_take_0 ?_
  refine g_aload_n h rfl 1 rfl dX4_take_1 ?_
  refine g_get h ph1 fl_X4_18 rfl dX4_take_2 ?_
  refine g_putI h ph0 fl_X4_18 rfl rfl dX4_take_5 ?_
  refine g_nI (fun I_5 eI_5 => ?_)
  replace hw := hw I_5 eI_5
  refine g_iconst (v := 0) h (by decide) dX4_take_8 ?_
  refine g_istore_n (lo2 := [(2, .int 0), (0, .ref h0), (1, .ref h1)]) h rfl (by decide) rfl dX4_take_9 ?_
  exact g_sub [1, 2, 0] rfl (t_X4_take_10 ph0 ph1 h hr hw)
theorem c_X4_take (X : sX) {h0 : Nat} {h1 : Nat} (ph0 : sIs h0 4) (ph1 : sIs h1 4) {I : sI} {J : sJ} {post : sI → sJ → Prop} (hw : w_X4_take h0 h1 I J post) : sCall X yX4_take cX4_take 3 none 0 0 [.ref h0, .ref h1] I J (sPv post) := sCall_of (by decide +kernel) (Nat.le_of_ble_eq_true rfl) (fun X h hr => t_X4_take ph0 ph1 h hr hw)
theorem dX4_all_0 : decode cX4_all 0 = .ok (.iconst 1, 1) := by decide +kernel
theorem dX4_all_1 : decode cX4_all 1 = .ok (.aload_n 0, 1) := by decide +kernel
theorem dX4_all_2 : decode cX4_all 2 = .ok (.getfield 18, 3) := by decide +kernel
theorem dX4_all_5 : decode cX4_all 5 = .ok (.ishl, 1) := by decide +kernel
theorem dX4_all_6 : decode cX4_all 6 = .ok (.iconst 1, 1) := by decide +kernel
theorem dX4_all_7 : decode cX4_all 7 = .ok (.isub, 1) := by decide +kernel
theorem dX4_all_8 : decode cX4_all 8 = .ok (.ireturn, 1) := by decide +kernel
def w_X4_all (h0 : Nat) (I : sI) (J : sJ) (post : Int32 → sI → sJ → Prop) : Prop :=
  post ((1 <<< ((I h0 2) &&& 31)) - 1) I J
set_option maxHeartbeats 4000000 in
set_option maxRecDepth 100000 in
theorem t_X4_all {X : sX} {h0 : Nat} (ph0 : sIs h0 4) {I : sI} {J : sJ} {post : Int32 → sI → sJ → Prop} (h : sOK X cX4_all RX4 1 0 0) (hr : sRt X (some .int) (sPi post)) (hw : w_X4_all h0 I J post) : sG X 1 0 [(0, .ref h0)] [] I J := by
  unfold w_X4_all at hw
  refine g_iconst (v := 1) h (by decide) dX4_all_0 ?_
  refine g_aload_n h rfl 0 rfl dX4_all_1 ?_
  refine g_get h ph0 fl_X4_18 rfl dX4_all_2 ?_
  refine g_ishl h dX4_all_5 ?_
  refine g_iconst (v := 1) h (by decide) dX4_all_6 ?_
  refine g_isub h dX4_all_7 ?_
  exact g_iret h hr dX4_all_8 hw
theorem c_X4_all (X : sX) {h0 : Nat} (ph0 : sIs h0 4) {I : sI} {J : sJ} {post : Int32 → sI → sJ → Prop} (hw : w_X4_all h0 I J post) : sCall X yX4_all cX4_all 1 (some .int) 0 0 [.ref h0] I J (sPi post) := sCall_of (by decide +kernel) (Nat.le_of_ble_eq_true rfl) (fun X h hr => t_X4_all ph0 h hr hw)
theorem dX4_peel_0 : decode cX4_peel 0 = .ok (.lconst 0, 1) := by decide +kernel
theorem dX4_peel_1 : decode cX4_peel 1 = .ok (.lstore_n 2, 1) := by decide +kernel
theorem dX4_peel_2 : decode cX4_peel 2 = .ok (.iconst 0, 1) := by decide +kernel
theorem dX4_peel_3 : decode cX4_peel 3 = .ok (.istore 4, 2) := by decide +kernel
theorem dX4_peel_5 : decode cX4_peel 5 = .ok (.iload 4, 2) := by decide +kernel
theorem dX4_peel_7 : decode cX4_peel 7 = .ok (.aload_n 0, 1) := by decide +kernel
theorem dX4_peel_8 : decode cX4_peel 8 = .ok (.getfield 18, 3) := by decide +kernel
theorem dX4_peel_11 : decode cX4_peel 11 = .ok (.if_icmp .ge 34, 3) := by decide +kernel
theorem dX4_peel_14 : decode cX4_peel 14 = .ok (.lload_n 2, 1) := by decide +kernel
theorem dX4_peel_15 : decode cX4_peel 15 = .ok (.iload_n 1, 1) := by decide +kernel
theorem dX4_peel_16 : decode cX4_peel 16 = .ok (.iload 4, 2) := by decide +kernel
theorem dX4_peel_18 : decode cX4_peel 18 = .ok (.ishr, 1) := by decide +kernel
theorem dX4_peel_19 : decode cX4_peel 19 = .ok (.iconst 1, 1) := by decide +kernel
theorem dX4_peel_20 : decode cX4_peel 20 = .ok (.iand, 1) := by decide +kernel
theorem dX4_peel_21 : decode cX4_peel 21 = .ok (.ifCond .eq 15, 3) := by decide +kernel
theorem dX4_peel_24 : decode cX4_peel 24 = .ok (.lconst 1, 1) := by decide +kernel
theorem dX4_peel_25 : decode cX4_peel 25 = .ok (.aload_n 0, 1) := by decide +kernel
theorem dX4_peel_26 : decode cX4_peel 26 = .ok (.getfield 9, 3) := by decide +kernel
theorem dX4_peel_29 : decode cX4_peel 29 = .ok (.iload 4, 2) := by decide +kernel
theorem dX4_peel_31 : decode cX4_peel 31 = .ok (.iaload, 1) := by decide +kernel
theorem dX4_peel_32 : decode cX4_peel 32 = .ok (.lshl, 1) := by decide +kernel
theorem dX4_peel_33 : decode cX4_peel 33 = .ok (.goto 4, 3) := by decide +kernel
theorem dX4_peel_36 : decode cX4_peel 36 = .ok (.lconst 0, 1) := by decide +kernel
theorem dX4_peel_37 : decode cX4_peel 37 = .ok (.lor, 1) := by decide +kernel
theorem dX4_peel_38 : decode cX4_peel 38 = .ok (.lstore_n 2, 1) := by decide +kernel
theorem dX4_peel_39 : decode cX4_peel 39 = .ok (.iinc 4 1, 3) := by decide +kernel
theorem dX4_peel_42 : decode cX4_peel 42 = .ok (.goto (-37), 3) := by decide +kernel
theorem dX4_peel_45 : decode cX4_peel 45 = .ok (.iload_n 1, 1) := by decide +kernel
theorem dX4_peel_46 : decode cX4_peel 46 = .ok (.istore 4, 2) := by decide +kernel
theorem dX4_peel_48 : decode cX4_peel 48 = .ok (.iconst 0, 1) := by decide +kernel
theorem dX4_peel_49 : decode cX4_peel 49 = .ok (.istore 5, 2) := by decide +kernel
theorem dX4_peel_51 : decode cX4_peel 51 = .ok (.iload 5, 2) := by decide +kernel
theorem dX4_peel_53 : decode cX4_peel 53 = .ok (.aload_n 0, 1) := by decide +kernel
theorem dX4_peel_54 : decode cX4_peel 54 = .ok (.getfield 18, 3) := by decide +kernel
theorem dX4_peel_57 : decode cX4_peel 57 = .ok (.if_icmp .ge 40, 3) := by decide +kernel
theorem dX4_peel_60 : decode cX4_peel 60 = .ok (.iload 4, 2) := by decide +kernel
theorem dX4_peel_62 : decode cX4_peel 62 = .ok (.lload_n 2, 1) := by decide +kernel
theorem dX4_peel_63 : decode cX4_peel 63 = .ok (.aload_n 0, 1) := by decide +kernel
theorem dX4_peel_64 : decode cX4_peel 64 = .ok (.getfield 15, 3) := by decide +kernel
theorem dX4_peel_67 : decode cX4_peel 67 = .ok (.iload 5, 2) := by decide +kernel
theorem dX4_peel_69 : decode cX4_peel 69 = .ok (.iaload, 1) := by decide +kernel
theorem dX4_peel_70 : decode cX4_peel 70 = .ok (.lushr, 1) := by decide +kernel
theorem dX4_peel_71 : decode cX4_peel 71 = .ok (.lconst 1, 1) := by decide +kernel
theorem dX4_peel_72 : decode cX4_peel 72 = .ok (.land, 1) := by decide +kernel
theorem dX4_peel_73 : decode cX4_peel 73 = .ok (.lconst 0, 1) := by decide +kernel
theorem dX4_peel_74 : decode cX4_peel 74 = .ok (.lcmp, 1) := by decide +kernel
theorem dX4_peel_75 : decode cX4_peel 75 = .ok (.ifCond .ne 12, 3) := by decide +kernel
theorem dX4_peel_78 : decode cX4_peel 78 = .ok (.iconst 1, 1) := by decide +kernel
theorem dX4_peel_79 : decode cX4_peel 79 = .ok (.iload 5, 2) := by decide +kernel
theorem dX4_peel_81 : decode cX4_peel 81 = .ok (.ishl, 1) := by decide +kernel
theorem dX4_peel_82 : decode cX4_peel 82 = .ok (.iconst (-1), 1) := by decide +kernel
theorem dX4_peel_83 : decode cX4_peel 83 = .ok (.ixor, 1) := by decide +kernel
theorem dX4_peel_84 : decode cX4_peel 84 = .ok (.goto 4, 3) := by decide +kernel
theorem dX4_peel_87 : decode cX4_peel 87 = .ok (.iconst (-1), 1) := by decide +kernel
theorem dX4_peel_88 : decode cX4_peel 88 = .ok (.iand, 1) := by decide +kernel
theorem dX4_peel_89 : decode cX4_peel 89 = .ok (.istore 4, 2) := by decide +kernel
theorem dX4_peel_91 : decode cX4_peel 91 = .ok (.iinc 5 1, 3) := by decide +kernel
theorem dX4_peel_94 : decode cX4_peel 94 = .ok (.goto (-43), 3) := by decide +kernel
theorem dX4_peel_97 : decode cX4_peel 97 = .ok (.iload 4, 2) := by decide +kernel
theorem dX4_peel_99 : decode cX4_peel 99 = .ok (.ireturn, 1) := by decide +kernel
def w_X4_peel_88 (h0 : Nat) (post : Int32 → sI → sJ → Prop) (k51 : Int64 → Int32 → Int32 → sI → sJ → Prop) (x2 : Int64) (x5 : Int32) (s0 : Int32) (s1 : Int32) (I : sI) (J : sJ) : Prop :=
  (∀ v4_89 : Int32, v4_89 = s1 &&& s0 → (∀ v5_91 : Int32, v5_91 = x5 + 1 → k51 x2 v4_89 v5_91 I J))
set_option maxHeartbeats 4000000 in
set_option maxRecDepth 100000 in
theorem t_X4_peel_88 {X : sX} {h0 : Nat} (ph0 : sIs h0 4) {post : Int32 → sI → sJ → Prop} (h : sOK X cX4_peel RX4 6 0 0) (hr : sRt X (some .int) (sPi post)) {k51 : Int64 → Int32 → Int32 → sI → sJ → Prop} (hk51 : ∀ (x2 : Int64) (x4 : Int32) (x5 : Int32) (I : sI) (J : sJ), k51 x2 x4 x5 I J → sG X 6 51 [(0, .ref h0), (2, .long x2), (4, .int x4), (5, .int x5)] [] I J) {x2 : Int64} {x5 : Int32} {s0 : Int32} {s1 : Int32} {I : sI} {J : sJ} (hw : w_X4_peel_88 h0 post k51 x2 x5 s0 s1 I J) : sG X 6 88 [(0, .ref h0), (2, .long x2), (5, .int x5)] [.int s0, .int s1] I J := by
  unfold w_X4_peel_88 at hw
  refine g_iand h dX4_peel_88 ?_
  refine g_ni (fun v4_89 ev4_89 => ?_)
  replace hw := hw v4_89 ev4_89
  refine g_istore (lo2 := [(4, .int v4_89), (0, .ref h0), (2, .long x2), (5, .int x5)]) h (by decide) rfl dX4_peel_89 ?_
  obtain ⟨v5_91, ev5_91⟩ : ∃ z : Int32, z = x5 + 1 := ⟨_, rfl⟩
  replace hw := hw v5_91 ev5_91
  refine g_iinc (v := v5_91) (lo2 := [(5, .int v5_91), (4, .int v4_89), (0, .ref h0), (2, .long x2)]) h 3 rfl (by rw [ev5_91]; rfl) (by decide) rfl dX4_peel_91 ?_
  refine g_goto (tgt := 51) h (by decide) dX4_peel_94 ?_
  exact g_sub [2, 3, 1, 0] rfl (hk51 _ _ _ _ _ hw)
def w_X4_peel_51_s (h0 : Nat) (post : Int32 → sI → sJ → Prop) (k51 : Int64 → Int32 → Int32 → sI → sJ → Prop) (x2 : Int64) (x4 : Int32) (x5 : Int32) (I : sI) (J : sJ) : Prop :=
  (((I h0 2) ≤ x5 → post x4 I J) ∧ (¬ (I h0 2) ≤ x5 → (vp_in x5 12 ∧ ((¬ (lg_cmp (((x2.toUInt64 >>> ((Int32.toInt64 (I (sR h0 1) (Int32.toNatClampNeg x5))).toUInt64 &&& Int64.toUInt64 63)).toInt64) &&& 1) 0) = 0 → w_X4_peel_88 h0 post k51 x2 x5 (-1) x4 I J) ∧ ((lg_cmp (((x2.toUInt64 >>> ((Int32.toInt64 (I (sR h0 1) (Int32.toNatClampNeg x5))).toUInt64 &&& Int64.toUInt64 63)).toInt64) &&& 1) 0) = 0 → w_X4_peel_88 h0 post k51 x2 x5 ((1 <<< (x5 &&& 31)) ^^^ (-1)) x4 I J)))))
def w_X4_peel_51_n (h0 : Nat) (post : Int32 → sI → sJ → Prop) : Nat → Int64 → Int32 → Int32 → sI → sJ → Prop
  | 0 => fun _ _ _ _ _ => False
  | n + 1 => fun x2 x4 x5 I J => w_X4_peel_51_s h0 post (w_X4_peel_51_n h0 post n) x2 x4 x5 I J
def w_X4_peel_51 (h0 : Nat) (post : Int32 → sI → sJ → Prop) (x2 : Int64) (x4 : Int32) (x5 : Int32) (I : sI) (J : sJ) : Prop := ∃ n, w_X4_peel_51_n h0 post n x2 x4 x5 I J
set_option maxHeartbeats 4000000 in
set_option maxRecDepth 100000 in
theorem t_X4_peel_51_s {X : sX} {h0 : Nat} (ph0 : sIs h0 4) {post : Int32 → sI → sJ → Prop} (h : sOK X cX4_peel RX4 6 0 0) (hr : sRt X (some .int) (sPi post)) {k51 : Int64 → Int32 → Int32 → sI → sJ → Prop} (hk51 : ∀ (x2 : Int64) (x4 : Int32) (x5 : Int32) (I : sI) (J : sJ), k51 x2 x4 x5 I J → sG X 6 51 [(0, .ref h0), (2, .long x2), (4, .int x4), (5, .int x5)] [] I J) {x2 : Int64} {x4 : Int32} {x5 : Int32} {I : sI} {J : sJ} (hw : w_X4_peel_51_s h0 post k51 x2 x4 x5 I J) : sG X 6 51 [(0, .ref h0), (2, .long x2), (4, .int x4), (5, .int x5)] [] I J := by
  unfold w_X4_peel_51_s at hw
  refine g_iload h 3 rfl dX4_peel_51 ?_
  refine g_aload_n h rfl 0 rfl dX4_peel_53 ?_
  refine g_get h ph0 fl_X4_18 rfl dX4_peel_54 ?_
  refine g_icmp_ge (tgt := 97) h (by decide) dX4_peel_57 (fun q57 => ?_) (fun q57 => ?_)
  · replace hw := hw.1 q57
    refine g_iload h 2 rfl dX4_peel_97 ?_
    exact g_iret h hr dX4_peel_99 hw
  · replace hw := hw.2 q57
    refine g_iload h 2 rfl dX4_peel_60 ?_
    refine g_lload_n h rfl 1 rfl dX4_peel_62 ?_
    refine g_aload_n h rfl 0 rfl dX4_peel_63 ?_
    refine g_get h ph0 fl_X4_15 rfl dX4_peel_64 ?_
    refine g_iload h 3 rfl dX4_peel_67 ?_
    obtain ⟨hi69, hw⟩ := hw
    refine g_iald h (arF_4_1 ph0) hi69 dX4_peel_69 ?_
    refine g_lushr h dX4_peel_70 ?_
    refine g_lconst (v := 1) h (by decide) dX4_peel_71 ?_
    refine g_land h dX4_peel_72 ?_
    refine g_lconst (v := 0) h (by decide) dX4_peel_73 ?_
    refine g_lcmp h dX4_peel_74 ?_
    refine g_if_ne (tgt := 87) h (by decide) dX4_peel_75 (fun q75 => ?_) (fun q75 => ?_)
    · replace hw := hw.1 q75
      refine g_iconst (v := (-1)) h (by decide) dX4_peel_87 ?_
      exact g_sub [0, 1, 3] rfl (t_X4_peel_88 ph0 h hr hk51 hw)
    · replace hw := hw.2 q75
      refine g_iconst (v := 1) h (by decide) dX4_peel_78 ?_
      refine g_iload h 3 rfl dX4_peel_79 ?_
      refine g_ishl h dX4_peel_81 ?_
      refine g_iconst (v := (-1)) h (by decide) dX4_peel_82 ?_
      refine g_ixor h dX4_peel_83 ?_
      refine g_goto (tgt := 88) h (by decide) dX4_peel_84 ?_
      exact g_sub [0, 1, 3] rfl (t_X4_peel_88 ph0 h hr hk51 hw)
theorem t_X4_peel_51 {X : sX} {h0 : Nat} (ph0 : sIs h0 4) {post : Int32 → sI → sJ → Prop} (h : sOK X cX4_peel RX4 6 0 0) (hr : sRt X (some .int) (sPi post)) {x2 : Int64} {x4 : Int32} {x5 : Int32} {I : sI} {J : sJ} (hw : w_X4_peel_51 h0 post x2 x4 x5 I J) : sG X 6 51 [(0, .ref h0), (2, .long x2), (4, .int x4), (5, .int x5)] [] I J := by
  obtain ⟨n, hw⟩ := hw
  induction n generalizing x2 x4 x5 I J with
  | zero => exact hw.elim
  | succ n ih => exact t_X4_peel_51_s ph0 h hr (fun _ _ _ _ _ q => ih q) hw
def w_X4_peel_37 (h0 : Nat) (post : Int32 → sI → sJ → Prop) (k5 : Int32 → Int64 → Int32 → sI → sJ → Prop) (x1 : Int32) (x4 : Int32) (s0 : Int64) (s1 : Int64) (I : sI) (J : sJ) : Prop :=
  (∀ v2_38 : Int64, v2_38 = s1 ||| s0 → (∀ v4_39 : Int32, v4_39 = x4 + 1 → k5 x1 v2_38 v4_39 I J))
set_option maxHeartbeats 4000000 in
set_option maxRecDepth 100000 in
theorem t_X4_peel_37 {X : sX} {h0 : Nat} (ph0 : sIs h0 4) {post : Int32 → sI → sJ → Prop} (h : sOK X cX4_peel RX4 6 0 0) (hr : sRt X (some .int) (sPi post)) {k5 : Int32 → Int64 → Int32 → sI → sJ → Prop} (hk5 : ∀ (x1 : Int32) (x2 : Int64) (x4 : Int32) (I : sI) (J : sJ), k5 x1 x2 x4 I J → sG X 6 5 [(0, .ref h0), (1, .int x1), (2, .long x2), (4, .int x4)] [] I J) {x1 : Int32} {x4 : Int32} {s0 : Int64} {s1 : Int64} {I : sI} {J : sJ} (hw : w_X4_peel_37 h0 post k5 x1 x4 s0 s1 I J) : sG X 6 37 [(0, .ref h0), (1, .int x1), (4, .int x4)] [.long s0, .long s1] I J := by
  unfold w_X4_peel_37 at hw
  refine g_lor h dX4_peel_37 ?_
  refine g_nl (fun v2_38 ev2_38 => ?_)
  replace hw := hw v2_38 ev2_38
  refine g_lstore_n (lo2 := [(2, .long v2_38), (0, .ref h0), (1, .int x1), (4, .int x4)]) h rfl (by decide) rfl dX4_peel_38 ?_
  obtain ⟨v4_39, ev4_39⟩ : ∃ z : Int32, z = x4 + 1 := ⟨_, rfl⟩
  replace hw := hw v4_39 ev4_39
  refine g_iinc (v := v4_39) (lo2 := [(4, .int v4_39), (2, .long v2_38), (0, .ref h0), (1, .int x1)]) h 3 rfl (by rw [ev4_39]; rfl) (by decide) rfl dX4_peel_39 ?_
  refine g_goto (tgt := 5) h (by decide) dX4_peel_42 ?_
  exact g_sub [2, 3, 1, 0] rfl (hk5 _ _ _ _ _ hw)
def w_X4_peel_5_s (h0 : Nat) (post : Int32 → sI → sJ → Prop) (k5 : Int32 → Int64 → Int32 → sI → sJ → Prop) (x1 : Int32) (x2 : Int64) (x4 : Int32) (I : sI) (J : sJ) : Prop :=
  (((I h0 2) ≤ x4 → w_X4_peel_51 h0 post x2 x1 0 I J) ∧ (¬ (I h0 2) ≤ x4 → ((((x1 >>> (x4 &&& 31)) &&& 1) = 0 → w_X4_peel_37 h0 post k5 x1 x4 0 x2 I J) ∧ (¬ ((x1 >>> (x4 &&& 31)) &&& 1) = 0 → (vp_in x4 12 ∧ w_X4_peel_37 h0 post k5 x1 x4 (1 <<< (Int32.toInt64 (I (sR h0 0) (Int32.toNatClampNeg x4)) &&& 63)) x2 I J)))))
def w_X4_peel_5_n (h0 : Nat) (post : Int32 → sI → sJ → Prop) : Nat → Int32 → Int64 → Int32 → sI → sJ → Prop
  | 0 => fun _ _ _ _ _ => False
  | n + 1 => fun x1 x2 x4 I J => w_X4_peel_5_s h0 post (w_X4_peel_5_n h0 post n) x1 x2 x4 I J
def w_X4_peel_5 (h0 : Nat) (post : Int32 → sI → sJ → Prop) (x1 : Int32) (x2 : Int64) (x4 : Int32) (I : sI) (J : sJ) : Prop := ∃ n, w_X4_peel_5_n h0 post n x1 x2 x4 I J
set_option maxHeartbeats 4000000 in
set_option maxRecDepth 100000 in
theorem t_X4_peel_5_s {X : sX} {h0 : Nat} (ph0 : sIs h0 4) {post : Int32 → sI → sJ → Prop} (h : sOK X cX4_peel RX4 6 0 0) (hr : sRt X (some .int) (sPi post)) {k5 : Int32 → Int64 → Int32 → sI → sJ → Prop} (hk5 : ∀ (x1 : Int32) (x2 : Int64) (x4 : Int32) (I : sI) (J : sJ), k5 x1 x2 x4 I J → sG X 6 5 [(0, .ref h0), (1, .int x1), (2, .long x2), (4, .int x4)] [] I J) {x1 : Int32} {x2 : Int64} {x4 : Int32} {I : sI} {J : sJ} (hw : w_X4_peel_5_s h0 post k5 x1 x2 x4 I J) : sG X 6 5 [(0, .ref h0), (1, .int x1), (2, .long x2), (4, .int x4)] [] I J := by
  unfold w_X4_peel_5_s at hw
  refine g_iload h 3 rfl dX4_peel_5 ?_
  refine g_aload_n h rfl 0 rfl dX4_peel_7 ?_
  refine g_get h ph0 fl_X4_18 rfl dX4_peel_8 ?_
  refine g_icmp_ge (tgt := 45) h (by decide) dX4_peel_11 (fun q11 => ?_) (fun q11 => ?_)
  · replace hw := hw.1 q11
    refine g_iload_n h rfl 1 rfl dX4_peel_45 ?_
    refine g_istore (lo2 := [(4, .int x1), (0, .ref h0), (1, .int x1), (2, .long x2)]) h (by decide) rfl dX4_peel_46 ?_
    refine g_iconst (v := 0) h (by decide) dX4_peel_48 ?_
    refine g_istore (lo2 := [(5, .int 0), (4, .int x1), (0, .ref h0), (1, .int x1), (2, .long x2)]) h (by decide) rfl dX4_peel_49 ?_
    exact g_sub [2, 4, 1, 0] rfl (t_X4_peel_51 ph0 h hr hw)
  · replace hw := hw.2 q11
    refine g_lload_n h rfl 2 rfl dX4_peel_14 ?_
    refine g_iload_n h rfl 1 rfl dX4_peel_15 ?_
    refine g_iload h 3 rfl dX4_peel_16 ?_
    refine g_ishr h dX4_peel_18 ?_
    refine g_iconst (v := 1) h (by decide) dX4_peel_19 ?_
    refine g_iand h dX4_peel_20 ?_
    refine g_if_eq (tgt := 36) h (by decide) dX4_peel_21 (fun q21 => ?_) (fun q21 => ?_)
    · replace hw := hw.1 q21
      refine g_lconst (v := 0) h (by decide) dX4_peel_36 ?_
      exact g_sub [0, 1, 3] rfl (t_X4_peel_37 ph0 h hr hk5 hw)
    · replace hw := hw.2 q21
      refine g_lconst (v := 1) h (by decide) dX4_peel_24 ?_
      refine g_aload_n h rfl 0 rfl dX4_peel_25 ?_
      refine g_get h ph0 fl_X4_9 rfl dX4_peel_26 ?_
      refine g_iload h 3 rfl dX4_peel_29 ?_
      obtain ⟨hi31, hw⟩ := hw
      refine g_iald h (arF_4_0 ph0) hi31 dX4_peel_31 ?_
      refine g_lshl h dX4_peel_32 ?_
      refine g_goto (tgt := 37) h (by decide) dX4_peel_33 ?_
      exact g_sub [0, 1, 3] rfl (t_X4_peel_37 ph0 h hr hk5 hw)
theorem t_X4_peel_5 {X : sX} {h0 : Nat} (ph0 : sIs h0 4) {post : Int32 → sI → sJ → Prop} (h : sOK X cX4_peel RX4 6 0 0) (hr : sRt X (some .int) (sPi post)) {x1 : Int32} {x2 : Int64} {x4 : Int32} {I : sI} {J : sJ} (hw : w_X4_peel_5 h0 post x1 x2 x4 I J) : sG X 6 5 [(0, .ref h0), (1, .int x1), (2, .long x2), (4, .int x4)] [] I J := by
  obtain ⟨n, hw⟩ := hw
  induction n generalizing x1 x2 x4 I J with
  | zero => exact hw.elim
  | succ n ih => exact t_X4_peel_5_s ph0 h hr (fun _ _ _ _ _ q => ih q) hw
def w_X4_peel (h0 : Nat) (a1 : Int32) (I : sI) (J : sJ) (post : Int32 → sI → sJ → Prop) : Prop :=
  w_X4_peel_5 h0 post a1 0 0 I J
set_option maxHeartbeats 4000000 in
set_option maxRecDepth 100000 in
theorem t_X4_peel {X : sX} {h0 : Nat} {a1 : Int32} (ph0 : sIs h0 4) {I : sI} {J : sJ} {post : Int32 → sI → sJ → Prop} (h : sOK X cX4_peel RX4 6 0 0) (hr : sRt X (some .int) (sPi post)) (hw : w_X4_peel h0 a1 I J post) : sG X 6 0 [(0, .ref h0), (1, .int a1)] [] I J := by
  unfold w_X4_peel at hw
  refine g_lconst (v := 0) h (by decide) dX4_peel_0 ?_
  refine g_lstore_n (lo2 := [(2, .long 0), (0, .ref h0), (1, .int a1)]) h rfl (by decide) rfl dX4_peel_1 ?_
  refine g_iconst (v := 0) h (by decide) dX4_peel_2 ?_
  refine g_istore (lo2 := [(4, .int 0), (2, .long 0), (0, .ref h0), (1, .int a1)]) h (by decide) rfl dX4_peel_3 ?_
  exact g_sub [2, 3, 1, 0] rfl (t_X4_peel_5 ph0 h hr hw)
theorem c_X4_peel (X : sX) {h0 : Nat} {a1 : Int32} (ph0 : sIs h0 4) {I : sI} {J : sJ} {post : Int32 → sI → sJ → Prop} (hw : w_X4_peel h0 a1 I J post) : sCall X yX4_peel cX4_peel 6 (some .int) 0 0 [.ref h0, .int a1] I J (sPi post) := sCall_of (by decide +kernel) (Nat.le_of_ble_eq_true rfl) (fun X h hr => t_X4_peel ph0 h hr hw)
theorem dX4_ringFree_0 : decode cX4_ringFree 0 = .ok (.iload_n 1, 1) := by decide +kernel
theorem dX4_ringFree_1 : decode cX4_ringFree 1 = .ok (.istore_n 2, 1) := by decide +kernel
theorem dX4_ringFree_2 : decode cX4_ringFree 2 = .ok (.iconst 0, 1) := by decide +kernel
theorem dX4_ringFree_3 : decode cX4_ringFree 3 = .ok (.istore_n 3, 1) := by decide +kernel
theorem dX4_ringFree_4 : decode cX4_ringFree 4 = .ok (.iload_n 3, 1) := by decide +kernel
theorem dX4_ringFree_5 : decode cX4_ringFree 5 = .ok (.bipush 12, 2) := by decide +kernel
theorem dX4_ringFree_7 : decode cX4_ringFree 7 = .ok (.if_icmp .ge 19, 3) := by decide +kernel
theorem dX4_ringFree_10 : decode cX4_ringFree 10 = .ok (.iload_n 2, 1) := by decide +kernel
theorem dX4_ringFree_11 : decode cX4_ringFree 11 = .ok (.ifCond .eq 15, 3) := by decide +kernel
theorem dX4_ringFree_14 : decode cX4_ringFree 14 = .ok (.aload_n 0, 1) := by decide +kernel
theorem dX4_ringFree_15 : decode cX4_ringFree 15 = .ok (.iload_n 2, 1) := by decide +kernel
theorem dX4_ringFree_16 : decode cX4_ringFree 16 = .ok (.invokevirtual 22, 3) := by decide +kernel
theorem dX4_ringFree_19 : decode cX4_ringFree 19 = .ok (.istore_n 2, 1) := by decide +kernel
theorem dX4_ringFree_20 : decode cX4_ringFree 20 = .ok (.iinc 3 1, 3) := by decide +kernel
theorem dX4_ringFree_23 : decode cX4_ringFree 23 = .ok (.goto (-19), 3) := by decide +kernel
theorem dX4_ringFree_26 : decode cX4_ringFree 26 = .ok (.iload_n 2, 1) := by decide +kernel
theorem dX4_ringFree_27 : decode cX4_ringFree 27 = .ok (.ifCond .ne 7, 3) := by decide +kernel
theorem dX4_ringFree_30 : decode cX4_ringFree 30 = .ok (.iconst 1, 1) := by decide +kernel
theorem dX4_ringFree_31 : decode cX4_ringFree 31 = .ok (.goto 4, 3) := by decide +kernel
theorem dX4_ringFree_34 : decode cX4_ringFree 34 = .ok (.iconst 0, 1) := by decide +kernel
theorem dX4_ringFree_35 : decode cX4_ringFree 35 = .ok (.ireturn, 1) := by decide +kernel
def w_X4_ringFree_26 (h0 : Nat) (post : Int32 → sI → sJ → Prop) (x2 : Int32) (I : sI) (J : sJ) : Prop :=
  ((¬ x2 = 0 → post 0 I J) ∧ (x2 = 0 → post 1 I J))
set_option maxHeartbeats 4000000 in
set_option maxRecDepth 100000 in
theorem t_X4_ringFree_26 {X : sX} {h0 : Nat} (ph0 : sIs h0 4) {post : Int32 → sI → sJ → Prop} (h : sOK X cX4_ringFree RX4 4 1 25) (hr : sRt X (some .boolean) (sPi post)) {x2 : Int32} {I : sI} {J : sJ} (hw : w_X4_ringFree_26 h0 post x2 I J) : sG X 4 26 [(2, .int x2)] [] I J := by
  unfold w_X4_ringFree_26 at hw
  refine g_iload_n h rfl 0 rfl dX4_ringFree_26 ?_
  refine g_if_ne (tgt := 34) h (by decide) dX4_ringFree_27 (fun q27 => ?_) (fun q27 => ?_)
  · replace hw := hw.1 q27
    refine g_iconst (v := 0) h (by decide) dX4_ringFree_34 ?_
    exact g_zret h hr (Or.inl rfl) dX4_ringFree_35 hw
  · replace hw := hw.2 q27
    refine g_iconst (v := 1) h (by decide) dX4_ringFree_30 ?_
    refine g_goto (tgt := 35) h (by decide) dX4_ringFree_31 ?_
    exact g_zret h hr (Or.inr rfl) dX4_ringFree_35 hw
def w_X4_ringFree_4_s (h0 : Nat) (post : Int32 → sI → sJ → Prop) (k4 : Int32 → Int32 → sI → sJ → Prop) (x2 : Int32) (x3 : Int32) (I : sI) (J : sJ) : Prop :=
  ((12 ≤ x3 → w_X4_ringFree_26 h0 post x2 I J) ∧ (¬ 12 ≤ x3 → ((x2 = 0 → w_X4_ringFree_26 h0 post x2 I J) ∧ (¬ x2 = 0 → w_X4_peel h0 x2 I J (fun (r_16 : Int32) (I_16 : sI) (J_16 : sJ) => ((∀ v3_20 : Int32, v3_20 = x3 + 1 → k4 r_16 v3_20 I_16 J_16)))))))
def w_X4_ringFree_4_n (h0 : Nat) (post : Int32 → sI → sJ → Prop) : Nat → Int32 → Int32 → sI → sJ → Prop
  | 0 => fun _ _ _ _ => False
  | n + 1 => fun x2 x3 I J => w_X4_ringFree_4_s h0 post (w_X4_ringFree_4_n h0 post n) x2 x3 I J
def w_X4_ringFree_4 (h0 : Nat) (post : Int32 → sI → sJ → Prop) (x2 : Int32) (x3 : Int32) (I : sI) (J : sJ) : Prop := ∃ n, w_X4_ringFree_4_n h0 post n x2 x3 I J
set_option maxHeartbeats 4000000 in
set_option maxRecDepth 100000 in
theorem t_X4_ringFree_4_s {X : sX} {h0 : Nat} (ph0 : sIs h0 4) {post : Int32 → sI → sJ → Prop} (h : sOK X cX4_ringFree RX4 4 1 25) (hr : sRt X (some .boolean) (sPi post)) {k4 : Int32 → Int32 → sI → sJ → Prop} (hk4 : ∀ (x2 : Int32) (x3 : Int32) (I : sI) (J : sJ), k4 x2 x3 I J → sG X 4 4 [(0, .ref h0), (2, .int x2), (3, .int x3)] [] I J) {x2 : Int32} {x3 : Int32} {I : sI} {J : sJ} (hw : w_X4_ringFree_4_s h0 post k4 x2 x3 I J) : sG X 4 4 [(0, .ref h0), (2, .int x2), (3, .int x3)] [] I J := by
  unfold w_X4_ringFree_4_s at hw
  refine g_iload_n h rfl 2 rfl dX4_ringFree_4 ?_
  refine g_bipush (v := 12) h (by decide) dX4_ringFree_5 ?_
  refine g_icmp_ge (tgt := 26) h (by decide) dX4_ringFree_7 (fun q7 => ?_) (fun q7 => ?_)
  · replace hw := hw.1 q7
    exact g_sub [1] rfl (t_X4_ringFree_26 ph0 h hr hw)
  · replace hw := hw.2 q7
    refine g_iload_n h rfl 1 rfl dX4_ringFree_10 ?_
    refine g_if_eq (tgt := 26) h (by decide) dX4_ringFree_11 (fun q11 => ?_) (fun q11 => ?_)
    · replace hw := hw.1 q11
      exact g_sub [1] rfl (t_X4_ringFree_26 ph0 h hr hw)
    · replace hw := hw.2 q11
      refine g_aload_n h rfl 0 rfl dX4_ringFree_14 ?_
      refine g_iload_n h rfl 1 rfl dX4_ringFree_15 ?_
      refine g_callV [.int x2] h (c_X4_peel X ph0 hw) sPi_v mw_X4_peel lk_X4_22 ph0 rfl rfl ⟨by decide, by decide⟩ (Nat.le_of_ble_eq_true rfl) dX4_ringFree_16 (sPi_k (fun r_16 I_16 J_16 hw => ?_))
      refine g_istore_n (lo2 := [(2, .int r_16), (0, .ref h0), (3, .int x3)]) h rfl (by decide) rfl dX4_ringFree_19 ?_
      obtain ⟨v3_20, ev3_20⟩ : ∃ z : Int32, z = x3 + 1 := ⟨_, rfl⟩
      replace hw := hw v3_20 ev3_20
      refine g_iinc (v := v3_20) (lo2 := [(3, .int v3_20), (2, .int r_16), (0, .ref h0)]) h 2 rfl (by rw [ev3_20]; rfl) (by decide) rfl dX4_ringFree_20 ?_
      refine g_goto (tgt := 4) h (by decide) dX4_ringFree_23 ?_
      exact g_sub [2, 1, 0] rfl (hk4 _ _ _ _ hw)
theorem t_X4_ringFree_4 {X : sX} {h0 : Nat} (ph0 : sIs h0 4) {post : Int32 → sI → sJ → Prop} (h : sOK X cX4_ringFree RX4 4 1 25) (hr : sRt X (some .boolean) (sPi post)) {x2 : Int32} {x3 : Int32} {I : sI} {J : sJ} (hw : w_X4_ringFree_4 h0 post x2 x3 I J) : sG X 4 4 [(0, .ref h0), (2, .int x2), (3, .int x3)] [] I J := by
  obtain ⟨n, hw⟩ := hw
  induction n generalizing x2 x3 I J with
  | zero => exact hw.elim
  | succ n ih => exact t_X4_ringFree_4_s ph0 h hr (fun _ _ _ _ q => ih q) hw
def w_X4_ringFree (h0 : Nat) (a1 : Int32) (I : sI) (J : sJ) (post : Int32 → sI → sJ → Prop) : Prop :=
  w_X4_ringFree_4 h0 post a1 0 I J
set_option maxHeartbeats 4000000 in
set_option maxRecDepth 100000 in
theorem t_X4_ringFree {X : sX} {h0 : Nat} {a1 : Int32} (ph0 : sIs h0 4) {I : sI} {J : sJ} {post : Int32 → sI → sJ → Prop} (h : sOK X cX4_ringFree RX4 4 1 25) (hr : sRt X (some .boolean) (sPi post)) (hw : w_X4_ringFree h0 a1 I J post) : sG X 4 0 [(0, .ref h0), (1, .int a1)] [] I J := by
  unfold w_X4_ringFree at hw
  refine g_iload_n h rfl 1 rfl dX4_ringFree_0 ?_
  refine g_istore_n (lo2 := [(2, .int a1), (0, .ref h0), (1, .int a1)]) h rfl (by decide) rfl dX4_ringFree_1 ?_
  refine g_iconst (v := 0) h (by decide) dX4_ringFree_2 ?_
  refine g_istore_n (lo2 := [(3, .int 0), (2, .int a1), (0, .ref h0), (1, .int a1)]) h rfl (by decide) rfl dX4_ringFree_3 ?_
  exact g_sub [2, 1, 0] rfl (t_X4_ringFree_4 ph0 h hr hw)
theorem c_X4_ringFree (X : sX) {h0 : Nat} {a1 : Int32} (ph0 : sIs h0 4) {I : sI} {J : sJ} {post : Int32 → sI → sJ → Prop} (hw : w_X4_ringFree h0 a1 I J post) : sCall X yX4_ringFree cX4_ringFree 4 (some .boolean) 1 25 [.ref h0, .int a1] I J (sPi post) := sCall_of (by decide +kernel) (Nat.le_of_ble_eq_true rfl) (fun X h hr => t_X4_ringFree ph0 h hr hw)
theorem dX11_shiftOf_0 : decode cX11_shiftOf 0 = .ok (.iconst 4, 1) := by decide +kernel
theorem dX11_shiftOf_1 : decode cX11_shiftOf 1 = .ok (.bipush 11, 2) := by decide +kernel
theorem dX11_shiftOf_3 : decode cX11_shiftOf 3 = .ok (.iload_n 0, 1) := by decide +kernel
theorem dX11_shiftOf_4 : decode cX11_shiftOf 4 = .ok (.isub, 1) := by decide +kernel
theorem dX11_shiftOf_5 : decode cX11_shiftOf 5 = .ok (.imul, 1) := by decide +kernel
theorem dX11_shiftOf_6 : decode cX11_shiftOf 6 = .ok (.ireturn, 1) := by decide +kernel
def w_X11_shiftOf (a0 : Int32) (I : sI) (J : sJ) (post : Int32 → sI → sJ → Prop) : Prop :=
  post (4 * (11 - a0)) I J
set_option maxHeartbeats 4000000 in
set_option maxRecDepth 100000 in
theorem t_X11_shiftOf {X : sX} {a0 : Int32} {I : sI} {J : sJ} {post : Int32 → sI → sJ → Prop} (h : sOK X cX11_shiftOf RX11 1 0 0) (hr : sRt X (some .int) (sPi post)) (hw : w_X11_shiftOf a0 I J post) : sG X 1 0 [(0, .int a0)] [] I J := by
  unfold w_X11_shiftOf at hw
  refine g_iconst (v := 4) h (by decide) dX11_shiftOf_0 ?_
  refine g_bipush (v := 11) h (by decide) dX11_shiftOf_1 ?_
  refine g_iload_n h rfl 0 rfl dX11_shiftOf_3 ?_
  refine g_isub h dX11_shiftOf_4 ?_
  refine g_imul h dX11_shiftOf_5 ?_
  exact g_iret h hr dX11_shiftOf_6 hw
theorem c_X11_shiftOf (X : sX) {a0 : Int32} {I : sI} {J : sJ} {post : Int32 → sI → sJ → Prop} (hw : w_X11_shiftOf a0 I J post) : sCall X yX11_shiftOf cX11_shiftOf 1 (some .int) 0 0 [.int a0] I J (sPi post) := sCall_of (by decide +kernel) (Nat.le_of_ble_eq_true rfl) (fun X h hr => t_X11_shiftOf h hr hw)
theorem dX11_letterIn_0 : decode cX11_letterIn 0 = .ok (.lload_n 0, 1) := by decide +kernel
theorem dX11_letterIn_1 : decode cX11_letterIn 1 = .ok (.iload_n 2, 1) := by decide +kernel
theorem dX11_letterIn_2 : decode cX11_letterIn 2 = .ok (.invokestatic 277, 3) := by decide +kernel
theorem dX11_letterIn_5 : decode cX11_letterIn 5 = .ok (.lushr, 1) := by decide +kernel
theorem dX11_letterIn_6 : decode cX11_letterIn 6 = .ok (.ldc2_w 280, 3) := by decide +kernel
theorem dX11_letterIn_9 : decode cX11_letterIn 9 = .ok (.land, 1) := by decide +kernel
theorem dX11_letterIn_10 : decode cX11_letterIn 10 = .ok (.l2i, 1) := by decide +kernel
theorem dX11_letterIn_11 : decode cX11_letterIn 11 = .ok (.iconst 1, 1) := by decide +kernel
theorem dX11_letterIn_12 : decode cX11_letterIn 12 = .ok (.isub, 1) := by decide +kernel
theorem dX11_letterIn_13 : decode cX11_letterIn 13 = .ok (.ireturn, 1) := by decide +kernel
def w_X11_letterIn (a0 : Int64) (a2 : Int32) (I : sI) (J : sJ) (post : Int32 → sI → sJ → Prop) : Prop :=
  w_X11_shiftOf a2 I J (fun (r_2 : Int32) (I_2 : sI) (J_2 : sJ) => (post ((Int64.toInt32 (((a0.toUInt64 >>> ((Int32.toInt64 r_2).toUInt64 &&& Int64.toUInt64 63)).toInt64) &&& 15)) - 1) I_2 J_2))
set_option maxHeartbeats 4000000 in
set_option maxRecDepth 100000 in
theorem t_X11_letterIn {X : sX} {a0 : Int64} {a2 : Int32} {I : sI} {J : sJ} {post : Int32 → sI → sJ → Prop} (h : sOK X cX11_letterIn RX11 3 1 20) (hr : sRt X (some .int) (sPi post)) (hw : w_X11_letterIn a0 a2 I J post) : sG X 3 0 [(0, .long a0), (2, .int a2)] [] I J := by
  unfold w_X11_letterIn at hw
  refine g_lload_n h rfl 0 rfl dX11_letterIn_0 ?_
  refine g_iload_n h rfl 1 rfl dX11_letterIn_1 ?_
  refine g_callS [.int a2] h (c_X11_shiftOf X hw) sPi_v mw_X11_shiftOf lk_X11_277 rfl ⟨by decide, by decide⟩ (Nat.le_of_ble_eq_true rfl) dX11_letterIn_2 (sPi_k (fun r_2 I_2 J_2 hw => ?_))
  refine g_lushr h dX11_letterIn_5 ?_
  refine g_ldc2 h lc_X11_280 dX11_letterIn_6 ?_
  refine g_land h dX11_letterIn_9 ?_
  refine g_l2i h dX11_letterIn_10 ?_
  refine g_iconst (v := 1) h (by decide) dX11_letterIn_11 ?_
  refine g_isub h dX11_letterIn_12 ?_
  exact g_iret h hr dX11_letterIn_13 hw
theorem c_X11_letterIn (X : sX) {a0 : Int64} {a2 : Int32} {I : sI} {J : sJ} {post : Int32 → sI → sJ → Prop} (hw : w_X11_letterIn a0 a2 I J post) : sCall X yX11_letterIn cX11_letterIn 3 (some .int) 1 20 [.long a0, .int a2] I J (sPi post) := sCall_of (by decide +kernel) (Nat.le_of_ble_eq_true rfl) (fun X h hr => t_X11_letterIn h hr hw)
theorem dX5_tallyLetters_0 : decode cX5_tallyLetters 0 = .ok (.iconst 0, 1) := by decide +kernel
theorem dX5_tallyLetters_1 : decode cX5_tallyLetters 1 = .ok (.istore_n 3, 1) := by decide +kernel
theorem dX5_tallyLetters_2 : decode cX5_tallyLetters 2 = .ok (.iload_n 3, 1) := by decide +kernel
theorem dX5_tallyLetters_3 : decode cX5_tallyLetters 3 = .ok (.bipush 12, 2) := by decide +kernel
theorem dX5_tallyLetters_5 : decode cX5_tallyLetters 5 = .ok (.if_icmp .ge 38, 3) := by decide +kernel
theorem dX5_tallyLetters_8 : decode cX5_tallyLetters 8 = .ok (.lload_n 1, 1) := by decide +kernel
theorem dX5_tallyLetters_9 : decode cX5_tallyLetters 9 = .ok (.iload_n 3, 1) := by decide +kernel
theorem dX5_tallyLetters_10 : decode cX5_tallyLetters 10 = .ok (.invokestatic 105, 3) := by decide +kernel
theorem dX5_tallyLetters_13 : decode cX5_tallyLetters 13 = .ok (.istore 4, 2) := by decide +kernel
theorem dX5_tallyLetters_15 : decode cX5_tallyLetters 15 = .ok (.iload 4, 2) := by decide +kernel
theorem dX5_tallyLetters_17 : decode cX5_tallyLetters 17 = .ok (.iconst (-1), 1) := by decide +kernel
theorem dX5_tallyLetters_18 : decode cX5_tallyLetters 18 = .ok (.if_icmp .eq 19, 3) := by decide +kernel
theorem dX5_tallyLetters_21 : decode cX5_tallyLetters 21 = .ok (.aload_n 0, 1) := by decide +kernel
theorem dX5_tallyLetters_22 : decode cX5_tallyLetters 22 = .ok (.getfield 15, 3) := by decide +kernel
theorem dX5_tallyLetters_25 : decode cX5_tallyLetters 25 = .ok (.iload_n 3, 1) := by decide +kernel
theorem dX5_tallyLetters_26 : decode cX5_tallyLetters 26 = .ok (.bipush 8, 2) := by decide +kernel
theorem dX5_tallyLetters_28 : decode cX5_tallyLetters 28 = .ok (.imul, 1) := by decide +kernel
theorem dX5_tallyLetters_29 : decode cX5_tallyLetters 29 = .ok (.iload 4, 2) := by decide +kernel
theorem dX5_tallyLetters_31 : decode cX5_tallyLetters 31 = .ok (.iadd, 1) := by decide +kernel
theorem dX5_tallyLetters_32 : decode cX5_tallyLetters 32 = .ok (.dup2, 1) := by decide +kernel
theorem dX5_tallyLetters_33 : decode cX5_tallyLetters 33 = .ok (.iaload, 1) := by decide +kernel
theorem dX5_tallyLetters_34 : decode cX5_tallyLetters 34 = .ok (.iconst 1, 1) := by decide +kernel
theorem dX5_tallyLetters_35 : decode cX5_tallyLetters 35 = .ok (.iadd, 1) := by decide +kernel
theorem dX5_tallyLetters_36 : decode cX5_tallyLetters 36 = .ok (.iastore, 1) := by decide +kernel
theorem dX5_tallyLetters_37 : decode cX5_tallyLetters 37 = .ok (.iinc 3 1, 3) := by decide +kernel
theorem dX5_tallyLetters_40 : decode cX5_tallyLetters 40 = .ok (.goto (-38), 3) := by decide +kernel
theorem dX5_tallyLetters_43 : decode cX5_tallyLetters 43 = .ok (.return_, 1) := by decide +kernel
def w_X5_tallyLetters_37 (post : sI → sJ → Prop) (k2 : Int64 → Int32 → sI → sJ → Prop) (x1 : Int64) (x3 : Int32) (I : sI) (J : sJ) : Prop :=
  (∀ v3_37 : Int32, v3_37 = x3 + 1 → k2 x1 v3_37 I J)
set_option maxHeartbeats 4000000 in
set_option maxRecDepth 100000 in
theorem t_X5_tallyLetters_37 {X : sX} {post : sI → sJ → Prop} (h : sOK X cX5_tallyLetters RX5 5 2 42) (hr : sRt X none (sPv post)) {k2 : Int64 → Int32 → sI → sJ → Prop} (hk2 : ∀ (x1 : Int64) (x3 : Int32) (I : sI) (J : sJ), k2 x1 x3 I J → sG X 5 2 [(0, .ref 220), (1, .long x1), (3, .int x3)] [] I J) {x1 : Int64} {x3 : Int32} {I : sI} {J : sJ} (hw : w_X5_tallyLetters_37 post k2 x1 x3 I J) : sG X 5 37 [(0, .ref 220), (1, .long x1), (3, .int x3)] [] I J := by
  unfold w_X5_tallyLetters_37 at hw
  obtain ⟨v3_37, ev3_37⟩ : ∃ z : Int32, z = x3 + 1 := ⟨_, rfl⟩
  replace hw := hw v3_37 ev3_37
  refine g_iinc (v := v3_37) (lo2 := [(3, .int v3_37), (0, .ref 220), (1, .long x1)]) h 2 rfl (by rw [ev3_37]; rfl) (by decide) rfl dX5_tallyLetters_37 ?_
  refine g_goto (tgt := 2) h (by decide) dX5_tallyLetters_40 ?_
  exact g_sub [1, 2, 0] rfl (hk2 _ _ _ _ hw)
def w_X5_tallyLetters_2_s (post : sI → sJ → Prop) (k2 : Int64 → Int32 → sI → sJ → Prop) (x1 : Int64) (x3 : Int32) (I : sI) (J : sJ) : Prop :=
  ((12 ≤ x3 → post I J) ∧ (¬ 12 ≤ x3 → w_X11_letterIn x1 x3 I J (fun (r_10 : Int32) (I_10 : sI) (J_10 : sJ) => (((r_10 = (-1) → w_X5_tallyLetters_37 post k2 x1 x3 I_10 J_10) ∧ (¬ r_10 = (-1) → (vp_in ((x3 * 8) + r_10) 96 ∧ (vp_in ((x3 * 8) + r_10) 96 ∧ (∀ I_36 : sI, I_36 = sUI I_10 222 (Int32.toNatClampNeg ((x3 * 8) + r_10)) ((I_10 222 (Int32.toNatClampNeg ((x3 * 8) + r_10))) + 1) → w_X5_tallyLetters_37 post k2 x1 x3 I_36 J_10)))))))))
def w_X5_tallyLetters_2_n (post : sI → sJ → Prop) : Nat → Int64 → Int32 → sI → sJ → Prop
  | 0 => fun _ _ _ _ => False
  | n + 1 => fun x1 x3 I J => w_X5_tallyLetters_2_s post (w_X5_tallyLetters_2_n post n) x1 x3 I J
def w_X5_tallyLetters_2 (post : sI → sJ → Prop) (x1 : Int64) (x3 : Int32) (I : sI) (J : sJ) : Prop := ∃ n, w_X5_tallyLetters_2_n post n x1 x3 I J
set_option maxHeartbeats 4000000 in
set_option maxRecDepth 100000 in
theorem t_X5_tallyLetters_2_s {X : sX} {post : sI → sJ → Prop} (h : sOK X cX5_tallyLetters RX5 5 2 42) (hr : sRt X none (sPv post)) {k2 : Int64 → Int32 → sI → sJ → Prop} (hk2 : ∀ (x1 : Int64) (x3 : Int32) (I : sI) (J : sJ), k2 x1 x3 I J → sG X 5 2 [(0, .ref 220), (1, .long x1), (3, .int x3)] [] I J) {x1 : Int64} {x3 : Int32} {I : sI} {J : sJ} (hw : w_X5_tallyLetters_2_s post k2 x1 x3 I J) : sG X 5 2 [(0, .ref 220), (1, .long x1), (3, .int x3)] [] I J := by
  unfold w_X5_tallyLetters_2_s at hw
  refine g_iload_n h rfl 2 rfl dX5_tallyLetters_2 ?_
  refine g_bipush (v := 12) h (by decide) dX5_tallyLetters_3 ?_
  refine g_icmp_ge (tgt := 43) h (by decide) dX5_tallyLetters_5 (fun q5 => ?_) (fun q5 => ?_)
  · replace hw := hw.1 q5
    exact g_vret h hr dX5_tallyLetters_43 hw
  · replace hw := hw.2 q5
    refine g_lload_n h rfl 1 rfl dX5_tallyLetters_8 ?_
    refine g_iload_n h rfl 2 rfl dX5_tallyLetters_9 ?_
    refine g_callN RX11 [.long x1, .int x3] h (c_X11_letterIn X hw) sPi_v mw_X11_letterIn (fun _ z => z.2.2) rfl ⟨by decide, by decide⟩ (Nat.le_of_ble_eq_true rfl) dX5_tallyLetters_10 (sPi_k (fun r_10 I_10 J_10 hw => ?_))
    refine g_istore (lo2 := [(4, .int r_10), (0, .ref 220), (1, .long x1), (3, .int x3)]) h (by decide) rfl dX5_tallyLetters_13 ?_
    refine g_iload h 0 rfl dX5_tallyLetters_15 ?_
    refine g_iconst (v := (-1)) h (by decide) dX5_tallyLetters_17 ?_
    refine g_icmp_eq (tgt := 37) h (by decide) dX5_tallyLetters_18 (fun q18 => ?_) (fun q18 => ?_)
    · replace hw := hw.1 q18
      exact g_sub [1, 2, 3] rfl (t_X5_tallyLetters_37 h hr hk2 hw)
    · replace hw := hw.2 q18
      refine g_aload_n h rfl 1 rfl dX5_tallyLetters_21 ?_
      refine g_get h is_220 fl_X5_15 fr_220_7 dX5_tallyLetters_22 ?_
      refine g_iload_n h rfl 3 rfl dX5_tallyLetters_25 ?_
      refine g_bipush (v := 8) h (by decide) dX5_tallyLetters_26 ?_
      refine g_imul h dX5_tallyLetters_28 ?_
      refine g_iload h 0 rfl dX5_tallyLetters_29 ?_
      refine g_iadd h dX5_tallyLetters_31 ?_
      refine g_dup2 h rfl rfl dX5_tallyLetters_32 ?_
      obtain ⟨hi33, hw⟩ := hw
      refine g_iald h ar_222 hi33 dX5_tallyLetters_33 ?_
      refine g_iconst (v := 1) h (by decide) dX5_tallyLetters_34 ?_
      refine g_iadd h dX5_tallyLetters_35 ?_
      obtain ⟨hi36, hw⟩ := hw
      refine g_iast h ar_222 hi36 dX5_tallyLetters_36 ?_
      refine g_nI (fun I_36 eI_36 => ?_)
      replace hw := hw I_36 eI_36
      exact g_sub [1, 2, 3] rfl (t_X5_tallyLetters_37 h hr hk2 hw)
theorem t_X5_tallyLetters_2 {X : sX} {post : sI → sJ → Prop} (h : sOK X cX5_tallyLetters RX5 5 2 42) (hr : sRt X none (sPv post)) {x1 : Int64} {x3 : Int32} {I : sI} {J : sJ} (hw : w_X5_tallyLetters_2 post x1 x3 I J) : sG X 5 2 [(0, .ref 220), (1, .long x1), (3, .int x3)] [] I J := by
  obtain ⟨n, hw⟩ := hw
  induction n generalizing x1 x3 I J with
  | zero => exact hw.elim
  | succ n ih => exact t_X5_tallyLetters_2_s h hr (fun _ _ _ _ q => ih q) hw
def w_X5_tallyLetters (a1 : Int64) (I : sI) (J : sJ) (post : sI → sJ → Prop) : Prop :=
  w_X5_tallyLetters_2 post a1 0 I J
set_option maxHeartbeats 4000000 in
set_option maxRecDepth 100000 in
theorem t_X5_tallyLetters {X : sX} {a1 : Int64} {I : sI} {J : sJ} {post : sI → sJ → Prop} (h : sOK X cX5_tallyLetters RX5 5 2 42) (hr : sRt X none (sPv post)) (hw : w_X5_tallyLetters a1 I J post) : sG X 5 0 [(0, .ref 220), (1, .long a1)] [] I J := by
  unfold w_X5_tallyLetters at hw
  refine g_iconst (v := 0) h (by decide) dX5_tallyLetters_0 ?_
  refine g_istore_n (lo2 := [(3, .int 0), (0, .ref 220), (1, .long a1)]) h rfl (by decide) rfl dX5_tallyLetters_1 ?_
  exact g_sub [1, 2, 0] rfl (t_X5_tallyLetters_2 h hr hw)
theorem c_X5_tallyLetters (X : sX) {a1 : Int64} {I : sI} {J : sJ} {post : sI → sJ → Prop} (hw : w_X5_tallyLetters a1 I J post) : sCall X yX5_tallyLetters cX5_tallyLetters 5 none 2 42 [.ref 220, .long a1] I J (sPv post) := sCall_of (by decide +kernel) (Nat.le_of_ble_eq_true rfl) (fun X h hr => t_X5_tallyLetters h hr hw)
theorem dX5_sortIn_0 : decode cX5_sortIn 0 = .ok (.aload_n 0, 1) := by decide +kernel
theorem dX5_sortIn_1 : decode cX5_sortIn 1 = .ok (.getfield 50, 3) := by decide +kernel
theorem dX5_sortIn_4 : decode cX5_sortIn 4 = .ok (.iconst 1, 1) := by decide +kernel
theorem dX5_sortIn_5 : decode cX5_sortIn 5 = .ok (.isub, 1) := by decide +kernel
theorem dX5_sortIn_6 : decode cX5_sortIn 6 = .ok (.aload_n 0, 1) := by decide +kernel
theorem dX5_sortIn_7 : decode cX5_sortIn 7 = .ok (.getfield 44, 3) := by decide +kernel
theorem dX5_sortIn_10 : decode cX5_sortIn 10 = .ok (.invokestatic 32, 3) := by decide +kernel
theorem dX5_sortIn_13 : decode cX5_sortIn 13 = .ok (.istore_n 3, 1) := by decide +kernel
theorem dX5_sortIn_14 : decode cX5_sortIn 14 = .ok (.iload_n 3, 1) := by decide +kernel
theorem dX5_sortIn_15 : decode cX5_sortIn 15 = .ok (.aload_n 0, 1) := by decide +kernel
theorem dX5_sortIn_16 : decode cX5_sortIn 16 = .ok (.getfield 44, 3) := by decide +kernel
theorem dX5_sortIn_19 : decode cX5_sortIn 19 = .ok (.if_icmp .ne 17, 3) := by decide +kernel
theorem dX5_sortIn_22 : decode cX5_sortIn 22 = .ok (.lload_n 1, 1) := by decide +kernel
theorem dX5_sortIn_23 : decode cX5_sortIn 23 = .ok (.aload_n 0, 1) := by decide +kernel
theorem dX5_sortIn_24 : decode cX5_sortIn 24 = .ok (.getfield 9, 3) := by decide +kernel
theorem dX5_sortIn_27 : decode cX5_sortIn 27 = .ok (.iload_n 3, 1) := by decide +kernel
theorem dX5_sortIn_28 : decode cX5_sortIn 28 = .ok (.iconst 1, 1) := by decide +kernel
theorem dX5_sortIn_29 : decode cX5_sortIn 29 = .ok (.isub, 1) := by decide +kernel
theorem dX5_sortIn_30 : decode cX5_sortIn 30 = .ok (.laload, 1) := by decide +kernel
theorem dX5_sortIn_31 : decode cX5_sortIn 31 = .ok (.lcmp, 1) := by decide +kernel
theorem dX5_sortIn_32 : decode cX5_sortIn 32 = .ok (.ifCond .le 4, 3) := by decide +kernel
theorem dX5_sortIn_35 : decode cX5_sortIn 35 = .ok (.return_, 1) := by decide +kernel
theorem dX5_sortIn_36 : decode cX5_sortIn 36 = .ok (.iload_n 3, 1) := by decide +kernel
theorem dX5_sortIn_37 : decode cX5_sortIn 37 = .ok (.aload_n 0, 1) := by decide +kernel
theorem dX5_sortIn_38 : decode cX5_sortIn 38 = .ok (.getfield 44, 3) := by decide +kernel
theorem dX5_sortIn_41 : decode cX5_sortIn 41 = .ok (.if_icmp .ge 7, 3) := by decide +kernel
theorem dX5_sortIn_44 : decode cX5_sortIn 44 = .ok (.iload_n 3, 1) := by decide +kernel
theorem dX5_sortIn_45 : decode cX5_sortIn 45 = .ok (.goto 6, 3) := by decide +kernel
theorem dX5_sortIn_48 : decode cX5_sortIn 48 = .ok (.iload_n 3, 1) := by decide +kernel
theorem dX5_sortIn_49 : decode cX5_sortIn 49 = .ok (.iconst 1, 1) := by decide +kernel
theorem dX5_sortIn_50 : decode cX5_sortIn 50 = .ok (.isub, 1) := by decide +kernel
theorem dX5_sortIn_51 : decode cX5_sortIn 51 = .ok (.istore 4, 2) := by decide +kernel
theorem dX5_sortIn_53 : decode cX5_sortIn 53 = .ok (.iload 4, 2) := by decide +kernel
theorem dX5_sortIn_55 : decode cX5_sortIn 55 = .ok (.ifCond .le 39, 3) := by decide +kernel
theorem dX5_sortIn_58 : decode cX5_sortIn 58 = .ok (.aload_n 0, 1) := by decide +kernel
theorem dX5_sortIn_59 : decode cX5_sortIn 59 = .ok (.getfield 9, 3) := by decide +kernel
theorem dX5_sortIn_62 : decode cX5_sortIn 62 = .ok (.iload 4, 2) := by decide +kernel
theorem dX5_sortIn_64 : decode cX5_sortIn 64 = .ok (.iconst 1, 1) := by decide +kernel
theorem dX5_sortIn_65 : decode cX5_sortIn 65 = .ok (.isub, 1) := by decide +kernel
theorem dX5_sortIn_66 : decode cX5_sortIn 66 = .ok (.laload, 1) := by decide +kernel
theorem dX5_sortIn_67 : decode cX5_sortIn 67 = .ok (.lload_n 1, 1) := by decide +kernel
theorem dX5_sortIn_68 : decode cX5_sortIn 68 = .ok (.lcmp, 1) := by decide +kernel
theorem dX5_sortIn_69 : decode cX5_sortIn 69 = .ok (.ifCond .le 25, 3) := by decide +kernel
theorem dX5_sortIn_72 : decode cX5_sortIn 72 = .ok (.aload_n 0, 1) := by decide +kernel
theorem dX5_sortIn_73 : decode cX5_sortIn 73 = .ok (.getfield 9, 3) := by decide +kernel
theorem dX5_sortIn_76 : decode cX5_sortIn 76 = .ok (.iload 4, 2) := by decide +kernel
theorem dX5_sortIn_78 : decode cX5_sortIn 78 = .ok (.aload_n 0, 1) := by decide +kernel
theorem dX5_sortIn_79 : decode cX5_sortIn 79 = .ok (.getfield 9, 3) := by decide +kernel
theorem dX5_sortIn_82 : decode cX5_sortIn 82 = .ok (.iload 4, 2) := by decide +kernel
theorem dX5_sortIn_84 : decode cX5_sortIn 84 = .ok (.iconst 1, 1) := by decide +kernel
theorem dX5_sortIn_85 : decode cX5_sortIn 85 = .ok (.isub, 1) := by decide +kernel
theorem dX5_sortIn_86 : decode cX5_sortIn 86 = .ok (.laload, 1) := by decide +kernel
theorem dX5_sortIn_87 : decode cX5_sortIn 87 = .ok (.lastore, 1) := by decide +kernel
theorem dX5_sortIn_88 : decode cX5_sortIn 88 = .ok (.iinc 4 (-1), 3) := by decide +kernel
theorem dX5_sortIn_91 : decode cX5_sortIn 91 = .ok (.goto (-38), 3) := by decide +kernel
theorem dX5_sortIn_94 : decode cX5_sortIn 94 = .ok (.aload_n 0, 1) := by decide +kernel
theorem dX5_sortIn_95 : decode cX5_sortIn 95 = .ok (.getfield 9, 3) := by decide +kernel
theorem dX5_sortIn_98 : decode cX5_sortIn 98 = .ok (.iload 4, 2) := by decide +kernel
theorem dX5_sortIn_100 : decode cX5_sortIn 100 = .ok (.lload_n 1, 1) := by decide +kernel
theorem dX5_sortIn_101 : decode cX5_sortIn 101 = .ok (.lastore, 1) := by decide +kernel
theorem dX5_sortIn_102 : decode cX5_sortIn 102 = .ok (.return_, 1) := by decide +kernel
def w_X5_sortIn_94 (post : sI → sJ → Prop) (x1 : Int64) (x4 : Int32) (I : sI) (J : sJ) : Prop :=
  (vp_in x4 200 ∧ (∀ J_101 : sJ, J_101 = sUJ J 221 (Int32.toNatClampNeg x4) x1 → post I J_101))
set_option maxHeartbeats 4000000 in
set_option maxRecDepth 100000 in
theorem t_X5_sortIn_94 {X : sX} {post : sI → sJ → Prop} (h : sOK X cX5_sortIn RX5 5 1 21) (hr : sRt X none (sPv post)) {x1 : Int64} {x4 : Int32} {I : sI} {J : sJ} (hw : w_X5_sortIn_94 post x1 x4 I J) : sG X 5 94 [(0, .ref 220), (1, .long x1), (4, .int x4)] [] I J := by
  unfold w_X5_sortIn_94 at hw
  refine g_aload_n h rfl 0 rfl dX5_sortIn_94 ?_
  refine g_get h is_220 fl_X5_9 fr_220_0 dX5_sortIn_95 ?_
  refine g_iload h 2 rfl dX5_sortIn_98 ?_
  refine g_lload_n h rfl 1 rfl dX5_sortIn_100 ?_
  obtain ⟨hi101, hw⟩ := hw
  refine g_last h ar_221 hi101 dX5_sortIn_101 ?_
  refine g_nJ (fun J_101 eJ_101 => ?_)
  replace hw := hw J_101 eJ_101
  exact g_vret h hr dX5_sortIn_102 hw
def w_X5_sortIn_53_s (post : sI → sJ → Prop) (k53 : Int64 → Int32 → sI → sJ → Prop) (x1 : Int64) (x4 : Int32) (I : sI) (J : sJ) : Prop :=
  ((x4 ≤ 0 → w_X5_sortIn_94 post x1 x4 I J) ∧ (¬ x4 ≤ 0 → (vp_in (x4 - 1) 200 ∧ (((lg_cmp (J 221 (Int32.toNatClampNeg (x4 - 1))) x1) ≤ 0 → w_X5_sortIn_94 post x1 x4 I J) ∧ (¬ (lg_cmp (J 221 (Int32.toNatClampNeg (x4 - 1))) x1) ≤ 0 → (vp_in (x4 - 1) 200 ∧ (vp_in x4 200 ∧ (∀ J_87 : sJ, J_87 = sUJ J 221 (Int32.toNatClampNeg x4) (J 221 (Int32.toNatClampNeg (x4 - 1))) → (∀ v4_88 : Int32, v4_88 = x4 + (-1) → k53 x1 v4_88 I J_87)))))))))
def w_X5_sortIn_53_n (post : sI → sJ → Prop) : Nat → Int64 → Int32 → sI → sJ → Prop
  | 0 => fun _ _ _ _ => False
  | n + 1 => fun x1 x4 I J => w_X5_sortIn_53_s post (w_X5_sortIn_53_n post n) x1 x4 I J
def w_X5_sortIn_53 (post : sI → sJ → Prop) (x1 : Int64) (x4 : Int32) (I : sI) (J : sJ) : Prop := ∃ n, w_X5_sortIn_53_n post n x1 x4 I J
set_option maxHeartbeats 4000000 in
set_option maxRecDepth 100000 in
theorem t_X5_sortIn_53_s {X : sX} {post : sI → sJ → Prop} (h : sOK X cX5_sortIn RX5 5 1 21) (hr : sRt X none (sPv post)) {k53 : Int64 → Int32 → sI → sJ → Prop} (hk53 : ∀ (x1 : Int64) (x4 : Int32) (I : sI) (J : sJ), k53 x1 x4 I J → sG X 5 53 [(0, .ref 220), (1, .long x1), (4, .int x4)] [] I J) {x1 : Int64} {x4 : Int32} {I : sI} {J : sJ} (hw : w_X5_sortIn_53_s post k53 x1 x4 I J) : sG X 5 53 [(0, .ref 220), (1, .long x1), (4, .int x4)] [] I J := by
  unfold w_X5_sortIn_53_s at hw
  refine g_iload h 2 rfl dX5_sortIn_53 ?_
  refine g_if_le (tgt := 94) h (by decide) dX5_sortIn_55 (fun q55 => ?_) (fun q55 => ?_)
  · replace hw := hw.1 q55
    exact g_sub [0, 1, 2] rfl (t_X5_sortIn_94 h hr hw)
  · replace hw := hw.2 q55
    refine g_aload_n h rfl 0 rfl dX5_sortIn_58 ?_
    refine g_get h is_220 fl_X5_9 fr_220_0 dX5_sortIn_59 ?_
    refine g_iload h 2 rfl dX5_sortIn_62 ?_
    refine g_iconst (v := 1) h (by decide) dX5_sortIn_64 ?_
    refine g_isub h dX5_sortIn_65 ?_
    obtain ⟨hi66, hw⟩ := hw
    refine g_lald h ar_221 hi66 dX5_sortIn_66 ?_
    refine g_lload_n h rfl 1 rfl dX5_sortIn_67 ?_
    refine g_lcmp h dX5_sortIn_68 ?_
    refine g_if_le (tgt := 94) h (by decide) dX5_sortIn_69 (fun q69 => ?_) (fun q69 => ?_)
    · replace hw := hw.1 q69
      exact g_sub [0, 1, 2] rfl (t_X5_sortIn_94 h hr hw)
    · replace hw := hw.2 q69
      refine g_aload_n h rfl 0 rfl dX5_sortIn_72 ?_
      refine g_get h is_220 fl_X5_9 fr_220_0 dX5_sortIn_73 ?_
      refine g_iload h 2 rfl dX5_sortIn_76 ?_
      refine g_aload_n h rfl 0 rfl dX5_sortIn_78 ?_
      refine g_get h is_220 fl_X5_9 fr_220_0 dX5_sortIn_79 ?_
      refine g_iload h 2 rfl dX5_sortIn_82 ?_
      refine g_iconst (v := 1) h (by decide) dX5_sortIn_84 ?_
      refine g_isub h dX5_sortIn_85 ?_
      obtain ⟨hi86, hw⟩ := hw
      refine g_lald h ar_221 hi86 dX5_sortIn_86 ?_
      obtain ⟨hi87, hw⟩ := hw
      refine g_last h ar_221 hi87 dX5_sortIn_87 ?_
      refine g_nJ (fun J_87 eJ_87 => ?_)
      replace hw := hw J_87 eJ_87
      obtain ⟨v4_88, ev4_88⟩ : ∃ z : Int32, z = x4 + (-1) := ⟨_, rfl⟩
      replace hw := hw v4_88 ev4_88
      refine g_iinc (v := v4_88) (lo2 := [(4, .int v4_88), (0, .ref 220), (1, .long x1)]) h 2 rfl (by rw [ev4_88]; rfl) (by decide) rfl dX5_sortIn_88 ?_
      refine g_goto (tgt := 53) h (by decide) dX5_sortIn_91 ?_
      exact g_sub [1, 2, 0] rfl (hk53 _ _ _ _ hw)
theorem t_X5_sortIn_53 {X : sX} {post : sI → sJ → Prop} (h : sOK X cX5_sortIn RX5 5 1 21) (hr : sRt X none (sPv post)) {x1 : Int64} {x4 : Int32} {I : sI} {J : sJ} (hw : w_X5_sortIn_53 post x1 x4 I J) : sG X 5 53 [(0, .ref 220), (1, .long x1), (4, .int x4)] [] I J := by
  obtain ⟨n, hw⟩ := hw
  induction n generalizing x1 x4 I J with
  | zero => exact hw.elim
  | succ n ih => exact t_X5_sortIn_53_s h hr (fun _ _ _ _ q => ih q) hw
def w_X5_sortIn_51 (post : sI → sJ → Prop) (x1 : Int64) (s0 : Int32) (I : sI) (J : sJ) : Prop :=
  w_X5_sortIn_53 post x1 s0 I J
set_option maxHeartbeats 4000000 in
set_option maxRecDepth 100000 in
theorem t_X5_sortIn_51 {X : sX} {post : sI → sJ → Prop} (h : sOK X cX5_sortIn RX5 5 1 21) (hr : sRt X none (sPv post)) {x1 : Int64} {s0 : Int32} {I : sI} {J : sJ} (hw : w_X5_sortIn_51 post x1 s0 I J) : sG X 5 51 [(0, .ref 220), (1, .long x1)] [.int s0] I J := by
  unfold w_X5_sortIn_51 at hw
  refine g_istore (lo2 := [(4, .int s0), (0, .ref 220), (1, .long x1)]) h (by decide) rfl dX5_sortIn_51 ?_
  exact g_sub [1, 2, 0] rfl (t_X5_sortIn_53 h hr hw)
def w_X5_sortIn_36 (post : sI → sJ → Prop) (x1 : Int64) (x3 : Int32) (I : sI) (J : sJ) : Prop :=
  (((I 220 11) ≤ x3 → w_X5_sortIn_51 post x1 (x3 - 1) I J) ∧ (¬ (I 220 11) ≤ x3 → w_X5_sortIn_51 post x1 x3 I J))
set_option maxHeartbeats 4000000 in
set_option maxRecDepth 100000 in
theorem t_X5_sortIn_36 {X : sX} {post : sI → sJ → Prop} (h : sOK X cX5_sortIn RX5 5 1 21) (hr : sRt X none (sPv post)) {x1 : Int64} {x3 : Int32} {I : sI} {J : sJ} (hw : w_X5_sortIn_36 post x1 x3 I J) : sG X 5 36 [(0, .ref 220), (1, .long x1), (3, .int x3)] [] I J := by
  unfold w_X5_sortIn_36 at hw
  refine g_iload_n h rfl 2 rfl dX5_sortIn_36 ?_
  refine g_aload_n h rfl 0 rfl dX5_sortIn_37 ?_
  refine g_get h is_220 fl_X5_44 rfl dX5_sortIn_38 ?_
  refine g_icmp_ge (tgt := 48) h (by decide) dX5_sortIn_41 (fun q41 => ?_) (fun q41 => ?_)
  · replace hw := hw.1 q41
    refine g_iload_n h rfl 2 rfl dX5_sortIn_48 ?_
    refine g_iconst (v := 1) h (by decide) dX5_sortIn_49 ?_
    refine g_isub h dX5_sortIn_50 ?_
    exact g_sub [0, 1] rfl (t_X5_sortIn_51 h hr hw)
  · replace hw := hw.2 q41
    refine g_iload_n h rfl 2 rfl dX5_sortIn_44 ?_
    refine g_goto (tgt := 51) h (by decide) dX5_sortIn_45 ?_
    exact g_sub [0, 1] rfl (t_X5_sortIn_51 h hr hw)
def w_X5_sortIn (a1 : Int64) (I : sI) (J : sJ) (post : sI → sJ → Prop) : Prop :=
  w_J9_min_7cf53 ((I 220 2) - 1) (I 220 11) I J (fun (r_10 : Int32) (I_10 : sI) (J_10 : sJ) => (((¬ r_10 = (I_10 220 11) → w_X5_sortIn_36 post a1 r_10 I_10 J_10) ∧ (r_10 = (I_10 220 11) → (vp_in (r_10 - 1) 200 ∧ (((lg_cmp a1 (J_10 221 (Int32.toNatClampNeg (r_10 - 1)))) ≤ 0 → w_X5_sortIn_36 post a1 r_10 I_10 J_10) ∧ (¬ (lg_cmp a1 (J_10 221 (Int32.toNatClampNeg (r_10 - 1)))) ≤ 0 → post I_10 J_10)))))))
set_option maxHeartbeats 4000000 in
set_option maxRecDepth 100000 in
theorem t_X5_sortIn {X : sX} {a1 : Int64} {I : sI} {J : sJ} {post : sI → sJ → Prop} (h : sOK X cX5_sortIn RX5 5 1 21) (hr : sRt X none (sPv post)) (hw : w_X5_sortIn a1 I J post) : sG X 5 0 [(0, .ref 220), (1, .long a1)] [] I J := by
  unfold w_X5_sortIn at hw
  refine g_aload_n h rfl 0 rfl dX5_sortIn_0 ?_
  refine g_get h is_220 fl_X5_50 rfl dX5_sortIn_1 ?_
  refine g_iconst (v := 1) h (by decide) dX5_sortIn_4 ?_
  refine g_isub h dX5_sortIn_5 ?_
  refine g_aload_n h rfl 0 rfl dX5_sortIn_6 ?_
  refine g_get h is_220 fl_X5_44 rfl dX5_sortIn_7 ?_
  refine g_callS [.int ((I 220 2) - 1), .int (I 220 11)] h (c_J9_min_7cf53 X hw) sPi_v mw_J9_min_7cf53 lk_X5_32 rfl ⟨by decide, by decide⟩ (Nat.le_of_ble_eq_true rfl) dX5_sortIn_10 (sPi_k (fun r_10 I_10 J_10 hw => ?_))
  refine g_istore_n (lo2 := [(3, .int r_10), (0, .ref 220), (1, .long a1)]) h rfl (by decide) rfl dX5_sortIn_13 ?_
  refine g_iload_n h rfl 0 rfl dX5_sortIn_14 ?_
  refine g_aload_n h rfl 1 rfl dX5_sortIn_15 ?_
  refine g_get h is_220 fl_X5_44 rfl dX5_sortIn_16 ?_
  refine g_icmp_ne (tgt := 36) h (by decide) dX5_sortIn_19 (fun q19 => ?_) (fun q19 => ?_)
  · replace hw := hw.1 q19
    exact g_sub [1, 2, 0] rfl (t_X5_sortIn_36 h hr hw)
  · replace hw := hw.2 q19
    refine g_lload_n h rfl 2 rfl dX5_sortIn_22 ?_
    refine g_aload_n h rfl 1 rfl dX5_sortIn_23 ?_
    refine g_get h is_220 fl_X5_9 fr_220_0 dX5_sortIn_24 ?_
    refine g_iload_n h rfl 0 rfl dX5_sortIn_27 ?_
    refine g_iconst (v := 1) h (by decide) dX5_sortIn_28 ?_
    refine g_isub h dX5_sortIn_29 ?_
    obtain ⟨hi30, hw⟩ := hw
    refine g_lald h ar_221 hi30 dX5_sortIn_30 ?_
    refine g_lcmp h dX5_sortIn_31 ?_
    refine g_if_le (tgt := 36) h (by decide) dX5_sortIn_32 (fun q32 => ?_) (fun q32 => ?_)
    · replace hw := hw.1 q32
      exact g_sub [1, 2, 0] rfl (t_X5_sortIn_36 h hr hw)
    · replace hw := hw.2 q32
      exact g_vret h hr dX5_sortIn_35 hw
theorem c_X5_sortIn (X : sX) {a1 : Int64} {I : sI} {J : sJ} {post : sI → sJ → Prop} (hw : w_X5_sortIn a1 I J post) : sCall X yX5_sortIn cX5_sortIn 5 none 1 21 [.ref 220, .long a1] I J (sPv post) := sCall_of (by decide +kernel) (Nat.le_of_ble_eq_true rfl) (fun X h hr => t_X5_sortIn h hr hw)
theorem dX5_take_0 : decode cX5_take 0 = .ok (.aload_n 0, 1) := by decide +kernel
theorem dX5_take_1 : decode cX5_take 1 = .ok (.dup, 1) := by decide +kernel
theorem dX5_take_2 : decode cX5_take 2 = .ok (.getfield 50, 3) := by decide +kernel
theorem dX5_take_5 : decode cX5_take 5 = .ok (.iconst 1, 1) := by decide +kernel
theorem dX5_take_6 : decode cX5_take 6 = .ok (.iadd, 1) := by decide +kernel
theorem dX5_take_7 : decode cX5_take 7 = .ok (.putfield 50, 3) := by decide +kernel
theorem dX5_take_10 : decode cX5_take 10 = .ok (.aload_n 0, 1) := by decide +kernel
theorem dX5_take_11 : decode cX5_take 11 = .ok (.getfield 50, 3) := by decide +kernel
theorem dX5_take_14 : decode cX5_take 14 = .ok (.iconst 1, 1) := by decide +kernel
theorem dX5_take_15 : decode cX5_take 15 = .ok (.if_icmp .eq 12, 3) := by decide +kernel
theorem dX5_take_18 : decode cX5_take 18 = .ok (.lload_n 1, 1) := by decide +kernel
theorem dX5_take_19 : decode cX5_take 19 = .ok (.aload_n 0, 1) := by decide +kernel
theorem dX5_take_20 : decode cX5_take 20 = .ok (.getfield 59, 3) := by decide +kernel
theorem dX5_take_23 : decode cX5_take 23 = .ok (.lcmp, 1) := by decide +kernel
theorem dX5_take_24 : decode cX5_take 24 = .ok (.ifCond .ge 8, 3) := by decide +kernel
theorem dX5_take_27 : decode cX5_take 27 = .ok (.aload_n 0, 1) := by decide +kernel
theorem dX5_take_28 : decode cX5_take 28 = .ok (.lload_n 1, 1) := by decide +kernel
theorem dX5_take_29 : decode cX5_take 29 = .ok (.putfield 59, 3) := by decide +kernel
theorem dX5_take_32 : decode cX5_take 32 = .ok (.aload_n 0, 1) := by decide +kernel
theorem dX5_take_33 : decode cX5_take 33 = .ok (.getfield 41, 3) := by decide +kernel
theorem dX5_take_36 : decode cX5_take 36 = .ok (.iconst 1, 1) := by decide +kernel
theorem dX5_take_37 : decode cX5_take 37 = .ok (.if_icmp .ne 11, 3) := by decide +kernel
theorem dX5_take_40 : decode cX5_take 40 = .ok (.aload_n 0, 1) := by decide +kernel
theorem dX5_take_41 : decode cX5_take 41 = .ok (.lload_n 1, 1) := by decide +kernel
theorem dX5_take_42 : decode cX5_take 42 = .ok (.invokevirtual 96, 3) := by decide +kernel
theorem dX5_take_45 : decode cX5_take 45 = .ok (.goto 58, 3) := by decide +kernel
theorem dX5_take_48 : decode cX5_take 48 = .ok (.aload_n 0, 1) := by decide +kernel
theorem dX5_take_49 : decode cX5_take 49 = .ok (.getfield 41, 3) := by decide +kernel
theorem dX5_take_52 : decode cX5_take 52 = .ok (.iconst 2, 1) := by decide +kernel
theorem dX5_take_53 : decode cX5_take 53 = .ok (.if_icmp .ne 11, 3) := by decide +kernel
theorem dX5_take_56 : decode cX5_take 56 = .ok (.aload_n 0, 1) := by decide +kernel
theorem dX5_take_57 : decode cX5_take 57 = .ok (.lload_n 1, 1) := by decide +kernel
theorem dX5_take_58 : decode cX5_take 58 = .ok (.invokevirtual 99, 3) := by decide +kernel
theorem dX5_take_61 : decode cX5_take 61 = .ok (.goto 42, 3) := by decide +kernel
theorem dX5_take_64 : decode cX5_take 64 = .ok (.aload_n 0, 1) := by decide +kernel
theorem dX5_take_65 : decode cX5_take 65 = .ok (.getfield 41, 3) := by decide +kernel
theorem dX5_take_68 : decode cX5_take 68 = .ok (.iconst 3, 1) := by decide +kernel
theorem dX5_take_69 : decode cX5_take 69 = .ok (.if_icmp .ne 34, 3) := by decide +kernel
theorem dX5_take_72 : decode cX5_take 72 = .ok (.aload_n 0, 1) := by decide +kernel
theorem dX5_take_73 : decode cX5_take 73 = .ok (.dup, 1) := by decide +kernel
theorem dX5_take_74 : decode cX5_take 74 = .ok (.getfield 56, 3) := by decide +kernel
theorem dX5_take_77 : decode cX5_take 77 = .ok (.aload_n 0, 1) := by decide +kernel
theorem dX5_take_78 : decode cX5_take 78 = .ok (.getfield 22, 3) := by decide +kernel
theorem dX5_take_81 : decode cX5_take 81 = .ok (.getfield 102, 3) := by decide +kernel
theorem dX5_take_84 : decode cX5_take 84 = .ok (.aload_n 0, 1) := by decide +kernel
theorem dX5_take_85 : decode cX5_take 85 = .ok (.getfield 44, 3) := by decide +kernel
theorem dX5_take_88 : decode cX5_take 88 = .ok (.aaload, 1) := by decide +kernel
theorem dX5_take_89 : decode cX5_take 89 = .ok (.aload_n 0, 1) := by decide +kernel
theorem dX5_take_90 : decode cX5_take 90 = .ok (.getfield 19, 3) := by decide +kernel
theorem dX5_take_93 : decode cX5_take 93 = .ok (.aload_n 0, 1) := by decide +kernel
theorem dX5_take_94 : decode cX5_take 94 = .ok (.getfield 44, 3) := by decide +kernel
theorem dX5_take_97 : decode cX5_take 97 = .ok (.iaload, 1) := by decide +kernel
theorem dX5_take_98 : decode cX5_take 98 = .ok (.iaload, 1) := by decide +kernel
theorem dX5_take_99 : decode cX5_take 99 = .ok (.ior, 1) := by decide +kernel
theorem dX5_take_100 : decode cX5_take 100 = .ok (.putfield 56, 3) := by decide +kernel
theorem dX5_take_103 : decode cX5_take 103 = .ok (.return_, 1) := by decide +kernel
def w_X5_take_32 (post : sI → sJ → Prop) (x1 : Int64) (I : sI) (J : sJ) : Prop :=
  ((¬ (I 220 10) = 1 → ((¬ (I 220 10) = 2 → ((¬ (I 220 10) = 3 → post I J) ∧ ((I 220 10) = 3 → (vp_in (I 220 11) 24 ∧ (vp_in (I 220 11) 24 ∧ (vp_in (I 223 (Int32.toNatClampNeg (I 220 11))) 20 ∧ (∀ I_100 : sI, I_100 = sUI I 220 4 ((I 220 4) ||| (I (sR 193 (Int32.toNatClampNeg (I 220 11))) (Int32.toNatClampNeg (I 223 (Int32.toNatClampNeg (I 220 11)))))) → post I_100 J))))))) ∧ ((I 220 10) = 2 → w_X5_sortIn x1 I J (fun (I_58 : sI) (J_58 : sJ) => (post I_58 J_58))))) ∧ ((I 220 10) = 1 → w_X5_tallyLetters x1 I J (fun (I_42 : sI) (J_42 : sJ) => (post I_42 J_42))))
set_option maxHeartbeats 4000000 in
set_option maxRecDepth 100000 in
theorem t_X5_take_32 {X : sX} {post : sI → sJ → Prop} (h : sOK X cX5_take RX5 3 3 66) (hr : sRt X none (sPv post)) {x1 : Int64} {I : sI} {J : sJ} (hw : w_X5_take_32 post x1 I J) : sG X 3 32 [(0, .ref 220), (1, .long x1)] [] I J := by
  unfold w_X5_take_32 at hw
  refine g_aload_n h rfl 0 rfl dX5_take_32 ?_
  refine g_get h is_220 fl_X5_41 rfl dX5_take_33 ?_
  refine g_iconst (v := 1) h (by decide) dX5_take_36 ?_
  refine g_icmp_ne (tgt := 48) h (by decide) dX5_take_37 (fun q37 => ?_) (fun q37 => ?_)
  · replace hw := hw.1 q37
    refine g_aload_n h rfl 0 rfl dX5_take_48 ?_
    refine g_get h is_220 fl_X5_41 rfl dX5_take_49 ?_
    refine g_iconst (v := 2) h (by decide) dX5_take_52 ?_
    refine g_icmp_ne (tgt := 64) h (by decide) dX5_take_53 (fun q53 => ?_) (fun q53 => ?_)
    · replace hw := hw.1 q53
      refine g_aload_n h rfl 0 rfl dX5_take_64 ?_
      refine g_get h is_220 fl_X5_41 rfl dX5_take_65 ?_
      refine g_iconst (v := 3) h (by decide) dX5_take_68 ?_
      refine g_icmp_ne (tgt := 103) h (by decide) dX5_take_69 (fun q69 => ?_) (fun q69 => ?_)
      · replace hw := hw.1 q69
        exact g_vret h hr dX5_take_103 hw
      · replace hw := hw.2 q69
        refine g_aload_n h rfl 0 rfl dX5_take_72 ?_
        refine g_dup h rfl dX5_take_73 ?_
        refine g_get h is_220 fl_X5_56 rfl dX5_take_74 ?_
        refine g_aload_n h rfl 0 rfl dX5_take_77 ?_
        refine g_get h is_220 fl_X5_22 fr_220_6 dX5_take_78 ?_
        refine g_get h is_142 fl_X5_102 fr_142_2 dX5_take_81 ?_
        refine g_aload_n h rfl 0 rfl dX5_take_84 ?_
        refine g_get h is_220 fl_X5_44 rfl dX5_take_85 ?_
        obtain ⟨hi88, hw⟩ := hw
        refine g_aald (t := 2) h ar_193 (by decide) hi88 dX5_take_88 ?_
        refine g_aload_n h rfl 0 rfl dX5_take_89 ?_
        refine g_get h is_220 fl_X5_19 fr_220_8 dX5_take_90 ?_
        refine g_aload_n h rfl 0 rfl dX5_take_93 ?_
        refine g_get h is_220 fl_X5_44 rfl dX5_take_94 ?_
        obtain ⟨hi97, hw⟩ := hw
        refine g_iald h ar_223 hi97 dX5_take_97 ?_
        obtain ⟨hi98, hw⟩ := hw
        refine g_iald h (el_6_24 ar_193 hi88) hi98 dX5_take_98 ?_
        refine g_ior h dX5_take_99 ?_
        refine g_putI h is_220 fl_X5_56 rfl rfl dX5_take_100 ?_
        refine g_nI (fun I_100 eI_100 => ?_)
        replace hw := hw I_100 eI_100
        exact g_vret h hr dX5_take_103 hw
    · replace hw := hw.2 q53
      refine g_aload_n h rfl 0 rfl dX5_take_56 ?_
      refine g_lload_n h rfl 1 rfl dX5_take_57 ?_
      refine g_callV [.long x1] h (c_X5_sortIn X hw) sPv_v mw_X5_sortIn lk_X5_99 is_220 rfl rfl ⟨by decide, by decide⟩ (Nat.le_of_ble_eq_true rfl) dX5_take_58 (sPv_k (fun I_58 J_58 hw => ?_))
      refine g_goto (tgt := 103) h (by decide) dX5_take_61 ?_
      exact g_vret h hr dX5_take_103 hw
  · replace hw := hw.2 q37
    refine g_aload_n h rfl 0 rfl dX5_take_40 ?_
    refine g_lload_n h rfl 1 rfl dX5_take_41 ?_
    refine g_callV [.long x1] h (c_X5_tallyLetters X hw) sPv_v mw_X5_tallyLetters lk_X5_96 is_220 rfl rfl ⟨by decide, by decide⟩ (Nat.le_of_ble_eq_true rfl) dX5_take_42 (sPv_k (fun I_42 J_42 hw => ?_))
    refine g_goto (tgt := 103) h (by decide) dX5_take_45 ?_
    exact g_vret h hr dX5_take_103 hw
def w_X5_take_27 (post : sI → sJ → Prop) (x1 : Int64) (I : sI) (J : sJ) : Prop :=
  (∀ J_29 : sJ, J_29 = sUJ J 220 5 x1 → w_X5_take_32 post x1 I J_29)
set_option maxHeartbeats 4000000 in
set_option maxRecDepth 100000 in
theorem t_X5_take_27 {X : sX} {post : sI → sJ → Prop} (h : sOK X cX5_take RX5 3 3 66) (hr : sRt X none (sPv post)) {x1 : Int64} {I : sI} {J : sJ} (hw : w_X5_take_27 post x1 I J) : sG X 3 27 [(0, .ref 220), (1, .long x1)] [] I J := by
  unfold w_X5_take_27 at hw
  refine g_aload_n h rfl 0 rfl dX5_take_27 ?_
  refine g_lload_n h rfl 1 rfl dX5_take_28 ?_
  refine g_putJ h is_220 fl_X5_59 rfl rfl dX5_take_29 ?_
  refine g_nJ (fun J_29 eJ_29 => ?_)
  replace hw := hw J_29 eJ_29
  exact g_sub [0, 1] rfl (t_X5_take_32 h hr hw)
def w_X5_take (a1 : Int64) (I : sI) (J : sJ) (post : sI → sJ → Prop) : Prop :=
  (∀ I_7 : sI, I_7 = sUI I 220 2 ((I 220 2) + 1) → (((I_7 220 2) = 1 → w_X5_take_27 post a1 I_7 J) ∧ (¬ (I_7 220 2) = 1 → ((0 ≤ (lg_cmp a1 (J 220 5)) → w_X5_take_32 post a1 I_7 J) ∧ (¬ 0 ≤ (lg_cmp a1 (J 220 5)) → w_X5_take_27 post a1 I_7 J)))))
set_option maxHeartbeats 4000000 in
set_option maxRecDepth 100000 in
theorem t_X5_take {X : sX} {a1 : Int64} {I : sI} {J : sJ} {post : sI → sJ → Prop} (h : sOK X cX5_take RX5 3 3 66) (hr : sRt X none (sPv post)) (hw : w_X5_take a1 I J post) : sG X 3 0 [(0, .ref 220), (1, .long a1)] [] I J := by
  unfold w_X5_take at hw
  refine g_aload_n h rfl 0 rfl dX5_take_0 ?_
  refine g_dup h rfl dX5_take_1 ?_
  refine g_get h is_220 fl_X5_50 rfl dX5_take_2 ?_
  refine g_iconst (v := 1) h (by decide) dX5_take_5 ?_
  refine g_iadd h dX5_take_6 ?_
  refine g_putI h is_220 fl_X5_50 rfl rfl dX5_take_7 ?_
  refine g_nI (fun I_7 eI_7 => ?_)
  replace hw := hw I_7 eI_7
  refine g_aload_n h rfl 0 rfl dX5_take_10 ?_
  refine g_get h is_220 fl_X5_50 rfl dX5_take_11 ?_
  refine g_iconst (v := 1) h (by decide) dX5_take_14 ?_
  refine g_icmp_eq (tgt := 27) h (by decide) dX5_take_15 (fun q15 => ?_) (fun q15 => ?_)
  · replace hw := hw.1 q15
    exact g_sub [0, 1] rfl (t_X5_take_27 h hr hw)
  · replace hw := hw.2 q15
    refine g_lload_n h rfl 1 rfl dX5_take_18 ?_
    refine g_aload_n h rfl 0 rfl dX5_take_19 ?_
    refine g_get h is_220 fl_X5_59 rfl dX5_take_20 ?_
    refine g_lcmp h dX5_take_23 ?_
    refine g_if_ge (tgt := 32) h (by decide) dX5_take_24 (fun q24 => ?_) (fun q24 => ?_)
    · replace hw := hw.1 q24
      exact g_sub [0, 1] rfl (t_X5_take_32 h hr hw)
    · replace hw := hw.2 q24
      exact g_sub [0, 1] rfl (t_X5_take_27 h hr hw)
theorem c_X5_take (X : sX) {a1 : Int64} {I : sI} {J : sJ} {post : sI → sJ → Prop} (hw : w_X5_take a1 I J post) : sCall X yX5_take cX5_take 3 none 3 66 [.ref 220, .long a1] I J (sPv post) := sCall_of (by decide +kernel) (Nat.le_of_ble_eq_true rfl) (fun X h hr => t_X5_take h hr hw)
theorem dX10_crowded_0 : decode cX10_crowded 0 = .ok (.iload_n 1, 1) := by decide +kernel
theorem dX10_crowded_1 : decode cX10_crowded 1 = .ok (.aload_n 0, 1) := by decide +kernel
theorem dX10_crowded_2 : decode cX10_crowded 2 = .ok (.getfield 41, 3) := by decide +kernel
theorem dX10_crowded_5 : decode cX10_crowded 5 = .ok (.iadd, 1) := by decide +kernel
theorem dX10_crowded_6 : decode cX10_crowded 6 = .ok (.ldc 106, 2) := by decide +kernel
theorem dX10_crowded_8 : decode cX10_crowded 8 = .ok (.iand, 1) := by decide +kernel
theorem dX10_crowded_9 : decode cX10_crowded 9 = .ok (.ifCond .eq 7, 3) := by decide +kernel
theorem dX10_crowded_12 : decode cX10_crowded 12 = .ok (.iconst 1, 1) := by decide +kernel
theorem dX10_crowded_13 : decode cX10_crowded 13 = .ok (.goto 4, 3) := by decide +kernel
theorem dX10_crowded_16 : decode cX10_crowded 16 = .ok (.iconst 0, 1) := by decide +kernel
theorem dX10_crowded_17 : decode cX10_crowded 17 = .ok (.ireturn, 1) := by decide +kernel
def w_X10_crowded (a1 : Int32) (I : sI) (J : sJ) (post : Int32 → sI → sJ → Prop) : Prop :=
  ((((a1 + (I 142 7)) &&& (-2004318072)) = 0 → post 0 I J) ∧ (¬ ((a1 + (I 142 7)) &&& (-2004318072)) = 0 → post 1 I J))
set_option maxHeartbeats 4000000 in
set_option maxRecDepth 100000 in
theorem t_X10_crowded {X : sX} {a1 : Int32} {I : sI} {J : sJ} {post : Int32 → sI → sJ → Prop} (h : sOK X cX10_crowded RX10 2 0 0) (hr : sRt X (some .boolean) (sPi post)) (hw : w_X10_crowded a1 I J post) : sG X 2 0 [(0, .ref 142), (1, .int a1)] [] I J := by
  unfold w_X10_crowded at hw
  refine g_iload_n h rfl 1 rfl dX10_crowded_0 ?_
  refine g_aload_n h rfl 0 rfl dX10_crowded_1 ?_
  refine g_get h is_142 fl_X10_41 rfl dX10_crowded_2 ?_
  refine g_iadd h dX10_crowded_5 ?_
  refine g_ldc h lc_X10_106 dX10_crowded_6 ?_
  refine g_iand h dX10_crowded_8 ?_
  refine g_if_eq (tgt := 16) h (by decide) dX10_crowded_9 (fun q9 => ?_) (fun q9 => ?_)
  · replace hw := hw.1 q9
    refine g_iconst (v := 0) h (by decide) dX10_crowded_16 ?_
    exact g_zret h hr (Or.inl rfl) dX10_crowded_17 hw
  · replace hw := hw.2 q9
    refine g_iconst (v := 1) h (by decide) dX10_crowded_12 ?_
    refine g_goto (tgt := 17) h (by decide) dX10_crowded_13 ?_
    exact g_zret h hr (Or.inr rfl) dX10_crowded_17 hw
theorem c_X10_crowded (X : sX) {a1 : Int32} {I : sI} {J : sJ} {post : Int32 → sI → sJ → Prop} (hw : w_X10_crowded a1 I J post) : sCall X yX10_crowded cX10_crowded 2 (some .boolean) 0 0 [.ref 142, .int a1] I J (sPi post) := sCall_of (by decide +kernel) (Nat.le_of_ble_eq_true rfl) (fun X h hr => t_X10_crowded h hr hw)
theorem dX5_tooMany_0 : decode cX5_tooMany 0 = .ok (.aload_n 0, 1) := by decide +kernel
theorem dX5_tooMany_1 : decode cX5_tooMany 1 = .ok (.getfield 47, 3) := by decide +kernel
theorem dX5_tooMany_4 : decode cX5_tooMany 4 = .ok (.sipush 20000, 3) := by decide +kernel
theorem dX5_tooMany_7 : decode cX5_tooMany 7 = .ok (.if_icmp .le 7, 3) := by decide +kernel
theorem dX5_tooMany_10 : decode cX5_tooMany 10 = .ok (.iconst 1, 1) := by decide +kernel
theorem dX5_tooMany_11 : decode cX5_tooMany 11 = .ok (.goto 4, 3) := by decide +kernel
theorem dX5_tooMany_14 : decode cX5_tooMany 14 = .ok (.iconst 0, 1) := by decide +kernel
theorem dX5_tooMany_15 : decode cX5_tooMany 15 = .ok (.ireturn, 1) := by decide +kernel
def w_X5_tooMany (I : sI) (J : sJ) (post : Int32 → sI → sJ → Prop) : Prop :=
  (((I 220 1) ≤ 20000 → post 0 I J) ∧ (¬ (I 220 1) ≤ 20000 → post 1 I J))
set_option maxHeartbeats 4000000 in
set_option maxRecDepth 100000 in
theorem t_X5_tooMany {X : sX} {I : sI} {J : sJ} {post : Int32 → sI → sJ → Prop} (h : sOK X cX5_tooMany RX5 1 0 0) (hr : sRt X (some .boolean) (sPi post)) (hw : w_X5_tooMany I J post) : sG X 1 0 [(0, .ref 220)] [] I J := by
  unfold w_X5_tooMany at hw
  refine g_aload_n h rfl 0 rfl dX5_tooMany_0 ?_
  refine g_get h is_220 fl_X5_47 rfl dX5_tooMany_1 ?_
  refine g_sipush (v := 20000) h (by decide) dX5_tooMany_4 ?_
  refine g_icmp_le (tgt := 14) h (by decide) dX5_tooMany_7 (fun q7 => ?_) (fun q7 => ?_)
  · replace hw := hw.1 q7
    refine g_iconst (v := 0) h (by decide) dX5_tooMany_14 ?_
    exact g_zret h hr (Or.inl rfl) dX5_tooMany_15 hw
  · replace hw := hw.2 q7
    refine g_iconst (v := 1) h (by decide) dX5_tooMany_10 ?_
    refine g_goto (tgt := 15) h (by decide) dX5_tooMany_11 ?_
    exact g_zret h hr (Or.inr rfl) dX5_tooMany_15 hw
theorem c_X5_tooMany (X : sX) {I : sI} {J : sJ} {post : Int32 → sI → sJ → Prop} (hw : w_X5_tooMany I J post) : sCall X yX5_tooMany cX5_tooMany 1 (some .boolean) 0 0 [.ref 220] I J (sPi post) := sCall_of (by decide +kernel) (Nat.le_of_ble_eq_true rfl) (fun X h hr => t_X5_tooMany h hr hw)
theorem dX5_walk_0 : decode cX5_walk 0 = .ok (.iload_n 1, 1) := by decide +kernel
theorem dX5_walk_1 : decode cX5_walk 1 = .ok (.aload_n 0, 1) := by decide +kernel
theorem dX5_walk_2 : decode cX5_walk 2 = .ok (.getfield 38, 3) := by decide +kernel
theorem dX5_walk_5 : decode cX5_walk 5 = .ok (.if_icmp .lt 9, 3) := by decide +kernel
theorem dX5_walk_8 : decode cX5_walk 8 = .ok (.aload_n 0, 1) := by decide +kernel
theorem dX5_walk_9 : decode cX5_walk 9 = .ok (.lload_n 2, 1) := by decide +kernel
theorem dX5_walk_10 : decode cX5_walk 10 = .ok (.invokevirtual 70, 3) := by decide +kernel
theorem dX5_walk_13 : decode cX5_walk 13 = .ok (.return_, 1) := by decide +kernel
theorem dX5_walk_14 : decode cX5_walk 14 = .ok (.aload_n 0, 1) := by decide +kernel
theorem dX5_walk_15 : decode cX5_walk 15 = .ok (.getfield 22, 3) := by decide +kernel
theorem dX5_walk_18 : decode cX5_walk 18 = .ok (.getfield 74, 3) := by decide +kernel
theorem dX5_walk_21 : decode cX5_walk 21 = .ok (.iload_n 1, 1) := by decide +kernel
theorem dX5_walk_22 : decode cX5_walk 22 = .ok (.laload, 1) := by decide +kernel
theorem dX5_walk_23 : decode cX5_walk 23 = .ok (.lstore 5, 2) := by decide +kernel
theorem dX5_walk_25 : decode cX5_walk 25 = .ok (.aload_n 0, 1) := by decide +kernel
theorem dX5_walk_26 : decode cX5_walk 26 = .ok (.getfield 22, 3) := by decide +kernel
theorem dX5_walk_29 : decode cX5_walk 29 = .ok (.getfield 77, 3) := by decide +kernel
theorem dX5_walk_32 : decode cX5_walk 32 = .ok (.iload_n 1, 1) := by decide +kernel
theorem dX5_walk_33 : decode cX5_walk 33 = .ok (.iaload, 1) := by decide +kernel
theorem dX5_walk_34 : decode cX5_walk 34 = .ok (.istore 7, 2) := by decide +kernel
theorem dX5_walk_36 : decode cX5_walk 36 = .ok (.aload_n 0, 1) := by decide +kernel
theorem dX5_walk_37 : decode cX5_walk 37 = .ok (.getfield 50, 3) := by decide +kernel
theorem dX5_walk_40 : decode cX5_walk 40 = .ok (.istore 8, 2) := by decide +kernel
theorem dX5_walk_42 : decode cX5_walk 42 = .ok (.iconst 0, 1) := by decide +kernel
theorem dX5_walk_43 : decode cX5_walk 43 = .ok (.istore 9, 2) := by decide +kernel
theorem dX5_walk_45 : decode cX5_walk 45 = .ok (.iload 9, 2) := by decide +kernel
theorem dX5_walk_47 : decode cX5_walk 47 = .ok (.iload 7, 2) := by decide +kernel
theorem dX5_walk_49 : decode cX5_walk 49 = .ok (.if_icmp .ge 123, 3) := by decide +kernel
theorem dX5_walk_52 : decode cX5_walk 52 = .ok (.aload_n 0, 1) := by decide +kernel
theorem dX5_walk_53 : decode cX5_walk 53 = .ok (.getfield 22, 3) := by decide +kernel
theorem dX5_walk_56 : decode cX5_walk 56 = .ok (.getfield 80, 3) := by decide +kernel
theorem dX5_walk_59 : decode cX5_walk 59 = .ok (.iload_n 1, 1) := by decide +kernel
theorem dX5_walk_60 : decode cX5_walk 60 = .ok (.aaload, 1) := by decide +kernel
theorem dX5_walk_61 : decode cX5_walk 61 = .ok (.iload 9, 2) := by decide +kernel
theorem dX5_walk_63 : decode cX5_walk 63 = .ok (.laload, 1) := by decide +kernel
theorem dX5_walk_64 : decode cX5_walk 64 = .ok (.lstore 10, 2) := by decide +kernel
theorem dX5_walk_66 : decode cX5_walk 66 = .ok (.lload_n 2, 1) := by decide +kernel
theorem dX5_walk_67 : decode cX5_walk 67 = .ok (.lload 10, 2) := by decide +kernel
theorem dX5_walk_69 : decode cX5_walk 69 = .ok (.lxor, 1) := by decide +kernel
theorem dX5_walk_70 : decode cX5_walk 70 = .ok (.lload 5, 2) := by decide +kernel
theorem dX5_walk_72 : decode cX5_walk 72 = .ok (.land, 1) := by decide +kernel
theorem dX5_walk_73 : decode cX5_walk 73 = .ok (.lconst 0, 1) := by decide +kernel
theorem dX5_walk_74 : decode cX5_walk 74 = .ok (.lcmp, 1) := by decide +kernel
theorem dX5_walk_75 : decode cX5_walk 75 = .ok (.ifCond .ne 91, 3) := by decide +kernel
theorem dX5_walk_78 : decode cX5_walk 78 = .ok (.aload_n 0, 1) := by decide +kernel
theorem dX5_walk_79 : decode cX5_walk 79 = .ok (.getfield 22, 3) := by decide +kernel
theorem dX5_walk_82 : decode cX5_walk 82 = .ok (.iload 4, 2) := by decide +kernel
theorem dX5_walk_84 : decode cX5_walk 84 = .ok (.aload_n 0, 1) := by decide +kernel
theorem dX5_walk_85 : decode cX5_walk 85 = .ok (.getfield 22, 3) := by decide +kernel
theorem dX5_walk_88 : decode cX5_walk 88 = .ok (.getfield 84, 3) := by decide +kernel
theorem dX5_walk_91 : decode cX5_walk 91 = .ok (.iload_n 1, 1) := by decide +kernel
theorem dX5_walk_92 : decode cX5_walk 92 = .ok (.aaload, 1) := by decide +kernel
theorem dX5_walk_93 : decode cX5_walk 93 = .ok (.iload 9, 2) := by decide +kernel
theorem dX5_walk_95 : decode cX5_walk 95 = .ok (.iaload, 1) := by decide +kernel
theorem dX5_walk_96 : decode cX5_walk 96 = .ok (.iadd, 1) := by decide +kernel
theorem dX5_walk_97 : decode cX5_walk 97 = .ok (.invokevirtual 88, 3) := by decide +kernel
theorem dX5_walk_100 : decode cX5_walk 100 = .ok (.ifCond .eq 6, 3) := by decide +kernel
theorem dX5_walk_103 : decode cX5_walk 103 = .ok (.goto 63, 3) := by decide +kernel
theorem dX5_walk_106 : decode cX5_walk 106 = .ok (.aload_n 0, 1) := by decide +kernel
theorem dX5_walk_107 : decode cX5_walk 107 = .ok (.dup, 1) := by decide +kernel
theorem dX5_walk_108 : decode cX5_walk 108 = .ok (.getfield 47, 3) := by decide +kernel
theorem dX5_walk_111 : decode cX5_walk 111 = .ok (.iconst 1, 1) := by decide +kernel
theorem dX5_walk_112 : decode cX5_walk 112 = .ok (.iadd, 1) := by decide +kernel
theorem dX5_walk_113 : decode cX5_walk 113 = .ok (.putfield 47, 3) := by decide +kernel
theorem dX5_walk_116 : decode cX5_walk 116 = .ok (.aload_n 0, 1) := by decide +kernel
theorem dX5_walk_117 : decode cX5_walk 117 = .ok (.invokevirtual 92, 3) := by decide +kernel
theorem dX5_walk_120 : decode cX5_walk 120 = .ok (.ifCond .eq 4, 3) := by decide +kernel
theorem dX5_walk_123 : decode cX5_walk 123 = .ok (.return_, 1) := by decide +kernel
theorem dX5_walk_124 : decode cX5_walk 124 = .ok (.aload_n 0, 1) := by decide +kernel
theorem dX5_walk_125 : decode cX5_walk 125 = .ok (.getfield 19, 3) := by decide +kernel
theorem dX5_walk_128 : decode cX5_walk 128 = .ok (.iload_n 1, 1) := by decide +kernel
theorem dX5_walk_129 : decode cX5_walk 129 = .ok (.iload 9, 2) := by decide +kernel
theorem dX5_walk_131 : decode cX5_walk 131 = .ok (.iastore, 1) := by decide +kernel
theorem dX5_walk_132 : decode cX5_walk 132 = .ok (.aload_n 0, 1) := by decide +kernel
theorem dX5_walk_133 : decode cX5_walk 133 = .ok (.iload_n 1, 1) := by decide +kernel
theorem dX5_walk_134 : decode cX5_walk 134 = .ok (.iconst 1, 1) := by decide +kernel
theorem dX5_walk_135 : decode cX5_walk 135 = .ok (.iadd, 1) := by decide +kernel
theorem dX5_walk_136 : decode cX5_walk 136 = .ok (.lload_n 2, 1) := by decide +kernel
theorem dX5_walk_137 : decode cX5_walk 137 = .ok (.lload 10, 2) := by decide +kernel
theorem dX5_walk_139 : decode cX5_walk 139 = .ok (.lor, 1) := by decide +kernel
theorem dX5_walk_140 : decode cX5_walk 140 = .ok (.iload 4, 2) := by decide +kernel
theorem dX5_walk_142 : decode cX5_walk 142 = .ok (.aload_n 0, 1) := by decide +kernel
theorem dX5_walk_143 : decode cX5_walk 143 = .ok (.getfield 22, 3) := by decide +kernel
theorem dX5_walk_146 : decode cX5_walk 146 = .ok (.getfield 84, 3) := by decide +kernel
theorem dX5_walk_149 : decode cX5_walk 149 = .ok (.iload_n 1, 1) := by decide +kernel
theorem dX5_walk_150 : decode cX5_walk 150 = .ok (.aaload, 1) := by decide +kernel
theorem dX5_walk_151 : decode cX5_walk 151 = .ok (.iload 9, 2) := by decide +kernel
theorem dX5_walk_153 : decode cX5_walk 153 = .ok (.iaload, 1) := by decide +kernel
theorem dX5_walk_154 : decode cX5_walk 154 = .ok (.iadd, 1) := by decide +kernel
theorem dX5_walk_155 : decode cX5_walk 155 = .ok (.invokevirtual 63, 3) := by decide +kernel
theorem dX5_walk_158 : decode cX5_walk 158 = .ok (.aload_n 0, 1) := by decide +kernel
theorem dX5_walk_159 : decode cX5_walk 159 = .ok (.invokevirtual 92, 3) := by decide +kernel
theorem dX5_walk_162 : decode cX5_walk 162 = .ok (.ifCond .eq 4, 3) := by decide +kernel
theorem dX5_walk_165 : decode cX5_walk 165 = .ok (.return_, 1) := by decide +kernel
theorem dX5_walk_166 : decode cX5_walk 166 = .ok (.iinc 9 1, 3) := by decide +kernel
theorem dX5_walk_169 : decode cX5_walk 169 = .ok (.goto (-124), 3) := by decide +kernel
theorem dX5_walk_172 : decode cX5_walk 172 = .ok (.aload_n 0, 1) := by decide +kernel
theorem dX5_walk_173 : decode cX5_walk 173 = .ok (.getfield 41, 3) := by decide +kernel
theorem dX5_walk_176 : decode cX5_walk 176 = .ok (.iconst 4, 1) := by decide +kernel
theorem dX5_walk_177 : decode cX5_walk 177 = .ok (.if_icmp .ne 30, 3) := by decide +kernel
theorem dX5_walk_180 : decode cX5_walk 180 = .ok (.iload_n 1, 1) := by decide +kernel
theorem dX5_walk_181 : decode cX5_walk 181 = .ok (.aload_n 0, 1) := by decide +kernel
theorem dX5_walk_182 : decode cX5_walk 182 = .ok (.getfield 44, 3) := by decide +kernel
theorem dX5_walk_185 : decode cX5_walk 185 = .ok (.if_icmp .ne 22, 3) := by decide +kernel
theorem dX5_walk_188 : decode cX5_walk 188 = .ok (.aload_n 0, 1) := by decide +kernel
theorem dX5_walk_189 : decode cX5_walk 189 = .ok (.getfield 50, 3) := by decide +kernel
theorem dX5_walk_192 : decode cX5_walk 192 = .ok (.iload 8, 2) := by decide +kernel
theorem dX5_walk_194 : decode cX5_walk 194 = .ok (.if_icmp .le 13, 3) := by decide +kernel
theorem dX5_walk_197 : decode cX5_walk 197 = .ok (.aload_n 0, 1) := by decide +kernel
theorem dX5_walk_198 : decode cX5_walk 198 = .ok (.dup, 1) := by decide +kernel
theorem dX5_walk_199 : decode cX5_walk 199 = .ok (.getfield 53, 3) := by decide +kernel
theorem dX5_walk_202 : decode cX5_walk 202 = .ok (.iconst 1, 1) := by decide +kernel
theorem dX5_walk_203 : decode cX5_walk 203 = .ok (.iadd, 1) := by decide +kernel
theorem dX5_walk_204 : decode cX5_walk 204 = .ok (.putfield 53, 3) := by decide +kernel
theorem dX5_walk_207 : decode cX5_walk 207 = .ok (.return_, 1) := by decide +kernel
def w_X5_walk_166 (rec : Int32 → Int64 → Int32 → sI → sJ → (sI → sJ → Prop) → Prop) (post : sI → sJ → Prop) (k45 : Int32 → Int64 → Int32 → Int64 → Int32 → Int32 → Int32 → sI → sJ → Prop) (x1 : Int32) (x2 : Int64) (x4 : Int32) (x5 : Int64) (x7 : Int32) (x8 : Int32) (x9 : Int32) (I : sI) (J : sJ) : Prop :=
  (∀ v9_166 : Int32, v9_166 = x9 + 1 → k45 x1 x2 x4 x5 x7 x8 v9_166 I J)
set_option maxHeartbeats 4000000 in
set_option maxRecDepth 100000 in
theorem t_X5_walk_166 {X : sX} {n : Nat} {rec : Int32 → Int64 → Int32 → sI → sJ → (sI → sJ → Prop) → Prop} (hrec : ∀ (X : sX) (a1 : Int32) (a2 : Int64) (a4 : Int32) (I : sI) (J : sJ) (post : sI → sJ → Prop), rec a1 a2 a4 I J post → sCall X yX5_walk cX5_walk 12 none (4 + n) (88 + n * 31) [.ref 220, .int a1, .long a2, .int a4] I J (sPv post)) {post : sI → sJ → Prop} (h : sOK X cX5_walk RX5 12 (4 + n + 1) (88 + (n + 1) * 31)) (hr : sRt X none (sPv post)) {k45 : Int32 → Int64 → Int32 → Int64 → Int32 → Int32 → Int32 → sI → sJ → Prop} (hk45 : ∀ (x1 : Int32) (x2 : Int64) (x4 : Int32) (x5 : Int64) (x7 : Int32) (x8 : Int32) (x9 : Int32) (I : sI) (J : sJ), k45 x1 x2 x4 x5 x7 x8 x9 I J → sG X 12 45 [(0, .ref 220), (1, .int x1), (2, .long x2), (4, .int x4), (5, .long x5), (7, .int x7), (8, .int x8), (9, .int x9)] [] I J) {x1 : Int32} {x2 : Int64} {x4 : Int32} {x5 : Int64} {x7 : Int32} {x8 : Int32} {x9 : Int32} {I : sI} {J : sJ} (hw : w_X5_walk_166 rec post k45 x1 x2 x4 x5 x7 x8 x9 I J) : sG X 12 166 [(0, .ref 220), (1, .int x1), (2, .long x2), (4, .int x4), (5, .long x5), (7, .int x7), (8, .int x8), (9, .int x9)] [] I J := by
  unfold w_X5_walk_166 at hw
  obtain ⟨v9_166, ev9_166⟩ : ∃ z : Int32, z = x9 + 1 := ⟨_, rfl⟩
  replace hw := hw v9_166 ev9_166
  refine g_iinc (v := v9_166) (lo2 := [(9, .int v9_166), (0, .ref 220), (1, .int x1), (2, .long x2), (4, .int x4), (5, .long x5), (7, .int x7), (8, .int x8)]) h 7 rfl (by rw [ev9_166]; rfl) (by decide) rfl dX5_walk_166 ?_
  refine g_goto (tgt := 45) h (by decide) dX5_walk_169 ?_
  exact g_sub [1, 2, 3, 4, 5, 6, 7, 0] rfl (hk45 _ _ _ _ _ _ _ _ _ hw)
def w_X5_walk_45_s (rec : Int32 → Int64 → Int32 → sI → sJ → (sI → sJ → Prop) → Prop) (post : sI → sJ → Prop) (k45 : Int32 → Int64 → Int32 → Int64 → Int32 → Int32 → Int32 → sI → sJ → Prop) (x1 : Int32) (x2 : Int64) (x4 : Int32) (x5 : Int64) (x7 : Int32) (x8 : Int32) (x9 : Int32) (I : sI) (J : sJ) : Prop :=
  ((x7 ≤ x9 → ((¬ (I 220 10) = 4 → post I J) ∧ ((I 220 10) = 4 → ((¬ x1 = (I 220 11) → post I J) ∧ (x1 = (I 220 11) → (((I 220 2) ≤ x8 → post I J) ∧ (¬ (I 220 2) ≤ x8 → (∀ I_204 : sI, I_204 = sUI I 220 3 ((I 220 3) + 1) → post I_204 J)))))))) ∧ (¬ x7 ≤ x9 → (vp_in x1 24 ∧ (vp_in x9 20 ∧ (∀ v10_64 : Int64, v10_64 = J (sR 143 (Int32.toNatClampNeg x1)) (Int32.toNatClampNeg x9) → ((¬ (lg_cmp ((x2 ^^^ v10_64) &&& x5) 0) = 0 → w_X5_walk_166 rec post k45 x1 x2 x4 x5 x7 x8 x9 I J) ∧ ((lg_cmp ((x2 ^^^ v10_64) &&& x5) 0) = 0 → (vp_in x1 24 ∧ (vp_in x9 20 ∧ w_X10_crowded (x4 + (I (sR 168 (Int32.toNatClampNeg x1)) (Int32.toNatClampNeg x9))) I J (fun (r_97 : Int32) (I_97 : sI) (J_97 : sJ) => (((r_97 = 0 → (∀ I_113 : sI, I_113 = sUI I_97 220 1 ((I_97 220 1) + 1) → w_X5_tooMany I_113 J_97 (fun (r_117 : Int32) (I_117 : sI) (J_117 : sJ) => (((r_117 = 0 → (vp_in x1 24 ∧ (∀ I_131 : sI, I_131 = sUI I_117 223 (Int32.toNatClampNeg x1) x9 → (vp_in x1 24 ∧ (vp_in x9 20 ∧ rec (x1 + 1) (x2 ||| v10_64) (x4 + (I_131 (sR 168 (Int32.toNatClampNeg x1)) (Int32.toNatClampNeg x9))) I_131 J_117 (fun (I_155 : sI) (J_155 : sJ) => (w_X5_tooMany I_155 J_155 (fun (r_159 : Int32) (I_159 : sI) (J_159 : sJ) => (((r_159 = 0 → w_X5_walk_166 rec post k45 x1 x2 x4 x5 x7 x8 x9 I_159 J_159) ∧ (¬ r_159 = 0 → post I_159 J_159))))))))))) ∧ (¬ r_117 = 0 → post I_117 J_117)))))) ∧ (¬ r_97 = 0 → w_X5_walk_166 rec post k45 x1 x2 x4 x5 x7 x8 x9 I_97 J_97)))))))))))))
def w_X5_walk_45_n (rec : Int32 → Int64 → Int32 → sI → sJ → (sI → sJ → Prop) → Prop) (post : sI → sJ → Prop) : Nat → Int32 → Int64 → Int32 → Int64 → Int32 → Int32 → Int32 → sI → sJ → Prop
  | 0 => fun _ _ _ _ _ _ _ _ _ => False
  | n + 1 => fun x1 x2 x4 x5 x7 x8 x9 I J => w_X5_walk_45_s rec post (w_X5_walk_45_n rec post n) x1 x2 x4 x5 x7 x8 x9 I J
def w_X5_walk_45 (rec : Int32 → Int64 → Int32 → sI → sJ → (sI → sJ → Prop) → Prop) (post : sI → sJ → Prop) (x1 : Int32) (x2 : Int64) (x4 : Int32) (x5 : Int64) (x7 : Int32) (x8 : Int32) (x9 : Int32) (I : sI) (J : sJ) : Prop := ∃ n, w_X5_walk_45_n rec post n x1 x2 x4 x5 x7 x8 x9 I J
set_option maxHeartbeats 4000000 in
set_option maxRecDepth 100000 in
theorem t_X5_walk_45_s {X : sX} {n : Nat} {rec : Int32 → Int64 → Int32 → sI → sJ → (sI → sJ → Prop) → Prop} (hrec : ∀ (X : sX) (a1 : Int32) (a2 : Int64) (a4 : Int32) (I : sI) (J : sJ) (post : sI → sJ → Prop), rec a1 a2 a4 I J post → sCall X yX5_walk cX5_walk 12 none (4 + n) (88 + n * 31) [.ref 220, .int a1, .long a2, .int a4] I J (sPv post)) {post : sI → sJ → Prop} (h : sOK X cX5_walk RX5 12 (4 + n + 1) (88 + (n + 1) * 31)) (hr : sRt X none (sPv post)) {k45 : Int32 → Int64 → Int32 → Int64 → Int32 → Int32 → Int32 → sI → sJ → Prop} (hk45 : ∀ (x1 : Int32) (x2 : Int64) (x4 : Int32) (x5 : Int64) (x7 : Int32) (x8 : Int32) (x9 : Int32) (I : sI) (J : sJ), k45 x1 x2 x4 x5 x7 x8 x9 I J → sG X 12 45 [(0, .ref 220), (1, .int x1), (2, .long x2), (4, .int x4), (5, .long x5), (7, .int x7), (8, .int x8), (9, .int x9)] [] I J) {x1 : Int32} {x2 : Int64} {x4 : Int32} {x5 : Int64} {x7 : Int32} {x8 : Int32} {x9 : Int32} {I : sI} {J : sJ} (hw : w_X5_walk_45_s rec post k45 x1 x2 x4 x5 x7 x8 x9 I J) : sG X 12 45 [(0, .ref 220), (1, .int x1), (2, .long x2), (4, .int x4), (5, .long x5), (7, .int x7), (8, .int x8), (9, .int x9)] [] I J := by
  unfold w_X5_walk_45_s at hw
  refine g_iload h 7 rfl dX5_walk_45 ?_
  refine g_iload h 5 rfl dX5_walk_47 ?_
  refine g_icmp_ge (tgt := 172) h (by decide) dX5_walk_49 (fun q49 => ?_) (fun q49 => ?_)
  · replace hw := hw.1 q49
    refine g_aload_n h rfl 0 rfl dX5_walk_172 ?_
    refine g_get h is_220 fl_X5_41 rfl dX5_walk_173 ?_
    refine g_iconst (v := 4) h (by decide) dX5_walk_176 ?_
    refine g_icmp_ne (tgt := 207) h (by decide) dX5_walk_177 (fun q177 => ?_) (fun q177 => ?_)
    · replace hw := hw.1 q177
      exact g_vret h hr dX5_walk_207 hw
    · replace hw := hw.2 q177
      refine g_iload_n h rfl 1 rfl dX5_walk_180 ?_
      refine g_aload_n h rfl 0 rfl dX5_walk_181 ?_
      refine g_get h is_220 fl_X5_44 rfl dX5_walk_182 ?_
      refine g_icmp_ne (tgt := 207) h (by decide) dX5_walk_185 (fun q185 => ?_) (fun q185 => ?_)
      · replace hw := hw.1 q185
        exact g_vret h hr dX5_walk_207 hw
      · replace hw := hw.2 q185
        refine g_aload_n h rfl 0 rfl dX5_walk_188 ?_
        refine g_get h is_220 fl_X5_50 rfl dX5_walk_189 ?_
        refine g_iload h 6 rfl dX5_walk_192 ?_
        refine g_icmp_le (tgt := 207) h (by decide) dX5_walk_194 (fun q194 => ?_) (fun q194 => ?_)
        · replace hw := hw.1 q194
          exact g_vret h hr dX5_walk_207 hw
        · replace hw := hw.2 q194
          refine g_aload_n h rfl 0 rfl dX5_walk_197 ?_
          refine g_dup h rfl dX5_walk_198 ?_
          refine g_get h is_220 fl_X5_53 rfl dX5_walk_199 ?_
          refine g_iconst (v := 1) h (by decide) dX5_walk_202 ?_
          refine g_iadd h dX5_walk_203 ?_
          refine g_putI h is_220 fl_X5_53 rfl rfl dX5_walk_204 ?_
          refine g_nI (fun I_204 eI_204 => ?_)
          replace hw := hw I_204 eI_204
          exact g_vret h hr dX5_walk_207 hw
  · replace hw := hw.2 q49
    refine g_aload_n h rfl 0 rfl dX5_walk_52 ?_
    refine g_get h is_220 fl_X5_22 fr_220_6 dX5_walk_53 ?_
    refine g_get h is_142 fl_X5_80 fr_142_0 dX5_walk_56 ?_
    refine g_iload_n h rfl 1 rfl dX5_walk_59 ?_
    obtain ⟨hi60, hw⟩ := hw
    refine g_aald (t := 3) h ar_143 (by decide) hi60 dX5_walk_60 ?_
    refine g_iload h 7 rfl dX5_walk_61 ?_
    obtain ⟨hi63, hw⟩ := hw
    refine g_lald h (el_7_24 ar_143 hi60) hi63 dX5_walk_63 ?_
    refine g_nl (fun v10_64 ev10_64 => ?_)
    replace hw := hw v10_64 ev10_64
    refine g_lstore (lo2 := [(10, .long v10_64), (0, .ref 220), (1, .int x1), (2, .long x2), (4, .int x4), (5, .long x5), (7, .int x7), (8, .int x8), (9, .int x9)]) h (by decide) rfl dX5_walk_64 ?_
    refine g_lload_n h rfl 3 rfl dX5_walk_66 ?_
    refine g_lload h 0 rfl dX5_walk_67 ?_
    refine g_lxor h dX5_walk_69 ?_
    refine g_lload h 5 rfl dX5_walk_70 ?_
    refine g_land h dX5_walk_72 ?_
    refine g_lconst (v := 0) h (by decide) dX5_walk_73 ?_
    refine g_lcmp h dX5_walk_74 ?_
    refine g_if_ne (tgt := 166) h (by decide) dX5_walk_75 (fun q75 => ?_) (fun q75 => ?_)
    · replace hw := hw.1 q75
      exact g_sub [1, 2, 3, 4, 5, 6, 7, 8] rfl (t_X5_walk_166 hrec h hr hk45 hw)
    · replace hw := hw.2 q75
      refine g_aload_n h rfl 1 rfl dX5_walk_78 ?_
      refine g_get h is_220 fl_X5_22 fr_220_6 dX5_walk_79 ?_
      refine g_iload h 4 rfl dX5_walk_82 ?_
      refine g_aload_n h rfl 1 rfl dX5_walk_84 ?_
      refine g_get h is_220 fl_X5_22 fr_220_6 dX5_walk_85 ?_
      refine g_get h is_142 fl_X5_84 fr_142_1 dX5_walk_88 ?_
      refine g_iload_n h rfl 2 rfl dX5_walk_91 ?_
      obtain ⟨hi92, hw⟩ := hw
      refine g_aald (t := 2) h ar_168 (by decide) hi92 dX5_walk_92 ?_
      refine g_iload h 8 rfl dX5_walk_93 ?_
      obtain ⟨hi95, hw⟩ := hw
      refine g_iald h (el_6_24 ar_168 hi92) hi95 dX5_walk_95 ?_
      refine g_iadd h dX5_walk_96 ?_
      refine g_callV [.int (x4 + (I (sR 168 (Int32.toNatClampNeg x1)) (Int32.toNatClampNeg x9)))] h (c_X10_crowded X hw) sPi_v mw_X10_crowded lk_X5_88 is_142 rfl rfl ⟨by omega, by omega⟩ (Nat.le_of_ble_eq_true rfl) dX5_walk_97 (sPi_k (fun r_97 I_97 J_97 hw => ?_))
      refine g_if_eq (tgt := 106) h (by decide) dX5_walk_100 (fun q100 => ?_) (fun q100 => ?_)
      · replace hw := hw.1 q100
        refine g_aload_n h rfl 1 rfl dX5_walk_106 ?_
        refine g_dup h rfl dX5_walk_107 ?_
        refine g_get h is_220 fl_X5_47 rfl dX5_walk_108 ?_
        refine g_iconst (v := 1) h (by decide) dX5_walk_111 ?_
        refine g_iadd h dX5_walk_112 ?_
        refine g_putI h is_220 fl_X5_47 rfl rfl dX5_walk_113 ?_
        refine g_nI (fun I_113 eI_113 => ?_)
        replace hw := hw I_113 eI_113
        refine g_aload_n h rfl 1 rfl dX5_walk_116 ?_
        refine g_callV [] h (c_X5_tooMany X hw) sPi_v mw_X5_tooMany lk_X5_92 is_220 rfl rfl ⟨by omega, by omega⟩ (Nat.le_of_ble_eq_true rfl) dX5_walk_117 (sPi_k (fun r_117 I_117 J_117 hw => ?_))
        refine g_if_eq (tgt := 124) h (by decide) dX5_walk_120 (fun q120 => ?_) (fun q120 => ?_)
        · replace hw := hw.1 q120
          refine g_aload_n h rfl 1 rfl dX5_walk_124 ?_
          refine g_get h is_220 fl_X5_19 fr_220_8 dX5_walk_125 ?_
          refine g_iload_n h rfl 2 rfl dX5_walk_128 ?_
          refine g_iload h 8 rfl dX5_walk_129 ?_
          obtain ⟨hi131, hw⟩ := hw
          refine g_iast h ar_223 hi131 dX5_walk_131 ?_
          refine g_nI (fun I_131 eI_131 => ?_)
          replace hw := hw I_131 eI_131
          refine g_aload_n h rfl 1 rfl dX5_walk_132 ?_
          refine g_iload_n h rfl 2 rfl dX5_walk_133 ?_
          refine g_iconst (v := 1) h (by decide) dX5_walk_134 ?_
          refine g_iadd h dX5_walk_135 ?_
          refine g_lload_n h rfl 3 rfl dX5_walk_136 ?_
          refine g_lload h 0 rfl dX5_walk_137 ?_
          refine g_lor h dX5_walk_139 ?_
          refine g_iload h 4 rfl dX5_walk_140 ?_
          refine g_aload_n h rfl 1 rfl dX5_walk_142 ?_
          refine g_get h is_220 fl_X5_22 fr_220_6 dX5_walk_143 ?_
          refine g_get h is_142 fl_X5_84 fr_142_1 dX5_walk_146 ?_
          refine g_iload_n h rfl 2 rfl dX5_walk_149 ?_
          obtain ⟨hi150, hw⟩ := hw
          refine g_aald (t := 2) h ar_168 (by decide) hi150 dX5_walk_150 ?_
          refine g_iload h 8 rfl dX5_walk_151 ?_
          obtain ⟨hi153, hw⟩ := hw
          refine g_iald h (el_6_24 ar_168 hi150) hi153 dX5_walk_153 ?_
          refine g_iadd h dX5_walk_154 ?_
          refine g_callV [.int (x1 + 1), .long (x2 ||| v10_64), .int (x4 + (I_131 (sR 168 (Int32.toNatClampNeg x1)) (Int32.toNatClampNeg x9)))] h (hrec X _ _ _ _ _ _ hw) sPv_v mw_X5_walk lk_X5_63 is_220 rfl rfl ⟨by omega, by omega⟩ (Nat.le_of_ble_eq_true rfl) dX5_walk_155 (sPv_k (fun I_155 J_155 hw => ?_))
          refine g_aload_n h rfl 1 rfl dX5_walk_158 ?_
          refine g_callV [] h (c_X5_tooMany X hw) sPi_v mw_X5_tooMany lk_X5_92 is_220 rfl rfl ⟨by omega, by omega⟩ (Nat.le_of_ble_eq_true rfl) dX5_walk_159 (sPi_k (fun r_159 I_159 J_159 hw => ?_))
          refine g_if_eq (tgt := 166) h (by decide) dX5_walk_162 (fun q162 => ?_) (fun q162 => ?_)
          · replace hw := hw.1 q162
            exact g_sub [1, 2, 3, 4, 5, 6, 7, 8] rfl (t_X5_walk_166 hrec h hr hk45 hw)
          · replace hw := hw.2 q162
            exact g_vret h hr dX5_walk_165 hw
        · replace hw := hw.2 q120
          exact g_vret h hr dX5_walk_123 hw
      · replace hw := hw.2 q100
        refine g_goto (tgt := 166) h (by decide) dX5_walk_103 ?_
        exact g_sub [1, 2, 3, 4, 5, 6, 7, 8] rfl (t_X5_walk_166 hrec h hr hk45 hw)
theorem t_X5_walk_45 {X : sX} {n : Nat} {rec : Int32 → Int64 → Int32 → sI → sJ → (sI → sJ → Prop) → Prop} (hrec : ∀ (X : sX) (a1 : Int32) (a2 : Int64) (a4 : Int32) (I : sI) (J : sJ) (post : sI → sJ → Prop), rec a1 a2 a4 I J post → sCall X yX5_walk cX5_walk 12 none (4 + n) (88 + n * 31) [.ref 220, .int a1, .long a2, .int a4] I J (sPv post)) {post : sI → sJ → Prop} (h : sOK X cX5_walk RX5 12 (4 + n + 1) (88 + (n + 1) * 31)) (hr : sRt X none (sPv post)) {x1 : Int32} {x2 : Int64} {x4 : Int32} {x5 : Int64} {x7 : Int32} {x8 : Int32} {x9 : Int32} {I : sI} {J : sJ} (hw : w_X5_walk_45 rec post x1 x2 x4 x5 x7 x8 x9 I J) : sG X 12 45 [(0, .ref 220), (1, .int x1), (2, .long x2), (4, .int x4), (5, .long x5), (7, .int x7), (8, .int x8), (9, .int x9)] [] I J := by
  obtain ⟨n, hw⟩ := hw
  induction n generalizing x1 x2 x4 x5 x7 x8 x9 I J with
  | zero => exact hw.elim
  | succ n ih => exact t_X5_walk_45_s hrec h hr (fun _ _ _ _ _ _ _ _ _ q => ih q) hw
def w_X5_walk_b (rec : Int32 → Int64 → Int32 → sI → sJ → (sI → sJ → Prop) → Prop) (a1 : Int32) (a2 : Int64) (a4 : Int32) (I : sI) (J : sJ) (post : sI → sJ → Prop) : Prop :=
  ((a1 < (I 220 9) → (vp_in a1 24 ∧ (∀ v5_23 : Int64, v5_23 = J 219 (Int32.toNatClampNeg a1) → (vp_in a1 24 ∧ (∀ v7_34 : Int32, v7_34 = I 218 (Int32.toNatClampNeg a1) → (∀ v8_40 : Int32, v8_40 = I 220 2 → w_X5_walk_45 rec post a1 a2 a4 v5_23 v7_34 v8_40 0 I J)))))) ∧ (¬ a1 < (I 220 9) → w_X5_take a2 I J (fun (I_10 : sI) (J_10 : sJ) => (post I_10 J_10))))
set_option maxHeartbeats 4000000 in
set_option maxRecDepth 100000 in
theorem t_X5_walk {X : sX} {n : Nat} {rec : Int32 → Int64 → Int32 → sI → sJ → (sI → sJ → Prop) → Prop} (hrec : ∀ (X : sX) (a1 : Int32) (a2 : Int64) (a4 : Int32) (I : sI) (J : sJ) (post : sI → sJ → Prop), rec a1 a2 a4 I J post → sCall X yX5_walk cX5_walk 12 none (4 + n) (88 + n * 31) [.ref 220, .int a1, .long a2, .int a4] I J (sPv post)) {a1 : Int32} {a2 : Int64} {a4 : Int32} {I : sI} {J : sJ} {post : sI → sJ → Prop} (h : sOK X cX5_walk RX5 12 (4 + n + 1) (88 + (n + 1) * 31)) (hr : sRt X none (sPv post)) (hw : w_X5_walk_b rec a1 a2 a4 I J post) : sG X 12 0 [(0, .ref 220), (1, .int a1), (2, .long a2), (4, .int a4)] [] I J := by
  unfold w_X5_walk_b at hw
  refine g_iload_n h rfl 1 rfl dX5_walk_0 ?_
  refine g_aload_n h rfl 0 rfl dX5_walk_1 ?_
  refine g_get h is_220 fl_X5_38 rfl dX5_walk_2 ?_
  refine g_icmp_lt (tgt := 14) h (by decide) dX5_walk_5 (fun q5 => ?_) (fun q5 => ?_)
  · replace hw := hw.1 q5
    refine g_aload_n h rfl 0 rfl dX5_walk_14 ?_
    refine g_get h is_220 fl_X5_22 fr_220_6 dX5_walk_15 ?_
    refine g_get h is_142 fl_X5_74 fr_142_4 dX5_walk_18 ?_
    refine g_iload_n h rfl 1 rfl dX5_walk_21 ?_
    obtain ⟨hi22, hw⟩ := hw
    refine g_lald h ar_219 hi22 dX5_walk_22 ?_
    refine g_nl (fun v5_23 ev5_23 => ?_)
    replace hw := hw v5_23 ev5_23
    refine g_lstore (lo2 := [(5, .long v5_23), (0, .ref 220), (1, .int a1), (2, .long a2), (4, .int a4)]) h (by decide) rfl dX5_walk_23 ?_
    refine g_aload_n h rfl 1 rfl dX5_walk_25 ?_
    refine g_get h is_220 fl_X5_22 fr_220_6 dX5_walk_26 ?_
    refine g_get h is_142 fl_X5_77 fr_142_3 dX5_walk_29 ?_
    refine g_iload_n h rfl 2 rfl dX5_walk_32 ?_
    obtain ⟨hi33, hw⟩ := hw
    refine g_iald h ar_218 hi33 dX5_walk_33 ?_
    refine g_ni (fun v7_34 ev7_34 => ?_)
    replace hw := hw v7_34 ev7_34
    refine g_istore (lo2 := [(7, .int v7_34), (5, .long v5_23), (0, .ref 220), (1, .int a1), (2, .long a2), (4, .int a4)]) h (by decide) rfl dX5_walk_34 ?_
    refine g_aload_n h rfl 2 rfl dX5_walk_36 ?_
    refine g_get h is_220 fl_X5_50 rfl dX5_walk_37 ?_
    refine g_ni (fun v8_40 ev8_40 => ?_)
    replace hw := hw v8_40 ev8_40
    refine g_istore (lo2 := [(8, .int v8_40), (7, .int v7_34), (5, .long v5_23), (0, .ref 220), (1, .int a1), (2, .long a2), (4, .int a4)]) h (by decide) rfl dX5_walk_40 ?_
    refine g_iconst (v := 0) h (by decide) dX5_walk_42 ?_
    refine g_istore (lo2 := [(9, .int 0), (8, .int v8_40), (7, .int v7_34), (5, .long v5_23), (0, .ref 220), (1, .int a1), (2, .long a2), (4, .int a4)]) h (by decide) rfl dX5_walk_43 ?_
    exact g_sub [4, 5, 6, 7, 3, 2, 1, 0] rfl (t_X5_walk_45 hrec h hr hw)
  · replace hw := hw.2 q5
    refine g_aload_n h rfl 0 rfl dX5_walk_8 ?_
    refine g_lload_n h rfl 2 rfl dX5_walk_9 ?_
    refine g_callV [.long a2] h (c_X5_take X hw) sPv_v mw_X5_take lk_X5_70 is_220 rfl rfl ⟨by omega, by omega⟩ (Nat.le_of_ble_eq_true rfl) dX5_walk_10 (sPv_k (fun I_10 J_10 hw => ?_))
    exact g_vret h hr dX5_walk_13 hw
def w_X5_walk_d : Nat → Int32 → Int64 → Int32 → sI → sJ → (sI → sJ → Prop) → Prop
  | 0 => fun _ _ _ _ _ _ => False
  | n + 1 => fun a1 a2 a4 I J post => w_X5_walk_b (w_X5_walk_d n) a1 a2 a4 I J post
theorem c_X5_walk_d (n : Nat) : ∀ (X : sX) (a1 : Int32) (a2 : Int64) (a4 : Int32) (I : sI) (J : sJ) (post : sI → sJ → Prop), w_X5_walk_d n a1 a2 a4 I J post → sCall X yX5_walk cX5_walk 12 none (4 + n) (88 + n * 31) [.ref 220, .int a1, .long a2, .int a4] I J (sPv post) := by
  induction n with
  | zero => intro _ _ _ _ _ _ _ hw; exact hw.elim
  | succ n ih => intro X a1 a2 a4 I J post hw; exact sCall_of (by decide +kernel) (Nat.le_of_ble_eq_true rfl) (fun X h hr => t_X5_walk ih h hr hw)
def w_X5_walk (a1 : Int32) (a2 : Int64) (a4 : Int32) (I : sI) (J : sJ) (post : sI → sJ → Prop) : Prop := w_X5_walk_d 26 a1 a2 a4 I J post
theorem c_X5_walk (X : sX) {a1 : Int32} {a2 : Int64} {a4 : Int32} {I : sI} {J : sJ} {post : sI → sJ → Prop} (hw : w_X5_walk a1 a2 a4 I J post) : sCall X yX5_walk cX5_walk 12 none 30 894 [.ref 220, .int a1, .long a2, .int a4] I J (sPv post) := c_X5_walk_d 26 X a1 a2 a4 I J post hw
theorem dX5_run_0 : decode cX5_run 0 = .ok (.aload_n 0, 1) := by decide +kernel
theorem dX5_run_1 : decode cX5_run 1 = .ok (.iload_n 1, 1) := by decide +kernel
theorem dX5_run_2 : decode cX5_run 2 = .ok (.aload_n 0, 1) := by decide +kernel
theorem dX5_run_3 : decode cX5_run 3 = .ok (.getfield 22, 3) := by decide +kernel
theorem dX5_run_6 : decode cX5_run 6 = .ok (.getfield 26, 3) := by decide +kernel
theorem dX5_run_9 : decode cX5_run 9 = .ok (.invokestatic 32, 3) := by decide +kernel
theorem dX5_run_12 : decode cX5_run 12 = .ok (.putfield 38, 3) := by decide +kernel
theorem dX5_run_15 : decode cX5_run 15 = .ok (.aload_n 0, 1) := by decide +kernel
theorem dX5_run_16 : decode cX5_run 16 = .ok (.iload_n 2, 1) := by decide +kernel
theorem dX5_run_17 : decode cX5_run 17 = .ok (.putfield 41, 3) := by decide +kernel
theorem dX5_run_20 : decode cX5_run 20 = .ok (.aload_n 0, 1) := by decide +kernel
theorem dX5_run_21 : decode cX5_run 21 = .ok (.iload_n 3, 1) := by decide +kernel
theorem dX5_run_22 : decode cX5_run 22 = .ok (.putfield 44, 3) := by decide +kernel
theorem dX5_run_25 : decode cX5_run 25 = .ok (.aload_n 0, 1) := by decide +kernel
theorem dX5_run_26 : decode cX5_run 26 = .ok (.iconst 0, 1) := by decide +kernel
theorem dX5_run_27 : decode cX5_run 27 = .ok (.putfield 47, 3) := by decide +kernel
theorem dX5_run_30 : decode cX5_run 30 = .ok (.aload_n 0, 1) := by decide +kernel
theorem dX5_run_31 : decode cX5_run 31 = .ok (.iconst 0, 1) := by decide +kernel
theorem dX5_run_32 : decode cX5_run 32 = .ok (.putfield 50, 3) := by decide +kernel
theorem dX5_run_35 : decode cX5_run 35 = .ok (.aload_n 0, 1) := by decide +kernel
theorem dX5_run_36 : decode cX5_run 36 = .ok (.iconst 0, 1) := by decide +kernel
theorem dX5_run_37 : decode cX5_run 37 = .ok (.putfield 53, 3) := by decide +kernel
theorem dX5_run_40 : decode cX5_run 40 = .ok (.aload_n 0, 1) := by decide +kernel
theorem dX5_run_41 : decode cX5_run 41 = .ok (.iconst 0, 1) := by decide +kernel
theorem dX5_run_42 : decode cX5_run 42 = .ok (.putfield 56, 3) := by decide +kernel
theorem dX5_run_45 : decode cX5_run 45 = .ok (.aload_n 0, 1) := by decide +kernel
theorem dX5_run_46 : decode cX5_run 46 = .ok (.lconst 0, 1) := by decide +kernel
theorem dX5_run_47 : decode cX5_run 47 = .ok (.putfield 59, 3) := by decide +kernel
theorem dX5_run_50 : decode cX5_run 50 = .ok (.iconst 0, 1) := by decide +kernel
theorem dX5_run_51 : decode cX5_run 51 = .ok (.istore 4, 2) := by decide +kernel
theorem dX5_run_53 : decode cX5_run 53 = .ok (.iload 4, 2) := by decide +kernel
theorem dX5_run_55 : decode cX5_run 55 = .ok (.aload_n 0, 1) := by decide +kernel
theorem dX5_run_56 : decode cX5_run 56 = .ok (.getfield 15, 3) := by decide +kernel
theorem dX5_run_59 : decode cX5_run 59 = .ok (.arraylength, 1) := by decide +kernel
theorem dX5_run_60 : decode cX5_run 60 = .ok (.if_icmp .ge 17, 3) := by decide +kernel
theorem dX5_run_63 : decode cX5_run 63 = .ok (.aload_n 0, 1) := by decide +kernel
theorem dX5_run_64 : decode cX5_run 64 = .ok (.getfield 15, 3) := by decide +kernel
theorem dX5_run_67 : decode cX5_run 67 = .ok (.iload 4, 2) := by decide +kernel
theorem dX5_run_69 : decode cX5_run 69 = .ok (.iconst 0, 1) := by decide +kernel
theorem dX5_run_70 : decode cX5_run 70 = .ok (.iastore, 1) := by decide +kernel
theorem dX5_run_71 : decode cX5_run 71 = .ok (.iinc 4 1, 3) := by decide +kernel
theorem dX5_run_74 : decode cX5_run 74 = .ok (.goto (-21), 3) := by decide +kernel
theorem dX5_run_77 : decode cX5_run 77 = .ok (.aload_n 0, 1) := by decide +kernel
theorem dX5_run_78 : decode cX5_run 78 = .ok (.iconst 0, 1) := by decide +kernel
theorem dX5_run_79 : decode cX5_run 79 = .ok (.lconst 0, 1) := by decide +kernel
theorem dX5_run_80 : decode cX5_run 80 = .ok (.iconst 0, 1) := by decide +kernel
theorem dX5_run_81 : decode cX5_run 81 = .ok (.invokevirtual 63, 3) := by decide +kernel
theorem dX5_run_84 : decode cX5_run 84 = .ok (.return_, 1) := by decide +kernel
def w_X5_run_53_s (post : sI → sJ → Prop) (k53 : Int32 → sI → sJ → Prop) (x4 : Int32) (I : sI) (J : sJ) : Prop :=
  (((nI 96) ≤ x4 → w_X5_walk 0 0 0 I J (fun (I_81 : sI) (J_81 : sJ) => (post I_81 J_81))) ∧ (¬ (nI 96) ≤ x4 → (vp_in x4 96 ∧ (∀ I_70 : sI, I_70 = sUI I 222 (Int32.toNatClampNeg x4) 0 → (∀ v4_71 : Int32, v4_71 = x4 + 1 → k53 v4_71 I_70 J)))))
def w_X5_run_53_n (post : sI → sJ → Prop) : Nat → Int32 → sI → sJ → Prop
  | 0 => fun _ _ _ => False
  | n + 1 => fun x4 I J => w_X5_run_53_s post (w_X5_run_53_n post n) x4 I J
def w_X5_run_53 (post : sI → sJ → Prop) (x4 : Int32) (I : sI) (J : sJ) : Prop := ∃ n, w_X5_run_53_n post n x4 I J
set_option maxHeartbeats 4000000 in
set_option maxRecDepth 100000 in
theorem t_X5_run_53_s {X : sX} {post : sI → sJ → Prop} (h : sOK X cX5_run RX5 5 31 925) (hr : sRt X none (sPv post)) {k53 : Int32 → sI → sJ → Prop} (hk53 : ∀ (x4 : Int32) (I : sI) (J : sJ), k53 x4 I J → sG X 5 53 [(0, .ref 220), (4, .int x4)] [] I J) {x4 : Int32} {I : sI} {J : sJ} (hw : w_X5_run_53_s post k53 x4 I J) : sG X 5 53 [(0, .ref 220), (4, .int x4)] [] I J := by
  unfold w_X5_run_53_s at hw
  refine g_iload h 1 rfl dX5_run_53 ?_
  refine g_aload_n h rfl 0 rfl dX5_run_55 ?_
  refine g_get h is_220 fl_X5_15 fr_220_7 dX5_run_56 ?_
  refine g_ilen h ar_222 dX5_run_59 ?_
  refine g_icmp_ge (tgt := 77) h (by decide) dX5_run_60 (fun q60 => ?_) (fun q60 => ?_)
  · replace hw := hw.1 q60
    refine g_aload_n h rfl 0 rfl dX5_run_77 ?_
    refine g_iconst (v := 0) h (by decide) dX5_run_78 ?_
    refine g_lconst (v := 0) h (by decide) dX5_run_79 ?_
    refine g_iconst (v := 0) h (by decide) dX5_run_80 ?_
    refine g_callV [.int 0, .long 0, .int 0] h (c_X5_walk X hw) sPv_v mw_X5_walk lk_X5_63 is_220 rfl rfl ⟨by decide, by decide⟩ (Nat.le_of_ble_eq_true rfl) dX5_run_81 (sPv_k (fun I_81 J_81 hw => ?_))
    exact g_vret h hr dX5_run_84 hw
  · replace hw := hw.2 q60
    refine g_aload_n h rfl 0 rfl dX5_run_63 ?_
    refine g_get h is_220 fl_X5_15 fr_220_7 dX5_run_64 ?_
    refine g_iload h 1 rfl dX5_run_67 ?_
    refine g_iconst (v := 0) h (by decide) dX5_run_69 ?_
    obtain ⟨hi70, hw⟩ := hw
    refine g_iast h ar_222 hi70 dX5_run_70 ?_
    refine g_nI (fun I_70 eI_70 => ?_)
    replace hw := hw I_70 eI_70
    obtain ⟨v4_71, ev4_71⟩ : ∃ z : Int32, z = x4 + 1 := ⟨_, rfl⟩
    replace hw := hw v4_71 ev4_71
    refine g_iinc (v := v4_71) (lo2 := [(4, .int v4_71), (0, .ref 220)]) h 1 rfl (by rw [ev4_71]; rfl) (by decide) rfl dX5_run_71 ?_
    refine g_goto (tgt := 53) h (by decide) dX5_run_74 ?_
    exact g_sub [1, 0] rfl (hk53 _ _ _ hw)
theorem t_X5_run_53 {X : sX} {post : sI → sJ → Prop} (h : sOK X cX5_run RX5 5 31 925) (hr : sRt X none (sPv post)) {x4 : Int32} {I : sI} {J : sJ} (hw : w_X5_run_53 post x4 I J) : sG X 5 53 [(0, .ref 220), (4, .int x4)] [] I J := by
  obtain ⟨n, hw⟩ := hw
  induction n generalizing x4 I J with
  | zero => exact hw.elim
  | succ n ih => exact t_X5_run_53_s h hr (fun _ _ _ q => ih q) hw
def w_X5_run (a1 : Int32) (a2 : Int32) (a3 : Int32) (I : sI) (J : sJ) (post : sI → sJ → Prop) : Prop :=
  w_J9_min_7cf53 a1 (I 142 5) I J (fun (r_9 : Int32) (I_9 : sI) (J_9 : sJ) => ((∀ I_12 : sI, I_12 = sUI I_9 220 9 r_9 → (∀ I_17 : sI, I_17 = sUI I_12 220 10 a2 → (∀ I_22 : sI, I_22 = sUI I_17 220 11 a3 → (∀ I_27 : sI, I_27 = sUI I_22 220 1 0 → (∀ I_32 : sI, I_32 = sUI I_27 220 2 0 → (∀ I_37 : sI, I_37 = sUI I_32 220 3 0 → (∀ I_42 : sI, I_42 = sUI I_37 220 4 0 → (∀ J_47 : sJ, J_47 = sUJ J_9 220 5 0 → w_X5_run_53 post 0 I_42 J_47))))))))))
set_option maxHeartbeats 4000000 in
set_option maxRecDepth 100000 in
theorem t_X5_run {X : sX} {a1 : Int32} {a2 : Int32} {a3 : Int32} {I : sI} {J : sJ} {post : sI → sJ → Prop} (h : sOK X cX5_run RX5 5 31 925) (hr : sRt X none (sPv post)) (hw : w_X5_run a1 a2 a3 I J post) : sG X 5 0 [(0, .ref 220), (1, .int a1), (2, .int a2), (3, .int a3)] [] I J := by
  unfold w_X5_run at hw
  refine g_aload_n h rfl 0 rfl dX5_run_0 ?_
  refine g_iload_n h rfl 1 rfl dX5_run_1 ?_
  refine g_aload_n h rfl 0 rfl dX5_run_2 ?_
  refine g_get h is_220 fl_X5_22 fr_220_6 dX5_run_3 ?_
  refine g_get h is_142 fl_X5_26 rfl dX5_run_6 ?_
  refine g_callS [.int a1, .int (I 142 5)] h (c_J9_min_7cf53 X hw) sPi_v mw_J9_min_7cf53 lk_X5_32 rfl ⟨by decide, by decide⟩ (Nat.le_of_ble_eq_true rfl) dX5_run_9 (sPi_k (fun r_9 I_9 J_9 hw => ?_))
  refine g_putI h is_220 fl_X5_38 rfl rfl dX5_run_12 ?_
  refine g_nI (fun I_12 eI_12 => ?_)
  replace hw := hw I_12 eI_12
  refine g_aload_n h rfl 0 rfl dX5_run_15 ?_
  refine g_iload_n h rfl 2 rfl dX5_run_16 ?_
  refine g_putI h is_220 fl_X5_41 rfl rfl dX5_run_17 ?_
  refine g_nI (fun I_17 eI_17 => ?_)
  replace hw := hw I_17 eI_17
  refine g_aload_n h rfl 0 rfl dX5_run_20 ?_
  refine g_iload_n h rfl 3 rfl dX5_run_21 ?_
  refine g_putI h is_220 fl_X5_44 rfl rfl dX5_run_22 ?_
  refine g_nI (fun I_22 eI_22 => ?_)
  replace hw := hw I_22 eI_22
  refine g_aload_n h rfl 0 rfl dX5_run_25 ?_
  refine g_iconst (v := 0) h (by decide) dX5_run_26 ?_
  refine g_putI h is_220 fl_X5_47 rfl rfl dX5_run_27 ?_
  refine g_nI (fun I_27 eI_27 => ?_)
  replace hw := hw I_27 eI_27
  refine g_aload_n h rfl 0 rfl dX5_run_30 ?_
  refine g_iconst (v := 0) h (by decide) dX5_run_31 ?_
  refine g_putI h is_220 fl_X5_50 rfl rfl dX5_run_32 ?_
  refine g_nI (fun I_32 eI_32 => ?_)
  replace hw := hw I_32 eI_32
  refine g_aload_n h rfl 0 rfl dX5_run_35 ?_
  refine g_iconst (v := 0) h (by decide) dX5_run_36 ?_
  refine g_putI h is_220 fl_X5_53 rfl rfl dX5_run_37 ?_
  refine g_nI (fun I_37 eI_37 => ?_)
  replace hw := hw I_37 eI_37
  refine g_aload_n h rfl 0 rfl dX5_run_40 ?_
  refine g_iconst (v := 0) h (by decide) dX5_run_41 ?_
  refine g_putI h is_220 fl_X5_56 rfl rfl dX5_run_42 ?_
  refine g_nI (fun I_42 eI_42 => ?_)
  replace hw := hw I_42 eI_42
  refine g_aload_n h rfl 0 rfl dX5_run_45 ?_
  refine g_lconst (v := 0) h (by decide) dX5_run_46 ?_
  refine g_putJ h is_220 fl_X5_59 rfl rfl dX5_run_47 ?_
  refine g_nJ (fun J_47 eJ_47 => ?_)
  replace hw := hw J_47 eJ_47
  refine g_iconst (v := 0) h (by decide) dX5_run_50 ?_
  refine g_istore (lo2 := [(4, .int 0), (0, .ref 220), (1, .int a1), (2, .int a2), (3, .int a3)]) h (by decide) rfl dX5_run_51 ?_
  exact g_sub [1, 0] rfl (t_X5_run_53 h hr hw)
theorem c_X5_run (X : sX) {a1 : Int32} {a2 : Int32} {a3 : Int32} {I : sI} {J : sJ} {post : sI → sJ → Prop} (hw : w_X5_run a1 a2 a3 I J post) : sCall X yX5_run cX5_run 5 none 31 925 [.ref 220, .int a1, .int a2, .int a3] I J (sPv post) := sCall_of (by decide +kernel) (Nat.le_of_ble_eq_true rfl) (fun X h hr => t_X5_run h hr hw)
theorem dX5_lettersOf_0 : decode cX5_lettersOf 0 = .ok (.iconst 0, 1) := by decide +kernel
theorem dX5_lettersOf_1 : decode cX5_lettersOf 1 = .ok (.istore_n 2, 1) := by decide +kernel
theorem dX5_lettersOf_2 : decode cX5_lettersOf 2 = .ok (.iconst 0, 1) := by decide +kernel
theorem dX5_lettersOf_3 : decode cX5_lettersOf 3 = .ok (.istore_n 3, 1) := by decide +kernel
theorem dX5_lettersOf_4 : decode cX5_lettersOf 4 = .ok (.iload_n 3, 1) := by decide +kernel
theorem dX5_lettersOf_5 : decode cX5_lettersOf 5 = .ok (.bipush 8, 2) := by decide +kernel
theorem dX5_lettersOf_7 : decode cX5_lettersOf 7 = .ok (.if_icmp .ge 33, 3) := by decide +kernel
theorem dX5_lettersOf_10 : decode cX5_lettersOf 10 = .ok (.iload_n 2, 1) := by decide +kernel
theorem dX5_lettersOf_11 : decode cX5_lettersOf 11 = .ok (.aload_n 0, 1) := by decide +kernel
theorem dX5_lettersOf_12 : decode cX5_lettersOf 12 = .ok (.getfield 15, 3) := by decide +kernel
theorem dX5_lettersOf_15 : decode cX5_lettersOf 15 = .ok (.iload_n 1, 1) := by decide +kernel
theorem dX5_lettersOf_16 : decode cX5_lettersOf 16 = .ok (.bipush 8, 2) := by decide +kernel
theorem dX5_lettersOf_18 : decode cX5_lettersOf 18 = .ok (.imul, 1) := by decide +kernel
theorem dX5_lettersOf_19 : decode cX5_lettersOf 19 = .ok (.iload_n 3, 1) := by decide +kernel
theorem dX5_lettersOf_20 : decode cX5_lettersOf 20 = .ok (.iadd, 1) := by decide +kernel
theorem dX5_lettersOf_21 : decode cX5_lettersOf 21 = .ok (.iaload, 1) := by decide +kernel
theorem dX5_lettersOf_22 : decode cX5_lettersOf 22 = .ok (.ifCond .le 9, 3) := by decide +kernel
theorem dX5_lettersOf_25 : decode cX5_lettersOf 25 = .ok (.iconst 1, 1) := by decide +kernel
theorem dX5_lettersOf_26 : decode cX5_lettersOf 26 = .ok (.iload_n 3, 1) := by decide +kernel
theorem dX5_lettersOf_27 : decode cX5_lettersOf 27 = .ok (.ishl, 1) := by decide +kernel
theorem dX5_lettersOf_28 : decode cX5_lettersOf 28 = .ok (.goto 4, 3) := by decide +kernel
theorem dX5_lettersOf_31 : decode cX5_lettersOf 31 = .ok (.iconst 0, 1) := by decide +kernel
theorem dX5_lettersOf_32 : decode cX5_lettersOf 32 = .ok (.ior, 1) := by decide +kernel
theorem dX5_lettersOf_33 : decode cX5_lettersOf 33 = .ok (.istore_n 2, 1) := by decide +kernel
theorem dX5_lettersOf_34 : decode cX5_lettersOf 34 = .ok (.iinc 3 1, 3) := by decide +kernel
theorem dX5_lettersOf_37 : decode cX5_lettersOf 37 = .ok (.goto (-33), 3) := by decide +kernel
theorem dX5_lettersOf_40 : decode cX5_lettersOf 40 = .ok (.iload_n 2, 1) := by decide +kernel
theorem dX5_lettersOf_41 : decode cX5_lettersOf 41 = .ok (.ireturn, 1) := by decide +kernel
def w_X5_lettersOf_32 (post : Int32 → sI → sJ → Prop) (k4 : Int32 → Int32 → Int32 → sI → sJ → Prop) (x1 : Int32) (x3 : Int32) (s0 : Int32) (s1 : Int32) (I : sI) (J : sJ) : Prop :=
  (∀ v2_33 : Int32, v2_33 = s1 ||| s0 → (∀ v3_34 : Int32, v3_34 = x3 + 1 → k4 x1 v2_33 v3_34 I J))
set_option maxHeartbeats 4000000 in
set_option maxRecDepth 100000 in
theorem t_X5_lettersOf_32 {X : sX} {post : Int32 → sI → sJ → Prop} (h : sOK X cX5_lettersOf RX5 4 0 0) (hr : sRt X (some .int) (sPi post)) {k4 : Int32 → Int32 → Int32 → sI → sJ → Prop} (hk4 : ∀ (x1 : Int32) (x2 : Int32) (x3 : Int32) (I : sI) (J : sJ), k4 x1 x2 x3 I J → sG X 4 4 [(0, .ref 220), (1, .int x1), (2, .int x2), (3, .int x3)] [] I J) {x1 : Int32} {x3 : Int32} {s0 : Int32} {s1 : Int32} {I : sI} {J : sJ} (hw : w_X5_lettersOf_32 post k4 x1 x3 s0 s1 I J) : sG X 4 32 [(0, .ref 220), (1, .int x1), (3, .int x3)] [.int s0, .int s1] I J := by
  unfold w_X5_lettersOf_32 at hw
  refine g_ior h dX5_lettersOf_32 ?_
  refine g_ni (fun v2_33 ev2_33 => ?_)
  replace hw := hw v2_33 ev2_33
  refine g_istore_n (lo2 := [(2, .int v2_33), (0, .ref 220), (1, .int x1), (3, .int x3)]) h rfl (by decide) rfl dX5_lettersOf_33 ?_
  obtain ⟨v3_34, ev3_34⟩ : ∃ z : Int32, z = x3 + 1 := ⟨_, rfl⟩
  replace hw := hw v3_34 ev3_34
  refine g_iinc (v := v3_34) (lo2 := [(3, .int v3_34), (2, .int v2_33), (0, .ref 220), (1, .int x1)]) h 3 rfl (by rw [ev3_34]; rfl) (by decide) rfl dX5_lettersOf_34 ?_
  refine g_goto (tgt := 4) h (by decide) dX5_lettersOf_37 ?_
  exact g_sub [2, 3, 1, 0] rfl (hk4 _ _ _ _ _ hw)
def w_X5_lettersOf_4_s (post : Int32 → sI → sJ → Prop) (k4 : Int32 → Int32 → Int32 → sI → sJ → Prop) (x1 : Int32) (x2 : Int32) (x3 : Int32) (I : sI) (J : sJ) : Prop :=
  ((8 ≤ x3 → post x2 I J) ∧ (¬ 8 ≤ x3 → (vp_in ((x1 * 8) + x3) 96 ∧ (((I 222 (Int32.toNatClampNeg ((x1 * 8) + x3))) ≤ 0 → w_X5_lettersOf_32 post k4 x1 x3 0 x2 I J) ∧ (¬ (I 222 (Int32.toNatClampNeg ((x1 * 8) + x3))) ≤ 0 → w_X5_lettersOf_32 post k4 x1 x3 (1 <<< (x3 &&& 31)) x2 I J)))))
def w_X5_lettersOf_4_n (post : Int32 → sI → sJ → Prop) : Nat → Int32 → Int32 → Int32 → sI → sJ → Prop
  | 0 => fun _ _ _ _ _ => False
  | n + 1 => fun x1 x2 x3 I J => w_X5_lettersOf_4_s post (w_X5_lettersOf_4_n post n) x1 x2 x3 I J
def w_X5_lettersOf_4 (post : Int32 → sI → sJ → Prop) (x1 : Int32) (x2 : Int32) (x3 : Int32) (I : sI) (J : sJ) : Prop := ∃ n, w_X5_lettersOf_4_n post n x1 x2 x3 I J
set_option maxHeartbeats 4000000 in
set_option maxRecDepth 100000 in
theorem t_X5_lettersOf_4_s {X : sX} {post : Int32 → sI → sJ → Prop} (h : sOK X cX5_lettersOf RX5 4 0 0) (hr : sRt X (some .int) (sPi post)) {k4 : Int32 → Int32 → Int32 → sI → sJ → Prop} (hk4 : ∀ (x1 : Int32) (x2 : Int32) (x3 : Int32) (I : sI) (J : sJ), k4 x1 x2 x3 I J → sG X 4 4 [(0, .ref 220), (1, .int x1), (2, .int x2), (3, .int x3)] [] I J) {x1 : Int32} {x2 : Int32} {x3 : Int32} {I : sI} {J : sJ} (hw : w_X5_lettersOf_4_s post k4 x1 x2 x3 I J) : sG X 4 4 [(0, .ref 220), (1, .int x1), (2, .int x2), (3, .int x3)] [] I J := by
  unfold w_X5_lettersOf_4_s at hw
  refine g_iload_n h rfl 3 rfl dX5_lettersOf_4 ?_
  refine g_bipush (v := 8) h (by decide) dX5_lettersOf_5 ?_
  refine g_icmp_ge (tgt := 40) h (by decide) dX5_lettersOf_7 (fun q7 => ?_) (fun q7 => ?_)
  · replace hw := hw.1 q7
    refine g_iload_n h rfl 2 rfl dX5_lettersOf_40 ?_
    exact g_iret h hr dX5_lettersOf_41 hw
  · replace hw := hw.2 q7
    refine g_iload_n h rfl 2 rfl dX5_lettersOf_10 ?_
    refine g_aload_n h rfl 0 rfl dX5_lettersOf_11 ?_
    refine g_get h is_220 fl_X5_15 fr_220_7 dX5_lettersOf_12 ?_
    refine g_iload_n h rfl 1 rfl dX5_lettersOf_15 ?_
    refine g_bipush (v := 8) h (by decide) dX5_lettersOf_16 ?_
    refine g_imul h dX5_lettersOf_18 ?_
    refine g_iload_n h rfl 3 rfl dX5_lettersOf_19 ?_
    refine g_iadd h dX5_lettersOf_20 ?_
    obtain ⟨hi21, hw⟩ := hw
    refine g_iald h ar_222 hi21 dX5_lettersOf_21 ?_
    refine g_if_le (tgt := 31) h (by decide) dX5_lettersOf_22 (fun q22 => ?_) (fun q22 => ?_)
    · replace hw := hw.1 q22
      refine g_iconst (v := 0) h (by decide) dX5_lettersOf_31 ?_
      exact g_sub [0, 1, 3] rfl (t_X5_lettersOf_32 h hr hk4 hw)
    · replace hw := hw.2 q22
      refine g_iconst (v := 1) h (by decide) dX5_lettersOf_25 ?_
      refine g_iload_n h rfl 3 rfl dX5_lettersOf_26 ?_
      refine g_ishl h dX5_lettersOf_27 ?_
      refine g_goto (tgt := 32) h (by decide) dX5_lettersOf_28 ?_
      exact g_sub [0, 1, 3] rfl (t_X5_lettersOf_32 h hr hk4 hw)
theorem t_X5_lettersOf_4 {X : sX} {post : Int32 → sI → sJ → Prop} (h : sOK X cX5_lettersOf RX5 4 0 0) (hr : sRt X (some .int) (sPi post)) {x1 : Int32} {x2 : Int32} {x3 : Int32} {I : sI} {J : sJ} (hw : w_X5_lettersOf_4 post x1 x2 x3 I J) : sG X 4 4 [(0, .ref 220), (1, .int x1), (2, .int x2), (3, .int x3)] [] I J := by
  obtain ⟨n, hw⟩ := hw
  induction n generalizing x1 x2 x3 I J with
  | zero => exact hw.elim
  | succ n ih => exact t_X5_lettersOf_4_s h hr (fun _ _ _ _ _ q => ih q) hw
def w_X5_lettersOf (a1 : Int32) (I : sI) (J : sJ) (post : Int32 → sI → sJ → Prop) : Prop :=
  w_X5_lettersOf_4 post a1 0 0 I J
set_option maxHeartbeats 4000000 in
set_option maxRecDepth 100000 in
theorem t_X5_lettersOf {X : sX} {a1 : Int32} {I : sI} {J : sJ} {post : Int32 → sI → sJ → Prop} (h : sOK X cX5_lettersOf RX5 4 0 0) (hr : sRt X (some .int) (sPi post)) (hw : w_X5_lettersOf a1 I J post) : sG X 4 0 [(0, .ref 220), (1, .int a1)] [] I J := by
  unfold w_X5_lettersOf at hw
  refine g_iconst (v := 0) h (by decide) dX5_lettersOf_0 ?_
  refine g_istore_n (lo2 := [(2, .int 0), (0, .ref 220), (1, .int a1)]) h rfl (by decide) rfl dX5_lettersOf_1 ?_
  refine g_iconst (v := 0) h (by decide) dX5_lettersOf_2 ?_
  refine g_istore_n (lo2 := [(3, .int 0), (2, .int 0), (0, .ref 220), (1, .int a1)]) h rfl (by decide) rfl dX5_lettersOf_3 ?_
  exact g_sub [2, 3, 1, 0] rfl (t_X5_lettersOf_4 h hr hw)
theorem c_X5_lettersOf (X : sX) {a1 : Int32} {I : sI} {J : sJ} {post : Int32 → sI → sJ → Prop} (hw : w_X5_lettersOf a1 I J post) : sCall X yX5_lettersOf cX5_lettersOf 4 (some .int) 0 0 [.ref 220, .int a1] I J (sPi post) := sCall_of (by decide +kernel) (Nat.le_of_ble_eq_true rfl) (fun X h hr => t_X5_lettersOf h hr hw)
theorem dX5_worstOf_0 : decode cX5_worstOf 0 = .ok (.iconst 0, 1) := by decide +kernel
theorem dX5_worstOf_1 : decode cX5_worstOf 1 = .ok (.istore_n 2, 1) := by decide +kernel
theorem dX5_worstOf_2 : decode cX5_worstOf 2 = .ok (.iconst 0, 1) := by decide +kernel
theorem dX5_worstOf_3 : decode cX5_worstOf 3 = .ok (.istore_n 3, 1) := by decide +kernel
theorem dX5_worstOf_4 : decode cX5_worstOf 4 = .ok (.iload_n 3, 1) := by decide +kernel
theorem dX5_worstOf_5 : decode cX5_worstOf 5 = .ok (.bipush 8, 2) := by decide +kernel
theorem dX5_worstOf_7 : decode cX5_worstOf 7 = .ok (.if_icmp .ge 25, 3) := by decide +kernel
theorem dX5_worstOf_10 : decode cX5_worstOf 10 = .ok (.iload_n 2, 1) := by decide +kernel
theorem dX5_worstOf_11 : decode cX5_worstOf 11 = .ok (.aload_n 0, 1) := by decide +kernel
theorem dX5_worstOf_12 : decode cX5_worstOf 12 = .ok (.getfield 15, 3) := by decide +kernel
theorem dX5_worstOf_15 : decode cX5_worstOf 15 = .ok (.iload_n 1, 1) := by decide +kernel
theorem dX5_worstOf_16 : decode cX5_worstOf 16 = .ok (.bipush 8, 2) := by decide +kernel
theorem dX5_worstOf_18 : decode cX5_worstOf 18 = .ok (.imul, 1) := by decide +kernel
theorem dX5_worstOf_19 : decode cX5_worstOf 19 = .ok (.iload_n 3, 1) := by decide +kernel
theorem dX5_worstOf_20 : decode cX5_worstOf 20 = .ok (.iadd, 1) := by decide +kernel
theorem dX5_worstOf_21 : decode cX5_worstOf 21 = .ok (.iaload, 1) := by decide +kernel
theorem dX5_worstOf_22 : decode cX5_worstOf 22 = .ok (.invokestatic 67, 3) := by decide +kernel
theorem dX5_worstOf_25 : decode cX5_worstOf 25 = .ok (.istore_n 2, 1) := by decide +kernel
theorem dX5_worstOf_26 : decode cX5_worstOf 26 = .ok (.iinc 3 1, 3) := by decide +kernel
theorem dX5_worstOf_29 : decode cX5_worstOf 29 = .ok (.goto (-25), 3) := by decide +kernel
theorem dX5_worstOf_32 : decode cX5_worstOf 32 = .ok (.iload_n 2, 1) := by decide +kernel
theorem dX5_worstOf_33 : decode cX5_worstOf 33 = .ok (.ireturn, 1) := by decide +kernel
def w_X5_worstOf_4_s (post : Int32 → sI → sJ → Prop) (k4 : Int32 → Int32 → Int32 → sI → sJ → Prop) (x1 : Int32) (x2 : Int32) (x3 : Int32) (I : sI) (J : sJ) : Prop :=
  ((8 ≤ x3 → post x2 I J) ∧ (¬ 8 ≤ x3 → (vp_in ((x1 * 8) + x3) 96 ∧ w_J9_max_7cf53 x2 (I 222 (Int32.toNatClampNeg ((x1 * 8) + x3))) I J (fun (r_22 : Int32) (I_22 : sI) (J_22 : sJ) => ((∀ v3_26 : Int32, v3_26 = x3 + 1 → k4 x1 r_22 v3_26 I_22 J_22))))))
def w_X5_worstOf_4_n (post : Int32 → sI → sJ → Prop) : Nat → Int32 → Int32 → Int32 → sI → sJ → Prop
  | 0 => fun _ _ _ _ _ => False
  | n + 1 => fun x1 x2 x3 I J => w_X5_worstOf_4_s post (w_X5_worstOf_4_n post n) x1 x2 x3 I J
def w_X5_worstOf_4 (post : Int32 → sI → sJ → Prop) (x1 : Int32) (x2 : Int32) (x3 : Int32) (I : sI) (J : sJ) : Prop := ∃ n, w_X5_worstOf_4_n post n x1 x2 x3 I J
set_option maxHeartbeats 4000000 in
set_option maxRecDepth 100000 in
theorem t_X5_worstOf_4_s {X : sX} {post : Int32 → sI → sJ → Prop} (h : sOK X cX5_worstOf RX5 4 1 21) (hr : sRt X (some .int) (sPi post)) {k4 : Int32 → Int32 → Int32 → sI → sJ → Prop} (hk4 : ∀ (x1 : Int32) (x2 : Int32) (x3 : Int32) (I : sI) (J : sJ), k4 x1 x2 x3 I J → sG X 4 4 [(0, .ref 220), (1, .int x1), (2, .int x2), (3, .int x3)] [] I J) {x1 : Int32} {x2 : Int32} {x3 : Int32} {I : sI} {J : sJ} (hw : w_X5_worstOf_4_s post k4 x1 x2 x3 I J) : sG X 4 4 [(0, .ref 220), (1, .int x1), (2, .int x2), (3, .int x3)] [] I J := by
  unfold w_X5_worstOf_4_s at hw
  refine g_iload_n h rfl 3 rfl dX5_worstOf_4 ?_
  refine g_bipush (v := 8) h (by decide) dX5_worstOf_5 ?_
  refine g_icmp_ge (tgt := 32) h (by decide) dX5_worstOf_7 (fun q7 => ?_) (fun q7 => ?_)
  · replace hw := hw.1 q7
    refine g_iload_n h rfl 2 rfl dX5_worstOf_32 ?_
    exact g_iret h hr dX5_worstOf_33 hw
  · replace hw := hw.2 q7
    refine g_iload_n h rfl 2 rfl dX5_worstOf_10 ?_
    refine g_aload_n h rfl 0 rfl dX5_worstOf_11 ?_
    refine g_get h is_220 fl_X5_15 fr_220_7 dX5_worstOf_12 ?_
    refine g_iload_n h rfl 1 rfl dX5_worstOf_15 ?_
    refine g_bipush (v := 8) h (by decide) dX5_worstOf_16 ?_
    refine g_imul h dX5_worstOf_18 ?_
    refine g_iload_n h rfl 3 rfl dX5_worstOf_19 ?_
    refine g_iadd h dX5_worstOf_20 ?_
    obtain ⟨hi21, hw⟩ := hw
    refine g_iald h ar_222 hi21 dX5_worstOf_21 ?_
    refine g_callS [.int x2, .int (I 222 (Int32.toNatClampNeg ((x1 * 8) + x3)))] h (c_J9_max_7cf53 X hw) sPi_v mw_J9_max_7cf53 lk_X5_67 rfl ⟨by decide, by decide⟩ (Nat.le_of_ble_eq_true rfl) dX5_worstOf_22 (sPi_k (fun r_22 I_22 J_22 hw => ?_))
    refine g_istore_n (lo2 := [(2, .int r_22), (0, .ref 220), (1, .int x1), (3, .int x3)]) h rfl (by decide) rfl dX5_worstOf_25 ?_
    obtain ⟨v3_26, ev3_26⟩ : ∃ z : Int32, z = x3 + 1 := ⟨_, rfl⟩
    replace hw := hw v3_26 ev3_26
    refine g_iinc (v := v3_26) (lo2 := [(3, .int v3_26), (2, .int r_22), (0, .ref 220), (1, .int x1)]) h 3 rfl (by rw [ev3_26]; rfl) (by decide) rfl dX5_worstOf_26 ?_
    refine g_goto (tgt := 4) h (by decide) dX5_worstOf_29 ?_
    exact g_sub [2, 3, 1, 0] rfl (hk4 _ _ _ _ _ hw)
theorem t_X5_worstOf_4 {X : sX} {post : Int32 → sI → sJ → Prop} (h : sOK X cX5_worstOf RX5 4 1 21) (hr : sRt X (some .int) (sPi post)) {x1 : Int32} {x2 : Int32} {x3 : Int32} {I : sI} {J : sJ} (hw : w_X5_worstOf_4 post x1 x2 x3 I J) : sG X 4 4 [(0, .ref 220), (1, .int x1), (2, .int x2), (3, .int x3)] [] I J := by
  obtain ⟨n, hw⟩ := hw
  induction n generalizing x1 x2 x3 I J with
  | zero => exact hw.elim
  | succ n ih => exact t_X5_worstOf_4_s h hr (fun _ _ _ _ _ q => ih q) hw
def w_X5_worstOf (a1 : Int32) (I : sI) (J : sJ) (post : Int32 → sI → sJ → Prop) : Prop :=
  w_X5_worstOf_4 post a1 0 0 I J
set_option maxHeartbeats 4000000 in
set_option maxRecDepth 100000 in
theorem t_X5_worstOf {X : sX} {a1 : Int32} {I : sI} {J : sJ} {post : Int32 → sI → sJ → Prop} (h : sOK X cX5_worstOf RX5 4 1 21) (hr : sRt X (some .int) (sPi post)) (hw : w_X5_worstOf a1 I J post) : sG X 4 0 [(0, .ref 220), (1, .int a1)] [] I J := by
  unfold w_X5_worstOf at hw
  refine g_iconst (v := 0) h (by decide) dX5_worstOf_0 ?_
  refine g_istore_n (lo2 := [(2, .int 0), (0, .ref 220), (1, .int a1)]) h rfl (by decide) rfl dX5_worstOf_1 ?_
  refine g_iconst (v := 0) h (by decide) dX5_worstOf_2 ?_
  refine g_istore_n (lo2 := [(3, .int 0), (2, .int 0), (0, .ref 220), (1, .int a1)]) h rfl (by decide) rfl dX5_worstOf_3 ?_
  exact g_sub [2, 3, 1, 0] rfl (t_X5_worstOf_4 h hr hw)
theorem c_X5_worstOf (X : sX) {a1 : Int32} {I : sI} {J : sJ} {post : Int32 → sI → sJ → Prop} (hw : w_X5_worstOf a1 I J post) : sCall X yX5_worstOf cX5_worstOf 4 (some .int) 1 21 [.ref 220, .int a1] I J (sPi post) := sCall_of (by decide +kernel) (Nat.le_of_ble_eq_true rfl) (fun X h hr => t_X5_worstOf h hr hw)
theorem dX6_put_0 : decode cX6_put 0 = .ok (.aload_n 0, 1) := by decide +kernel
theorem dX6_put_1 : decode cX6_put 1 = .ok (.getfield 15, 3) := by decide +kernel
theorem dX6_put_4 : decode cX6_put 4 = .ok (.aload_n 0, 1) := by decide +kernel
theorem dX6_put_5 : decode cX6_put 5 = .ok (.getfield 9, 3) := by decide +kernel
theorem dX6_put_8 : decode cX6_put 8 = .ok (.arraylength, 1) := by decide +kernel
theorem dX6_put_9 : decode cX6_put 9 = .ok (.if_icmp .ge 23, 3) := by decide +kernel
theorem dX6_put_12 : decode cX6_put 12 = .ok (.aload_n 0, 1) := by decide +kernel
theorem dX6_put_13 : decode cX6_put 13 = .ok (.getfield 9, 3) := by decide +kernel
theorem dX6_put_16 : decode cX6_put 16 = .ok (.aload_n 0, 1) := by decide +kernel
theorem dX6_put_17 : decode cX6_put 17 = .ok (.getfield 15, 3) := by decide +kernel
theorem dX6_put_20 : decode cX6_put 20 = .ok (.lload_n 1, 1) := by decide +kernel
theorem dX6_put_21 : decode cX6_put 21 = .ok (.lastore, 1) := by decide +kernel
theorem dX6_put_22 : decode cX6_put 22 = .ok (.aload_n 0, 1) := by decide +kernel
theorem dX6_put_23 : decode cX6_put 23 = .ok (.dup, 1) := by decide +kernel
theorem dX6_put_24 : decode cX6_put 24 = .ok (.getfield 15, 3) := by decide +kernel
theorem dX6_put_27 : decode cX6_put 27 = .ok (.iconst 1, 1) := by decide +kernel
theorem dX6_put_28 : decode cX6_put 28 = .ok (.iadd, 1) := by decide +kernel
theorem dX6_put_29 : decode cX6_put 29 = .ok (.putfield 15, 3) := by decide +kernel
theorem dX6_put_32 : decode cX6_put 32 = .ok (.return_, 1) := by decide +kernel
def w_X6_put (h0 : Nat) (a1 : Int64) (I : sI) (J : sJ) (post : sI → sJ → Prop) : Prop :=
  (((nI 13) ≤ (I h0 1) → post I J) ∧ (¬ (nI 13) ≤ (I h0 1) → (vp_in (I h0 1) 13 ∧ (∀ J_21 : sJ, J_21 = sUJ J (sR h0 0) (Int32.toNatClampNeg (I h0 1)) a1 → (∀ I_29 : sI, I_29 = sUI I h0 1 ((I h0 1) + 1) → post I_29 J_21)))))
set_option maxHeartbeats 4000000 in
set_option maxRecDepth 100000 in
theorem t_X6_put {X : sX} {h0 : Nat} {a1 : Int64} (ph0 : sIs h0 6) {I : sI} {J : sJ} {post : sI → sJ → Prop} (h : sOK X cX6_put RX6 3 0 0) (hr : sRt X none (sPv post)) (hw : w_X6_put h0 a1 I J post) : sG X 3 0 [(0, .ref h0), (1, .long a1)] [] I J := by
  unfold w_X6_put at hw
  refine g_aload_n h rfl 0 rfl dX6_put_0 ?_
  refine g_get h ph0 fl_X6_15 rfl dX6_put_1 ?_
  refine g_aload_n h rfl 0 rfl dX6_put_4 ?_
  refine g_get h ph0 fl_X6_9 rfl dX6_put_5 ?_
  refine g_llen h (arF_6_0 ph0) dX6_put_8 ?_
  refine g_icmp_ge (tgt := 32) h (by decide) dX6_put_9 (fun q9 => ?_) (fun q9 => ?_)
  · replace hw := hw.1 q9
    exact g_vret h hr dX6_put_32 hw
  · replace hw := hw.2 q9
    refine g_aload_n h rfl 0 rfl dX6_put_12 ?_
    refine g_get h ph0 fl_X6_9 rfl dX6_put_13 ?_
    refine g_aload_n h rfl 0 rfl dX6_put_16 ?_
    refine g_get h ph0 fl_X6_15 rfl dX6_put_17 ?_
    refine g_lload_n h rfl 1 rfl dX6_put_20 ?_
    obtain ⟨hi21, hw⟩ := hw
    refine g_last h (arF_6_0 ph0) hi21 dX6_put_21 ?_
    refine g_nJ (fun J_21 eJ_21 => ?_)
    replace hw := hw J_21 eJ_21
    refine g_aload_n h rfl 0 rfl dX6_put_22 ?_
    refine g_dup h rfl dX6_put_23 ?_
    refine g_get h ph0 fl_X6_15 rfl dX6_put_24 ?_
    refine g_iconst (v := 1) h (by decide) dX6_put_27 ?_
    refine g_iadd h dX6_put_28 ?_
    refine g_putI h ph0 fl_X6_15 rfl rfl dX6_put_29 ?_
    refine g_nI (fun I_29 eI_29 => ?_)
    replace hw := hw I_29 eI_29
    exact g_vret h hr dX6_put_32 hw
theorem c_X6_put (X : sX) {h0 : Nat} {a1 : Int64} (ph0 : sIs h0 6) {I : sI} {J : sJ} {post : sI → sJ → Prop} (hw : w_X6_put h0 a1 I J post) : sCall X yX6_put cX6_put 3 none 0 0 [.ref h0, .long a1] I J (sPv post) := sCall_of (by decide +kernel) (Nat.le_of_ble_eq_true rfl) (fun X h hr => t_X6_put ph0 h hr hw)
theorem dX6_tell_0 : decode cX6_tell 0 = .ok (.aload_n 0, 1) := by decide +kernel
theorem dX6_tell_1 : decode cX6_tell 1 = .ok (.iconst 0, 1) := by decide +kernel
theorem dX6_tell_2 : decode cX6_tell 2 = .ok (.putfield 15, 3) := by decide +kernel
theorem dX6_tell_5 : decode cX6_tell 5 = .ok (.aload_n 0, 1) := by decide +kernel
theorem dX6_tell_6 : decode cX6_tell 6 = .ok (.lload_n 1, 1) := by decide +kernel
theorem dX6_tell_7 : decode cX6_tell 7 = .ok (.invokevirtual 19, 3) := by decide +kernel
theorem dX6_tell_10 : decode cX6_tell 10 = .ok (.return_, 1) := by decide +kernel
def w_X6_tell (h0 : Nat) (a1 : Int64) (I : sI) (J : sJ) (post : sI → sJ → Prop) : Prop :=
  (∀ I_2 : sI, I_2 = sUI I h0 1 0 → w_X6_put h0 a1 I_2 J (fun (I_7 : sI) (J_7 : sJ) => (post I_7 J_7)))
set_option maxHeartbeats 4000000 in
set_option maxRecDepth 100000 in
theorem t_X6_tell {X : sX} {h0 : Nat} {a1 : Int64} (ph0 : sIs h0 6) {I : sI} {J : sJ} {post : sI → sJ → Prop} (h : sOK X cX6_tell RX6 3 1 22) (hr : sRt X none (sPv post)) (hw : w_X6_tell h0 a1 I J post) : sG X 3 0 [(0, .ref h0), (1, .long a1)] [] I J := by
  unfold w_X6_tell at hw
  refine g_aload_n h rfl 0 rfl dX6_tell_0 ?_
  refine g_iconst (v := 0) h (by decide) dX6_tell_1 ?_
  refine g_putI h ph0 fl_X6_15 rfl rfl dX6_tell_2 ?_
  refine g_nI (fun I_2 eI_2 => ?_)
  replace hw := hw I_2 eI_2
  refine g_aload_n h rfl 0 rfl dX6_tell_5 ?_
  refine g_lload_n h rfl 1 rfl dX6_tell_6 ?_
  refine g_callV [.long a1] h (c_X6_put X ph0 hw) sPv_v mw_X6_put lk_X6_19 ph0 rfl rfl ⟨by decide, by decide⟩ (Nat.le_of_ble_eq_true rfl) dX6_tell_7 (sPv_k (fun I_7 J_7 hw => ?_))
  exact g_vret h hr dX6_tell_10 hw
theorem c_X6_tell (X : sX) {h0 : Nat} {a1 : Int64} (ph0 : sIs h0 6) {I : sI} {J : sJ} {post : sI → sJ → Prop} (hw : w_X6_tell h0 a1 I J post) : sCall X yX6_tell cX6_tell 3 none 1 22 [.ref h0, .long a1] I J (sPv post) := sCall_of (by decide +kernel) (Nat.le_of_ble_eq_true rfl) (fun X h hr => t_X6_tell ph0 h hr hw)
theorem dX6_tell__0 : decode cX6_tell_ 0 = .ok (.aload_n 0, 1) := by decide +kernel
theorem dX6_tell__1 : decode cX6_tell_ 1 = .ok (.lload_n 1, 1) := by decide +kernel
theorem dX6_tell__2 : decode cX6_tell_ 2 = .ok (.invokevirtual 23, 3) := by decide +kernel
theorem dX6_tell__5 : decode cX6_tell_ 5 = .ok (.aload_n 0, 1) := by decide +kernel
theorem dX6_tell__6 : decode cX6_tell_ 6 = .ok (.lload_n 3, 1) := by decide +kernel
theorem dX6_tell__7 : decode cX6_tell_ 7 = .ok (.invokevirtual 19, 3) := by decide +kernel
theorem dX6_tell__10 : decode cX6_tell_ 10 = .ok (.return_, 1) := by decide +kernel
def w_X6_tell_ (h0 : Nat) (a1 : Int64) (a3 : Int64) (I : sI) (J : sJ) (post : sI → sJ → Prop) : Prop :=
  w_X6_tell h0 a1 I J (fun (I_2 : sI) (J_2 : sJ) => (w_X6_put h0 a3 I_2 J_2 (fun (I_7 : sI) (J_7 : sJ) => (post I_7 J_7))))
set_option maxHeartbeats 4000000 in
set_option maxRecDepth 100000 in
theorem t_X6_tell_ {X : sX} {h0 : Nat} {a1 : Int64} {a3 : Int64} (ph0 : sIs h0 6) {I : sI} {J : sJ} {post : sI → sJ → Prop} (h : sOK X cX6_tell_ RX6 5 2 44) (hr : sRt X none (sPv post)) (hw : w_X6_tell_ h0 a1 a3 I J post) : sG X 5 0 [(0, .ref h0), (1, .long a1), (3, .long a3)] [] I J := by
  unfold w_X6_tell_ at hw
  refine g_aload_n h rfl 0 rfl dX6_tell__0 ?_
  refine g_lload_n h rfl 1 rfl dX6_tell__1 ?_
  refine g_callV [.long a1] h (c_X6_tell X ph0 hw) sPv_v mw_X6_tell lk_X6_23 ph0 rfl rfl ⟨by decide, by decide⟩ (Nat.le_of_ble_eq_true rfl) dX6_tell__2 (sPv_k (fun I_2 J_2 hw => ?_))
  refine g_aload_n h rfl 0 rfl dX6_tell__5 ?_
  refine g_lload_n h rfl 2 rfl dX6_tell__6 ?_
  refine g_callV [.long a3] h (c_X6_put X ph0 hw) sPv_v mw_X6_put lk_X6_19 ph0 rfl rfl ⟨by decide, by decide⟩ (Nat.le_of_ble_eq_true rfl) dX6_tell__7 (sPv_k (fun I_7 J_7 hw => ?_))
  exact g_vret h hr dX6_tell__10 hw
theorem c_X6_tell_ (X : sX) {h0 : Nat} {a1 : Int64} {a3 : Int64} (ph0 : sIs h0 6) {I : sI} {J : sJ} {post : sI → sJ → Prop} (hw : w_X6_tell_ h0 a1 a3 I J post) : sCall X yX6_tell_ cX6_tell_ 5 none 2 44 [.ref h0, .long a1, .long a3] I J (sPv post) := sCall_of (by decide +kernel) (Nat.le_of_ble_eq_true rfl) (fun X h hr => t_X6_tell_ ph0 h hr hw)
theorem dX6_commonDivisor_0 : decode cX6_commonDivisor 0 = .ok (.lload_n 0, 1) := by decide +kernel
theorem dX6_commonDivisor_1 : decode cX6_commonDivisor 1 = .ok (.lstore 4, 2) := by decide +kernel
theorem dX6_commonDivisor_3 : decode cX6_commonDivisor 3 = .ok (.lload_n 2, 1) := by decide +kernel
theorem dX6_commonDivisor_4 : decode cX6_commonDivisor 4 = .ok (.lstore 6, 2) := by decide +kernel
theorem dX6_commonDivisor_6 : decode cX6_commonDivisor 6 = .ok (.iconst 0, 1) := by decide +kernel
theorem dX6_commonDivisor_7 : decode cX6_commonDivisor 7 = .ok (.istore 8, 2) := by decide +kernel
theorem dX6_commonDivisor_9 : decode cX6_commonDivisor 9 = .ok (.iload 8, 2) := by decide +kernel
theorem dX6_commonDivisor_11 : decode cX6_commonDivisor 11 = .ok (.bipush 100, 2) := by decide +kernel
theorem dX6_commonDivisor_13 : decode cX6_commonDivisor 13 = .ok (.if_icmp .ge 31, 3) := by decide +kernel
theorem dX6_commonDivisor_16 : decode cX6_commonDivisor 16 = .ok (.lload 6, 2) := by decide +kernel
theorem dX6_commonDivisor_18 : decode cX6_commonDivisor 18 = .ok (.lconst 0, 1) := by decide +kernel
theorem dX6_commonDivisor_19 : decode cX6_commonDivisor 19 = .ok (.lcmp, 1) := by decide +kernel
theorem dX6_commonDivisor_20 : decode cX6_commonDivisor 20 = .ok (.ifCond .eq 24, 3) := by decide +kernel
theorem dX6_commonDivisor_23 : decode cX6_commonDivisor 23 = .ok (.lload 4, 2) := by decide +kernel
theorem dX6_commonDivisor_25 : decode cX6_commonDivisor 25 = .ok (.lload 6, 2) := by decide +kernel
theorem dX6_commonDivisor_27 : decode cX6_commonDivisor 27 = .ok (.lrem, 1) := by decide +kernel
theorem dX6_commonDivisor_28 : decode cX6_commonDivisor 28 = .ok (.lstore 9, 2) := by decide +kernel
theorem dX6_commonDivisor_30 : decode cX6_commonDivisor 30 = .ok (.lload 6, 2) := by decide +kernel
theorem dX6_commonDivisor_32 : decode cX6_commonDivisor 32 = .ok (.lstore 4, 2) := by decide +kernel
theorem dX6_commonDivisor_34 : decode cX6_commonDivisor 34 = .ok (.lload 9, 2) := by decide +kernel
theorem dX6_commonDivisor_36 : decode cX6_commonDivisor 36 = .ok (.lstore 6, 2) := by decide +kernel
theorem dX6_commonDivisor_38 : decode cX6_commonDivisor 38 = .ok (.iinc 8 1, 3) := by decide +kernel
theorem dX6_commonDivisor_41 : decode cX6_commonDivisor 41 = .ok (.goto (-32), 3) := by decide +kernel
theorem dX6_commonDivisor_44 : decode cX6_commonDivisor 44 = .ok (.lload 4, 2) := by decide +kernel
theorem dX6_commonDivisor_46 : decode cX6_commonDivisor 46 = .ok (.lreturn, 1) := by decide +kernel
def w_X6_commonDivisor_9_s (post : Int64 → sI → sJ → Prop) (k9 : Int64 → Int64 → Int32 → sI → sJ → Prop) (x4 : Int64) (x6 : Int64) (x8 : Int32) (I : sI) (J : sJ) : Prop :=
  ((100 ≤ x8 → post x4 I J) ∧ (¬ 100 ≤ x8 → (((lg_cmp x6 0) = 0 → post x4 I J) ∧ (¬ (lg_cmp x6 0) = 0 → (¬ x6 = 0 ∧ (∀ v9_28 : Int64, v9_28 = x4 - x4 / x6 * x6 → (∀ v8_38 : Int32, v8_38 = x8 + 1 → k9 x6 v9_28 v8_38 I J)))))))
def w_X6_commonDivisor_9_n (post : Int64 → sI → sJ → Prop) : Nat → Int64 → Int64 → Int32 → sI → sJ → Prop
  | 0 => fun _ _ _ _ _ => False
  | n + 1 => fun x4 x6 x8 I J => w_X6_commonDivisor_9_s post (w_X6_commonDivisor_9_n post n) x4 x6 x8 I J
def w_X6_commonDivisor_9 (post : Int64 → sI → sJ → Prop) (x4 : Int64) (x6 : Int64) (x8 : Int32) (I : sI) (J : sJ) : Prop := ∃ n, w_X6_commonDivisor_9_n post n x4 x6 x8 I J
set_option maxHeartbeats 4000000 in
set_option maxRecDepth 100000 in
theorem t_X6_commonDivisor_9_s {X : sX} {post : Int64 → sI → sJ → Prop} (h : sOK X cX6_commonDivisor RX6 11 0 0) (hr : sRt X (some .long) (sPl post)) {k9 : Int64 → Int64 → Int32 → sI → sJ → Prop} (hk9 : ∀ (x4 : Int64) (x6 : Int64) (x8 : Int32) (I : sI) (J : sJ), k9 x4 x6 x8 I J → sG X 11 9 [(4, .long x4), (6, .long x6), (8, .int x8)] [] I J) {x4 : Int64} {x6 : Int64} {x8 : Int32} {I : sI} {J : sJ} (hw : w_X6_commonDivisor_9_s post k9 x4 x6 x8 I J) : sG X 11 9 [(4, .long x4), (6, .long x6), (8, .int x8)] [] I J := by
  unfold w_X6_commonDivisor_9_s at hw
  refine g_iload h 2 rfl dX6_commonDivisor_9 ?_
  refine g_bipush (v := 100) h (by decide) dX6_commonDivisor_11 ?_
  refine g_icmp_ge (tgt := 44) h (by decide) dX6_commonDivisor_13 (fun q13 => ?_) (fun q13 => ?_)
  · replace hw := hw.1 q13
    refine g_lload h 0 rfl dX6_commonDivisor_44 ?_
    exact g_lret h hr dX6_commonDivisor_46 hw
  · replace hw := hw.2 q13
    refine g_lload h 1 rfl dX6_commonDivisor_16 ?_
    refine g_lconst (v := 0) h (by decide) dX6_commonDivisor_18 ?_
    refine g_lcmp h dX6_commonDivisor_19 ?_
    refine g_if_eq (tgt := 44) h (by decide) dX6_commonDivisor_20 (fun q20 => ?_) (fun q20 => ?_)
    · replace hw := hw.1 q20
      refine g_lload h 0 rfl dX6_commonDivisor_44 ?_
      exact g_lret h hr dX6_commonDivisor_46 hw
    · replace hw := hw.2 q20
      refine g_lload h 0 rfl dX6_commonDivisor_23 ?_
      refine g_lload h 1 rfl dX6_commonDivisor_25 ?_
      obtain ⟨hz27, hw⟩ := hw
      refine g_lrem h hz27 dX6_commonDivisor_27 ?_
      refine g_nl (fun v9_28 ev9_28 => ?_)
      replace hw := hw v9_28 ev9_28
      refine g_lstore (lo2 := [(9, .long v9_28), (4, .long x4), (6, .long x6), (8, .int x8)]) h (by decide) rfl dX6_commonDivisor_28 ?_
      refine g_lload h 2 rfl dX6_commonDivisor_30 ?_
      refine g_lstore (lo2 := [(4, .long x6), (9, .long v9_28), (6, .long x6), (8, .int x8)]) h (by decide) rfl dX6_commonDivisor_32 ?_
      refine g_lload h 1 rfl dX6_commonDivisor_34 ?_
      refine g_lstore (lo2 := [(6, .long v9_28), (4, .long x6), (9, .long v9_28), (8, .int x8)]) h (by decide) rfl dX6_commonDivisor_36 ?_
      obtain ⟨v8_38, ev8_38⟩ : ∃ z : Int32, z = x8 + 1 := ⟨_, rfl⟩
      replace hw := hw v8_38 ev8_38
      refine g_iinc (v := v8_38) (lo2 := [(8, .int v8_38), (6, .long v9_28), (4, .long x6), (9, .long v9_28)]) h 3 rfl (by rw [ev8_38]; rfl) (by decide) rfl dX6_commonDivisor_38 ?_
      refine g_goto (tgt := 9) h (by decide) dX6_commonDivisor_41 ?_
      exact g_sub [2, 1, 0] rfl (hk9 _ _ _ _ _ hw)
theorem t_X6_commonDivisor_9 {X : sX} {post : Int64 → sI → sJ → Prop} (h : sOK X cX6_commonDivisor RX6 11 0 0) (hr : sRt X (some .long) (sPl post)) {x4 : Int64} {x6 : Int64} {x8 : Int32} {I : sI} {J : sJ} (hw : w_X6_commonDivisor_9 post x4 x6 x8 I J) : sG X 11 9 [(4, .long x4), (6, .long x6), (8, .int x8)] [] I J := by
  obtain ⟨n, hw⟩ := hw
  induction n generalizing x4 x6 x8 I J with
  | zero => exact hw.elim
  | succ n ih => exact t_X6_commonDivisor_9_s h hr (fun _ _ _ _ _ q => ih q) hw
def w_X6_commonDivisor (a0 : Int64) (a2 : Int64) (I : sI) (J : sJ) (post : Int64 → sI → sJ → Prop) : Prop :=
  w_X6_commonDivisor_9 post a0 a2 0 I J
set_option maxHeartbeats 4000000 in
set_option maxRecDepth 100000 in
theorem t_X6_commonDivisor {X : sX} {a0 : Int64} {a2 : Int64} {I : sI} {J : sJ} {post : Int64 → sI → sJ → Prop} (h : sOK X cX6_commonDivisor RX6 11 0 0) (hr : sRt X (some .long) (sPl post)) (hw : w_X6_commonDivisor a0 a2 I J post) : sG X 11 0 [(0, .long a0), (2, .long a2)] [] I J := by
  unfold w_X6_commonDivisor at hw
  refine g_lload_n h rfl 0 rfl dX6_commonDivisor_0 ?_
  refine g_lstore (lo2 := [(4, .long a0), (0, .long a0), (2, .long a2)]) h (by decide) rfl dX6_commonDivisor_1 ?_
  refine g_lload_n h rfl 2 rfl dX6_commonDivisor_3 ?_
  refine g_lstore (lo2 := [(6, .long a2), (4, .long a0), (0, .long a0), (2, .long a2)]) h (by decide) rfl dX6_commonDivisor_4 ?_
  refine g_iconst (v := 0) h (by decide) dX6_commonDivisor_6 ?_
  refine g_istore (lo2 := [(8, .int 0), (6, .long a2), (4, .long a0), (0, .long a0), (2, .long a2)]) h (by decide) rfl dX6_commonDivisor_7 ?_
  exact g_sub [2, 1, 0] rfl (t_X6_commonDivisor_9 h hr hw)
theorem c_X6_commonDivisor (X : sX) {a0 : Int64} {a2 : Int64} {I : sI} {J : sJ} {post : Int64 → sI → sJ → Prop} (hw : w_X6_commonDivisor a0 a2 I J post) : sCall X yX6_commonDivisor cX6_commonDivisor 11 (some .long) 0 0 [.long a0, .long a2] I J (sPl post) := sCall_of (by decide +kernel) (Nat.le_of_ble_eq_true rfl) (fun X h hr => t_X6_commonDivisor h hr hw)
theorem dX6_tellFraction_0 : decode cX6_tellFraction 0 = .ok (.lload_n 1, 1) := by decide +kernel
theorem dX6_tellFraction_1 : decode cX6_tellFraction 1 = .ok (.lload_n 3, 1) := by decide +kernel
theorem dX6_tellFraction_2 : decode cX6_tellFraction 2 = .ok (.invokestatic 26, 3) := by decide +kernel
theorem dX6_tellFraction_5 : decode cX6_tellFraction 5 = .ok (.lstore 5, 2) := by decide +kernel
theorem dX6_tellFraction_7 : decode cX6_tellFraction 7 = .ok (.lload 5, 2) := by decide +kernel
theorem dX6_tellFraction_9 : decode cX6_tellFraction 9 = .ok (.lconst 0, 1) := by decide +kernel
theorem dX6_tellFraction_10 : decode cX6_tellFraction 10 = .ok (.lcmp, 1) := by decide +kernel
theorem dX6_tellFraction_11 : decode cX6_tellFraction 11 = .ok (.ifCond .le 15, 3) := by decide +kernel
theorem dX6_tellFraction_14 : decode cX6_tellFraction 14 = .ok (.aload_n 0, 1) := by decide +kernel
theorem dX6_tellFraction_15 : decode cX6_tellFraction 15 = .ok (.lload_n 1, 1) := by decide +kernel
theorem dX6_tellFraction_16 : decode cX6_tellFraction 16 = .ok (.lload 5, 2) := by decide +kernel
theorem dX6_tellFraction_18 : decode cX6_tellFraction 18 = .ok (.ldiv, 1) := by decide +kernel
theorem dX6_tellFraction_19 : decode cX6_tellFraction 19 = .ok (.lload_n 3, 1) := by decide +kernel
theorem dX6_tellFraction_20 : decode cX6_tellFraction 20 = .ok (.lload 5, 2) := by decide +kernel
theorem dX6_tellFraction_22 : decode cX6_tellFraction 22 = .ok (.ldiv, 1) := by decide +kernel
theorem dX6_tellFraction_23 : decode cX6_tellFraction 23 = .ok (.invokevirtual 30, 3) := by decide +kernel
theorem dX6_tellFraction_26 : decode cX6_tellFraction 26 = .ok (.return_, 1) := by decide +kernel
def w_X6_tellFraction (h0 : Nat) (a1 : Int64) (a3 : Int64) (I : sI) (J : sJ) (post : sI → sJ → Prop) : Prop :=
  w_X6_commonDivisor a1 a3 I J (fun (r_2 : Int64) (I_2 : sI) (J_2 : sJ) => ((((lg_cmp r_2 0) ≤ 0 → post I_2 J_2) ∧ (¬ (lg_cmp r_2 0) ≤ 0 → (¬ r_2 = 0 ∧ (¬ r_2 = 0 ∧ w_X6_tell_ h0 (a1 / r_2) (a3 / r_2) I_2 J_2 (fun (I_23 : sI) (J_23 : sJ) => (post I_23 J_23))))))))
set_option maxHeartbeats 4000000 in
set_option maxRecDepth 100000 in
theorem t_X6_tellFraction {X : sX} {h0 : Nat} {a1 : Int64} {a3 : Int64} (ph0 : sIs h0 6) {I : sI} {J : sJ} {post : sI → sJ → Prop} (h : sOK X cX6_tellFraction RX6 7 3 68) (hr : sRt X none (sPv post)) (hw : w_X6_tellFraction h0 a1 a3 I J post) : sG X 7 0 [(0, .ref h0), (1, .long a1), (3, .long a3)] [] I J := by
  unfold w_X6_tellFraction at hw
  refine g_lload_n h rfl 1 rfl dX6_tellFraction_0 ?_
  refine g_lload_n h rfl 2 rfl dX6_tellFraction_1 ?_
  refine g_callS [.long a1, .long a3] h (c_X6_commonDivisor X hw) sPl_v mw_X6_commonDivisor lk_X6_26 rfl ⟨by decide, by decide⟩ (Nat.le_of_ble_eq_true rfl) dX6_tellFraction_2 (sPl_k (fun r_2 I_2 J_2 hw => ?_))
  refine g_lstore (lo2 := [(5, .long r_2), (0, .ref h0), (1, .long a1), (3, .long a3)]) h (by decide) rfl dX6_tellFraction_5 ?_
  refine g_lload h 0 rfl dX6_tellFraction_7 ?_
  refine g_lconst (v := 0) h (by decide) dX6_tellFraction_9 ?_
  refine g_lcmp h dX6_tellFraction_10 ?_
  refine g_if_le (tgt := 26) h (by decide) dX6_tellFraction_11 (fun q11 => ?_) (fun q11 => ?_)
  · replace hw := hw.1 q11
    exact g_vret h hr dX6_tellFraction_26 hw
  · replace hw := hw.2 q11
    refine g_aload_n h rfl 1 rfl dX6_tellFraction_14 ?_
    refine g_lload_n h rfl 2 rfl dX6_tellFraction_15 ?_
    refine g_lload h 0 rfl dX6_tellFraction_16 ?_
    obtain ⟨hz18, hw⟩ := hw
    refine g_ldiv h hz18 dX6_tellFraction_18 ?_
    refine g_lload_n h rfl 3 rfl dX6_tellFraction_19 ?_
    refine g_lload h 0 rfl dX6_tellFraction_20 ?_
    obtain ⟨hz22, hw⟩ := hw
    refine g_ldiv h hz22 dX6_tellFraction_22 ?_
    refine g_callV [.long (a1 / r_2), .long (a3 / r_2)] h (c_X6_tell_ X ph0 hw) sPv_v mw_X6_tell_ lk_X6_30 ph0 rfl rfl ⟨by decide, by decide⟩ (Nat.le_of_ble_eq_true rfl) dX6_tellFraction_23 (sPv_k (fun I_23 J_23 hw => ?_))
    exact g_vret h hr dX6_tellFraction_26 hw
theorem c_X6_tellFraction (X : sX) {h0 : Nat} {a1 : Int64} {a3 : Int64} (ph0 : sIs h0 6) {I : sI} {J : sJ} {post : sI → sJ → Prop} (hw : w_X6_tellFraction h0 a1 a3 I J post) : sCall X yX6_tellFraction cX6_tellFraction 7 none 3 68 [.ref h0, .long a1, .long a3] I J (sPv post) := sCall_of (by decide +kernel) (Nat.le_of_ble_eq_true rfl) (fun X h hr => t_X6_tellFraction ph0 h hr hw)
theorem dX6_take_0 : decode cX6_take 0 = .ok (.aload_n 0, 1) := by decide +kernel
theorem dX6_take_1 : decode cX6_take 1 = .ok (.iconst 0, 1) := by decide +kernel
theorem dX6_take_2 : decode cX6_take 2 = .ok (.putfield 15, 3) := by decide +kernel
theorem dX6_take_5 : decode cX6_take 5 = .ok (.iconst 0, 1) := by decide +kernel
theorem dX6_take_6 : decode cX6_take 6 = .ok (.istore_n 2, 1) := by decide +kernel
theorem dX6_take_7 : decode cX6_take 7 = .ok (.iload_n 2, 1) := by decide +kernel
theorem dX6_take_8 : decode cX6_take 8 = .ok (.aload_n 1, 1) := by decide +kernel
theorem dX6_take_9 : decode cX6_take 9 = .ok (.getfield 15, 3) := by decide +kernel
theorem dX6_take_12 : decode cX6_take 12 = .ok (.if_icmp .ge 19, 3) := by decide +kernel
theorem dX6_take_15 : decode cX6_take 15 = .ok (.aload_n 0, 1) := by decide +kernel
theorem dX6_take_16 : decode cX6_take 16 = .ok (.aload_n 1, 1) := by decide +kernel
theorem dX6_take_17 : decode cX6_take 17 = .ok (.getfield 9, 3) := by decide +kernel
theorem dX6_take_20 : decode cX6_take 20 = .ok (.iload_n 2, 1) := by decide +kernel
theorem dX6_take_21 : decode cX6_take 21 = .ok (.laload, 1) := by decide +kernel
theorem dX6_take_22 : decode cX6_take 22 = .ok (.invokevirtual 19, 3) := by decide +kernel
theorem dX6_take_25 : decode cX6_take 25 = .ok (.iinc 2 1, 3) := by decide +kernel
theorem dX6_take_28 : decode cX6_take 28 = .ok (.goto (-21), 3) := by decide +kernel
theorem dX6_take_31 : decode cX6_take 31 = .ok (.return_, 1) := by decide +kernel
def w_X6_take_7_s (h0 : Nat) (h1 : Nat) (post : sI → sJ → Prop) (k7 : Int32 → sI → sJ → Prop) (x2 : Int32) (I : sI) (J : sJ) : Prop :=
  (((I h1 1) ≤ x2 → post I J) ∧ (¬ (I h1 1) ≤ x2 → (vp_in x2 13 ∧ w_X6_put h0 (J (sR h1 0) (Int32.toNatClampNeg x2)) I J (fun (I_22 : sI) (J_22 : sJ) => ((∀ v2_25 : Int32, v2_25 = x2 + 1 → k7 v2_25 I_22 J_22))))))
def w_X6_take_7_n (h0 : Nat) (h1 : Nat) (post : sI → sJ → Prop) : Nat → Int32 → sI → sJ → Prop
  | 0 => fun _ _ _ => False
  | n + 1 => fun x2 I J => w_X6_take_7_s h0 h1 post (w_X6_take_7_n h0 h1 post n) x2 I J
def w_X6_take_7 (h0 : Nat) (h1 : Nat) (post : sI → sJ → Prop) (x2 : Int32) (I : sI) (J : sJ) : Prop := ∃ n, w_X6_take_7_n h0 h1 post n x2 I J
set_option maxHeartbeats 4000000 in
set_option maxRecDepth 100000 in
theorem t_X6_take_7_s {X : sX} {h0 : Nat} {h1 : Nat} (ph0 : sIs h0 6) (ph1 : sIs h1 6) {post : sI → sJ → Prop} (h : sOK X cX6_take RX6 3 1 22) (hr : sRt X none (sPv post)) {k7 : Int32 → sI → sJ → Prop} (hk7 : ∀ (x2 : Int32) (I : sI) (J : sJ), k7 x2 I J → sG X 3 7 [(0, .ref h0), (1, .ref h1), (2, .int x2)] [] I J) {x2 : Int32} {I : sI} {J : sJ} (hw : w_X6_take_7_s h0 h1 post k7 x2 I J) : sG X 3 7 [(0, .ref h0), (1, .ref h1), (2, .int x2)] [] I J := by
  unfold w_X6_take_7_s at hw
  refine g_iload_n h rfl 2 rfl dX6_take_7 ?_
  refine g_aload_n h rfl 1 rfl dX6_take_8 ?_
  refine g_get h ph1 fl_X6_15 rfl dX6_take_9 ?_
  refine g_icmp_ge (tgt := 31) h (by decide) dX6_take_12 (fun q12 => ?_) (fun q12 => ?_)
  · replace hw := hw.1 q12
    exact g_vret h hr dX6_take_31 hw
  · replace hw := hw.2 q12
    refine g_aload_n h rfl 0 rfl dX6_take_15 ?_
    refine g_aload_n h rfl 1 rfl dX6_take_16 ?_
    refine g_get h ph1 fl_X6_9 rfl dX6_take_17 ?_
    refine g_iload_n h rfl 2 rfl dX6_take_20 ?_
    obtain ⟨hi21, hw⟩ := hw
    refine g_lald h (arF_6_0 ph1) hi21 dX6_take_21 ?_
    refine g_callV [.long (J (sR h1 0) (Int32.toNatClampNeg x2))] h (c_X6_put X ph0 hw) sPv_v mw_X6_put lk_X6_19 ph0 rfl rfl ⟨by decide, by decide⟩ (Nat.le_of_ble_eq_true rfl) dX6_take_22 (sPv_k (fun I_22 J_22 hw => ?_))
    obtain ⟨v2_25, ev2_25⟩ : ∃ z : Int32, z = x2 + 1 := ⟨_, rfl⟩
    replace hw := hw v2_25 ev2_25
    refine g_iinc (v := v2_25) (lo2 := [(2, .int v2_25), (0, .ref h0), (1, .ref h1)]) h 2 rfl (by rw [ev2_25]; rfl) (by decide) rfl dX6_take_25 ?_
    refine g_goto (tgt := 7) h (by decide) dX6_take_28 ?_
    exact g_sub [1, 2, 0] rfl (hk7 _ _ _ hw)
theorem t_X6_take_7 {X : sX} {h0 : Nat} {h1 : Nat} (ph0 : sIs h0 6) (ph1 : sIs h1 6) {post : sI → sJ → Prop} (h : sOK X cX6_take RX6 3 1 22) (hr : sRt X none (sPv post)) {x2 : Int32} {I : sI} {J : sJ} (hw : w_X6_take_7 h0 h1 post x2 I J) : sG X 3 7 [(0, .ref h0), (1, .ref h1), (2, .int x2)] [] I J := by
  obtain ⟨n, hw⟩ := hw
  induction n generalizing x2 I J with
  | zero => exact hw.elim
  | succ n ih => exact t_X6_take_7_s ph0 ph1 h hr (fun _ _ _ q => ih q) hw
def w_X6_take (h0 : Nat) (h1 : Nat) (I : sI) (J : sJ) (post : sI → sJ → Prop) : Prop :=
  (∀ I_2 : sI, I_2 = sUI I h0 1 0 → w_X6_take_7 h0 h1 post 0 I_2 J)
set_option maxHeartbeats 4000000 in
set_option maxRecDepth 100000 in
theorem t_X6_take {X : sX} {h0 : Nat} {h1 : Nat} (ph0 : sIs h0 6) (ph1 : sIs h1 6) {I : sI} {J : sJ} {post : sI → sJ → Prop} (h : sOK X cX6_take RX6 3 1 22) (hr : sRt X none (sPv post)) (hw : w_X6_take h0 h1 I J post) : sG X 3 0 [(0, .ref h0), (1, .ref h1)] [] I J := by
  unfold w_X6_take at hw
  refine g_aload_n h rfl 0 rfl dX6_take_0 ?_
  refine g_iconst (v := 0) h (by decide) dX6_take_1 ?_
  refine g_putI h ph0 fl_X6_15 rfl rfl dX6_take_2 ?_
  refine g_nI (fun I_2 eI_2 => ?_)
  replace hw := hw I_2 eI_2
  refine g_iconst (v := 0) h (by decide) dX6_take_5 ?_
  refine g_istore_n (lo2 := [(2, .int 0), (0, .ref h0), (1, .ref h1)]) h rfl (by decide) rfl dX6_take_6 ?_
  exact g_sub [1, 2, 0] rfl (t_X6_take_7 ph0 ph1 h hr hw)
theorem c_X6_take (X : sX) {h0 : Nat} {h1 : Nat} (ph0 : sIs h0 6) (ph1 : sIs h1 6) {I : sI} {J : sJ} {post : sI → sJ → Prop} (hw : w_X6_take h0 h1 I J post) : sCall X yX6_take cX6_take 3 none 1 22 [.ref h0, .ref h1] I J (sPv post) := sCall_of (by decide +kernel) (Nat.le_of_ble_eq_true rfl) (fun X h hr => t_X6_take ph0 ph1 h hr hw)
theorem dX7_push_0 : decode cX7_push 0 = .ok (.aload_n 0, 1) := by decide +kernel
theorem dX7_push_1 : decode cX7_push 1 = .ok (.getfield 15, 3) := by decide +kernel
theorem dX7_push_4 : decode cX7_push 4 = .ok (.bipush 80, 2) := by decide +kernel
theorem dX7_push_6 : decode cX7_push 6 = .ok (.if_icmp .ge 23, 3) := by decide +kernel
theorem dX7_push_9 : decode cX7_push 9 = .ok (.aload_n 0, 1) := by decide +kernel
theorem dX7_push_10 : decode cX7_push 10 = .ok (.getfield 9, 3) := by decide +kernel
theorem dX7_push_13 : decode cX7_push 13 = .ok (.aload_n 0, 1) := by decide +kernel
theorem dX7_push_14 : decode cX7_push 14 = .ok (.getfield 15, 3) := by decide +kernel
theorem dX7_push_17 : decode cX7_push 17 = .ok (.iload_n 1, 1) := by decide +kernel
theorem dX7_push_18 : decode cX7_push 18 = .ok (.iastore, 1) := by decide +kernel
theorem dX7_push_19 : decode cX7_push 19 = .ok (.aload_n 0, 1) := by decide +kernel
theorem dX7_push_20 : decode cX7_push 20 = .ok (.dup, 1) := by decide +kernel
theorem dX7_push_21 : decode cX7_push 21 = .ok (.getfield 15, 3) := by decide +kernel
theorem dX7_push_24 : decode cX7_push 24 = .ok (.iconst 1, 1) := by decide +kernel
theorem dX7_push_25 : decode cX7_push 25 = .ok (.iadd, 1) := by decide +kernel
theorem dX7_push_26 : decode cX7_push 26 = .ok (.putfield 15, 3) := by decide +kernel
theorem dX7_push_29 : decode cX7_push 29 = .ok (.return_, 1) := by decide +kernel
def w_X7_push (a1 : Int32) (I : sI) (J : sJ) (post : sI → sJ → Prop) : Prop :=
  ((80 ≤ (I 1 1) → post I J) ∧ (¬ 80 ≤ (I 1 1) → (vp_in (I 1 1) 80 ∧ (∀ I_18 : sI, I_18 = sUI I 2 (Int32.toNatClampNeg (I 1 1)) a1 → (∀ I_26 : sI, I_26 = sUI I_18 1 1 ((I_18 1 1) + 1) → post I_26 J)))))
set_option maxHeartbeats 4000000 in
set_option maxRecDepth 100000 in
theorem t_X7_push {X : sX} {a1 : Int32} {I : sI} {J : sJ} {post : sI → sJ → Prop} (h : sOK X cX7_push RX7 2 0 0) (hr : sRt X none (sPv post)) (hw : w_X7_push a1 I J post) : sG X 2 0 [(0, .ref 1), (1, .int a1)] [] I J := by
  unfold w_X7_push at hw
  refine g_aload_n h rfl 0 rfl dX7_push_0 ?_
  refine g_get h is_1 fl_X7_15 rfl dX7_push_1 ?_
  refine g_bipush (v := 80) h (by decide) dX7_push_4 ?_
  refine g_icmp_ge (tgt := 29) h (by decide) dX7_push_6 (fun q6 => ?_) (fun q6 => ?_)
  · replace hw := hw.1 q6
    exact g_vret h hr dX7_push_29 hw
  · replace hw := hw.2 q6
    refine g_aload_n h rfl 0 rfl dX7_push_9 ?_
    refine g_get h is_1 fl_X7_9 fr_1_0 dX7_push_10 ?_
    refine g_aload_n h rfl 0 rfl dX7_push_13 ?_
    refine g_get h is_1 fl_X7_15 rfl dX7_push_14 ?_
    refine g_iload_n h rfl 1 rfl dX7_push_17 ?_
    obtain ⟨hi18, hw⟩ := hw
    refine g_iast h ar_2 hi18 dX7_push_18 ?_
    refine g_nI (fun I_18 eI_18 => ?_)
    replace hw := hw I_18 eI_18
    refine g_aload_n h rfl 0 rfl dX7_push_19 ?_
    refine g_dup h rfl dX7_push_20 ?_
    refine g_get h is_1 fl_X7_15 rfl dX7_push_21 ?_
    refine g_iconst (v := 1) h (by decide) dX7_push_24 ?_
    refine g_iadd h dX7_push_25 ?_
    refine g_putI h is_1 fl_X7_15 rfl rfl dX7_push_26 ?_
    refine g_nI (fun I_26 eI_26 => ?_)
    replace hw := hw I_26 eI_26
    exact g_vret h hr dX7_push_29 hw
theorem c_X7_push (X : sX) {a1 : Int32} {I : sI} {J : sJ} {post : sI → sJ → Prop} (hw : w_X7_push a1 I J post) : sCall X yX7_push cX7_push 2 none 0 0 [.ref 1, .int a1] I J (sPv post) := sCall_of (by decide +kernel) (Nat.le_of_ble_eq_true rfl) (fun X h hr => t_X7_push h hr hw)
theorem dX7_faultAsDisc_0 : decode cX7_faultAsDisc 0 = .ok (.iconst 1, 1) := by decide +kernel
theorem dX7_faultAsDisc_1 : decode cX7_faultAsDisc 1 = .ok (.istore_n 1, 1) := by decide +kernel
theorem dX7_faultAsDisc_2 : decode cX7_faultAsDisc 2 = .ok (.iconst 0, 1) := by decide +kernel
theorem dX7_faultAsDisc_3 : decode cX7_faultAsDisc 3 = .ok (.istore_n 2, 1) := by decide +kernel
theorem dX7_faultAsDisc_4 : decode cX7_faultAsDisc 4 = .ok (.aload_n 0, 1) := by decide +kernel
theorem dX7_faultAsDisc_5 : decode cX7_faultAsDisc 5 = .ok (.getfield 15, 3) := by decide +kernel
theorem dX7_faultAsDisc_8 : decode cX7_faultAsDisc 8 = .ok (.bipush 60, 2) := by decide +kernel
theorem dX7_faultAsDisc_10 : decode cX7_faultAsDisc 10 = .ok (.invokestatic 19, 3) := by decide +kernel
theorem dX7_faultAsDisc_13 : decode cX7_faultAsDisc 13 = .ok (.istore_n 3, 1) := by decide +kernel
theorem dX7_faultAsDisc_14 : decode cX7_faultAsDisc 14 = .ok (.iconst 0, 1) := by decide +kernel
theorem dX7_faultAsDisc_15 : decode cX7_faultAsDisc 15 = .ok (.istore 4, 2) := by decide +kernel
theorem dX7_faultAsDisc_17 : decode cX7_faultAsDisc 17 = .ok (.iload 4, 2) := by decide +kernel
theorem dX7_faultAsDisc_19 : decode cX7_faultAsDisc 19 = .ok (.iload_n 3, 1) := by decide +kernel
theorem dX7_faultAsDisc_20 : decode cX7_faultAsDisc 20 = .ok (.if_icmp .ge 68, 3) := by decide +kernel
theorem dX7_faultAsDisc_23 : decode cX7_faultAsDisc 23 = .ok (.aload_n 0, 1) := by decide +kernel
theorem dX7_faultAsDisc_24 : decode cX7_faultAsDisc 24 = .ok (.getfield 9, 3) := by decide +kernel
theorem dX7_faultAsDisc_27 : decode cX7_faultAsDisc 27 = .ok (.iload 4, 2) := by decide +kernel
theorem dX7_faultAsDisc_29 : decode cX7_faultAsDisc 29 = .ok (.iaload, 1) := by decide +kernel
theorem dX7_faultAsDisc_30 : decode cX7_faultAsDisc 30 = .ok (.bipush 45, 2) := by decide +kernel
theorem dX7_faultAsDisc_32 : decode cX7_faultAsDisc 32 = .ok (.if_icmp .ne 24, 3) := by decide +kernel
theorem dX7_faultAsDisc_35 : decode cX7_faultAsDisc 35 = .ok (.iload_n 2, 1) := by decide +kernel
theorem dX7_faultAsDisc_36 : decode cX7_faultAsDisc 36 = .ok (.ifCond .eq 9, 3) := by decide +kernel
theorem dX7_faultAsDisc_39 : decode cX7_faultAsDisc 39 = .ok (.iload_n 1, 1) := by decide +kernel
theorem dX7_faultAsDisc_40 : decode cX7_faultAsDisc 40 = .ok (.bipush 12, 2) := by decide +kernel
theorem dX7_faultAsDisc_42 : decode cX7_faultAsDisc 42 = .ok (.if_icmp .ne 6, 3) := by decide +kernel
theorem dX7_faultAsDisc_45 : decode cX7_faultAsDisc 45 = .ok (.iload 4, 2) := by decide +kernel
theorem dX7_faultAsDisc_47 : decode cX7_faultAsDisc 47 = .ok (.ireturn, 1) := by decide +kernel
theorem dX7_faultAsDisc_48 : decode cX7_faultAsDisc 48 = .ok (.iinc 1 1, 3) := by decide +kernel
theorem dX7_faultAsDisc_51 : decode cX7_faultAsDisc 51 = .ok (.iconst 0, 1) := by decide +kernel
theorem dX7_faultAsDisc_52 : decode cX7_faultAsDisc 52 = .ok (.istore_n 2, 1) := by decide +kernel
theorem dX7_faultAsDisc_53 : decode cX7_faultAsDisc 53 = .ok (.goto 29, 3) := by decide +kernel
theorem dX7_faultAsDisc_56 : decode cX7_faultAsDisc 56 = .ok (.iload_n 2, 1) := by decide +kernel
theorem dX7_faultAsDisc_57 : decode cX7_faultAsDisc 57 = .ok (.bipush 6, 2) := by decide +kernel
theorem dX7_faultAsDisc_59 : decode cX7_faultAsDisc 59 = .ok (.if_icmp .eq 17, 3) := by decide +kernel
theorem dX7_faultAsDisc_62 : decode cX7_faultAsDisc 62 = .ok (.aload_n 0, 1) := by decide +kernel
theorem dX7_faultAsDisc_63 : decode cX7_faultAsDisc 63 = .ok (.getfield 9, 3) := by decide +kernel
theorem dX7_faultAsDisc_66 : decode cX7_faultAsDisc 66 = .ok (.iload 4, 2) := by decide +kernel
theorem dX7_faultAsDisc_68 : decode cX7_faultAsDisc 68 = .ok (.iaload, 1) := by decide +kernel
theorem dX7_faultAsDisc_69 : decode cX7_faultAsDisc 69 = .ok (.invokestatic 25, 3) := by decide +kernel
theorem dX7_faultAsDisc_72 : decode cX7_faultAsDisc 72 = .ok (.iconst (-1), 1) := by decide +kernel
theorem dX7_faultAsDisc_73 : decode cX7_faultAsDisc 73 = .ok (.if_icmp .ne 6, 3) := by decide +kernel
theorem dX7_faultAsDisc_76 : decode cX7_faultAsDisc 76 = .ok (.iload 4, 2) := by decide +kernel
theorem dX7_faultAsDisc_78 : decode cX7_faultAsDisc 78 = .ok (.ireturn, 1) := by decide +kernel
theorem dX7_faultAsDisc_79 : decode cX7_faultAsDisc 79 = .ok (.iinc 2 1, 3) := by decide +kernel
theorem dX7_faultAsDisc_82 : decode cX7_faultAsDisc 82 = .ok (.iinc 4 1, 3) := by decide +kernel
theorem dX7_faultAsDisc_85 : decode cX7_faultAsDisc 85 = .ok (.goto (-68), 3) := by decide +kernel
theorem dX7_faultAsDisc_88 : decode cX7_faultAsDisc 88 = .ok (.aload_n 0, 1) := by decide +kernel
theorem dX7_faultAsDisc_89 : decode cX7_faultAsDisc 89 = .ok (.getfield 15, 3) := by decide +kernel
theorem dX7_faultAsDisc_92 : decode cX7_faultAsDisc 92 = .ok (.iload_n 3, 1) := by decide +kernel
theorem dX7_faultAsDisc_93 : decode cX7_faultAsDisc 93 = .ok (.if_icmp .gt 7, 3) := by decide +kernel
theorem dX7_faultAsDisc_96 : decode cX7_faultAsDisc 96 = .ok (.iload_n 2, 1) := by decide +kernel
theorem dX7_faultAsDisc_97 : decode cX7_faultAsDisc 97 = .ok (.ifCond .ne 7, 3) := by decide +kernel
theorem dX7_faultAsDisc_100 : decode cX7_faultAsDisc 100 = .ok (.iload_n 3, 1) := by decide +kernel
theorem dX7_faultAsDisc_101 : decode cX7_faultAsDisc 101 = .ok (.goto 4, 3) := by decide +kernel
theorem dX7_faultAsDisc_104 : decode cX7_faultAsDisc 104 = .ok (.iconst (-1), 1) := by decide +kernel
theorem dX7_faultAsDisc_105 : decode cX7_faultAsDisc 105 = .ok (.ireturn, 1) := by decide +kernel
def w_X7_faultAsDisc_100 (post : Int32 → sI → sJ → Prop) (x3 : Int32) (I : sI) (J : sJ) : Prop :=
  post x3 I J
set_option maxHeartbeats 4000000 in
set_option maxRecDepth 100000 in
theorem t_X7_faultAsDisc_100 {X : sX} {post : Int32 → sI → sJ → Prop} (h : sOK X cX7_faultAsDisc RX7 5 1 21) (hr : sRt X (some .int) (sPi post)) {x3 : Int32} {I : sI} {J : sJ} (hw : w_X7_faultAsDisc_100 post x3 I J) : sG X 5 100 [(3, .int x3)] [] I J := by
  unfold w_X7_faultAsDisc_100 at hw
  refine g_iload_n h rfl 0 rfl dX7_faultAsDisc_100 ?_
  refine g_goto (tgt := 105) h (by decide) dX7_faultAsDisc_101 ?_
  exact g_iret h hr dX7_faultAsDisc_105 hw
def w_X7_faultAsDisc_82 (post : Int32 → sI → sJ → Prop) (k17 : Int32 → Int32 → Int32 → Int32 → sI → sJ → Prop) (x1 : Int32) (x2 : Int32) (x3 : Int32) (x4 : Int32) (I : sI) (J : sJ) : Prop :=
  (∀ v4_82 : Int32, v4_82 = x4 + 1 → k17 x1 x2 x3 v4_82 I J)
set_option maxHeartbeats 4000000 in
set_option maxRecDepth 100000 in
theorem t_X7_faultAsDisc_82 {X : sX} {post : Int32 → sI → sJ → Prop} (h : sOK X cX7_faultAsDisc RX7 5 1 21) (hr : sRt X (some .int) (sPi post)) {k17 : Int32 → Int32 → Int32 → Int32 → sI → sJ → Prop} (hk17 : ∀ (x1 : Int32) (x2 : Int32) (x3 : Int32) (x4 : Int32) (I : sI) (J : sJ), k17 x1 x2 x3 x4 I J → sG X 5 17 [(0, .ref 1), (1, .int x1), (2, .int x2), (3, .int x3), (4, .int x4)] [] I J) {x1 : Int32} {x2 : Int32} {x3 : Int32} {x4 : Int32} {I : sI} {J : sJ} (hw : w_X7_faultAsDisc_82 post k17 x1 x2 x3 x4 I J) : sG X 5 82 [(0, .ref 1), (1, .int x1), (2, .int x2), (3, .int x3), (4, .int x4)] [] I J := by
  unfold w_X7_faultAsDisc_82 at hw
  obtain ⟨v4_82, ev4_82⟩ : ∃ z : Int32, z = x4 + 1 := ⟨_, rfl⟩
  replace hw := hw v4_82 ev4_82
  refine g_iinc (v := v4_82) (lo2 := [(4, .int v4_82), (0, .ref 1), (1, .int x1), (2, .int x2), (3, .int x3)]) h 4 rfl (by rw [ev4_82]; rfl) (by decide) rfl dX7_faultAsDisc_82 ?_
  refine g_goto (tgt := 17) h (by decide) dX7_faultAsDisc_85 ?_
  exact g_sub [1, 2, 3, 4, 0] rfl (hk17 _ _ _ _ _ _ hw)
def w_X7_faultAsDisc_17_s (post : Int32 → sI → sJ → Prop) (k17 : Int32 → Int32 → Int32 → Int32 → sI → sJ → Prop) (x1 : Int32) (x2 : Int32) (x3 : Int32) (x4 : Int32) (I : sI) (J : sJ) : Prop :=
  ((x3 ≤ x4 → ((x3 < (I 1 1) → w_X7_faultAsDisc_100 post x3 I J) ∧ (¬ x3 < (I 1 1) → ((¬ x2 = 0 → post (-1) I J) ∧ (x2 = 0 → w_X7_faultAsDisc_100 post x3 I J))))) ∧ (¬ x3 ≤ x4 → (vp_in x4 80 ∧ ((¬ (I 2 (Int32.toNatClampNeg x4)) = 45 → ((x2 = 6 → post x4 I J) ∧ (¬ x2 = 6 → (vp_in x4 80 ∧ w_X7_kindOf (I 2 (Int32.toNatClampNeg x4)) I J (fun (r_69 : Int32) (I_69 : sI) (J_69 : sJ) => (((¬ r_69 = (-1) → (∀ v2_79 : Int32, v2_79 = x2 + 1 → w_X7_faultAsDisc_82 post k17 x1 v2_79 x3 x4 I_69 J_69)) ∧ (r_69 = (-1) → post x4 I_69 J_69)))))))) ∧ ((I 2 (Int32.toNatClampNeg x4)) = 45 → ((x2 = 0 → post x4 I J) ∧ (¬ x2 = 0 → ((¬ x1 = 12 → (∀ v1_48 : Int32, v1_48 = x1 + 1 → w_X7_faultAsDisc_82 post k17 v1_48 0 x3 x4 I J)) ∧ (x1 = 12 → post x4 I J)))))))))
def w_X7_faultAsDisc_17_n (post : Int32 → sI → sJ → Prop) : Nat → Int32 → Int32 → Int32 → Int32 → sI → sJ → Prop
  | 0 => fun _ _ _ _ _ _ => False
  | n + 1 => fun x1 x2 x3 x4 I J => w_X7_faultAsDisc_17_s post (w_X7_faultAsDisc_17_n post n) x1 x2 x3 x4 I J
def w_X7_faultAsDisc_17 (post : Int32 → sI → sJ → Prop) (x1 : Int32) (x2 : Int32) (x3 : Int32) (x4 : Int32) (I : sI) (J : sJ) : Prop := ∃ n, w_X7_faultAsDisc_17_n post n x1 x2 x3 x4 I J
set_option maxHeartbeats 4000000 in
set_option maxRecDepth 100000 in
theorem t_X7_faultAsDisc_17_s {X : sX} {post : Int32 → sI → sJ → Prop} (h : sOK X cX7_faultAsDisc RX7 5 1 21) (hr : sRt X (some .int) (sPi post)) {k17 : Int32 → Int32 → Int32 → Int32 → sI → sJ → Prop} (hk17 : ∀ (x1 : Int32) (x2 : Int32) (x3 : Int32) (x4 : Int32) (I : sI) (J : sJ), k17 x1 x2 x3 x4 I J → sG X 5 17 [(0, .ref 1), (1, .int x1), (2, .int x2), (3, .int x3), (4, .int x4)] [] I J) {x1 : Int32} {x2 : Int32} {x3 : Int32} {x4 : Int32} {I : sI} {J : sJ} (hw : w_X7_faultAsDisc_17_s post k17 x1 x2 x3 x4 I J) : sG X 5 17 [(0, .ref 1), (1, .int x1), (2, .int x2), (3, .int x3), (4, .int x4)] [] I J := by
  unfold w_X7_faultAsDisc_17_s at hw
  refine g_iload h 4 rfl dX7_faultAsDisc_17 ?_
  refine g_iload_n h rfl 3 rfl dX7_faultAsDisc_19 ?_
  refine g_icmp_ge (tgt := 88) h (by decide) dX7_faultAsDisc_20 (fun q20 => ?_) (fun q20 => ?_)
  · replace hw := hw.1 q20
    refine g_aload_n h rfl 0 rfl dX7_faultAsDisc_88 ?_
    refine g_get h is_1 fl_X7_15 rfl dX7_faultAsDisc_89 ?_
    refine g_iload_n h rfl 3 rfl dX7_faultAsDisc_92 ?_
    refine g_icmp_gt (tgt := 100) h (by decide) dX7_faultAsDisc_93 (fun q93 => ?_) (fun q93 => ?_)
    · replace hw := hw.1 q93
      exact g_sub [3] rfl (t_X7_faultAsDisc_100 h hr hw)
    · replace hw := hw.2 q93
      refine g_iload_n h rfl 2 rfl dX7_faultAsDisc_96 ?_
      refine g_if_ne (tgt := 104) h (by decide) dX7_faultAsDisc_97 (fun q97 => ?_) (fun q97 => ?_)
      · replace hw := hw.1 q97
        refine g_iconst (v := (-1)) h (by decide) dX7_faultAsDisc_104 ?_
        exact g_iret h hr dX7_faultAsDisc_105 hw
      · replace hw := hw.2 q97
        exact g_sub [3] rfl (t_X7_faultAsDisc_100 h hr hw)
  · replace hw := hw.2 q20
    refine g_aload_n h rfl 0 rfl dX7_faultAsDisc_23 ?_
    refine g_get h is_1 fl_X7_9 fr_1_0 dX7_faultAsDisc_24 ?_
    refine g_iload h 4 rfl dX7_faultAsDisc_27 ?_
    obtain ⟨hi29, hw⟩ := hw
    refine g_iald h ar_2 hi29 dX7_faultAsDisc_29 ?_
    refine g_bipush (v := 45) h (by decide) dX7_faultAsDisc_30 ?_
    refine g_icmp_ne (tgt := 56) h (by decide) dX7_faultAsDisc_32 (fun q32 => ?_) (fun q32 => ?_)
    · replace hw := hw.1 q32
      refine g_iload_n h rfl 2 rfl dX7_faultAsDisc_56 ?_
      refine g_bipush (v := 6) h (by decide) dX7_faultAsDisc_57 ?_
      refine g_icmp_eq (tgt := 76) h (by decide) dX7_faultAsDisc_59 (fun q59 => ?_) (fun q59 => ?_)
      · replace hw := hw.1 q59
        refine g_iload h 4 rfl dX7_faultAsDisc_76 ?_
        exact g_iret h hr dX7_faultAsDisc_78 hw
      · replace hw := hw.2 q59
        refine g_aload_n h rfl 0 rfl dX7_faultAsDisc_62 ?_
        refine g_get h is_1 fl_X7_9 fr_1_0 dX7_faultAsDisc_63 ?_
        refine g_iload h 4 rfl dX7_faultAsDisc_66 ?_
        obtain ⟨hi68, hw⟩ := hw
        refine g_iald h ar_2 hi68 dX7_faultAsDisc_68 ?_
        refine g_callS [.int (I 2 (Int32.toNatClampNeg x4))] h (c_X7_kindOf X hw) sPi_v mw_X7_kindOf lk_X7_25 rfl ⟨by decide, by decide⟩ (Nat.le_of_ble_eq_true rfl) dX7_faultAsDisc_69 (sPi_k (fun r_69 I_69 J_69 hw => ?_))
        refine g_iconst (v := (-1)) h (by decide) dX7_faultAsDisc_72 ?_
        refine g_icmp_ne (tgt := 79) h (by decide) dX7_faultAsDisc_73 (fun q73 => ?_) (fun q73 => ?_)
        · replace hw := hw.1 q73
          obtain ⟨v2_79, ev2_79⟩ : ∃ z : Int32, z = x2 + 1 := ⟨_, rfl⟩
          replace hw := hw v2_79 ev2_79
          refine g_iinc (v := v2_79) (lo2 := [(2, .int v2_79), (0, .ref 1), (1, .int x1), (3, .int x3), (4, .int x4)]) h 2 rfl (by rw [ev2_79]; rfl) (by decide) rfl dX7_faultAsDisc_79 ?_
          exact g_sub [1, 2, 0, 3, 4] rfl (t_X7_faultAsDisc_82 h hr hk17 hw)
        · replace hw := hw.2 q73
          refine g_iload h 4 rfl dX7_faultAsDisc_76 ?_
          exact g_iret h hr dX7_faultAsDisc_78 hw
    · replace hw := hw.2 q32
      refine g_iload_n h rfl 2 rfl dX7_faultAsDisc_35 ?_
      refine g_if_eq (tgt := 45) h (by decide) dX7_faultAsDisc_36 (fun q36 => ?_) (fun q36 => ?_)
      · replace hw := hw.1 q36
        refine g_iload h 4 rfl dX7_faultAsDisc_45 ?_
        exact g_iret h hr dX7_faultAsDisc_47 hw
      · replace hw := hw.2 q36
        refine g_iload_n h rfl 1 rfl dX7_faultAsDisc_39 ?_
        refine g_bipush (v := 12) h (by decide) dX7_faultAsDisc_40 ?_
        refine g_icmp_ne (tgt := 48) h (by decide) dX7_faultAsDisc_42 (fun q42 => ?_) (fun q42 => ?_)
        · replace hw := hw.1 q42
          obtain ⟨v1_48, ev1_48⟩ : ∃ z : Int32, z = x1 + 1 := ⟨_, rfl⟩
          replace hw := hw v1_48 ev1_48
          refine g_iinc (v := v1_48) (lo2 := [(1, .int v1_48), (0, .ref 1), (2, .int x2), (3, .int x3), (4, .int x4)]) h 1 rfl (by rw [ev1_48]; rfl) (by decide) rfl dX7_faultAsDisc_48 ?_
          refine g_iconst (v := 0) h (by decide) dX7_faultAsDisc_51 ?_
          refine g_istore_n (lo2 := [(2, .int 0), (1, .int v1_48), (0, .ref 1), (3, .int x3), (4, .int x4)]) h rfl (by decide) rfl dX7_faultAsDisc_52 ?_
          refine g_goto (tgt := 82) h (by decide) dX7_faultAsDisc_53 ?_
          exact g_sub [2, 1, 0, 3, 4] rfl (t_X7_faultAsDisc_82 h hr hk17 hw)
        · replace hw := hw.2 q42
          refine g_iload h 4 rfl dX7_faultAsDisc_45 ?_
          exact g_iret h hr dX7_faultAsDisc_47 hw
theorem t_X7_faultAsDisc_17 {X : sX} {post : Int32 → sI → sJ → Prop} (h : sOK X cX7_faultAsDisc RX7 5 1 21) (hr : sRt X (some .int) (sPi post)) {x1 : Int32} {x2 : Int32} {x3 : Int32} {x4 : Int32} {I : sI} {J : sJ} (hw : w_X7_faultAsDisc_17 post x1 x2 x3 x4 I J) : sG X 5 17 [(0, .ref 1), (1, .int x1), (2, .int x2), (3, .int x3), (4, .int x4)] [] I J := by
  obtain ⟨n, hw⟩ := hw
  induction n generalizing x1 x2 x3 x4 I J with
  | zero => exact hw.elim
  | succ n ih => exact t_X7_faultAsDisc_17_s h hr (fun _ _ _ _ _ _ q => ih q) hw
def w_X7_faultAsDisc (I : sI) (J : sJ) (post : Int32 → sI → sJ → Prop) : Prop :=
  w_J9_min_7cf53 (I 1 1) 60 I J (fun (r_10 : Int32) (I_10 : sI) (J_10 : sJ) => (w_X7_faultAsDisc_17 post 1 0 r_10 0 I_10 J_10))
set_option maxHeartbeats 4000000 in
set_option maxRecDepth 100000 in
theorem t_X7_faultAsDisc {X : sX} {I : sI} {J : sJ} {post : Int32 → sI → sJ → Prop} (h : sOK X cX7_faultAsDisc RX7 5 1 21) (hr : sRt X (some .int) (sPi post)) (hw : w_X7_faultAsDisc I J post) : sG X 5 0 [(0, .ref 1)] [] I J := by
  unfold w_X7_faultAsDisc at hw
  refine g_iconst (v := 1) h (by decide) dX7_faultAsDisc_0 ?_
  refine g_istore_n (lo2 := [(1, .int 1), (0, .ref 1)]) h rfl (by decide) rfl dX7_faultAsDisc_1 ?_
  refine g_iconst (v := 0) h (by decide) dX7_faultAsDisc_2 ?_
  refine g_istore_n (lo2 := [(2, .int 0), (1, .int 1), (0, .ref 1)]) h rfl (by decide) rfl dX7_faultAsDisc_3 ?_
  refine g_aload_n h rfl 2 rfl dX7_faultAsDisc_4 ?_
  refine g_get h is_1 fl_X7_15 rfl dX7_faultAsDisc_5 ?_
  refine g_bipush (v := 60) h (by decide) dX7_faultAsDisc_8 ?_
  refine g_callS [.int (I 1 1), .int 60] h (c_J9_min_7cf53 X hw) sPi_v mw_J9_min_7cf53 lk_X7_19 rfl ⟨by decide, by decide⟩ (Nat.le_of_ble_eq_true rfl) dX7_faultAsDisc_10 (sPi_k (fun r_10 I_10 J_10 hw => ?_))
  refine g_istore_n (lo2 := [(3, .int r_10), (2, .int 0), (1, .int 1), (0, .ref 1)]) h rfl (by decide) rfl dX7_faultAsDisc_13 ?_
  refine g_iconst (v := 0) h (by decide) dX7_faultAsDisc_14 ?_
  refine g_istore (lo2 := [(4, .int 0), (3, .int r_10), (2, .int 0), (1, .int 1), (0, .ref 1)]) h (by decide) rfl dX7_faultAsDisc_15 ?_
  exact g_sub [4, 3, 2, 1, 0] rfl (t_X7_faultAsDisc_17 h hr hw)
theorem c_X7_faultAsDisc (X : sX) {I : sI} {J : sJ} {post : Int32 → sI → sJ → Prop} (hw : w_X7_faultAsDisc I J post) : sCall X yX7_faultAsDisc cX7_faultAsDisc 5 (some .int) 1 21 [.ref 1] I J (sPi post) := sCall_of (by decide +kernel) (Nat.le_of_ble_eq_true rfl) (fun X h hr => t_X7_faultAsDisc h hr hw)
