theorem g_ni {X : sX} {nL pc : Nat} {lo : List (Nat × Value)} {st : List Value} {I : sI} {J : sJ} {x : Int32} (k : ∀ z, z = x → sG X nL pc lo (.int z :: st) I J) : sG X nL pc lo (.int x :: st) I J := k x rfl
theorem g_nl {X : sX} {nL pc : Nat} {lo : List (Nat × Value)} {st : List Value} {I : sI} {J : sJ} {x : Int64} (k : ∀ z, z = x → sG X nL pc lo (.long z :: st) I J) : sG X nL pc lo (.long x :: st) I J := k x rfl
theorem g_nI {X : sX} {nL pc : Nat} {lo : List (Nat × Value)} {st : List Value} {I : sI} {J : sJ} (k : ∀ z, z = I → sG X nL pc lo st z J) : sG X nL pc lo st I J := k I rfl
theorem g_nJ {X : sX} {nL pc : Nat} {lo : List (Nat × Value)} {st : List Value} {I : sI} {J : sJ} (k : ∀ z, z = J → sG X nL pc lo st I z) : sG X nL pc lo st I J := k J rfl
theorem fl_X0_9 : sFL RX0 9 0 0 := ⟨by decide, lw_i2 84 (by decide +kernel) (by decide +kernel)⟩
theorem arF_0_0 {q : Nat} (h : sIs q 0) : sAr (sR q 0) 3 16 := by
  have key : ∀ q, q < 282 → (sSp q).1 = 0 → (sSp q).2.1 = 0 → (sR q 0 < 282 ∧ (sSp (sR q 0)).1 = 3 ∧ (sSp (sR q 0)).2.1 = 16) := by decide +kernel
  exact key q h.1 h.2.1 h.2.2.1
theorem fl_X0_13 : sFL RX0 13 0 1 := ⟨by decide, lw_i2 85 (by decide +kernel) (by decide +kernel)⟩
theorem lc_X0_17 : Cond.constantLong RX0 17 (1099511627775) ∈ lw_good := lw_i4 47 (by decide +kernel) (by decide +kernel)
theorem lk_X0_19 : Cond.methodLink RX0 19 yX0_times ∈ lw_good := lw_i4 52 (by decide +kernel) (by decide +kernel)
theorem mw_X0_times : sMwV yX0_times cX0_times 7 none 1 := ⟨⟨lw_i4 46 (by decide +kernel) (by decide +kernel), lw_i1 12 (by decide +kernel) (by decide +kernel), by decide +kernel, by decide +kernel, by decide +kernel⟩, lw_i4 44 (by decide +kernel) (by decide +kernel), lw_i4 45 (by decide +kernel) (by decide +kernel)⟩
theorem lk_X0_23 : Cond.methodLink RX0 23 yX0_limbAt ∈ lw_good := lw_i4 57 (by decide +kernel) (by decide +kernel)
theorem mw_X0_limbAt : sMwV yX0_limbAt cX0_limbAt 2 (some .long) 1 := ⟨⟨lw_i4 60 (by decide +kernel) (by decide +kernel), lw_i1 12 (by decide +kernel) (by decide +kernel), by decide +kernel, by decide +kernel, by decide +kernel⟩, lw_i4 59 (by decide +kernel) (by decide +kernel), lw_in (List.mem_append_left _ (by decide +kernel)) (by decide +kernel)⟩
theorem lk_X0_27 : Cond.methodLink RX0 27 yJ13_compare_74951 ∈ lw_good := lw_i4 61 (by decide +kernel) (by decide +kernel)
theorem mw_J13_compare_74951 : sMwS yJ13_compare_74951 cJ13_compare_74951 4 (some .int) 2 := ⟨⟨lw_i4 63 (by decide +kernel) (by decide +kernel), lw_i1 20 (by decide +kernel) (by decide +kernel), by decide +kernel, by decide +kernel, by decide +kernel⟩, lw_i4 62 (by decide +kernel) (by decide +kernel)⟩
theorem is_227 : sIs 227 1 := ⟨by decide, by decide +kernel, by decide +kernel, by decide⟩
theorem fl_X1_29 : sFL RX1 29 1 1 := ⟨by decide, lw_i2 56 (by decide +kernel) (by decide +kernel)⟩
theorem fl_X1_11 : sFL RX1 11 1 0 := ⟨by decide, lw_i2 54 (by decide +kernel) (by decide +kernel)⟩
theorem ar_228 : sAr 228 6 10 := ⟨by decide, by decide +kernel, by decide +kernel⟩
theorem fr_227_0 {I : sI} {J : sJ} : sF I J 227 1 0 = .ref 228 := by
  have e : sR 227 0 = 228 := by decide +kernel
  show Value.ref (sR 227 0) = _
  rw [e]
theorem el_6_10 {q : Nat} {i : Int32} (h : sAr q 6 10) (hi : vp_in i 10) : sAr (sR q i.toNatClampNeg) 1 12 := by
  have key : ∀ q, q < 282 → (sSp q).1 = 6 → (sSp q).2.1 = 10 → ∀ j, j < 10 → (sR q j < 282 ∧ (sSp (sR q j)).1 = 1 ∧ (sSp (sR q j)).2.1 = 12) := by decide +kernel
  exact key q h.1 h.2.1 h.2.2 _ (Nat.not_le.mp fun z => hi (Or.inr z))
theorem ar_11 : sAr 11 1 12 := ⟨by decide, by decide +kernel, by decide +kernel⟩
theorem lk_X1_33 : Cond.methodLink RX1 33 yX1_saying ∈ lw_good := lw_i4 147 (by decide +kernel) (by decide +kernel)
theorem mw_X1_saying : sMwV yX1_saying cX1_saying 5 (some .int) 2 := ⟨⟨lw_i4 150 (by decide +kernel) (by decide +kernel), lw_i1 11 (by decide +kernel) (by decide +kernel), by decide +kernel, by decide +kernel, by decide +kernel⟩, lw_i4 148 (by decide +kernel) (by decide +kernel), lw_i4 149 (by decide +kernel) (by decide +kernel)⟩
theorem fl_X1_37 : sFL RX1 37 1 6 := ⟨by decide, lw_i2 62 (by decide +kernel) (by decide +kernel)⟩
theorem fl_X1_16 : sFL RX1 16 1 2 := ⟨by decide, lw_i2 58 (by decide +kernel) (by decide +kernel)⟩
theorem ar_239 : sAr 239 1 100 := ⟨by decide, by decide +kernel, by decide +kernel⟩
theorem fr_227_2 {I : sI} {J : sJ} : sF I J 227 1 2 = .ref 239 := by
  have e : sR 227 2 = 239 := by decide +kernel
  show Value.ref (sR 227 2) = _
  rw [e]
theorem lk_X1_40 : Cond.methodLink RX1 40 yX1_parting ∈ lw_good := lw_i4 176 (by decide +kernel) (by decide +kernel)
theorem mw_X1_parting : sMwV yX1_parting cX1_parting 5 (some .int) 2 := ⟨⟨lw_i4 179 (by decide +kernel) (by decide +kernel), lw_i1 11 (by decide +kernel) (by decide +kernel), by decide +kernel, by decide +kernel, by decide +kernel⟩, lw_i4 178 (by decide +kernel) (by decide +kernel), lw_in (List.mem_append_left _ (by decide +kernel)) (by decide +kernel)⟩
theorem fl_X1_23 : sFL RX1 23 1 4 := ⟨by decide, lw_i2 60 (by decide +kernel) (by decide +kernel)⟩
theorem ar_241 : sAr 241 1 12 := ⟨by decide, by decide +kernel, by decide +kernel⟩
theorem fr_227_4 {I : sI} {J : sJ} : sF I J 227 1 4 = .ref 241 := by
  have e : sR 227 4 = 241 := by decide +kernel
  show Value.ref (sR 227 4) = _
  rw [e]
theorem fl_X1_26 : sFL RX1 26 1 5 := ⟨by decide, lw_i2 61 (by decide +kernel) (by decide +kernel)⟩
theorem ar_242 : sAr 242 1 12 := ⟨by decide, by decide +kernel, by decide +kernel⟩
theorem fr_227_5 {I : sI} {J : sJ} : sF I J 227 1 5 = .ref 242 := by
  have e : sR 227 5 = 242 := by decide +kernel
  show Value.ref (sR 227 5) = _
  rw [e]
theorem fl_X1_20 : sFL RX1 20 1 3 := ⟨by decide, lw_i2 59 (by decide +kernel) (by decide +kernel)⟩
theorem ar_240 : sAr 240 1 1024 := ⟨by decide, by decide +kernel, by decide +kernel⟩
theorem fr_227_3 {I : sI} {J : sJ} : sF I J 227 1 3 = .ref 240 := by
  have e : sR 227 3 = 240 := by decide +kernel
  show Value.ref (sR 227 3) = _
  rw [e]
theorem lk_X1_47 : Cond.methodLink RX1 47 yJ9_max_7cf53 ∈ lw_good := lw_i4 196 (by decide +kernel) (by decide +kernel)
theorem mw_J9_max_7cf53 : sMwS yJ9_max_7cf53 cJ9_max_7cf53 2 (some .int) 2 := ⟨⟨lw_i3 156 (by decide +kernel) (by decide +kernel), lw_i1 14 (by decide +kernel) (by decide +kernel), by decide +kernel, by decide +kernel, by decide +kernel⟩, lw_i3 155 (by decide +kernel) (by decide +kernel)⟩
theorem lk_X1_52 : Cond.methodLink RX1 52 yJ9_min_7cf53 ∈ lw_good := lw_i4 197 (by decide +kernel) (by decide +kernel)
theorem mw_J9_min_7cf53 : sMwS yJ9_min_7cf53 cJ9_min_7cf53 2 (some .int) 2 := ⟨⟨lw_i2 165 (by decide +kernel) (by decide +kernel), lw_i1 14 (by decide +kernel) (by decide +kernel), by decide +kernel, by decide +kernel, by decide +kernel⟩, lw_i2 164 (by decide +kernel) (by decide +kernel)⟩
theorem lk_X1_43 : Cond.methodLink RX1 43 yX1_depthOf ∈ lw_good := lw_i4 192 (by decide +kernel) (by decide +kernel)
theorem mw_X1_depthOf : sMwV yX1_depthOf cX1_depthOf 5 (some .int) 1 := ⟨⟨lw_i4 195 (by decide +kernel) (by decide +kernel), lw_i1 11 (by decide +kernel) (by decide +kernel), by decide +kernel, by decide +kernel, by decide +kernel⟩, lw_i4 194 (by decide +kernel) (by decide +kernel), lw_in (List.mem_append_left _ (by decide +kernel)) (by decide +kernel)⟩
theorem is_1 : sIs 1 7 := ⟨by decide, by decide +kernel, by decide +kernel, by decide⟩
theorem fl_X2_21 : sFL RX2 21 2 3 := ⟨by decide, lw_i1 69 (by decide +kernel) (by decide +kernel)⟩
theorem fl_X2_25 : sFL RX2 25 2 4 := ⟨by decide, lw_i1 72 (by decide +kernel) (by decide +kernel)⟩
theorem fl_X2_28 : sFL RX2 28 7 1 := ⟨by decide, lw_i1 41 (by decide +kernel) (by decide +kernel)⟩
theorem fl_X2_18 : sFL RX2 18 2 2 := ⟨by decide, lw_i1 66 (by decide +kernel) (by decide +kernel)⟩
theorem arF_2_2 {q : Nat} (h : sIs q 2) : sAr (sR q 2) 1 13 := by
  have key : ∀ q, q < 282 → (sSp q).1 = 0 → (sSp q).2.1 = 2 → (sR q 2 < 282 ∧ (sSp (sR q 2)).1 = 1 ∧ (sSp (sR q 2)).2.1 = 13) := by decide +kernel
  exact key q h.1 h.2.1 h.2.2.1
theorem fl_X2_33 : sFL RX2 33 7 0 := ⟨by decide, lw_i1 36 (by decide +kernel) (by decide +kernel)⟩
theorem ar_2 : sAr 2 1 80 := ⟨by decide, by decide +kernel, by decide +kernel⟩
theorem fr_1_0 {I : sI} {J : sJ} : sF I J 1 7 0 = .ref 2 := by
  have e : sR 1 0 = 2 := by decide +kernel
  show Value.ref (sR 1 0) = _
  rw [e]
theorem lk_X2_36 : Cond.methodLink RX2 36 yX7_kindOf ∈ lw_good := lw_i2 173 (by decide +kernel) (by decide +kernel)
theorem mw_X7_kindOf : sMwS yX7_kindOf cX7_kindOf 1 (some .int) 1 := ⟨⟨lw_i2 168 (by decide +kernel) (by decide +kernel), lw_i1 2 (by decide +kernel) (by decide +kernel), by decide +kernel, by decide +kernel, by decide +kernel⟩, lw_i2 167 (by decide +kernel) (by decide +kernel)⟩
theorem fl_X2_9 : sFL RX2 9 2 0 := ⟨by decide, lw_i1 61 (by decide +kernel) (by decide +kernel)⟩
theorem arF_2_0 {q : Nat} (h : sIs q 2) : sAr (sR q 0) 1 60 := by
  have key : ∀ q, q < 282 → (sSp q).1 = 0 → (sSp q).2.1 = 2 → (sR q 0 < 282 ∧ (sSp (sR q 0)).1 = 1 ∧ (sSp (sR q 0)).2.1 = 60) := by decide +kernel
  exact key q h.1 h.2.1 h.2.2.1
theorem fl_X2_15 : sFL RX2 15 2 1 := ⟨by decide, lw_i1 64 (by decide +kernel) (by decide +kernel)⟩
theorem arF_2_1 {q : Nat} (h : sIs q 2) : sAr (sR q 1) 1 60 := by
  have key : ∀ q, q < 282 → (sSp q).1 = 0 → (sSp q).2.1 = 2 → (sR q 1 < 282 ∧ (sSp (sR q 1)).1 = 1 ∧ (sSp (sR q 1)).2.1 = 60) := by decide +kernel
  exact key q h.1 h.2.1 h.2.2.1
theorem ar_247 : sAr 247 1 13 := ⟨by decide, by decide +kernel, by decide +kernel⟩
theorem lk_X2_40 : Cond.methodLink RX2 40 yX2_lengthOf ∈ lw_good := lw_i4 83 (by decide +kernel) (by decide +kernel)
theorem mw_X2_lengthOf : sMwV yX2_lengthOf cX2_lengthOf 2 (some .int) 1 := ⟨⟨lw_i3 12 (by decide +kernel) (by decide +kernel), lw_i1 4 (by decide +kernel) (by decide +kernel), by decide +kernel, by decide +kernel, by decide +kernel⟩, lw_i3 10 (by decide +kernel) (by decide +kernel), lw_i3 11 (by decide +kernel) (by decide +kernel)⟩
theorem is_224 : sIs 224 3 := ⟨by decide, by decide +kernel, by decide +kernel, by decide⟩
theorem fl_X3_25 : sFL RX3 25 3 2 := ⟨by decide, lw_i2 39 (by decide +kernel) (by decide +kernel)⟩
theorem fl_X3_15 : sFL RX3 15 3 1 := ⟨by decide, lw_i2 38 (by decide +kernel) (by decide +kernel)⟩
theorem ar_226 : sAr 226 1 14 := ⟨by decide, by decide +kernel, by decide +kernel⟩
theorem fr_224_1 {I : sI} {J : sJ} : sF I J 224 3 1 = .ref 226 := by
  have e : sR 224 1 = 226 := by decide +kernel
  show Value.ref (sR 224 1) = _
  rw [e]
theorem lk_X3_19 : Cond.methodLink RX3 19 yJ9_min_7cf53 ∈ lw_good := lw_i3 193 (by decide +kernel) (by decide +kernel)
theorem fl_X3_29 : sFL RX3 29 4 2 := ⟨by decide, lw_i1 98 (by decide +kernel) (by decide +kernel)⟩
theorem fl_X3_34 : sFL RX3 34 4 0 := ⟨by decide, lw_i1 92 (by decide +kernel) (by decide +kernel)⟩
theorem arF_4_0 {q : Nat} (h : sIs q 4) : sAr (sR q 0) 1 12 := by
  have key : ∀ q, q < 282 → (sSp q).1 = 0 → (sSp q).2.1 = 4 → (sR q 0 < 282 ∧ (sSp (sR q 0)).1 = 1 ∧ (sSp (sR q 0)).2.1 = 12) := by decide +kernel
  exact key q h.1 h.2.1 h.2.2.1
theorem fl_X3_37 : sFL RX3 37 4 1 := ⟨by decide, lw_i1 95 (by decide +kernel) (by decide +kernel)⟩
theorem arF_4_1 {q : Nat} (h : sIs q 4) : sAr (sR q 1) 1 12 := by
  have key : ∀ q, q < 282 → (sSp q).1 = 0 → (sSp q).2.1 = 4 → (sR q 1 < 282 ∧ (sSp (sR q 1)).1 = 1 ∧ (sSp (sR q 1)).2.1 = 12) := by decide +kernel
  exact key q h.1 h.2.1 h.2.2.1
theorem lk_X3_40 : Cond.methodLink RX3 40 yX3_bind ∈ lw_good := lw_i3 194 (by decide +kernel) (by decide +kernel)
theorem mw_X3_bind : sMwV yX3_bind cX3_bind 3 none 2 := ⟨⟨lw_i3 197 (by decide +kernel) (by decide +kernel), lw_i1 10 (by decide +kernel) (by decide +kernel), by decide +kernel, by decide +kernel, by decide +kernel⟩, lw_i3 195 (by decide +kernel) (by decide +kernel), lw_i3 196 (by decide +kernel) (by decide +kernel)⟩
theorem fl_X3_9 : sFL RX3 9 3 0 := ⟨by decide, lw_i2 37 (by decide +kernel) (by decide +kernel)⟩
theorem ar_225 : sAr 225 3 16384 := ⟨by decide, by decide +kernel, by decide +kernel⟩
theorem fr_224_0 {I : sI} {J : sJ} : sF I J 224 3 0 = .ref 225 := by
  have e : sR 224 0 = 225 := by decide +kernel
  show Value.ref (sR 224 0) = _
  rw [e]
theorem lk_X3_44 : Cond.methodLink RX3 44 yX3_grow ∈ lw_good := lw_i3 202 (by decide +kernel) (by decide +kernel)
theorem mw_X3_grow : sMwV yX3_grow cX3_grow 3 none 1 := ⟨⟨lw_i3 205 (by decide +kernel) (by decide +kernel), lw_i1 10 (by decide +kernel) (by decide +kernel), by decide +kernel, by decide +kernel, by decide +kernel⟩, lw_i3 204 (by decide +kernel) (by decide +kernel), lw_in (List.mem_append_left _ (by decide +kernel)) (by decide +kernel)⟩
theorem fl_X4_18 : sFL RX4 18 4 2 := ⟨by decide, lw_i1 97 (by decide +kernel) (by decide +kernel)⟩
theorem fl_X4_9 : sFL RX4 9 4 0 := ⟨by decide, lw_i1 91 (by decide +kernel) (by decide +kernel)⟩
theorem fl_X4_15 : sFL RX4 15 4 1 := ⟨by decide, lw_i1 94 (by decide +kernel) (by decide +kernel)⟩
theorem lk_X4_22 : Cond.methodLink RX4 22 yX4_peel ∈ lw_good := lw_i3 231 (by decide +kernel) (by decide +kernel)
theorem mw_X4_peel : sMwV yX4_peel cX4_peel 6 (some .int) 1 := ⟨⟨lw_i3 234 (by decide +kernel) (by decide +kernel), lw_i1 5 (by decide +kernel) (by decide +kernel), by decide +kernel, by decide +kernel, by decide +kernel⟩, lw_i3 233 (by decide +kernel) (by decide +kernel), lw_in (List.mem_append_left _ (by decide +kernel)) (by decide +kernel)⟩
theorem lk_X11_277 : Cond.methodLink RX11 277 yX11_shiftOf ∈ lw_good := lw_i3 17 (by decide +kernel) (by decide +kernel)
theorem mw_X11_shiftOf : sMwS yX11_shiftOf cX11_shiftOf 1 (some .int) 1 := ⟨⟨lw_i3 4 (by decide +kernel) (by decide +kernel), lw_i1 1 (by decide +kernel) (by decide +kernel), by decide +kernel, by decide +kernel, by decide +kernel⟩, lw_i3 3 (by decide +kernel) (by decide +kernel)⟩
theorem lc_X11_280 : Cond.constantLong RX11 280 (15) ∈ lw_good := lw_i3 18 (by decide +kernel) (by decide +kernel)
theorem is_220 : sIs 220 5 := ⟨by decide, by decide +kernel, by decide +kernel, by decide⟩
theorem mw_X11_letterIn : sMwS yX11_letterIn cX11_letterIn 3 (some .int) 2 := ⟨⟨lw_i3 16 (by decide +kernel) (by decide +kernel), lw_i1 1 (by decide +kernel) (by decide +kernel), by decide +kernel, by decide +kernel, by decide +kernel⟩, lw_i3 15 (by decide +kernel) (by decide +kernel)⟩
theorem fl_X5_15 : sFL RX5 15 5 7 := ⟨by decide, lw_i2 1 (by decide +kernel) (by decide +kernel)⟩
theorem ar_222 : sAr 222 1 96 := ⟨by decide, by decide +kernel, by decide +kernel⟩
theorem fr_220_7 {I : sI} {J : sJ} : sF I J 220 5 7 = .ref 222 := by
  have e : sR 220 7 = 222 := by decide +kernel
  show Value.ref (sR 220 7) = _
  rw [e]
theorem fl_X5_50 : sFL RX5 50 5 2 := ⟨by decide, lw_i1 232 (by decide +kernel) (by decide +kernel)⟩
theorem fl_X5_44 : sFL RX5 44 5 11 := ⟨by decide, lw_i2 5 (by decide +kernel) (by decide +kernel)⟩
theorem lk_X5_32 : Cond.methodLink RX5 32 yJ9_min_7cf53 ∈ lw_good := lw_i3 35 (by decide +kernel) (by decide +kernel)
theorem fl_X5_9 : sFL RX5 9 5 0 := ⟨by decide, lw_i1 228 (by decide +kernel) (by decide +kernel)⟩
theorem ar_221 : sAr 221 3 200 := ⟨by decide, by decide +kernel, by decide +kernel⟩
theorem fr_220_0 {I : sI} {J : sJ} : sF I J 220 5 0 = .ref 221 := by
  have e : sR 220 0 = 221 := by decide +kernel
  show Value.ref (sR 220 0) = _
  rw [e]
theorem fl_X5_59 : sFL RX5 59 5 5 := ⟨by decide, lw_i1 238 (by decide +kernel) (by decide +kernel)⟩
theorem fl_X5_41 : sFL RX5 41 5 10 := ⟨by decide, lw_i2 4 (by decide +kernel) (by decide +kernel)⟩
theorem fl_X5_56 : sFL RX5 56 5 4 := ⟨by decide, lw_i1 236 (by decide +kernel) (by decide +kernel)⟩
theorem fl_X5_22 : sFL RX5 22 5 6 := ⟨by decide, lw_i2 0 (by decide +kernel) (by decide +kernel)⟩
theorem is_142 : sIs 142 10 := ⟨by decide, by decide +kernel, by decide +kernel, by decide⟩
theorem fr_220_6 {I : sI} {J : sJ} : sF I J 220 5 6 = .ref 142 := by
  have e : sR 220 6 = 142 := by decide +kernel
  show Value.ref (sR 220 6) = _
  rw [e]
theorem fl_X5_102 : sFL RX5 102 10 2 := ⟨by decide, lw_i1 189 (by decide +kernel) (by decide +kernel)⟩
theorem ar_193 : sAr 193 6 24 := ⟨by decide, by decide +kernel, by decide +kernel⟩
theorem fr_142_2 {I : sI} {J : sJ} : sF I J 142 10 2 = .ref 193 := by
  have e : sR 142 2 = 193 := by decide +kernel
  show Value.ref (sR 142 2) = _
  rw [e]
theorem el_6_24 {q : Nat} {i : Int32} (h : sAr q 6 24) (hi : vp_in i 24) : sAr (sR q i.toNatClampNeg) 1 20 := by
  have key : ∀ q, q < 282 → (sSp q).1 = 6 → (sSp q).2.1 = 24 → ∀ j, j < 24 → (sR q j < 282 ∧ (sSp (sR q j)).1 = 1 ∧ (sSp (sR q j)).2.1 = 20) := by decide +kernel
  exact key q h.1 h.2.1 h.2.2 _ (Nat.not_le.mp fun z => hi (Or.inr z))
theorem fl_X5_19 : sFL RX5 19 5 8 := ⟨by decide, lw_i2 2 (by decide +kernel) (by decide +kernel)⟩
theorem ar_223 : sAr 223 1 24 := ⟨by decide, by decide +kernel, by decide +kernel⟩
theorem fr_220_8 {I : sI} {J : sJ} : sF I J 220 5 8 = .ref 223 := by
  have e : sR 220 8 = 223 := by decide +kernel
  show Value.ref (sR 220 8) = _
  rw [e]
theorem lk_X5_99 : Cond.methodLink RX5 99 yX5_sortIn ∈ lw_good := lw_i3 49 (by decide +kernel) (by decide +kernel)
theorem mw_X5_sortIn : sMwV yX5_sortIn cX5_sortIn 5 none 1 := ⟨⟨lw_i3 52 (by decide +kernel) (by decide +kernel), lw_i1 9 (by decide +kernel) (by decide +kernel), by decide +kernel, by decide +kernel, by decide +kernel⟩, lw_i3 51 (by decide +kernel) (by decide +kernel), lw_in (List.mem_append_left _ (by decide +kernel)) (by decide +kernel)⟩
theorem lk_X5_96 : Cond.methodLink RX5 96 yX5_tallyLetters ∈ lw_good := lw_i3 44 (by decide +kernel) (by decide +kernel)
theorem mw_X5_tallyLetters : sMwV yX5_tallyLetters cX5_tallyLetters 5 none 1 := ⟨⟨lw_i3 47 (by decide +kernel) (by decide +kernel), lw_i1 9 (by decide +kernel) (by decide +kernel), by decide +kernel, by decide +kernel, by decide +kernel⟩, lw_i3 46 (by decide +kernel) (by decide +kernel), lw_in (List.mem_append_left _ (by decide +kernel)) (by decide +kernel)⟩
theorem fl_X10_41 : sFL RX10 41 10 7 := ⟨by decide, lw_i1 198 (by decide +kernel) (by decide +kernel)⟩
theorem lc_X10_106 : Cond.constant RX10 106 ((-2004318072)) ∈ lw_good := lw_i3 30 (by decide +kernel) (by decide +kernel)
theorem fl_X5_47 : sFL RX5 47 5 1 := ⟨by decide, lw_i1 230 (by decide +kernel) (by decide +kernel)⟩
theorem fl_X5_38 : sFL RX5 38 5 9 := ⟨by decide, lw_i2 3 (by decide +kernel) (by decide +kernel)⟩
theorem fl_X5_74 : sFL RX5 74 10 4 := ⟨by decide, lw_i1 193 (by decide +kernel) (by decide +kernel)⟩
theorem ar_219 : sAr 219 3 24 := ⟨by decide, by decide +kernel, by decide +kernel⟩
theorem fr_142_4 {I : sI} {J : sJ} : sF I J 142 10 4 = .ref 219 := by
  have e : sR 142 4 = 219 := by decide +kernel
  show Value.ref (sR 142 4) = _
  rw [e]
theorem fl_X5_77 : sFL RX5 77 10 3 := ⟨by decide, lw_i1 191 (by decide +kernel) (by decide +kernel)⟩
theorem ar_218 : sAr 218 1 24 := ⟨by decide, by decide +kernel, by decide +kernel⟩
theorem fr_142_3 {I : sI} {J : sJ} : sF I J 142 10 3 = .ref 218 := by
  have e : sR 142 3 = 218 := by decide +kernel
  show Value.ref (sR 142 3) = _
  rw [e]
theorem lk_X5_70 : Cond.methodLink RX5 70 yX5_take ∈ lw_good := lw_i3 40 (by decide +kernel) (by decide +kernel)
theorem mw_X5_take : sMwV yX5_take cX5_take 3 none 1 := ⟨⟨lw_i3 43 (by decide +kernel) (by decide +kernel), lw_i1 9 (by decide +kernel) (by decide +kernel), by decide +kernel, by decide +kernel, by decide +kernel⟩, lw_i3 42 (by decide +kernel) (by decide +kernel), lw_in (List.mem_append_left _ (by decide +kernel)) (by decide +kernel)⟩
theorem fl_X5_53 : sFL RX5 53 5 3 := ⟨by decide, lw_i1 234 (by decide +kernel) (by decide +kernel)⟩
theorem fl_X5_80 : sFL RX5 80 10 0 := ⟨by decide, lw_i1 185 (by decide +kernel) (by decide +kernel)⟩
theorem ar_143 : sAr 143 7 24 := ⟨by decide, by decide +kernel, by decide +kernel⟩
theorem fr_142_0 {I : sI} {J : sJ} : sF I J 142 10 0 = .ref 143 := by
  have e : sR 142 0 = 143 := by decide +kernel
  show Value.ref (sR 142 0) = _
  rw [e]
theorem el_7_24 {q : Nat} {i : Int32} (h : sAr q 7 24) (hi : vp_in i 24) : sAr (sR q i.toNatClampNeg) 3 20 := by
  have key : ∀ q, q < 282 → (sSp q).1 = 7 → (sSp q).2.1 = 24 → ∀ j, j < 24 → (sR q j < 282 ∧ (sSp (sR q j)).1 = 3 ∧ (sSp (sR q j)).2.1 = 20) := by decide +kernel
  exact key q h.1 h.2.1 h.2.2 _ (Nat.not_le.mp fun z => hi (Or.inr z))
theorem fl_X5_84 : sFL RX5 84 10 1 := ⟨by decide, lw_i1 187 (by decide +kernel) (by decide +kernel)⟩
theorem ar_168 : sAr 168 6 24 := ⟨by decide, by decide +kernel, by decide +kernel⟩
theorem fr_142_1 {I : sI} {J : sJ} : sF I J 142 10 1 = .ref 168 := by
  have e : sR 142 1 = 168 := by decide +kernel
  show Value.ref (sR 142 1) = _
  rw [e]
theorem lk_X5_88 : Cond.methodLink RX5 88 yX10_crowded ∈ lw_good := lw_i3 53 (by decide +kernel) (by decide +kernel)
theorem mw_X10_crowded : sMwV yX10_crowded cX10_crowded 2 (some .boolean) 1 := ⟨⟨lw_i3 29 (by decide +kernel) (by decide +kernel), lw_i1 8 (by decide +kernel) (by decide +kernel), by decide +kernel, by decide +kernel, by decide +kernel⟩, lw_i3 27 (by decide +kernel) (by decide +kernel), lw_i3 28 (by decide +kernel) (by decide +kernel)⟩
theorem lk_X5_92 : Cond.methodLink RX5 92 yX5_tooMany ∈ lw_good := lw_i3 54 (by decide +kernel) (by decide +kernel)
theorem mw_X5_tooMany : sMwV yX5_tooMany cX5_tooMany 1 (some .boolean) 0 := ⟨⟨lw_i3 57 (by decide +kernel) (by decide +kernel), lw_i1 9 (by decide +kernel) (by decide +kernel), by decide +kernel, by decide +kernel, by decide +kernel⟩, lw_i3 55 (by decide +kernel) (by decide +kernel), lw_i3 56 (by decide +kernel) (by decide +kernel)⟩
theorem lk_X5_63 : Cond.methodLink RX5 63 yX5_walk ∈ lw_good := lw_i3 36 (by decide +kernel) (by decide +kernel)
theorem mw_X5_walk : sMwV yX5_walk cX5_walk 12 none 3 := ⟨⟨lw_i3 39 (by decide +kernel) (by decide +kernel), lw_i1 9 (by decide +kernel) (by decide +kernel), by decide +kernel, by decide +kernel, by decide +kernel⟩, lw_i3 38 (by decide +kernel) (by decide +kernel), lw_in (List.mem_append_left _ (by decide +kernel)) (by decide +kernel)⟩
theorem fl_X5_26 : sFL RX5 26 10 5 := ⟨by decide, lw_i1 195 (by decide +kernel) (by decide +kernel)⟩
theorem lk_X5_67 : Cond.methodLink RX5 67 yJ9_max_7cf53 ∈ lw_good := lw_i3 154 (by decide +kernel) (by decide +kernel)
theorem fl_X6_15 : sFL RX6 15 6 1 := ⟨by decide, lw_i1 165 (by decide +kernel) (by decide +kernel)⟩
theorem fl_X6_9 : sFL RX6 9 6 0 := ⟨by decide, lw_i1 163 (by decide +kernel) (by decide +kernel)⟩
theorem arF_6_0 {q : Nat} (h : sIs q 6) : sAr (sR q 0) 3 13 := by
  have key : ∀ q, q < 282 → (sSp q).1 = 0 → (sSp q).2.1 = 6 → (sR q 0 < 282 ∧ (sSp (sR q 0)).1 = 3 ∧ (sSp (sR q 0)).2.1 = 13) := by decide +kernel
  exact key q h.1 h.2.1 h.2.2.1
theorem lk_X6_19 : Cond.methodLink RX6 19 yX6_put ∈ lw_good := lw_i3 107 (by decide +kernel) (by decide +kernel)
theorem mw_X6_put : sMwV yX6_put cX6_put 3 none 1 := ⟨⟨lw_i3 67 (by decide +kernel) (by decide +kernel), lw_i1 7 (by decide +kernel) (by decide +kernel), by decide +kernel, by decide +kernel, by decide +kernel⟩, lw_i3 65 (by decide +kernel) (by decide +kernel), lw_i3 66 (by decide +kernel) (by decide +kernel)⟩
theorem lk_X6_23 : Cond.methodLink RX6 23 yX6_tell ∈ lw_good := lw_i3 116 (by decide +kernel) (by decide +kernel)
theorem mw_X6_tell : sMwV yX6_tell cX6_tell 3 none 1 := ⟨⟨lw_i3 119 (by decide +kernel) (by decide +kernel), lw_i1 7 (by decide +kernel) (by decide +kernel), by decide +kernel, by decide +kernel, by decide +kernel⟩, lw_i3 117 (by decide +kernel) (by decide +kernel), lw_i3 118 (by decide +kernel) (by decide +kernel)⟩
theorem lk_X6_26 : Cond.methodLink RX6 26 yX6_commonDivisor ∈ lw_good := lw_i3 215 (by decide +kernel) (by decide +kernel)
theorem mw_X6_commonDivisor : sMwS yX6_commonDivisor cX6_commonDivisor 11 (some .long) 2 := ⟨⟨lw_i3 217 (by decide +kernel) (by decide +kernel), lw_i1 7 (by decide +kernel) (by decide +kernel), by decide +kernel, by decide +kernel, by decide +kernel⟩, lw_i3 216 (by decide +kernel) (by decide +kernel)⟩
theorem lk_X6_30 : Cond.methodLink RX6 30 yX6_tell_ ∈ lw_good := lw_i3 218 (by decide +kernel) (by decide +kernel)
theorem mw_X6_tell_ : sMwV yX6_tell_ cX6_tell_ 5 none 2 := ⟨⟨lw_i3 115 (by decide +kernel) (by decide +kernel), lw_i1 7 (by decide +kernel) (by decide +kernel), by decide +kernel, by decide +kernel, by decide +kernel⟩, lw_i3 113 (by decide +kernel) (by decide +kernel), lw_i3 114 (by decide +kernel) (by decide +kernel)⟩
theorem fl_X7_15 : sFL RX7 15 7 1 := ⟨by decide, lw_i1 39 (by decide +kernel) (by decide +kernel)⟩
theorem fl_X7_9 : sFL RX7 9 7 0 := ⟨by decide, lw_i1 35 (by decide +kernel) (by decide +kernel)⟩
theorem lk_X7_19 : Cond.methodLink RX7 19 yJ9_min_7cf53 ∈ lw_good := lw_i2 163 (by decide +kernel) (by decide +kernel)
theorem lk_X7_25 : Cond.methodLink RX7 25 yX7_kindOf ∈ lw_good := lw_i2 166 (by decide +kernel) (by decide +kernel)
theorem lk_X7_29 : Cond.methodLink RX7 29 yX7_fitsLaxness ∈ lw_good := lw_i2 210 (by decide +kernel) (by decide +kernel)
theorem mw_X7_fitsLaxness : sMwS yX7_fitsLaxness cX7_fitsLaxness 2 (some .boolean) 2 := ⟨⟨lw_i2 212 (by decide +kernel) (by decide +kernel), lw_i1 2 (by decide +kernel) (by decide +kernel), by decide +kernel, by decide +kernel, by decide +kernel⟩, lw_i2 211 (by decide +kernel) (by decide +kernel)⟩
theorem fl_X8_12 : sFL RX8 12 8 0 := ⟨by decide, lw_i1 107 (by decide +kernel) (by decide +kernel)⟩
theorem isF_8_0 {q : Nat} (h : sIs q 8) : sIs (sR q 0) 2 := by
  have key : ∀ q, q < 282 → (sSp q).1 = 0 → (sSp q).2.1 = 8 → (sR q 0 < 282 ∧ (sSp (sR q 0)).1 = 0 ∧ (sSp (sR q 0)).2.1 = 2) := by decide +kernel
  obtain ⟨a, b, c⟩ := key q h.1 h.2.1 h.2.2.1
  exact ⟨a, b, c, by decide⟩
theorem lk_X8_40 : Cond.methodLink RX8 40 yX2_take ∈ lw_good := lw_i4 210 (by decide +kernel) (by decide +kernel)
theorem mw_X2_take : sMwV yX2_take cX2_take 3 none 1 := ⟨⟨lw_i3 136 (by decide +kernel) (by decide +kernel), lw_i1 4 (by decide +kernel) (by decide +kernel), by decide +kernel, by decide +kernel, by decide +kernel⟩, lw_i3 134 (by decide +kernel) (by decide +kernel), lw_i3 135 (by decide +kernel) (by decide +kernel)⟩
theorem fl_X8_21 : sFL RX8 21 8 1 := ⟨by decide, lw_i1 109 (by decide +kernel) (by decide +kernel)⟩
theorem isF_8_1 {q : Nat} (h : sIs q 8) : sIs (sR q 1) 4 := by
  have key : ∀ q, q < 282 → (sSp q).1 = 0 → (sSp q).2.1 = 8 → (sR q 1 < 282 ∧ (sSp (sR q 1)).1 = 0 ∧ (sSp (sR q 1)).2.1 = 4) := by decide +kernel
  obtain ⟨a, b, c⟩ := key q h.1 h.2.1 h.2.2.1
  exact ⟨a, b, c, by decide⟩
theorem lk_X8_44 : Cond.methodLink RX8 44 yX4_take ∈ lw_good := lw_i4 211 (by decide +kernel) (by decide +kernel)
theorem mw_X4_take : sMwV yX4_take cX4_take 3 none 1 := ⟨⟨lw_i4 214 (by decide +kernel) (by decide +kernel), lw_i1 5 (by decide +kernel) (by decide +kernel), by decide +kernel, by decide +kernel, by decide +kernel⟩, lw_i4 212 (by decide +kernel) (by decide +kernel), lw_i4 213 (by decide +kernel) (by decide +kernel)⟩
theorem fl_X8_29 : sFL RX8 29 8 3 := ⟨by decide, lw_i1 113 (by decide +kernel) (by decide +kernel)⟩
theorem fl_X8_33 : sFL RX8 33 8 4 := ⟨by decide, lw_i1 115 (by decide +kernel) (by decide +kernel)⟩
theorem fl_X8_36 : sFL RX8 36 8 5 := ⟨by decide, lw_i1 117 (by decide +kernel) (by decide +kernel)⟩
theorem fl_X8_25 : sFL RX8 25 8 2 := ⟨by decide, lw_i1 111 (by decide +kernel) (by decide +kernel)⟩
theorem arF_8_2 {q : Nat} (h : sIs q 8) : sAr (sR q 2) 1 12 := by
  have key : ∀ q, q < 282 → (sSp q).1 = 0 → (sSp q).2.1 = 8 → (sR q 2 < 282 ∧ (sSp (sR q 2)).1 = 1 ∧ (sSp (sR q 2)).2.1 = 12) := by decide +kernel
  exact key q h.1 h.2.1 h.2.2.1
theorem fl_X9_16 : sFL RX9 16 9 1 := ⟨by decide, lw_i1 144 (by decide +kernel) (by decide +kernel)⟩
theorem arF_9_1 {q : Nat} (h : sIs q 9) : sAr (sR q 1) 1 20 := by
  have key : ∀ q, q < 282 → (sSp q).1 = 0 → (sSp q).2.1 = 9 → (sR q 1 < 282 ∧ (sSp (sR q 1)).1 = 1 ∧ (sSp (sR q 1)).2.1 = 20) := by decide +kernel
  exact key q h.1 h.2.1 h.2.2.1
theorem fl_X9_28 : sFL RX9 28 7 1 := ⟨by decide, lw_i1 42 (by decide +kernel) (by decide +kernel)⟩
theorem fl_X9_11 : sFL RX9 11 9 0 := ⟨by decide, lw_i1 142 (by decide +kernel) (by decide +kernel)⟩
theorem arF_9_0 {q : Nat} (h : sIs q 9) : sAr (sR q 0) 6 20 := by
  have key : ∀ q, q < 282 → (sSp q).1 = 0 → (sSp q).2.1 = 9 → (sR q 0 < 282 ∧ (sSp (sR q 0)).1 = 6 ∧ (sSp (sR q 0)).2.1 = 20) := by decide +kernel
  exact key q h.1 h.2.1 h.2.2.1
theorem el_6_20 {q : Nat} {i : Int32} (h : sAr q 6 20) (hi : vp_in i 20) : sAr (sR q i.toNatClampNeg) 1 6 := by
  have key : ∀ q, q < 282 → (sSp q).1 = 6 → (sSp q).2.1 = 20 → ∀ j, j < 20 → (sR q j < 282 ∧ (sSp (sR q j)).1 = 1 ∧ (sSp (sR q j)).2.1 = 6) := by decide +kernel
  exact key q h.1 h.2.1 h.2.2 _ (Nat.not_le.mp fun z => hi (Or.inr z))
theorem fl_X9_31 : sFL RX9 31 7 0 := ⟨by decide, lw_i1 37 (by decide +kernel) (by decide +kernel)⟩
theorem fl_X9_20 : sFL RX9 20 9 2 := ⟨by decide, lw_i1 146 (by decide +kernel) (by decide +kernel)⟩
theorem lk_X9_24 : Cond.methodLink RX9 24 yX9_isWord ∈ lw_good := lw_i2 194 (by decide +kernel) (by decide +kernel)
theorem mw_X9_isWord : sMwV yX9_isWord cX9_isWord 4 (some .boolean) 2 := ⟨⟨lw_i2 197 (by decide +kernel) (by decide +kernel), lw_i1 6 (by decide +kernel) (by decide +kernel), by decide +kernel, by decide +kernel, by decide +kernel⟩, lw_i2 196 (by decide +kernel) (by decide +kernel), lw_in (List.mem_append_left _ (by decide +kernel)) (by decide +kernel)⟩
theorem fl_X10_32 : sFL RX10 32 10 5 := ⟨by decide, lw_i1 194 (by decide +kernel) (by decide +kernel)⟩
theorem fl_X10_36 : sFL RX10 36 10 6 := ⟨by decide, lw_i1 197 (by decide +kernel) (by decide +kernel)⟩
theorem lc_X10_40 : Cond.constant RX10 40 (286331153) ∈ lw_good := lw_i2 233 (by decide +kernel) (by decide +kernel)
theorem fl_X10_44 : sFL RX10 44 10 8 := ⟨by decide, lw_i1 199 (by decide +kernel) (by decide +kernel)⟩
theorem fl_X10_47 : sFL RX10 47 10 9 := ⟨by decide, lw_i1 200 (by decide +kernel) (by decide +kernel)⟩
theorem fl_X10_73 : sFL RX10 73 2 2 := ⟨by decide, lw_i1 67 (by decide +kernel) (by decide +kernel)⟩
theorem fl_X10_76 : sFL RX10 76 2 0 := ⟨by decide, lw_i1 62 (by decide +kernel) (by decide +kernel)⟩
theorem lc_X10_79 : Cond.constantLong RX10 79 (15) ∈ lw_good := lw_i3 1 (by decide +kernel) (by decide +kernel)
theorem lk_X10_85 : Cond.methodLink RX10 85 yX2_lengthOf ∈ lw_good := lw_i3 9 (by decide +kernel) (by decide +kernel)
theorem fl_X10_88 : sFL RX10 88 9 1 := ⟨by decide, lw_i1 145 (by decide +kernel) (by decide +kernel)⟩
theorem lc_X10_67 : Cond.constantLong RX10 67 ((-1)) ∈ lw_good := lw_i3 13 (by decide +kernel) (by decide +kernel)
theorem fl_X10_91 : sFL RX10 91 9 0 := ⟨by decide, lw_i1 143 (by decide +kernel) (by decide +kernel)⟩
theorem lk_X10_98 : Cond.methodLink RX10 98 yX10_letterSums ∈ lw_good := lw_i3 23 (by decide +kernel) (by decide +kernel)
theorem mw_X10_letterSums : sMwS yX10_letterSums cX10_letterSums 5 (some .int) 1 := ⟨⟨lw_i3 25 (by decide +kernel) (by decide +kernel), lw_i1 8 (by decide +kernel) (by decide +kernel), by decide +kernel, by decide +kernel, by decide +kernel⟩, lw_i3 24 (by decide +kernel) (by decide +kernel)⟩
theorem lk_X10_102 : Cond.methodLink RX10 102 yX10_crowded ∈ lw_good := lw_i3 26 (by decide +kernel) (by decide +kernel)
theorem fl_X10_24 : sFL RX10 24 10 3 := ⟨by decide, lw_i1 190 (by decide +kernel) (by decide +kernel)⟩
theorem fl_X10_11 : sFL RX10 11 10 0 := ⟨by decide, lw_i1 184 (by decide +kernel) (by decide +kernel)⟩
theorem fl_X10_18 : sFL RX10 18 10 1 := ⟨by decide, lw_i1 186 (by decide +kernel) (by decide +kernel)⟩
theorem fl_X10_21 : sFL RX10 21 10 2 := ⟨by decide, lw_i1 188 (by decide +kernel) (by decide +kernel)⟩
theorem fl_X10_51 : sFL RX10 51 2 3 := ⟨by decide, lw_i1 70 (by decide +kernel) (by decide +kernel)⟩
theorem lk_X10_56 : Cond.methodLink RX10 56 yX10_maskOf ∈ lw_good := lw_i2 238 (by decide +kernel) (by decide +kernel)
theorem mw_X10_maskOf : sMwS yX10_maskOf cX10_maskOf 5 (some .long) 2 := ⟨⟨lw_i3 0 (by decide +kernel) (by decide +kernel), lw_i1 8 (by decide +kernel) (by decide +kernel), by decide +kernel, by decide +kernel, by decide +kernel⟩, lw_i2 239 (by decide +kernel) (by decide +kernel)⟩
theorem fl_X10_28 : sFL RX10 28 10 4 := ⟨by decide, lw_i1 192 (by decide +kernel) (by decide +kernel)⟩
theorem fl_X10_60 : sFL RX10 60 9 2 := ⟨by decide, lw_i1 147 (by decide +kernel) (by decide +kernel)⟩
theorem lk_X10_63 : Cond.methodLink RX10 63 yX10_spelt ∈ lw_good := lw_i3 5 (by decide +kernel) (by decide +kernel)
theorem mw_X10_spelt : sMwV yX10_spelt cX10_spelt 12 (some .long) 4 := ⟨⟨lw_i3 8 (by decide +kernel) (by decide +kernel), lw_i1 8 (by decide +kernel) (by decide +kernel), by decide +kernel, by decide +kernel, by decide +kernel⟩, lw_i3 7 (by decide +kernel) (by decide +kernel), lw_in (List.mem_append_left _ (by decide +kernel)) (by decide +kernel)⟩
theorem lk_X10_69 : Cond.methodLink RX10 69 yX10_addWay ∈ lw_good := lw_i3 19 (by decide +kernel) (by decide +kernel)
theorem mw_X10_addWay : sMwV yX10_addWay cX10_addWay 6 none 2 := ⟨⟨lw_i3 22 (by decide +kernel) (by decide +kernel), lw_i1 8 (by decide +kernel) (by decide +kernel), by decide +kernel, by decide +kernel, by decide +kernel⟩, lw_i3 21 (by decide +kernel) (by decide +kernel), lw_in (List.mem_append_left _ (by decide +kernel)) (by decide +kernel)⟩
theorem is_0 : sIs 0 11 := ⟨by decide, by decide +kernel, by decide +kernel, by decide⟩
theorem fl_X11_12 : sFL RX11 12 11 0 := ⟨by decide, lw_i2 91 (by decide +kernel) (by decide +kernel)⟩
theorem fr_0_0 {I : sI} {J : sJ} : sF I J 0 11 0 = .ref 1 := by
  have e : sR 0 0 = 1 := by decide +kernel
  show Value.ref (sR 0 0) = _
  rw [e]
theorem fl_X11_106 : sFL RX11 106 7 1 := ⟨by decide, lw_i1 40 (by decide +kernel) (by decide +kernel)⟩
theorem lk_X11_109 : Cond.methodLink RX11 109 yX7_push ∈ lw_good := lw_i2 147 (by decide +kernel) (by decide +kernel)
theorem mw_X7_push : sMwV yX7_push cX7_push 2 none 1 := ⟨⟨lw_i2 150 (by decide +kernel) (by decide +kernel), lw_i1 2 (by decide +kernel) (by decide +kernel), by decide +kernel, by decide +kernel, by decide +kernel⟩, lw_i2 148 (by decide +kernel) (by decide +kernel), lw_i2 149 (by decide +kernel) (by decide +kernel)⟩
theorem lk_X11_113 : Cond.methodLink RX11 113 yX7_faultAsDisc ∈ lw_good := lw_i2 159 (by decide +kernel) (by decide +kernel)
theorem mw_X7_faultAsDisc : sMwV yX7_faultAsDisc cX7_faultAsDisc 5 (some .int) 0 := ⟨⟨lw_i2 162 (by decide +kernel) (by decide +kernel), lw_i1 2 (by decide +kernel) (by decide +kernel), by decide +kernel, by decide +kernel, by decide +kernel⟩, lw_i2 160 (by decide +kernel) (by decide +kernel), lw_i2 161 (by decide +kernel) (by decide +kernel)⟩
theorem fl_X11_19 : sFL RX11 19 11 1 := ⟨by decide, lw_i2 92 (by decide +kernel) (by decide +kernel)⟩
theorem is_3 : sIs 3 8 := ⟨by decide, by decide +kernel, by decide +kernel, by decide⟩
theorem fr_0_1 {I : sI} {J : sJ} : sF I J 0 11 1 = .ref 3 := by
  have e : sR 0 1 = 3 := by decide +kernel
  show Value.ref (sR 0 1) = _
  rw [e]
theorem fl_X11_117 : sFL RX11 117 8 0 := ⟨by decide, lw_i1 108 (by decide +kernel) (by decide +kernel)⟩
theorem is_4 : sIs 4 2 := ⟨by decide, by decide +kernel, by decide +kernel, by decide⟩
theorem fr_3_0 {I : sI} {J : sJ} : sF I J 3 8 0 = .ref 4 := by
  have e : sR 3 0 = 4 := by decide +kernel
  show Value.ref (sR 3 0) = _
  rw [e]
theorem lk_X11_120 : Cond.methodLink RX11 120 yX2_fill ∈ lw_good := lw_i2 169 (by decide +kernel) (by decide +kernel)
theorem mw_X2_fill : sMwV yX2_fill cX2_fill 4 none 1 := ⟨⟨lw_i2 172 (by decide +kernel) (by decide +kernel), lw_i1 4 (by decide +kernel) (by decide +kernel), by decide +kernel, by decide +kernel, by decide +kernel⟩, lw_i2 170 (by decide +kernel) (by decide +kernel), lw_i2 171 (by decide +kernel) (by decide +kernel)⟩
theorem fl_X11_124 : sFL RX11 124 8 1 := ⟨by decide, lw_i1 110 (by decide +kernel) (by decide +kernel)⟩
theorem is_8 : sIs 8 4 := ⟨by decide, by decide +kernel, by decide +kernel, by decide⟩
theorem fr_3_1 {I : sI} {J : sJ} : sF I J 3 8 1 = .ref 8 := by
  have e : sR 3 1 = 8 := by decide +kernel
  show Value.ref (sR 3 1) = _
  rw [e]
theorem fl_X11_128 : sFL RX11 128 4 2 := ⟨by decide, lw_i1 99 (by decide +kernel) (by decide +kernel)⟩
theorem fl_X11_131 : sFL RX11 131 2 3 := ⟨by decide, lw_i1 71 (by decide +kernel) (by decide +kernel)⟩
theorem lk_X11_143 : Cond.methodLink RX11 143 yX7_faultAsWord ∈ lw_good := lw_i2 186 (by decide +kernel) (by decide +kernel)
theorem mw_X7_faultAsWord : sMwV yX7_faultAsWord cX7_faultAsWord 3 (some .int) 0 := ⟨⟨lw_i2 189 (by decide +kernel) (by decide +kernel), lw_i1 2 (by decide +kernel) (by decide +kernel), by decide +kernel, by decide +kernel, by decide +kernel⟩, lw_i2 187 (by decide +kernel) (by decide +kernel), lw_i2 188 (by decide +kernel) (by decide +kernel)⟩
theorem lk_X11_146 : Cond.methodLink RX11 146 yX9_has ∈ lw_good := lw_i2 190 (by decide +kernel) (by decide +kernel)
theorem mw_X9_has : sMwV yX9_has cX9_has 3 (some .boolean) 1 := ⟨⟨lw_i2 193 (by decide +kernel) (by decide +kernel), lw_i1 6 (by decide +kernel) (by decide +kernel), by decide +kernel, by decide +kernel, by decide +kernel⟩, lw_i2 191 (by decide +kernel) (by decide +kernel), lw_i2 192 (by decide +kernel) (by decide +kernel)⟩
theorem lk_X11_150 : Cond.methodLink RX11 150 yX9_add ∈ lw_good := lw_i2 198 (by decide +kernel) (by decide +kernel)
theorem mw_X9_add : sMwV yX9_add cX9_add 3 (some .int) 1 := ⟨⟨lw_i2 201 (by decide +kernel) (by decide +kernel), lw_i1 6 (by decide +kernel) (by decide +kernel), by decide +kernel, by decide +kernel, by decide +kernel⟩, lw_i2 199 (by decide +kernel) (by decide +kernel), lw_i2 200 (by decide +kernel) (by decide +kernel)⟩
theorem lk_X11_134 : Cond.methodLink RX11 134 yX11_isTongue ∈ lw_good := lw_i2 178 (by decide +kernel) (by decide +kernel)
theorem mw_X11_isTongue : sMwV yX11_isTongue cX11_isTongue 2 (some .boolean) 1 := ⟨⟨lw_i2 181 (by decide +kernel) (by decide +kernel), lw_i1 1 (by decide +kernel) (by decide +kernel), by decide +kernel, by decide +kernel, by decide +kernel⟩, lw_i2 180 (by decide +kernel) (by decide +kernel), lw_in (List.mem_append_left _ (by decide +kernel)) (by decide +kernel)⟩
theorem fl_X11_33 : sFL RX11 33 11 4 := ⟨by decide, lw_i2 95 (by decide +kernel) (by decide +kernel)⟩
theorem ar_41 : sAr 41 5 4 := ⟨by decide, by decide +kernel, by decide +kernel⟩
theorem fr_0_4 {I : sI} {J : sJ} : sF I J 0 11 4 = .ref 41 := by
  have e : sR 0 4 = 41 := by decide +kernel
  show Value.ref (sR 0 4) = _
  rw [e]
theorem el_5_4 {q : Nat} {i : Int32} (h : sAr q 5 4) (hi : vp_in i 4) : sIs (sR q i.toNatClampNeg) 9 := by
  have key : ∀ q, q < 282 → (sSp q).1 = 5 → (sSp q).2.1 = 4 → ∀ j, j < 4 → (sR q j < 282 ∧ (sSp (sR q j)).1 = 0 ∧ (sSp (sR q j)).2.1 = 9) := by decide +kernel
  obtain ⟨a, b, c⟩ := key q h.1 h.2.1 h.2.2 _ (Nat.not_le.mp fun z => hi (Or.inr z))
  exact ⟨a, b, c, by decide⟩
theorem fl_X11_138 : sFL RX11 138 9 2 := ⟨by decide, lw_i1 148 (by decide +kernel) (by decide +kernel)⟩
theorem lk_X11_139 : Cond.methodLink RX11 139 yX11_learn ∈ lw_good := lw_i2 182 (by decide +kernel) (by decide +kernel)
theorem mw_X11_learn : sMwV yX11_learn cX11_learn 3 (some .int) 1 := ⟨⟨lw_i2 185 (by decide +kernel) (by decide +kernel), lw_i1 1 (by decide +kernel) (by decide +kernel), by decide +kernel, by decide +kernel, by decide +kernel⟩, lw_i2 184 (by decide +kernel) (by decide +kernel), lw_in (List.mem_append_left _ (by decide +kernel)) (by decide +kernel)⟩
theorem lk_X11_154 : Cond.methodLink RX11 154 yX7_faultAsLaxness ∈ lw_good := lw_i2 206 (by decide +kernel) (by decide +kernel)
theorem mw_X7_faultAsLaxness : sMwV yX7_faultAsLaxness cX7_faultAsLaxness 2 (some .int) 0 := ⟨⟨lw_i2 209 (by decide +kernel) (by decide +kernel), lw_i1 2 (by decide +kernel) (by decide +kernel), by decide +kernel, by decide +kernel, by decide +kernel⟩, lw_i2 207 (by decide +kernel) (by decide +kernel), lw_i2 208 (by decide +kernel) (by decide +kernel)⟩
theorem fl_X11_157 : sFL RX11 157 7 0 := ⟨by decide, lw_i1 38 (by decide +kernel) (by decide +kernel)⟩
theorem fl_X11_160 : sFL RX11 160 8 3 := ⟨by decide, lw_i1 114 (by decide +kernel) (by decide +kernel)⟩
theorem fl_X11_163 : sFL RX11 163 8 4 := ⟨by decide, lw_i1 116 (by decide +kernel) (by decide +kernel)⟩
theorem fl_X11_166 : sFL RX11 166 8 5 := ⟨by decide, lw_i1 118 (by decide +kernel) (by decide +kernel)⟩
theorem fl_X11_179 : sFL RX11 179 2 4 := ⟨by decide, lw_i1 73 (by decide +kernel) (by decide +kernel)⟩
theorem fl_X11_58 : sFL RX11 58 11 8 := ⟨by decide, lw_i2 99 (by decide +kernel) (by decide +kernel)⟩
theorem fr_0_8 {I : sI} {J : sJ} : sF I J 0 11 8 = .ref 142 := by
  have e : sR 0 8 = 142 := by decide +kernel
  show Value.ref (sR 0 8) = _
  rw [e]
theorem lk_X11_240 : Cond.methodLink RX11 240 yX10_open ∈ lw_good := lw_i2 229 (by decide +kernel) (by decide +kernel)
theorem mw_X10_open : sMwV yX10_open cX10_open 4 none 3 := ⟨⟨lw_i2 232 (by decide +kernel) (by decide +kernel), lw_i1 8 (by decide +kernel) (by decide +kernel), by decide +kernel, by decide +kernel, by decide +kernel⟩, lw_i2 230 (by decide +kernel) (by decide +kernel), lw_i2 231 (by decide +kernel) (by decide +kernel)⟩
theorem lk_X11_244 : Cond.methodLink RX11 244 yX10_add ∈ lw_good := lw_i2 234 (by decide +kernel) (by decide +kernel)
theorem mw_X10_add : sMwV yX10_add cX10_add 9 none 2 := ⟨⟨lw_i2 237 (by decide +kernel) (by decide +kernel), lw_i1 8 (by decide +kernel) (by decide +kernel), by decide +kernel, by decide +kernel, by decide +kernel⟩, lw_i2 235 (by decide +kernel) (by decide +kernel), lw_i2 236 (by decide +kernel) (by decide +kernel)⟩
theorem fl_X11_67 : sFL RX11 67 11 9 := ⟨by decide, lw_i2 100 (by decide +kernel) (by decide +kernel)⟩
theorem fr_0_9 {I : sI} {J : sJ} : sF I J 0 11 9 = .ref 220 := by
  have e : sR 0 9 = 220 := by decide +kernel
  show Value.ref (sR 0 9) = _
  rw [e]
theorem fl_X11_247 : sFL RX11 247 10 5 := ⟨by decide, lw_i1 196 (by decide +kernel) (by decide +kernel)⟩
theorem lk_X11_248 : Cond.methodLink RX11 248 yX5_run ∈ lw_good := lw_i3 31 (by decide +kernel) (by decide +kernel)
theorem mw_X5_run : sMwV yX5_run cX5_run 5 none 3 := ⟨⟨lw_i3 34 (by decide +kernel) (by decide +kernel), lw_i1 9 (by decide +kernel) (by decide +kernel), by decide +kernel, by decide +kernel, by decide +kernel⟩, lw_i3 32 (by decide +kernel) (by decide +kernel), lw_i3 33 (by decide +kernel) (by decide +kernel)⟩
theorem fl_X11_41 : sFL RX11 41 11 5 := ⟨by decide, lw_i2 96 (by decide +kernel) (by decide +kernel)⟩
theorem is_134 : sIs 134 6 := ⟨by decide, by decide +kernel, by decide +kernel, by decide⟩
theorem fr_0_5 {I : sI} {J : sJ} : sF I J 0 11 5 = .ref 134 := by
  have e : sR 0 5 = 134 := by decide +kernel
  show Value.ref (sR 0 5) = _
  rw [e]
theorem lk_X11_221 : Cond.methodLink RX11 221 yX11_letterIn ∈ lw_good := lw_i3 63 (by decide +kernel) (by decide +kernel)
theorem lk_X11_227 : Cond.methodLink RX11 227 yX6_put ∈ lw_good := lw_i3 64 (by decide +kernel) (by decide +kernel)
theorem lk_X11_182 : Cond.methodLink RX11 182 yX11_cannotRead ∈ lw_good := lw_i2 221 (by decide +kernel) (by decide +kernel)
theorem mw_X11_cannotRead : sMwV yX11_cannotRead cX11_cannotRead 2 (some .boolean) 1 := ⟨⟨lw_i2 224 (by decide +kernel) (by decide +kernel), lw_i1 1 (by decide +kernel) (by decide +kernel), by decide +kernel, by decide +kernel, by decide +kernel⟩, lw_i2 223 (by decide +kernel) (by decide +kernel), lw_in (List.mem_append_left _ (by decide +kernel)) (by decide +kernel)⟩
theorem lk_X11_185 : Cond.methodLink RX11 185 yX11_read ∈ lw_good := lw_i2 225 (by decide +kernel) (by decide +kernel)
theorem mw_X11_read : sMwV yX11_read cX11_read 5 none 4 := ⟨⟨lw_i2 228 (by decide +kernel) (by decide +kernel), lw_i1 1 (by decide +kernel) (by decide +kernel), by decide +kernel, by decide +kernel, by decide +kernel⟩, lw_i2 227 (by decide +kernel) (by decide +kernel), lw_in (List.mem_append_left _ (by decide +kernel)) (by decide +kernel)⟩
theorem fl_X11_189 : sFL RX11 189 5 1 := ⟨by decide, lw_i1 231 (by decide +kernel) (by decide +kernel)⟩
theorem fl_X11_103 : sFL RX11 103 11 16 := ⟨by decide, lw_i2 107 (by decide +kernel) (by decide +kernel)⟩
theorem lk_X11_192 : Cond.methodLink RX11 192 yX5_tooMany ∈ lw_good := lw_i3 58 (by decide +kernel) (by decide +kernel)
theorem fl_X11_196 : sFL RX11 196 6 1 := ⟨by decide, lw_i1 166 (by decide +kernel) (by decide +kernel)⟩
theorem fl_X11_197 : sFL RX11 197 5 2 := ⟨by decide, lw_i1 233 (by decide +kernel) (by decide +kernel)⟩
theorem fl_X11_200 : sFL RX11 200 5 5 := ⟨by decide, lw_i1 239 (by decide +kernel) (by decide +kernel)⟩
theorem lk_X11_204 : Cond.methodLink RX11 204 yX11_tellLetters ∈ lw_good := lw_i3 59 (by decide +kernel) (by decide +kernel)
theorem mw_X11_tellLetters : sMwV yX11_tellLetters cX11_tellLetters 4 none 1 := ⟨⟨lw_i3 62 (by decide +kernel) (by decide +kernel), lw_i1 1 (by decide +kernel) (by decide +kernel), by decide +kernel, by decide +kernel, by decide +kernel⟩, lw_i3 61 (by decide +kernel) (by decide +kernel), lw_in (List.mem_append_left _ (by decide +kernel)) (by decide +kernel)⟩
theorem fl_X11_208 : sFL RX11 208 5 0 := ⟨by decide, lw_i1 229 (by decide +kernel) (by decide +kernel)⟩
theorem lc_J6_265 : Cond.constant RJ6 265 (1431655765) ∈ lw_good := lw_i3 83 (by decide +kernel) (by decide +kernel)
theorem lc_J6_266 : Cond.constant RJ6 266 (858993459) ∈ lw_good := lw_i3 84 (by decide +kernel) (by decide +kernel)
theorem lc_J6_267 : Cond.constant RJ6 267 (252645135) ∈ lw_good := lw_i3 85 (by decide +kernel) (by decide +kernel)
theorem lk_X11_212 : Cond.methodLink RX11 212 yX5_lettersOf ∈ lw_good := lw_i3 76 (by decide +kernel) (by decide +kernel)
theorem mw_X5_lettersOf : sMwV yX5_lettersOf cX5_lettersOf 4 (some .int) 1 := ⟨⟨lw_i3 79 (by decide +kernel) (by decide +kernel), lw_i1 9 (by decide +kernel) (by decide +kernel), by decide +kernel, by decide +kernel, by decide +kernel⟩, lw_i3 77 (by decide +kernel) (by decide +kernel), lw_i3 78 (by decide +kernel) (by decide +kernel)⟩
theorem lk_X11_216 : Cond.methodLink RX11 216 yJ6_bitCount_0f7a4 ∈ lw_good := lw_i3 80 (by decide +kernel) (by decide +kernel)
theorem mw_J6_bitCount_0f7a4 : sMwS yJ6_bitCount_0f7a4 cJ6_bitCount_0f7a4 1 (some .int) 1 := ⟨⟨lw_i3 82 (by decide +kernel) (by decide +kernel), lw_i1 19 (by decide +kernel) (by decide +kernel), by decide +kernel, by decide +kernel, by decide +kernel⟩, lw_i3 81 (by decide +kernel) (by decide +kernel)⟩
theorem lc_X11_225 : Cond.constantLong RX11 225 ((-1)) ∈ lw_good := lw_i3 86 (by decide +kernel) (by decide +kernel)
theorem lk_X11_230 : Cond.methodLink RX11 230 yX2_kindBits ∈ lw_good := lw_i3 91 (by decide +kernel) (by decide +kernel)
theorem mw_X2_kindBits : sMwV yX2_kindBits cX2_kindBits 3 (some .int) 0 := ⟨⟨lw_i3 94 (by decide +kernel) (by decide +kernel), lw_i1 4 (by decide +kernel) (by decide +kernel), by decide +kernel, by decide +kernel, by decide +kernel⟩, lw_i3 92 (by decide +kernel) (by decide +kernel), lw_i3 93 (by decide +kernel) (by decide +kernel)⟩
theorem fl_X11_233 : sFL RX11 233 5 4 := ⟨by decide, lw_i1 237 (by decide +kernel) (by decide +kernel)⟩
theorem fl_X11_45 : sFL RX11 45 11 6 := ⟨by decide, lw_i2 97 (by decide +kernel) (by decide +kernel)⟩
theorem is_136 : sIs 136 6 := ⟨by decide, by decide +kernel, by decide +kernel, by decide⟩
theorem fr_0_6 {I : sI} {J : sJ} : sF I J 0 11 6 = .ref 136 := by
  have e : sR 0 6 = 136 := by decide +kernel
  show Value.ref (sR 0 6) = _
  rw [e]
theorem lk_X11_236 : Cond.methodLink RX11 236 yX6_take ∈ lw_good := lw_i3 103 (by decide +kernel) (by decide +kernel)
theorem mw_X6_take : sMwV yX6_take cX6_take 3 none 1 := ⟨⟨lw_i3 106 (by decide +kernel) (by decide +kernel), lw_i1 7 (by decide +kernel) (by decide +kernel), by decide +kernel, by decide +kernel, by decide +kernel⟩, lw_i3 104 (by decide +kernel) (by decide +kernel), lw_i3 105 (by decide +kernel) (by decide +kernel)⟩
theorem lk_X11_252 : Cond.methodLink RX11 252 yX6_tell_ ∈ lw_good := lw_i3 112 (by decide +kernel) (by decide +kernel)
theorem fl_X11_51 : sFL RX11 51 11 7 := ⟨by decide, lw_i2 98 (by decide +kernel) (by decide +kernel)⟩
theorem is_138 : sIs 138 2 := ⟨by decide, by decide +kernel, by decide +kernel, by decide⟩
theorem fr_0_7 {I : sI} {J : sJ} : sF I J 0 11 7 = .ref 138 := by
  have e : sR 0 7 = 138 := by decide +kernel
  show Value.ref (sR 0 7) = _
  rw [e]
theorem lk_X11_256 : Cond.methodLink RX11 256 yX6_tell ∈ lw_good := lw_i3 128 (by decide +kernel) (by decide +kernel)
theorem fl_X11_258 : sFL RX11 258 5 3 := ⟨by decide, lw_i1 235 (by decide +kernel) (by decide +kernel)⟩
theorem fl_X11_99 : sFL RX11 99 11 15 := ⟨by decide, lw_i2 106 (by decide +kernel) (by decide +kernel)⟩
theorem lc_X11_276 : Cond.constant RX11 276 (1103515245) ∈ lw_good := lw_i3 145 (by decide +kernel) (by decide +kernel)
theorem lk_X11_273 : Cond.methodLink RX11 273 yX11_draw ∈ lw_good := lw_i3 141 (by decide +kernel) (by decide +kernel)
theorem mw_X11_draw : sMwV yX11_draw cX11_draw 2 (some .int) 1 := ⟨⟨lw_i3 144 (by decide +kernel) (by decide +kernel), lw_i1 1 (by decide +kernel) (by decide +kernel), by decide +kernel, by decide +kernel, by decide +kernel⟩, lw_i3 143 (by decide +kernel) (by decide +kernel), lw_in (List.mem_append_left _ (by decide +kernel)) (by decide +kernel)⟩
theorem fl_X11_176 : sFL RX11 176 2 0 := ⟨by decide, lw_i1 63 (by decide +kernel) (by decide +kernel)⟩
theorem lk_X11_261 : Cond.methodLink RX11 261 yX2_take ∈ lw_good := lw_i3 133 (by decide +kernel) (by decide +kernel)
theorem lk_X11_264 : Cond.methodLink RX11 264 yX11_shuffle ∈ lw_good := lw_i3 137 (by decide +kernel) (by decide +kernel)
theorem mw_X11_shuffle : sMwV yX11_shuffle cX11_shuffle 5 none 1 := ⟨⟨lw_i3 140 (by decide +kernel) (by decide +kernel), lw_i1 1 (by decide +kernel) (by decide +kernel), by decide +kernel, by decide +kernel, by decide +kernel⟩, lw_i3 139 (by decide +kernel) (by decide +kernel), lw_in (List.mem_append_left _ (by decide +kernel)) (by decide +kernel)⟩
theorem lk_X11_267 : Cond.methodLink RX11 267 yX5_worstOf ∈ lw_good := lw_i3 150 (by decide +kernel) (by decide +kernel)
theorem mw_X5_worstOf : sMwV yX5_worstOf cX5_worstOf 4 (some .int) 1 := ⟨⟨lw_i3 153 (by decide +kernel) (by decide +kernel), lw_i1 9 (by decide +kernel) (by decide +kernel), by decide +kernel, by decide +kernel, by decide +kernel⟩, lw_i3 151 (by decide +kernel) (by decide +kernel), lw_i3 152 (by decide +kernel) (by decide +kernel)⟩
theorem lk_X11_270 : Cond.methodLink RX11 270 yX2_hide ∈ lw_good := lw_i3 161 (by decide +kernel) (by decide +kernel)
theorem mw_X2_hide : sMwV yX2_hide cX2_hide 3 none 1 := ⟨⟨lw_i3 164 (by decide +kernel) (by decide +kernel), lw_i1 4 (by decide +kernel) (by decide +kernel), by decide +kernel, by decide +kernel, by decide +kernel⟩, lw_i3 162 (by decide +kernel) (by decide +kernel), lw_i3 163 (by decide +kernel) (by decide +kernel)⟩
theorem lk_X11_170 : Cond.methodLink RX11 170 yX11_isPlace ∈ lw_good := lw_i3 169 (by decide +kernel) (by decide +kernel)
theorem mw_X11_isPlace : sMwV yX11_isPlace cX11_isPlace 2 (some .boolean) 1 := ⟨⟨lw_i3 172 (by decide +kernel) (by decide +kernel), lw_i1 1 (by decide +kernel) (by decide +kernel), by decide +kernel, by decide +kernel, by decide +kernel⟩, lw_i3 171 (by decide +kernel) (by decide +kernel), lw_in (List.mem_append_left _ (by decide +kernel)) (by decide +kernel)⟩
theorem lk_X11_282 : Cond.methodLink RX11 282 yX4_has ∈ lw_good := lw_i3 173 (by decide +kernel) (by decide +kernel)
theorem mw_X4_has : sMwV yX4_has cX4_has 4 (some .boolean) 2 := ⟨⟨lw_i3 176 (by decide +kernel) (by decide +kernel), lw_i1 5 (by decide +kernel) (by decide +kernel), by decide +kernel, by decide +kernel, by decide +kernel⟩, lw_i3 174 (by decide +kernel) (by decide +kernel), lw_i3 175 (by decide +kernel) (by decide +kernel)⟩
theorem lk_X11_285 : Cond.methodLink RX11 285 yX4_add ∈ lw_good := lw_i3 177 (by decide +kernel) (by decide +kernel)
theorem mw_X4_add : sMwV yX4_add cX4_add 3 (some .int) 2 := ⟨⟨lw_i3 180 (by decide +kernel) (by decide +kernel), lw_i1 5 (by decide +kernel) (by decide +kernel), by decide +kernel, by decide +kernel, by decide +kernel⟩, lw_i3 178 (by decide +kernel) (by decide +kernel), lw_i3 179 (by decide +kernel) (by decide +kernel)⟩
theorem lk_X11_288 : Cond.methodLink RX11 288 yX11_cannotOrder ∈ lw_good := lw_i3 185 (by decide +kernel) (by decide +kernel)
theorem mw_X11_cannotOrder : sMwV yX11_cannotOrder cX11_cannotOrder 1 (some .boolean) 0 := ⟨⟨lw_i3 188 (by decide +kernel) (by decide +kernel), lw_i1 1 (by decide +kernel) (by decide +kernel), by decide +kernel, by decide +kernel, by decide +kernel⟩, lw_i3 187 (by decide +kernel) (by decide +kernel), lw_in (List.mem_append_left _ (by decide +kernel)) (by decide +kernel)⟩
theorem fl_X11_74 : sFL RX11 74 11 10 := ⟨by decide, lw_i2 101 (by decide +kernel) (by decide +kernel)⟩
theorem fr_0_10 {I : sI} {J : sJ} : sF I J 0 11 10 = .ref 224 := by
  have e : sR 0 10 = 224 := by decide +kernel
  show Value.ref (sR 0 10) = _
  rw [e]
theorem lk_X11_291 : Cond.methodLink RX11 291 yX3_open ∈ lw_good := lw_i3 189 (by decide +kernel) (by decide +kernel)
theorem mw_X3_open : sMwV yX3_open cX3_open 4 none 2 := ⟨⟨lw_i3 192 (by decide +kernel) (by decide +kernel), lw_i1 10 (by decide +kernel) (by decide +kernel), by decide +kernel, by decide +kernel, by decide +kernel⟩, lw_i3 190 (by decide +kernel) (by decide +kernel), lw_i3 191 (by decide +kernel) (by decide +kernel)⟩
theorem lk_X11_294 : Cond.methodLink RX11 294 yX3_number ∈ lw_good := lw_i3 198 (by decide +kernel) (by decide +kernel)
theorem mw_X3_number : sMwV yX3_number cX3_number 3 (some .long) 0 := ⟨⟨lw_i3 201 (by decide +kernel) (by decide +kernel), lw_i1 10 (by decide +kernel) (by decide +kernel), by decide +kernel, by decide +kernel, by decide +kernel⟩, lw_i3 199 (by decide +kernel) (by decide +kernel), lw_i3 200 (by decide +kernel) (by decide +kernel)⟩
theorem lk_X11_298 : Cond.methodLink RX11 298 yX3_bind ∈ lw_good := lw_i3 210 (by decide +kernel) (by decide +kernel)
theorem lk_X11_302 : Cond.methodLink RX11 302 yX6_tellFraction ∈ lw_good := lw_i3 211 (by decide +kernel) (by decide +kernel)
theorem mw_X6_tellFraction : sMwV yX6_tellFraction cX6_tellFraction 7 none 2 := ⟨⟨lw_i3 214 (by decide +kernel) (by decide +kernel), lw_i1 7 (by decide +kernel) (by decide +kernel), by decide +kernel, by decide +kernel, by decide +kernel⟩, lw_i3 212 (by decide +kernel) (by decide +kernel), lw_i3 213 (by decide +kernel) (by decide +kernel)⟩
theorem lk_X11_305 : Cond.methodLink RX11 305 yX4_all ∈ lw_good := lw_i3 223 (by decide +kernel) (by decide +kernel)
theorem mw_X4_all : sMwV yX4_all cX4_all 1 (some .int) 0 := ⟨⟨lw_i3 226 (by decide +kernel) (by decide +kernel), lw_i1 5 (by decide +kernel) (by decide +kernel), by decide +kernel, by decide +kernel, by decide +kernel⟩, lw_i3 224 (by decide +kernel) (by decide +kernel), lw_i3 225 (by decide +kernel) (by decide +kernel)⟩
theorem lk_X11_308 : Cond.methodLink RX11 308 yX4_ringFree ∈ lw_good := lw_i3 227 (by decide +kernel) (by decide +kernel)
theorem mw_X4_ringFree : sMwV yX4_ringFree cX4_ringFree 4 (some .boolean) 1 := ⟨⟨lw_i3 230 (by decide +kernel) (by decide +kernel), lw_i1 5 (by decide +kernel) (by decide +kernel), by decide +kernel, by decide +kernel, by decide +kernel⟩, lw_i3 228 (by decide +kernel) (by decide +kernel), lw_i3 229 (by decide +kernel) (by decide +kernel)⟩
theorem fl_X11_314 : sFL RX11 314 4 1 := ⟨by decide, lw_i1 96 (by decide +kernel) (by decide +kernel)⟩
theorem ar_10 : sAr 10 1 12 := ⟨by decide, by decide +kernel, by decide +kernel⟩
theorem fr_8_1 {I : sI} {J : sJ} : sF I J 8 4 1 = .ref 10 := by
  have e : sR 8 1 = 10 := by decide +kernel
  show Value.ref (sR 8 1) = _
  rw [e]
theorem fl_X11_311 : sFL RX11 311 4 0 := ⟨by decide, lw_i1 93 (by decide +kernel) (by decide +kernel)⟩
theorem ar_9 : sAr 9 1 12 := ⟨by decide, by decide +kernel, by decide +kernel⟩
theorem fr_8_0 {I : sI} {J : sJ} : sF I J 8 4 0 = .ref 9 := by
  have e : sR 8 0 = 9 := by decide +kernel
  show Value.ref (sR 8 0) = _
  rw [e]
theorem fl_X11_330 : sFL RX11 330 2 1 := ⟨by decide, lw_i1 65 (by decide +kernel) (by decide +kernel)⟩
theorem ar_6 : sAr 6 1 60 := ⟨by decide, by decide +kernel, by decide +kernel⟩
theorem fr_4_1 {I : sI} {J : sJ} : sF I J 4 2 1 = .ref 6 := by
  have e : sR 4 1 = 6 := by decide +kernel
  show Value.ref (sR 4 1) = _
  rw [e]
theorem lk_X11_317 : Cond.methodLink RX11 317 yX11_neighbours ∈ lw_good := lw_i3 239 (by decide +kernel) (by decide +kernel)
theorem mw_X11_neighbours : sMwV yX11_neighbours cX11_neighbours 7 (some .int) 1 := ⟨⟨lw_i4 2 (by decide +kernel) (by decide +kernel), lw_i1 1 (by decide +kernel) (by decide +kernel), by decide +kernel, by decide +kernel, by decide +kernel⟩, lw_i4 1 (by decide +kernel) (by decide +kernel), lw_in (List.mem_append_left _ (by decide +kernel)) (by decide +kernel)⟩
theorem lk_X11_321 : Cond.methodLink RX11 321 yJ9_max_7cf53 ∈ lw_good := lw_i4 7 (by decide +kernel) (by decide +kernel)
theorem lk_X11_326 : Cond.methodLink RX11 326 yX11_choose ∈ lw_good := lw_i4 8 (by decide +kernel) (by decide +kernel)
theorem mw_X11_choose : sMwS yX11_choose cX11_choose 5 (some .long) 2 := ⟨⟨lw_i4 10 (by decide +kernel) (by decide +kernel), lw_i1 1 (by decide +kernel) (by decide +kernel), by decide +kernel, by decide +kernel, by decide +kernel⟩, lw_i4 9 (by decide +kernel) (by decide +kernel)⟩
theorem fl_X11_95 : sFL RX11 95 11 14 := ⟨by decide, lw_i2 105 (by decide +kernel) (by decide +kernel)⟩
theorem fr_0_14 {I : sI} {J : sJ} : sF I J 0 11 14 = .ref 247 := by
  have e : sR 0 14 = 247 := by decide +kernel
  show Value.ref (sR 0 14) = _
  rw [e]
theorem lk_X11_333 : Cond.methodLink RX11 333 yX2_countKinds ∈ lw_good := lw_i4 19 (by decide +kernel) (by decide +kernel)
theorem mw_X2_countKinds : sMwV yX2_countKinds cX2_countKinds 3 none 1 := ⟨⟨lw_i4 22 (by decide +kernel) (by decide +kernel), lw_i1 4 (by decide +kernel) (by decide +kernel), by decide +kernel, by decide +kernel, by decide +kernel⟩, lw_i4 20 (by decide +kernel) (by decide +kernel), lw_i4 21 (by decide +kernel) (by decide +kernel)⟩
theorem lk_X11_337 : Cond.methodLink RX11 337 yX11_unlikeKinds ∈ lw_good := lw_i4 23 (by decide +kernel) (by decide +kernel)
theorem mw_X11_unlikeKinds : sMwV yX11_unlikeKinds cX11_unlikeKinds 3 (some .int) 0 := ⟨⟨lw_i4 26 (by decide +kernel) (by decide +kernel), lw_i1 1 (by decide +kernel) (by decide +kernel), by decide +kernel, by decide +kernel, by decide +kernel⟩, lw_i4 25 (by decide +kernel) (by decide +kernel), lw_in (List.mem_append_left _ (by decide +kernel)) (by decide +kernel)⟩
theorem lk_X11_347 : Cond.methodLink RX11 347 yX11_seenSigns ∈ lw_good := lw_i4 35 (by decide +kernel) (by decide +kernel)
theorem mw_X11_seenSigns : sMwV yX11_seenSigns cX11_seenSigns 3 (some .int) 0 := ⟨⟨lw_i4 38 (by decide +kernel) (by decide +kernel), lw_i1 1 (by decide +kernel) (by decide +kernel), by decide +kernel, by decide +kernel, by decide +kernel⟩, lw_i4 37 (by decide +kernel) (by decide +kernel), lw_in (List.mem_append_left _ (by decide +kernel)) (by decide +kernel)⟩
theorem fl_X11_88 : sFL RX11 88 11 12 := ⟨by decide, lw_i2 103 (by decide +kernel) (by decide +kernel)⟩
theorem is_243 : sIs 243 0 := ⟨by decide, by decide +kernel, by decide +kernel, by decide⟩
theorem fr_0_12 {I : sI} {J : sJ} : sF I J 0 11 12 = .ref 243 := by
  have e : sR 0 12 = 243 := by decide +kernel
  show Value.ref (sR 0 12) = _
  rw [e]
theorem lk_X11_371 : Cond.methodLink RX11 371 yX0_become ∈ lw_good := lw_i4 39 (by decide +kernel) (by decide +kernel)
theorem mw_X0_become : sMwV yX0_become cX0_become 2 none 1 := ⟨⟨lw_i4 42 (by decide +kernel) (by decide +kernel), lw_i1 12 (by decide +kernel) (by decide +kernel), by decide +kernel, by decide +kernel, by decide +kernel⟩, lw_i4 40 (by decide +kernel) (by decide +kernel), lw_i4 41 (by decide +kernel) (by decide +kernel)⟩
theorem fl_X11_92 : sFL RX11 92 11 13 := ⟨by decide, lw_i2 104 (by decide +kernel) (by decide +kernel)⟩
theorem is_245 : sIs 245 0 := ⟨by decide, by decide +kernel, by decide +kernel, by decide⟩
theorem fr_0_13 {I : sI} {J : sJ} : sF I J 0 11 13 = .ref 245 := by
  have e : sR 0 13 = 245 := by decide +kernel
  show Value.ref (sR 0 13) = _
  rw [e]
theorem lk_X11_377 : Cond.methodLink RX11 377 yX0_timesPower ∈ lw_good := lw_i4 48 (by decide +kernel) (by decide +kernel)
theorem mw_X0_timesPower : sMwV yX0_timesPower cX0_timesPower 4 none 2 := ⟨⟨lw_i4 51 (by decide +kernel) (by decide +kernel), lw_i1 12 (by decide +kernel) (by decide +kernel), by decide +kernel, by decide +kernel, by decide +kernel⟩, lw_i4 49 (by decide +kernel) (by decide +kernel), lw_i4 50 (by decide +kernel) (by decide +kernel)⟩
theorem lk_X11_380 : Cond.methodLink RX11 380 yX0_against ∈ lw_good := lw_i4 53 (by decide +kernel) (by decide +kernel)
theorem mw_X0_against : sMwV yX0_against cX0_against 4 (some .int) 1 := ⟨⟨lw_i4 56 (by decide +kernel) (by decide +kernel), lw_i1 12 (by decide +kernel) (by decide +kernel), by decide +kernel, by decide +kernel, by decide +kernel⟩, lw_i4 54 (by decide +kernel) (by decide +kernel), lw_i4 55 (by decide +kernel) (by decide +kernel)⟩
theorem lk_X11_374 : Cond.methodLink RX11 374 yX0_times ∈ lw_good := lw_i4 43 (by decide +kernel) (by decide +kernel)
theorem lk_X11_340 : Cond.methodLink RX11 340 yX11_likelier ∈ lw_good := lw_i4 31 (by decide +kernel) (by decide +kernel)
theorem mw_X11_likelier : sMwV yX11_likelier cX11_likelier 6 (some .int) 3 := ⟨⟨lw_i4 34 (by decide +kernel) (by decide +kernel), lw_i1 1 (by decide +kernel) (by decide +kernel), by decide +kernel, by decide +kernel, by decide +kernel⟩, lw_i4 33 (by decide +kernel) (by decide +kernel), lw_in (List.mem_append_left _ (by decide +kernel)) (by decide +kernel)⟩
theorem lk_X11_344 : Cond.methodLink RX11 344 yX11_oneIsTooSmall ∈ lw_good := lw_i4 68 (by decide +kernel) (by decide +kernel)
theorem mw_X11_oneIsTooSmall : sMwS yX11_oneIsTooSmall cX11_oneIsTooSmall 3 (some .int) 3 := ⟨⟨lw_i4 70 (by decide +kernel) (by decide +kernel), lw_i1 1 (by decide +kernel) (by decide +kernel), by decide +kernel, by decide +kernel, by decide +kernel⟩, lw_i4 69 (by decide +kernel) (by decide +kernel)⟩
theorem lc_X11_384 : Cond.constant RX11 384 (1000000) ∈ lw_good := lw_i4 92 (by decide +kernel) (by decide +kernel)
theorem lk_X11_360 : Cond.methodLink RX11 360 yX11_shareToPower ∈ lw_good := lw_i4 88 (by decide +kernel) (by decide +kernel)
theorem mw_X11_shareToPower : sMwV yX11_shareToPower cX11_shareToPower 8 (some .long) 1 := ⟨⟨lw_i4 91 (by decide +kernel) (by decide +kernel), lw_i1 1 (by decide +kernel) (by decide +kernel), by decide +kernel, by decide +kernel, by decide +kernel⟩, lw_i4 90 (by decide +kernel) (by decide +kernel), lw_in (List.mem_append_left _ (by decide +kernel)) (by decide +kernel)⟩
theorem lk_X11_350 : Cond.methodLink RX11 350 yX2_clear ∈ lw_good := lw_i4 79 (by decide +kernel) (by decide +kernel)
theorem mw_X2_clear : sMwV yX2_clear cX2_clear 4 (some .boolean) 2 := ⟨⟨lw_i4 82 (by decide +kernel) (by decide +kernel), lw_i1 4 (by decide +kernel) (by decide +kernel), by decide +kernel, by decide +kernel, by decide +kernel⟩, lw_i4 80 (by decide +kernel) (by decide +kernel), lw_i4 81 (by decide +kernel) (by decide +kernel)⟩
theorem fl_X11_353 : sFL RX11 353 2 2 := ⟨by decide, lw_i1 68 (by decide +kernel) (by decide +kernel)⟩
theorem ar_7 : sAr 7 1 13 := ⟨by decide, by decide +kernel, by decide +kernel⟩
theorem fr_4_2 {I : sI} {J : sJ} : sF I J 4 2 2 = .ref 7 := by
  have e : sR 4 2 = 7 := by decide +kernel
  show Value.ref (sR 4 2) = _
  rw [e]
theorem lk_X11_356 : Cond.methodLink RX11 356 yX2_sameSigns ∈ lw_good := lw_i4 84 (by decide +kernel) (by decide +kernel)
theorem mw_X2_sameSigns : sMwV yX2_sameSigns cX2_sameSigns 5 (some .boolean) 3 := ⟨⟨lw_i4 87 (by decide +kernel) (by decide +kernel), lw_i1 4 (by decide +kernel) (by decide +kernel), by decide +kernel, by decide +kernel, by decide +kernel⟩, lw_i4 85 (by decide +kernel) (by decide +kernel), lw_i4 86 (by decide +kernel) (by decide +kernel)⟩
theorem lk_X11_364 : Cond.methodLink RX11 364 yX2_lengthOf ∈ lw_good := lw_i4 97 (by decide +kernel) (by decide +kernel)
theorem lk_X11_367 : Cond.methodLink RX11 367 yX11_rhymes ∈ lw_good := lw_i4 98 (by decide +kernel) (by decide +kernel)
theorem mw_X11_rhymes : sMwV yX11_rhymes cX11_rhymes 8 (some .boolean) 4 := ⟨⟨lw_i4 101 (by decide +kernel) (by decide +kernel), lw_i1 1 (by decide +kernel) (by decide +kernel), by decide +kernel, by decide +kernel, by decide +kernel⟩, lw_i4 100 (by decide +kernel) (by decide +kernel), lw_in (List.mem_append_left _ (by decide +kernel)) (by decide +kernel)⟩
theorem fl_X11_81 : sFL RX11 81 11 11 := ⟨by decide, lw_i2 102 (by decide +kernel) (by decide +kernel)⟩
theorem fr_0_11 {I : sI} {J : sJ} : sF I J 0 11 11 = .ref 227 := by
  have e : sR 0 11 = 227 := by decide +kernel
  show Value.ref (sR 0 11) = _
  rw [e]
theorem fl_X11_385 : sFL RX11 385 1 1 := ⟨by decide, lw_i2 57 (by decide +kernel) (by decide +kernel)⟩
theorem lk_X11_386 : Cond.methodLink RX11 386 yX1_add ∈ lw_good := lw_i4 110 (by decide +kernel) (by decide +kernel)
theorem mw_X1_add : sMwV yX1_add cX1_add 1 (some .int) 0 := ⟨⟨lw_i4 113 (by decide +kernel) (by decide +kernel), lw_i1 11 (by decide +kernel) (by decide +kernel), by decide +kernel, by decide +kernel, by decide +kernel⟩, lw_i4 111 (by decide +kernel) (by decide +kernel), lw_i4 112 (by decide +kernel) (by decide +kernel)⟩
theorem lk_X11_388 : Cond.methodLink RX11 388 yX1_has ∈ lw_good := lw_i4 118 (by decide +kernel) (by decide +kernel)
theorem mw_X1_has : sMwV yX1_has cX1_has 2 (some .boolean) 1 := ⟨⟨lw_i4 121 (by decide +kernel) (by decide +kernel), lw_i1 11 (by decide +kernel) (by decide +kernel), by decide +kernel, by decide +kernel, by decide +kernel⟩, lw_i4 119 (by decide +kernel) (by decide +kernel), lw_i4 120 (by decide +kernel) (by decide +kernel)⟩
theorem lk_X11_390 : Cond.methodLink RX11 390 yX11_isFind ∈ lw_good := lw_i4 122 (by decide +kernel) (by decide +kernel)
theorem mw_X11_isFind : sMwS yX11_isFind cX11_isFind 1 (some .boolean) 1 := ⟨⟨lw_i4 124 (by decide +kernel) (by decide +kernel), lw_i1 1 (by decide +kernel) (by decide +kernel), by decide +kernel, by decide +kernel, by decide +kernel⟩, lw_i4 123 (by decide +kernel) (by decide +kernel)⟩
theorem fl_X11_393 : sFL RX11 393 1 0 := ⟨by decide, lw_i2 55 (by decide +kernel) (by decide +kernel)⟩
theorem lk_X11_397 : Cond.methodLink RX11 397 yX11_narrowed ∈ lw_good := lw_i4 129 (by decide +kernel) (by decide +kernel)
theorem mw_X11_narrowed : sMwS yX11_narrowed cX11_narrowed 2 (some .int) 2 := ⟨⟨lw_i4 131 (by decide +kernel) (by decide +kernel), lw_i1 1 (by decide +kernel) (by decide +kernel), by decide +kernel, by decide +kernel, by decide +kernel⟩, lw_i4 130 (by decide +kernel) (by decide +kernel)⟩
theorem lk_X11_400 : Cond.methodLink RX11 400 yJ9_floorMod_7cf53 ∈ lw_good := lw_i4 132 (by decide +kernel) (by decide +kernel)
theorem mw_J9_floorMod_7cf53 : sMwS yJ9_floorMod_7cf53 cJ9_floorMod_7cf53 3 (some .int) 2 := ⟨⟨lw_i4 134 (by decide +kernel) (by decide +kernel), lw_i1 14 (by decide +kernel) (by decide +kernel), by decide +kernel, by decide +kernel, by decide +kernel⟩, lw_i4 133 (by decide +kernel) (by decide +kernel)⟩
theorem fl_X11_403 : sFL RX11 403 8 2 := ⟨by decide, lw_i1 112 (by decide +kernel) (by decide +kernel)⟩
theorem fr_3_2 {I : sI} {J : sJ} : sF I J 3 8 2 = .ref 11 := by
  have e : sR 3 2 = 11 := by decide +kernel
  show Value.ref (sR 3 2) = _
  rw [e]
theorem lk_X11_406 : Cond.methodLink RX11 406 yX1_standing ∈ lw_good := lw_i4 143 (by decide +kernel) (by decide +kernel)
theorem mw_X1_standing : sMwV yX1_standing cX1_standing 4 (some .int) 1 := ⟨⟨lw_i4 146 (by decide +kernel) (by decide +kernel), lw_i1 11 (by decide +kernel) (by decide +kernel), by decide +kernel, by decide +kernel, by decide +kernel⟩, lw_i4 144 (by decide +kernel) (by decide +kernel), lw_i4 145 (by decide +kernel) (by decide +kernel)⟩
theorem lk_X11_410 : Cond.methodLink RX11 410 yX1_saying ∈ lw_good := lw_i4 155 (by decide +kernel) (by decide +kernel)
theorem lk_X11_413 : Cond.methodLink RX11 413 yX11_unknownFinds ∈ lw_good := lw_i4 168 (by decide +kernel) (by decide +kernel)
theorem mw_X11_unknownFinds : sMwV yX11_unknownFinds cX11_unknownFinds 3 (some .int) 0 := ⟨⟨lw_i4 171 (by decide +kernel) (by decide +kernel), lw_i1 1 (by decide +kernel) (by decide +kernel), by decide +kernel, by decide +kernel, by decide +kernel⟩, lw_i4 170 (by decide +kernel) (by decide +kernel), lw_in (List.mem_append_left _ (by decide +kernel)) (by decide +kernel)⟩
theorem lk_X11_416 : Cond.methodLink RX11 416 yX1_listPairs ∈ lw_good := lw_i4 172 (by decide +kernel) (by decide +kernel)
theorem mw_X1_listPairs : sMwV yX1_listPairs cX1_listPairs 5 none 2 := ⟨⟨lw_i4 175 (by decide +kernel) (by decide +kernel), lw_i1 11 (by decide +kernel) (by decide +kernel), by decide +kernel, by decide +kernel, by decide +kernel⟩, lw_i4 173 (by decide +kernel) (by decide +kernel), lw_i4 174 (by decide +kernel) (by decide +kernel)⟩
theorem lk_X11_419 : Cond.methodLink RX11 419 yX1_partedBy ∈ lw_good := lw_i4 180 (by decide +kernel) (by decide +kernel)
theorem mw_X1_partedBy : sMwV yX1_partedBy cX1_partedBy 3 (some .boolean) 1 := ⟨⟨lw_i4 183 (by decide +kernel) (by decide +kernel), lw_i1 11 (by decide +kernel) (by decide +kernel), by decide +kernel, by decide +kernel, by decide +kernel⟩, lw_i4 181 (by decide +kernel) (by decide +kernel), lw_i4 182 (by decide +kernel) (by decide +kernel)⟩
theorem lk_X11_422 : Cond.methodLink RX11 422 yX1_depth ∈ lw_good := lw_i4 188 (by decide +kernel) (by decide +kernel)
theorem mw_X1_depth : sMwV yX1_depth cX1_depth 5 (some .int) 2 := ⟨⟨lw_i4 191 (by decide +kernel) (by decide +kernel), lw_i1 11 (by decide +kernel) (by decide +kernel), by decide +kernel, by decide +kernel, by decide +kernel⟩, lw_i4 189 (by decide +kernel) (by decide +kernel), lw_i4 190 (by decide +kernel) (by decide +kernel)⟩
theorem fl_X11_23 : sFL RX11 23 11 2 := ⟨by decide, lw_i2 93 (by decide +kernel) (by decide +kernel)⟩
theorem ar_12 : sAr 12 4 3 := ⟨by decide, by decide +kernel, by decide +kernel⟩
theorem fr_0_2 {I : sI} {J : sJ} : sF I J 0 11 2 = .ref 12 := by
  have e : sR 0 2 = 12 := by decide +kernel
  show Value.ref (sR 0 2) = _
  rw [e]
theorem el_4_3 {q : Nat} {i : Int32} (h : sAr q 4 3) (hi : vp_in i 3) : sIs (sR q i.toNatClampNeg) 8 := by
  have key : ∀ q, q < 282 → (sSp q).1 = 4 → (sSp q).2.1 = 3 → ∀ j, j < 3 → (sR q j < 282 ∧ (sSp (sR q j)).1 = 0 ∧ (sSp (sR q j)).2.1 = 8) := by decide +kernel
  obtain ⟨a, b, c⟩ := key q h.1 h.2.1 h.2.2 _ (Nat.not_le.mp fun z => hi (Or.inr z))
  exact ⟨a, b, c, by decide⟩
theorem lk_X11_425 : Cond.methodLink RX11 425 yX8_take ∈ lw_good := lw_i4 206 (by decide +kernel) (by decide +kernel)
theorem mw_X8_take : sMwV yX8_take cX8_take 3 none 1 := ⟨⟨lw_i4 209 (by decide +kernel) (by decide +kernel), lw_i1 3 (by decide +kernel) (by decide +kernel), by decide +kernel, by decide +kernel, by decide +kernel⟩, lw_i4 207 (by decide +kernel) (by decide +kernel), lw_i4 208 (by decide +kernel) (by decide +kernel)⟩
theorem fl_X11_27 : sFL RX11 27 11 3 := ⟨by decide, lw_i2 94 (by decide +kernel) (by decide +kernel)⟩
theorem ar_40 : sAr 40 2 3 := ⟨by decide, by decide +kernel, by decide +kernel⟩
theorem fr_0_3 {I : sI} {J : sJ} : sF I J 0 11 3 = .ref 40 := by
  have e : sR 0 3 = 40 := by decide +kernel
  show Value.ref (sR 0 3) = _
  rw [e]
theorem is_248 : sIs 248 12 := ⟨by decide, by decide +kernel, by decide +kernel, by decide⟩
theorem fl_X12_1 : sFL RX12 1 12 0 := ⟨by decide, lw_i7 1 (by decide +kernel) (by decide +kernel)⟩
theorem fl_X12_7 : sFL RX12 7 12 2 := ⟨by decide, lw_i7 3 (by decide +kernel) (by decide +kernel)⟩
theorem ar_249 : sAr 249 3 64 := ⟨by decide, by decide +kernel, by decide +kernel⟩
theorem fr_248_2 {I : sI} {J : sJ} : sF I J 248 12 2 = .ref 249 := by
  have e : sR 248 2 = 249 := by decide +kernel
  show Value.ref (sR 248 2) = _
  rw [e]
theorem fl_X12_11 : sFL RX12 11 12 1 := ⟨by decide, lw_i7 2 (by decide +kernel) (by decide +kernel)⟩
theorem lk_X12_14 : Cond.methodLink RX12 14 yX12_common ∈ lw_good := lw_i6 37 (by decide +kernel) (by decide +kernel)
theorem mw_X12_common : sMwS yX12_common cX12_common 10 (some .long) 2 := ⟨⟨lw_i6 39 (by decide +kernel) (by decide +kernel), lw_i1 13 (by decide +kernel) (by decide +kernel), by decide +kernel, by decide +kernel, by decide +kernel⟩, lw_i6 38 (by decide +kernel) (by decide +kernel)⟩
theorem lk_X12_18 : Cond.methodLink RX12 18 yX12_enters ∈ lw_good := lw_i5 183 (by decide +kernel) (by decide +kernel)
theorem mw_X12_enters : sMwV yX12_enters cX12_enters 3 none 1 := ⟨⟨lw_i5 186 (by decide +kernel) (by decide +kernel), lw_i1 13 (by decide +kernel) (by decide +kernel), by decide +kernel, by decide +kernel, by decide +kernel⟩, lw_i5 185 (by decide +kernel) (by decide +kernel), lw_in (List.mem_append_left _ (by decide +kernel)) (by decide +kernel)⟩
theorem fl_X12_22 : sFL RX12 22 12 4 := ⟨by decide, lw_i7 5 (by decide +kernel) (by decide +kernel)⟩
theorem fl_X12_25 : sFL RX12 25 12 3 := ⟨by decide, lw_i7 4 (by decide +kernel) (by decide +kernel)⟩
theorem ar_250 : sAr 250 1 80 := ⟨by decide, by decide +kernel, by decide +kernel⟩
theorem fr_248_3 {I : sI} {J : sJ} : sF I J 248 12 3 = .ref 250 := by
  have e : sR 248 3 = 250 := by decide +kernel
  show Value.ref (sR 248 3) = _
  rw [e]
theorem lk_X12_29 : Cond.methodLink RX12 29 yX12_in ∈ lw_good := lw_i5 71 (by decide +kernel) (by decide +kernel)
theorem mw_X12_in : sMwS yX12_in cX12_in 6 (some .boolean) 3 := ⟨⟨lw_i5 73 (by decide +kernel) (by decide +kernel), lw_i1 13 (by decide +kernel) (by decide +kernel), by decide +kernel, by decide +kernel, by decide +kernel⟩, lw_i5 72 (by decide +kernel) (by decide +kernel)⟩
theorem fl_X12_33 : sFL RX12 33 12 5 := ⟨by decide, lw_i7 6 (by decide +kernel) (by decide +kernel)⟩
theorem lk_X12_36 : Cond.methodLink RX12 36 yJ9_min_7cf53 ∈ lw_good := lw_i5 83 (by decide +kernel) (by decide +kernel)
theorem fl_X12_42 : sFL RX12 42 12 6 := ⟨by decide, lw_i7 7 (by decide +kernel) (by decide +kernel)⟩
theorem lc_X12_45 : Cond.constantLong RX12 45 (97) ∈ lw_good := lw_i5 92 (by decide +kernel) (by decide +kernel)
theorem lc_X12_47 : Cond.constantLong RX12 47 (108) ∈ lw_good := lw_i5 93 (by decide +kernel) (by decide +kernel)
theorem fl_X12_49 : sFL RX12 49 12 7 := ⟨by decide, lw_i7 8 (by decide +kernel) (by decide +kernel)⟩
theorem fl_X12_52 : sFL RX12 52 12 8 := ⟨by decide, lw_i7 9 (by decide +kernel) (by decide +kernel)⟩
theorem lk_X12_55 : Cond.methodLink RX12 55 yX12_signAt ∈ lw_good := lw_i5 88 (by decide +kernel) (by decide +kernel)
theorem mw_X12_signAt : sMwV yX12_signAt cX12_signAt 2 (some .int) 0 := ⟨⟨lw_i5 91 (by decide +kernel) (by decide +kernel), lw_i1 13 (by decide +kernel) (by decide +kernel), by decide +kernel, by decide +kernel, by decide +kernel⟩, lw_i5 90 (by decide +kernel) (by decide +kernel), lw_in (List.mem_append_left _ (by decide +kernel)) (by decide +kernel)⟩
theorem fl_X12_59 : sFL RX12 59 12 10 := ⟨by decide, lw_i7 11 (by decide +kernel) (by decide +kernel)⟩
theorem ar_252 : sAr 252 1 80 := ⟨by decide, by decide +kernel, by decide +kernel⟩
theorem fr_248_10 {I : sI} {J : sJ} : sF I J 248 12 10 = .ref 252 := by
  have e : sR 248 10 = 252 := by decide +kernel
  show Value.ref (sR 248 10) = _
  rw [e]
theorem fl_X12_62 : sFL RX12 62 12 9 := ⟨by decide, lw_i7 10 (by decide +kernel) (by decide +kernel)⟩
theorem ar_251 : sAr 251 1 24 := ⟨by decide, by decide +kernel, by decide +kernel⟩
theorem fr_248_9 {I : sI} {J : sJ} : sF I J 248 12 9 = .ref 251 := by
  have e : sR 248 9 = 251 := by decide +kernel
  show Value.ref (sR 248 9) = _
  rw [e]
theorem lk_X12_65 : Cond.methodLink RX12 65 yX12_flag ∈ lw_good := lw_i5 94 (by decide +kernel) (by decide +kernel)
theorem mw_X12_flag : sMwS yX12_flag cX12_flag 1 (some .int) 1 := ⟨⟨lw_i5 96 (by decide +kernel) (by decide +kernel), lw_i1 13 (by decide +kernel) (by decide +kernel), by decide +kernel, by decide +kernel, by decide +kernel⟩, lw_i5 95 (by decide +kernel) (by decide +kernel)⟩
theorem lk_X12_69 : Cond.methodLink RX12 69 yX12_begins ∈ lw_good := lw_i5 78 (by decide +kernel) (by decide +kernel)
theorem mw_X12_begins : sMwV yX12_begins cX12_begins 3 (some .int) 1 := ⟨⟨lw_i5 82 (by decide +kernel) (by decide +kernel), lw_i1 13 (by decide +kernel) (by decide +kernel), by decide +kernel, by decide +kernel, by decide +kernel⟩, lw_i5 80 (by decide +kernel) (by decide +kernel), lw_in (List.mem_append_left _ (by decide +kernel)) (by decide +kernel)⟩
theorem lk_X12_73 : Cond.methodLink RX12 73 yX12_reads ∈ lw_good := lw_i5 84 (by decide +kernel) (by decide +kernel)
theorem mw_X12_reads : sMwV yX12_reads cX12_reads 5 (some .int) 1 := ⟨⟨lw_i5 87 (by decide +kernel) (by decide +kernel), lw_i1 13 (by decide +kernel) (by decide +kernel), by decide +kernel, by decide +kernel, by decide +kernel⟩, lw_i5 86 (by decide +kernel) (by decide +kernel), lw_in (List.mem_append_left _ (by decide +kernel)) (by decide +kernel)⟩
theorem fl_X12_76 : sFL RX12 76 12 11 := ⟨by decide, lw_i7 12 (by decide +kernel) (by decide +kernel)⟩
theorem fl_X12_79 : sFL RX12 79 12 12 := ⟨by decide, lw_i7 13 (by decide +kernel) (by decide +kernel)⟩
theorem fl_X12_82 : sFL RX12 82 12 13 := ⟨by decide, lw_i7 14 (by decide +kernel) (by decide +kernel)⟩
theorem ar_253 : sAr 253 1 24 := ⟨by decide, by decide +kernel, by decide +kernel⟩
theorem fr_248_13 {I : sI} {J : sJ} : sF I J 248 12 13 = .ref 253 := by
  have e : sR 248 13 = 253 := by decide +kernel
  show Value.ref (sR 248 13) = _
  rw [e]
theorem fl_X12_88 : sFL RX12 88 12 15 := ⟨by decide, lw_i7 16 (by decide +kernel) (by decide +kernel)⟩
theorem fl_X12_85 : sFL RX12 85 12 14 := ⟨by decide, lw_i7 15 (by decide +kernel) (by decide +kernel)⟩
theorem ar_254 : sAr 254 1 80 := ⟨by decide, by decide +kernel, by decide +kernel⟩
theorem fr_248_14 {I : sI} {J : sJ} : sF I J 248 12 14 = .ref 254 := by
  have e : sR 248 14 = 254 := by decide +kernel
  show Value.ref (sR 248 14) = _
  rw [e]
theorem lk_X12_91 : Cond.methodLink RX12 91 yX12_refuse ∈ lw_good := lw_i5 101 (by decide +kernel) (by decide +kernel)
theorem mw_X12_refuse : sMwV yX12_refuse cX12_refuse 1 (some .int) 0 := ⟨⟨lw_i5 104 (by decide +kernel) (by decide +kernel), lw_i1 13 (by decide +kernel) (by decide +kernel), by decide +kernel, by decide +kernel, by decide +kernel⟩, lw_i5 103 (by decide +kernel) (by decide +kernel), lw_in (List.mem_append_left _ (by decide +kernel)) (by decide +kernel)⟩
theorem lc_X12_94 : Cond.constantLong RX12 94 (3) ∈ lw_good := lw_i5 112 (by decide +kernel) (by decide +kernel)
theorem lk_X12_96 : Cond.methodLink RX12 96 yX12_isTongue ∈ lw_good := lw_i5 109 (by decide +kernel) (by decide +kernel)
theorem mw_X12_isTongue : sMwS yX12_isTongue cX12_isTongue 1 (some .boolean) 1 := ⟨⟨lw_i5 111 (by decide +kernel) (by decide +kernel), lw_i1 13 (by decide +kernel) (by decide +kernel), by decide +kernel, by decide +kernel, by decide +kernel⟩, lw_i5 110 (by decide +kernel) (by decide +kernel)⟩
theorem fl_X12_100 : sFL RX12 100 12 18 := ⟨by decide, lw_i7 19 (by decide +kernel) (by decide +kernel)⟩
theorem ar_257 : sAr 257 1 4 := ⟨by decide, by decide +kernel, by decide +kernel⟩
theorem fr_248_18 {I : sI} {J : sJ} : sF I J 248 12 18 = .ref 257 := by
  have e : sR 248 18 = 257 := by decide +kernel
  show Value.ref (sR 248 18) = _
  rw [e]
theorem lc_X12_103 : Cond.constantLong RX12 103 (65) ∈ lw_good := lw_i5 113 (by decide +kernel) (by decide +kernel)
theorem lc_X12_105 : Cond.constantLong RX12 105 (72) ∈ lw_good := lw_i5 114 (by decide +kernel) (by decide +kernel)
theorem fl_X12_107 : sFL RX12 107 12 20 := ⟨by decide, lw_i7 21 (by decide +kernel) (by decide +kernel)⟩
theorem ar_259 : sAr 259 1 480 := ⟨by decide, by decide +kernel, by decide +kernel⟩
theorem fr_248_20 {I : sI} {J : sJ} : sF I J 248 12 20 = .ref 259 := by
  have e : sR 248 20 = 259 := by decide +kernel
  show Value.ref (sR 248 20) = _
  rw [e]
theorem fl_X12_110 : sFL RX12 110 12 19 := ⟨by decide, lw_i7 20 (by decide +kernel) (by decide +kernel)⟩
theorem ar_258 : sAr 258 1 80 := ⟨by decide, by decide +kernel, by decide +kernel⟩
theorem fr_248_19 {I : sI} {J : sJ} : sF I J 248 12 19 = .ref 258 := by
  have e : sR 248 19 = 258 := by decide +kernel
  show Value.ref (sR 248 19) = _
  rw [e]
theorem lk_X12_113 : Cond.methodLink RX12 113 yX12_letterThen ∈ lw_good := lw_i5 119 (by decide +kernel) (by decide +kernel)
theorem mw_X12_letterThen : sMwV yX12_letterThen cX12_letterThen 4 (some .int) 3 := ⟨⟨lw_i5 122 (by decide +kernel) (by decide +kernel), lw_i1 13 (by decide +kernel) (by decide +kernel), by decide +kernel, by decide +kernel, by decide +kernel⟩, lw_i5 121 (by decide +kernel) (by decide +kernel), lw_in (List.mem_append_left _ (by decide +kernel)) (by decide +kernel)⟩
theorem fl_X12_117 : sFL RX12 117 12 21 := ⟨by decide, lw_i7 22 (by decide +kernel) (by decide +kernel)⟩
theorem fl_X12_120 : sFL RX12 120 12 22 := ⟨by decide, lw_i7 23 (by decide +kernel) (by decide +kernel)⟩
theorem fl_X12_123 : sFL RX12 123 12 23 := ⟨by decide, lw_i7 24 (by decide +kernel) (by decide +kernel)⟩
theorem lc_X12_127 : Cond.constantLong RX12 127 (15) ∈ lw_good := lw_i5 162 (by decide +kernel) (by decide +kernel)
theorem fl_X12_129 : sFL RX12 129 12 24 := ⟨by decide, lw_i7 25 (by decide +kernel) (by decide +kernel)⟩
theorem fl_X12_132 : sFL RX12 132 12 25 := ⟨by decide, lw_i7 26 (by decide +kernel) (by decide +kernel)⟩
theorem ar_260 : sAr 260 1 24 := ⟨by decide, by decide +kernel, by decide +kernel⟩
theorem fr_248_25 {I : sI} {J : sJ} : sF I J 248 12 25 = .ref 260 := by
  have e : sR 248 25 = 260 := by decide +kernel
  show Value.ref (sR 248 25) = _
  rw [e]
theorem fl_X12_135 : sFL RX12 135 12 26 := ⟨by decide, lw_i7 27 (by decide +kernel) (by decide +kernel)⟩
theorem ar_261 : sAr 261 1 160 := ⟨by decide, by decide +kernel, by decide +kernel⟩
theorem fr_248_26 {I : sI} {J : sJ} : sF I J 248 12 26 = .ref 261 := by
  have e : sR 248 26 = 261 := by decide +kernel
  show Value.ref (sR 248 26) = _
  rw [e]
theorem lk_X12_138 : Cond.methodLink RX12 138 yX12_letterOf ∈ lw_good := lw_i5 159 (by decide +kernel) (by decide +kernel)
theorem mw_X12_letterOf : sMwS yX12_letterOf cX12_letterOf 3 (some .int) 2 := ⟨⟨lw_i5 161 (by decide +kernel) (by decide +kernel), lw_i1 13 (by decide +kernel) (by decide +kernel), by decide +kernel, by decide +kernel, by decide +kernel⟩, lw_i5 160 (by decide +kernel) (by decide +kernel)⟩
theorem lc_X12_142 : Cond.constantLong RX12 142 ((-1)) ∈ lw_good := lw_i5 163 (by decide +kernel) (by decide +kernel)
theorem lk_X12_144 : Cond.methodLink RX12 144 yX12_withLetter ∈ lw_good := lw_i5 164 (by decide +kernel) (by decide +kernel)
theorem mw_X12_withLetter : sMwS yX12_withLetter cX12_withLetter 4 (some .long) 3 := ⟨⟨lw_i5 166 (by decide +kernel) (by decide +kernel), lw_i1 13 (by decide +kernel) (by decide +kernel), by decide +kernel, by decide +kernel, by decide +kernel⟩, lw_i5 165 (by decide +kernel) (by decide +kernel)⟩
theorem fl_X12_148 : sFL RX12 148 12 30 := ⟨by decide, lw_i7 31 (by decide +kernel) (by decide +kernel)⟩
theorem lk_X12_151 : Cond.methodLink RX12 151 yX12_mayBe ∈ lw_good := lw_i5 151 (by decide +kernel) (by decide +kernel)
theorem mw_X12_mayBe : sMwV yX12_mayBe cX12_mayBe 4 (some .boolean) 2 := ⟨⟨lw_i5 154 (by decide +kernel) (by decide +kernel), lw_i1 13 (by decide +kernel) (by decide +kernel), by decide +kernel, by decide +kernel, by decide +kernel⟩, lw_i5 153 (by decide +kernel) (by decide +kernel), lw_in (List.mem_append_left _ (by decide +kernel)) (by decide +kernel)⟩
theorem fl_X12_155 : sFL RX12 155 12 27 := ⟨by decide, lw_i7 28 (by decide +kernel) (by decide +kernel)⟩
theorem ar_262 : sAr 262 3 20002 := ⟨by decide, by decide +kernel, by decide +kernel⟩
theorem fr_248_27 {I : sI} {J : sJ} : sF I J 248 12 27 = .ref 262 := by
  have e : sR 248 27 = 262 := by decide +kernel
  show Value.ref (sR 248 27) = _
  rw [e]
theorem lk_X12_158 : Cond.methodLink RX12 158 yX12_fits ∈ lw_good := lw_i5 155 (by decide +kernel) (by decide +kernel)
theorem mw_X12_fits : sMwV yX12_fits cX12_fits 14 (some .long) 4 := ⟨⟨lw_i5 158 (by decide +kernel) (by decide +kernel), lw_i1 13 (by decide +kernel) (by decide +kernel), by decide +kernel, by decide +kernel, by decide +kernel⟩, lw_i5 157 (by decide +kernel) (by decide +kernel), lw_in (List.mem_append_left _ (by decide +kernel)) (by decide +kernel)⟩
theorem fl_X12_162 : sFL RX12 162 12 28 := ⟨by decide, lw_i7 29 (by decide +kernel) (by decide +kernel)⟩
theorem ar_263 : sAr 263 1 20002 := ⟨by decide, by decide +kernel, by decide +kernel⟩
theorem fr_248_28 {I : sI} {J : sJ} : sF I J 248 12 28 = .ref 263 := by
  have e : sR 248 28 = 263 := by decide +kernel
  show Value.ref (sR 248 28) = _
  rw [e]
theorem fl_X12_169 : sFL RX12 169 12 29 := ⟨by decide, lw_i7 30 (by decide +kernel) (by decide +kernel)⟩
theorem ar_264 : sAr 264 1 25 := ⟨by decide, by decide +kernel, by decide +kernel⟩
theorem fr_248_29 {I : sI} {J : sJ} : sF I J 248 12 29 = .ref 264 := by
  have e : sR 248 29 = 264 := by decide +kernel
  show Value.ref (sR 248 29) = _
  rw [e]
theorem lk_X12_165 : Cond.methodLink RX12 165 yX12_goesOn ∈ lw_good := lw_i5 147 (by decide +kernel) (by decide +kernel)
theorem mw_X12_goesOn : sMwV yX12_goesOn cX12_goesOn 12 (some .boolean) 4 := ⟨⟨lw_i5 150 (by decide +kernel) (by decide +kernel), lw_i1 13 (by decide +kernel) (by decide +kernel), by decide +kernel, by decide +kernel, by decide +kernel⟩, lw_i5 149 (by decide +kernel) (by decide +kernel), lw_in (List.mem_append_left _ (by decide +kernel)) (by decide +kernel)⟩
theorem fl_X12_178 : sFL RX12 178 12 31 := ⟨by decide, lw_i7 32 (by decide +kernel) (by decide +kernel)⟩
theorem ar_265 : sAr 265 3 20000 := ⟨by decide, by decide +kernel, by decide +kernel⟩
theorem fr_248_31 {I : sI} {J : sJ} : sF I J 248 12 31 = .ref 265 := by
  have e : sR 248 31 = 265 := by decide +kernel
  show Value.ref (sR 248 31) = _
  rw [e]
theorem lk_X12_172 : Cond.methodLink RX12 172 yX12_levelBegin ∈ lw_good := lw_i5 171 (by decide +kernel) (by decide +kernel)
theorem mw_X12_levelBegin : sMwV yX12_levelBegin cX12_levelBegin 2 (some .int) 1 := ⟨⟨lw_i5 174 (by decide +kernel) (by decide +kernel), lw_i1 13 (by decide +kernel) (by decide +kernel), by decide +kernel, by decide +kernel, by decide +kernel⟩, lw_i5 173 (by decide +kernel) (by decide +kernel), lw_in (List.mem_append_left _ (by decide +kernel)) (by decide +kernel)⟩
theorem fl_X12_175 : sFL RX12 175 12 32 := ⟨by decide, lw_i7 33 (by decide +kernel) (by decide +kernel)⟩
theorem lk_X12_181 : Cond.methodLink RX12 181 yX12_sinks ∈ lw_good := lw_i5 175 (by decide +kernel) (by decide +kernel)
theorem mw_X12_sinks : sMwV yX12_sinks cX12_sinks 7 none 2 := ⟨⟨lw_i5 178 (by decide +kernel) (by decide +kernel), lw_i1 13 (by decide +kernel) (by decide +kernel), by decide +kernel, by decide +kernel, by decide +kernel⟩, lw_i5 177 (by decide +kernel) (by decide +kernel), lw_in (List.mem_append_left _ (by decide +kernel)) (by decide +kernel)⟩
theorem lk_X12_185 : Cond.methodLink RX12 185 yX12_takesDisc ∈ lw_good := lw_i5 139 (by decide +kernel) (by decide +kernel)
theorem mw_X12_takesDisc : sMwV yX12_takesDisc cX12_takesDisc 5 none 1 := ⟨⟨lw_i5 142 (by decide +kernel) (by decide +kernel), lw_i1 13 (by decide +kernel) (by decide +kernel), by decide +kernel, by decide +kernel, by decide +kernel⟩, lw_i5 141 (by decide +kernel) (by decide +kernel), lw_in (List.mem_append_left _ (by decide +kernel)) (by decide +kernel)⟩
theorem lk_X12_189 : Cond.methodLink RX12 189 yX12_searches ∈ lw_good := lw_i5 143 (by decide +kernel) (by decide +kernel)
theorem mw_X12_searches : sMwV yX12_searches cX12_searches 8 (some .boolean) 1 := ⟨⟨lw_i5 146 (by decide +kernel) (by decide +kernel), lw_i1 13 (by decide +kernel) (by decide +kernel), by decide +kernel, by decide +kernel, by decide +kernel⟩, lw_i5 145 (by decide +kernel) (by decide +kernel), lw_in (List.mem_append_left _ (by decide +kernel)) (by decide +kernel)⟩
theorem lk_X12_192 : Cond.methodLink RX12 192 yX12_sorts ∈ lw_good := lw_i5 167 (by decide +kernel) (by decide +kernel)
theorem mw_X12_sorts : sMwV yX12_sorts cX12_sorts 5 none 0 := ⟨⟨lw_i5 170 (by decide +kernel) (by decide +kernel), lw_i1 13 (by decide +kernel) (by decide +kernel), by decide +kernel, by decide +kernel, by decide +kernel⟩, lw_i5 169 (by decide +kernel) (by decide +kernel), lw_in (List.mem_append_left _ (by decide +kernel)) (by decide +kernel)⟩
theorem lk_X12_196 : Cond.methodLink RX12 196 yX12_isAsked ∈ lw_good := lw_i5 131 (by decide +kernel) (by decide +kernel)
theorem mw_X12_isAsked : sMwV yX12_isAsked cX12_isAsked 2 (some .boolean) 1 := ⟨⟨lw_i5 134 (by decide +kernel) (by decide +kernel), lw_i1 13 (by decide +kernel) (by decide +kernel), by decide +kernel, by decide +kernel, by decide +kernel⟩, lw_i5 133 (by decide +kernel) (by decide +kernel), lw_in (List.mem_append_left _ (by decide +kernel)) (by decide +kernel)⟩
theorem lk_X12_199 : Cond.methodLink RX12 199 yX12_all ∈ lw_good := lw_i5 135 (by decide +kernel) (by decide +kernel)
theorem mw_X12_all : sMwV yX12_all cX12_all 3 (some .boolean) 1 := ⟨⟨lw_i5 138 (by decide +kernel) (by decide +kernel), lw_i1 13 (by decide +kernel) (by decide +kernel), by decide +kernel, by decide +kernel, by decide +kernel⟩, lw_i5 137 (by decide +kernel) (by decide +kernel), lw_in (List.mem_append_left _ (by decide +kernel)) (by decide +kernel)⟩
theorem fl_X12_202 : sFL RX12 202 12 33 := ⟨by decide, lw_i7 34 (by decide +kernel) (by decide +kernel)⟩
theorem lk_X12_205 : Cond.methodLink RX12 205 yX12_entersReading ∈ lw_good := lw_i5 179 (by decide +kernel) (by decide +kernel)
theorem mw_X12_entersReading : sMwV yX12_entersReading cX12_entersReading 4 none 1 := ⟨⟨lw_i5 182 (by decide +kernel) (by decide +kernel), lw_i1 13 (by decide +kernel) (by decide +kernel), by decide +kernel, by decide +kernel, by decide +kernel⟩, lw_i5 181 (by decide +kernel) (by decide +kernel), lw_in (List.mem_append_left _ (by decide +kernel)) (by decide +kernel)⟩
theorem lc_X12_208 : Cond.constantLong RX12 208 (199) ∈ lw_good := lw_i5 191 (by decide +kernel) (by decide +kernel)
theorem lc_X12_210 : Cond.constantLong RX12 210 (11) ∈ lw_good := lw_i5 200 (by decide +kernel) (by decide +kernel)
theorem lk_X12_212 : Cond.methodLink RX12 212 yX12_hasKind ∈ lw_good := lw_i5 201 (by decide +kernel) (by decide +kernel)
theorem mw_X12_hasKind : sMwV yX12_hasKind cX12_hasKind 4 (some .boolean) 1 := ⟨⟨lw_i5 204 (by decide +kernel) (by decide +kernel), lw_i1 13 (by decide +kernel) (by decide +kernel), by decide +kernel, by decide +kernel, by decide +kernel⟩, lw_i5 203 (by decide +kernel) (by decide +kernel), lw_in (List.mem_append_left _ (by decide +kernel)) (by decide +kernel)⟩
theorem fl_X12_215 : sFL RX12 215 12 34 := ⟨by decide, lw_i7 35 (by decide +kernel) (by decide +kernel)⟩
theorem ar_266 : sAr 266 1 4 := ⟨by decide, by decide +kernel, by decide +kernel⟩
theorem fr_248_34 {I : sI} {J : sJ} : sF I J 248 12 34 = .ref 266 := by
  have e : sR 248 34 = 266 := by decide +kernel
  show Value.ref (sR 248 34) = _
  rw [e]
theorem fl_X12_218 : sFL RX12 218 12 35 := ⟨by decide, lw_i7 36 (by decide +kernel) (by decide +kernel)⟩
theorem ar_267 : sAr 267 1 12 := ⟨by decide, by decide +kernel, by decide +kernel⟩
theorem fr_248_35 {I : sI} {J : sJ} : sF I J 248 12 35 = .ref 267 := by
  have e : sR 248 35 = 267 := by decide +kernel
  show Value.ref (sR 248 35) = _
  rw [e]
theorem fl_X12_221 : sFL RX12 221 12 36 := ⟨by decide, lw_i7 37 (by decide +kernel) (by decide +kernel)⟩
theorem ar_268 : sAr 268 2 20002 := ⟨by decide, by decide +kernel, by decide +kernel⟩
theorem fr_248_36 {I : sI} {J : sJ} : sF I J 248 12 36 = .ref 268 := by
  have e : sR 248 36 = 268 := by decide +kernel
  show Value.ref (sR 248 36) = _
  rw [e]
theorem fl_X12_225 : sFL RX12 225 12 37 := ⟨by decide, lw_i7 38 (by decide +kernel) (by decide +kernel)⟩
theorem lc_X12_228 : Cond.constant RX12 228 (1103515245) ∈ lw_good := lw_i5 234 (by decide +kernel) (by decide +kernel)
theorem lc_X12_229 : Cond.constantLong RX12 229 (12) ∈ lw_good := lw_i5 229 (by decide +kernel) (by decide +kernel)
theorem fl_X12_234 : sFL RX12 234 12 38 := ⟨by decide, lw_i7 39 (by decide +kernel) (by decide +kernel)⟩
theorem ar_269 : sAr 269 1 12 := ⟨by decide, by decide +kernel, by decide +kernel⟩
theorem fr_248_38 {I : sI} {J : sJ} : sF I J 248 12 38 = .ref 269 := by
  have e : sR 248 38 = 269 := by decide +kernel
  show Value.ref (sR 248 38) = _
  rw [e]
theorem lk_X12_231 : Cond.methodLink RX12 231 yX12_draws ∈ lw_good := lw_i5 230 (by decide +kernel) (by decide +kernel)
theorem mw_X12_draws : sMwV yX12_draws cX12_draws 2 (some .int) 1 := ⟨⟨lw_i5 233 (by decide +kernel) (by decide +kernel), lw_i1 13 (by decide +kernel) (by decide +kernel), by decide +kernel, by decide +kernel, by decide +kernel⟩, lw_i5 232 (by decide +kernel) (by decide +kernel), lw_in (List.mem_append_left _ (by decide +kernel)) (by decide +kernel)⟩
theorem lk_X12_237 : Cond.methodLink RX12 237 yJ9_max_7cf53 ∈ lw_good := lw_i5 239 (by decide +kernel) (by decide +kernel)
theorem lc_X12_240 : Cond.constantLong RX12 240 (4095) ∈ lw_good := lw_i6 4 (by decide +kernel) (by decide +kernel)
theorem lk_X12_242 : Cond.methodLink RX12 242 yX12_has ∈ lw_good := lw_i6 5 (by decide +kernel) (by decide +kernel)
theorem mw_X12_has : sMwS yX12_has cX12_has 2 (some .boolean) 2 := ⟨⟨lw_i6 7 (by decide +kernel) (by decide +kernel), lw_i1 13 (by decide +kernel) (by decide +kernel), by decide +kernel, by decide +kernel, by decide +kernel⟩, lw_i6 6 (by decide +kernel) (by decide +kernel)⟩
theorem fl_X12_245 : sFL RX12 245 12 16 := ⟨by decide, lw_i7 17 (by decide +kernel) (by decide +kernel)⟩
theorem ar_255 : sAr 255 1 12 := ⟨by decide, by decide +kernel, by decide +kernel⟩
theorem fr_248_16 {I : sI} {J : sJ} : sF I J 248 12 16 = .ref 255 := by
  have e : sR 248 16 = 255 := by decide +kernel
  show Value.ref (sR 248 16) = _
  rw [e]
theorem fl_X12_248 : sFL RX12 248 12 17 := ⟨by decide, lw_i7 18 (by decide +kernel) (by decide +kernel)⟩
theorem ar_256 : sAr 256 1 12 := ⟨by decide, by decide +kernel, by decide +kernel⟩
theorem fr_248_17 {I : sI} {J : sJ} : sF I J 248 12 17 = .ref 256 := by
  have e : sR 248 17 = 256 := by decide +kernel
  show Value.ref (sR 248 17) = _
  rw [e]
theorem fl_X12_251 : sFL RX12 251 12 39 := ⟨by decide, lw_i7 40 (by decide +kernel) (by decide +kernel)⟩
theorem ar_270 : sAr 270 3 16384 := ⟨by decide, by decide +kernel, by decide +kernel⟩
theorem fr_248_39 {I : sI} {J : sJ} : sF I J 248 12 39 = .ref 270 := by
  have e : sR 248 39 = 270 := by decide +kernel
  show Value.ref (sR 248 39) = _
  rw [e]
theorem lk_X12_254 : Cond.methodLink RX12 254 yX12_mayCome ∈ lw_good := lw_i6 25 (by decide +kernel) (by decide +kernel)
theorem mw_X12_mayCome : sMwV yX12_mayCome cX12_mayCome 8 (some .boolean) 5 := ⟨⟨lw_i6 28 (by decide +kernel) (by decide +kernel), lw_i1 13 (by decide +kernel) (by decide +kernel), by decide +kernel, by decide +kernel, by decide +kernel⟩, lw_i6 27 (by decide +kernel) (by decide +kernel), lw_in (List.mem_append_left _ (by decide +kernel)) (by decide +kernel)⟩
theorem lc_X12_258 : Cond.constantLong RX12 258 (14) ∈ lw_good := lw_i6 20 (by decide +kernel) (by decide +kernel)
theorem lk_X12_260 : Cond.methodLink RX12 260 yX12_isOrdered ∈ lw_good := lw_i6 16 (by decide +kernel) (by decide +kernel)
theorem mw_X12_isOrdered : sMwV yX12_isOrdered cX12_isOrdered 1 (some .boolean) 0 := ⟨⟨lw_i6 19 (by decide +kernel) (by decide +kernel), lw_i1 13 (by decide +kernel) (by decide +kernel), by decide +kernel, by decide +kernel, by decide +kernel⟩, lw_i6 18 (by decide +kernel) (by decide +kernel), lw_in (List.mem_append_left _ (by decide +kernel)) (by decide +kernel)⟩
theorem lk_X12_264 : Cond.methodLink RX12 264 yX12_ordersOf ∈ lw_good := lw_i6 21 (by decide +kernel) (by decide +kernel)
theorem mw_X12_ordersOf : sMwV yX12_ordersOf cX12_ordersOf 9 (some .long) 3 := ⟨⟨lw_i6 24 (by decide +kernel) (by decide +kernel), lw_i1 13 (by decide +kernel) (by decide +kernel), by decide +kernel, by decide +kernel, by decide +kernel⟩, lw_i6 23 (by decide +kernel) (by decide +kernel), lw_in (List.mem_append_left _ (by decide +kernel)) (by decide +kernel)⟩
theorem lk_X12_268 : Cond.methodLink RX12 268 yX12_entersFraction ∈ lw_good := lw_i6 33 (by decide +kernel) (by decide +kernel)
theorem mw_X12_entersFraction : sMwV yX12_entersFraction cX12_entersFraction 7 none 2 := ⟨⟨lw_i6 36 (by decide +kernel) (by decide +kernel), lw_i1 13 (by decide +kernel) (by decide +kernel), by decide +kernel, by decide +kernel, by decide +kernel⟩, lw_i6 35 (by decide +kernel) (by decide +kernel), lw_in (List.mem_append_left _ (by decide +kernel)) (by decide +kernel)⟩
theorem lk_X12_272 : Cond.methodLink RX12 272 yX12_groupOf ∈ lw_good := lw_i6 52 (by decide +kernel) (by decide +kernel)
theorem mw_X12_groupOf : sMwV yX12_groupOf cX12_groupOf 4 (some .int) 1 := ⟨⟨lw_i6 55 (by decide +kernel) (by decide +kernel), lw_i1 13 (by decide +kernel) (by decide +kernel), by decide +kernel, by decide +kernel, by decide +kernel⟩, lw_i6 54 (by decide +kernel) (by decide +kernel), lw_in (List.mem_append_left _ (by decide +kernel)) (by decide +kernel)⟩
theorem lk_X12_275 : Cond.methodLink RX12 275 yX12_neighbours ∈ lw_good := lw_i6 48 (by decide +kernel) (by decide +kernel)
theorem mw_X12_neighbours : sMwV yX12_neighbours cX12_neighbours 4 (some .int) 1 := ⟨⟨lw_i6 51 (by decide +kernel) (by decide +kernel), lw_i1 13 (by decide +kernel) (by decide +kernel), by decide +kernel, by decide +kernel, by decide +kernel⟩, lw_i6 50 (by decide +kernel) (by decide +kernel), lw_in (List.mem_append_left _ (by decide +kernel)) (by decide +kernel)⟩
theorem lk_X12_278 : Cond.methodLink RX12 278 yJ6_bitCount_0f7a4 ∈ lw_good := lw_i6 60 (by decide +kernel) (by decide +kernel)
theorem fl_X12_283 : sFL RX12 283 12 40 := ⟨by decide, lw_i7 41 (by decide +kernel) (by decide +kernel)⟩
theorem ar_271 : sAr 271 1 80 := ⟨by decide, by decide +kernel, by decide +kernel⟩
theorem fr_248_40 {I : sI} {J : sJ} : sF I J 248 12 40 = .ref 271 := by
  have e : sR 248 40 = 271 := by decide +kernel
  show Value.ref (sR 248 40) = _
  rw [e]
theorem lk_X12_286 : Cond.methodLink RX12 286 yX12_isClear ∈ lw_good := lw_i6 65 (by decide +kernel) (by decide +kernel)
theorem mw_X12_isClear : sMwV yX12_isClear cX12_isClear 6 (some .boolean) 1 := ⟨⟨lw_i6 68 (by decide +kernel) (by decide +kernel), lw_i1 13 (by decide +kernel) (by decide +kernel), by decide +kernel, by decide +kernel, by decide +kernel⟩, lw_i6 67 (by decide +kernel) (by decide +kernel), lw_in (List.mem_append_left _ (by decide +kernel)) (by decide +kernel)⟩
theorem fl_X12_289 : sFL RX12 289 12 42 := ⟨by decide, lw_i7 43 (by decide +kernel) (by decide +kernel)⟩
theorem fl_X12_292 : sFL RX12 292 12 43 := ⟨by decide, lw_i7 44 (by decide +kernel) (by decide +kernel)⟩
theorem fl_X12_295 : sFL RX12 295 12 41 := ⟨by decide, lw_i7 42 (by decide +kernel) (by decide +kernel)⟩
theorem ar_272 : sAr 272 1 13 := ⟨by decide, by decide +kernel, by decide +kernel⟩
theorem fr_248_41 {I : sI} {J : sJ} : sF I J 248 12 41 = .ref 272 := by
  have e : sR 248 41 = 272 := by decide +kernel
  show Value.ref (sR 248 41) = _
  rw [e]
theorem lk_X12_298 : Cond.methodLink RX12 298 yX12_counts ∈ lw_good := lw_i6 73 (by decide +kernel) (by decide +kernel)
theorem mw_X12_counts : sMwV yX12_counts cX12_counts 2 none 0 := ⟨⟨lw_i6 76 (by decide +kernel) (by decide +kernel), lw_i1 13 (by decide +kernel) (by decide +kernel), by decide +kernel, by decide +kernel, by decide +kernel⟩, lw_i6 75 (by decide +kernel) (by decide +kernel), lw_in (List.mem_append_left _ (by decide +kernel)) (by decide +kernel)⟩
theorem lc_X12_301 : Cond.constantLong RX12 301 (10000) ∈ lw_good := lw_i6 95 (by decide +kernel) (by decide +kernel)
theorem lk_X12_303 : Cond.methodLink RX12 303 yX12_one ∈ lw_good := lw_i6 89 (by decide +kernel) (by decide +kernel)
theorem mw_X12_one : sMwS yX12_one cX12_one 1 none 1 := ⟨⟨lw_i6 91 (by decide +kernel) (by decide +kernel), lw_i1 13 (by decide +kernel) (by decide +kernel), by decide +kernel, by decide +kernel, by decide +kernel⟩, lw_i6 90 (by decide +kernel) (by decide +kernel)⟩
theorem lk_X12_307 : Cond.methodLink RX12 307 yX12_times ∈ lw_good := lw_i6 92 (by decide +kernel) (by decide +kernel)
theorem mw_X12_times : sMwS yX12_times cX12_times 5 none 2 := ⟨⟨lw_i6 94 (by decide +kernel) (by decide +kernel), lw_i1 13 (by decide +kernel) (by decide +kernel), by decide +kernel, by decide +kernel, by decide +kernel⟩, lw_i6 93 (by decide +kernel) (by decide +kernel)⟩
theorem fl_X12_311 : sFL RX12 311 12 44 := ⟨by decide, lw_i7 45 (by decide +kernel) (by decide +kernel)⟩
theorem ar_273 : sAr 273 1 65 := ⟨by decide, by decide +kernel, by decide +kernel⟩
theorem fr_248_44 {I : sI} {J : sJ} : sF I J 248 12 44 = .ref 273 := by
  have e : sR 248 44 = 273 := by decide +kernel
  show Value.ref (sR 248 44) = _
  rw [e]
theorem lk_X12_314 : Cond.methodLink RX12 314 yX12_weighs ∈ lw_good := lw_i6 85 (by decide +kernel) (by decide +kernel)
theorem mw_X12_weighs : sMwV yX12_weighs cX12_weighs 5 none 3 := ⟨⟨lw_i6 88 (by decide +kernel) (by decide +kernel), lw_i1 13 (by decide +kernel) (by decide +kernel), by decide +kernel, by decide +kernel, by decide +kernel⟩, lw_i6 87 (by decide +kernel) (by decide +kernel), lw_in (List.mem_append_left _ (by decide +kernel)) (by decide +kernel)⟩
theorem fl_X12_318 : sFL RX12 318 12 45 := ⟨by decide, lw_i7 46 (by decide +kernel) (by decide +kernel)⟩
theorem ar_274 : sAr 274 1 65 := ⟨by decide, by decide +kernel, by decide +kernel⟩
theorem fr_248_45 {I : sI} {J : sJ} : sF I J 248 12 45 = .ref 274 := by
  have e : sR 248 45 = 274 := by decide +kernel
  show Value.ref (sR 248 45) = _
  rw [e]
theorem lk_X12_321 : Cond.methodLink RX12 321 yX12_compares ∈ lw_good := lw_i6 96 (by decide +kernel) (by decide +kernel)
theorem mw_X12_compares : sMwS yX12_compares cX12_compares 3 (some .int) 2 := ⟨⟨lw_i6 98 (by decide +kernel) (by decide +kernel), lw_i1 13 (by decide +kernel) (by decide +kernel), by decide +kernel, by decide +kernel, by decide +kernel⟩, lw_i6 97 (by decide +kernel) (by decide +kernel)⟩
theorem lk_X12_325 : Cond.methodLink RX12 325 yX12_likelier ∈ lw_good := lw_i6 81 (by decide +kernel) (by decide +kernel)
theorem mw_X12_likelier : sMwV yX12_likelier cX12_likelier 3 (some .int) 2 := ⟨⟨lw_i6 84 (by decide +kernel) (by decide +kernel), lw_i1 13 (by decide +kernel) (by decide +kernel), by decide +kernel, by decide +kernel, by decide +kernel⟩, lw_i6 83 (by decide +kernel) (by decide +kernel), lw_in (List.mem_append_left _ (by decide +kernel)) (by decide +kernel)⟩
theorem lc_X12_328 : Cond.constantLong RX12 328 (200) ∈ lw_good := lw_i6 103 (by decide +kernel) (by decide +kernel)
theorem lc_X12_330 : Cond.constantLong RX12 330 (2) ∈ lw_good := lw_i6 108 (by decide +kernel) (by decide +kernel)
theorem lk_X12_332 : Cond.methodLink RX12 332 yX12_groupBegin ∈ lw_good := lw_i6 117 (by decide +kernel) (by decide +kernel)
theorem mw_X12_groupBegin : sMwV yX12_groupBegin cX12_groupBegin 4 (some .int) 1 := ⟨⟨lw_i6 120 (by decide +kernel) (by decide +kernel), lw_i1 13 (by decide +kernel) (by decide +kernel), by decide +kernel, by decide +kernel, by decide +kernel⟩, lw_i6 119 (by decide +kernel) (by decide +kernel), lw_in (List.mem_append_left _ (by decide +kernel)) (by decide +kernel)⟩
theorem lc_X12_335 : Cond.constant RX12 335 (1000000) ∈ lw_good := lw_i6 129 (by decide +kernel) (by decide +kernel)
theorem lk_X12_336 : Cond.methodLink RX12 336 yX12_isWhole ∈ lw_good := lw_i6 113 (by decide +kernel) (by decide +kernel)
theorem mw_X12_isWhole : sMwV yX12_isWhole cX12_isWhole 4 (some .boolean) 1 := ⟨⟨lw_i6 116 (by decide +kernel) (by decide +kernel), lw_i1 13 (by decide +kernel) (by decide +kernel), by decide +kernel, by decide +kernel, by decide +kernel⟩, lw_i6 115 (by decide +kernel) (by decide +kernel), lw_in (List.mem_append_left _ (by decide +kernel)) (by decide +kernel)⟩
theorem lk_X12_339 : Cond.methodLink RX12 339 yX12_areAlike ∈ lw_good := lw_i6 121 (by decide +kernel) (by decide +kernel)
theorem mw_X12_areAlike : sMwV yX12_areAlike cX12_areAlike 6 (some .boolean) 3 := ⟨⟨lw_i6 124 (by decide +kernel) (by decide +kernel), lw_i1 13 (by decide +kernel) (by decide +kernel), by decide +kernel, by decide +kernel, by decide +kernel⟩, lw_i6 123 (by decide +kernel) (by decide +kernel), lw_in (List.mem_append_left _ (by decide +kernel)) (by decide +kernel)⟩
theorem lk_X12_343 : Cond.methodLink RX12 343 yX12_millionths ∈ lw_good := lw_i6 125 (by decide +kernel) (by decide +kernel)
theorem mw_X12_millionths : sMwV yX12_millionths cX12_millionths 8 (some .int) 3 := ⟨⟨lw_i6 128 (by decide +kernel) (by decide +kernel), lw_i1 13 (by decide +kernel) (by decide +kernel), by decide +kernel, by decide +kernel, by decide +kernel⟩, lw_i6 127 (by decide +kernel) (by decide +kernel), lw_in (List.mem_append_left _ (by decide +kernel)) (by decide +kernel)⟩
theorem lc_X12_347 : Cond.constantLong RX12 347 (45) ∈ lw_good := lw_i6 138 (by decide +kernel) (by decide +kernel)
theorem lk_X12_349 : Cond.methodLink RX12 349 yX12_choices ∈ lw_good := lw_i6 139 (by decide +kernel) (by decide +kernel)
theorem mw_X12_choices : sMwS yX12_choices cX12_choices 5 (some .long) 2 := ⟨⟨lw_i6 141 (by decide +kernel) (by decide +kernel), lw_i1 13 (by decide +kernel) (by decide +kernel), by decide +kernel, by decide +kernel, by decide +kernel⟩, lw_i6 140 (by decide +kernel) (by decide +kernel)⟩
theorem fl_X12_353 : sFL RX12 353 12 46 := ⟨by decide, lw_i7 47 (by decide +kernel) (by decide +kernel)⟩
theorem lk_X12_356 : Cond.methodLink RX12 356 yX12_isClaim ∈ lw_good := lw_i6 150 (by decide +kernel) (by decide +kernel)
theorem mw_X12_isClaim : sMwV yX12_isClaim cX12_isClaim 2 (some .boolean) 1 := ⟨⟨lw_i6 153 (by decide +kernel) (by decide +kernel), lw_i1 13 (by decide +kernel) (by decide +kernel), by decide +kernel, by decide +kernel, by decide +kernel⟩, lw_i6 152 (by decide +kernel) (by decide +kernel), lw_in (List.mem_append_left _ (by decide +kernel)) (by decide +kernel)⟩
theorem fl_X12_359 : sFL RX12 359 12 47 := ⟨by decide, lw_i7 48 (by decide +kernel) (by decide +kernel)⟩
theorem ar_275 : sAr 275 1 120 := ⟨by decide, by decide +kernel, by decide +kernel⟩
theorem fr_248_47 {I : sI} {J : sJ} : sF I J 248 12 47 = .ref 275 := by
  have e : sR 248 47 = 275 := by decide +kernel
  show Value.ref (sR 248 47) = _
  rw [e]
theorem lk_X12_362 : Cond.methodLink RX12 362 yJ9_floorMod_7cf53 ∈ lw_good := lw_i6 158 (by decide +kernel) (by decide +kernel)
theorem fl_X12_365 : sFL RX12 365 12 48 := ⟨by decide, lw_i7 49 (by decide +kernel) (by decide +kernel)⟩
theorem ar_276 : sAr 276 1 12 := ⟨by decide, by decide +kernel, by decide +kernel⟩
theorem fr_248_48 {I : sI} {J : sJ} : sF I J 248 12 48 = .ref 276 := by
  have e : sR 248 48 = 276 := by decide +kernel
  show Value.ref (sR 248 48) = _
  rw [e]
theorem lk_X12_368 : Cond.methodLink RX12 368 yX12_standing ∈ lw_good := lw_i6 167 (by decide +kernel) (by decide +kernel)
theorem mw_X12_standing : sMwV yX12_standing cX12_standing 6 (some .int) 0 := ⟨⟨lw_i6 170 (by decide +kernel) (by decide +kernel), lw_i1 13 (by decide +kernel) (by decide +kernel), by decide +kernel, by decide +kernel, by decide +kernel⟩, lw_i6 169 (by decide +kernel) (by decide +kernel), lw_in (List.mem_append_left _ (by decide +kernel)) (by decide +kernel)⟩
theorem lk_X12_371 : Cond.methodLink RX12 371 yX12_leftOf ∈ lw_good := lw_i6 183 (by decide +kernel) (by decide +kernel)
theorem mw_X12_leftOf : sMwV yX12_leftOf cX12_leftOf 7 (some .int) 3 := ⟨⟨lw_i6 186 (by decide +kernel) (by decide +kernel), lw_i1 13 (by decide +kernel) (by decide +kernel), by decide +kernel, by decide +kernel, by decide +kernel⟩, lw_i6 185 (by decide +kernel) (by decide +kernel), lw_in (List.mem_append_left _ (by decide +kernel)) (by decide +kernel)⟩
theorem lk_X12_374 : Cond.methodLink RX12 374 yX12_parts ∈ lw_good := lw_i6 199 (by decide +kernel) (by decide +kernel)
theorem mw_X12_parts : sMwV yX12_parts cX12_parts 6 (some .boolean) 3 := ⟨⟨lw_i6 202 (by decide +kernel) (by decide +kernel), lw_i1 13 (by decide +kernel) (by decide +kernel), by decide +kernel, by decide +kernel, by decide +kernel⟩, lw_i6 201 (by decide +kernel) (by decide +kernel), lw_in (List.mem_append_left _ (by decide +kernel)) (by decide +kernel)⟩
theorem lk_X12_377 : Cond.methodLink RX12 377 yX12_unknown ∈ lw_good := lw_i6 191 (by decide +kernel) (by decide +kernel)
theorem mw_X12_unknown : sMwV yX12_unknown cX12_unknown 3 (some .int) 0 := ⟨⟨lw_i6 194 (by decide +kernel) (by decide +kernel), lw_i1 13 (by decide +kernel) (by decide +kernel), by decide +kernel, by decide +kernel, by decide +kernel⟩, lw_i6 193 (by decide +kernel) (by decide +kernel), lw_in (List.mem_append_left _ (by decide +kernel)) (by decide +kernel)⟩
theorem lk_X12_380 : Cond.methodLink RX12 380 yX12_partsPairs ∈ lw_good := lw_i6 195 (by decide +kernel) (by decide +kernel)
theorem mw_X12_partsPairs : sMwV yX12_partsPairs cX12_partsPairs 6 (some .boolean) 3 := ⟨⟨lw_i6 198 (by decide +kernel) (by decide +kernel), lw_i1 13 (by decide +kernel) (by decide +kernel), by decide +kernel, by decide +kernel, by decide +kernel⟩, lw_i6 197 (by decide +kernel) (by decide +kernel), lw_in (List.mem_append_left _ (by decide +kernel)) (by decide +kernel)⟩
theorem fl_X12_384 : sFL RX12 384 12 51 := ⟨by decide, lw_i7 52 (by decide +kernel) (by decide +kernel)⟩
theorem ar_278 : sAr 278 1 6561 := ⟨by decide, by decide +kernel, by decide +kernel⟩
theorem fr_248_51 {I : sI} {J : sJ} : sF I J 248 12 51 = .ref 278 := by
  have e : sR 248 51 = 278 := by decide +kernel
  show Value.ref (sR 248 51) = _
  rw [e]
theorem fl_X12_387 : sFL RX12 387 12 52 := ⟨by decide, lw_i7 53 (by decide +kernel) (by decide +kernel)⟩
theorem fl_X12_390 : sFL RX12 390 12 49 := ⟨by decide, lw_i7 50 (by decide +kernel) (by decide +kernel)⟩
theorem fl_X12_393 : sFL RX12 393 12 50 := ⟨by decide, lw_i7 51 (by decide +kernel) (by decide +kernel)⟩
theorem ar_277 : sAr 277 1 8 := ⟨by decide, by decide +kernel, by decide +kernel⟩
theorem fr_248_50 {I : sI} {J : sJ} : sF I J 248 12 50 = .ref 277 := by
  have e : sR 248 50 = 277 := by decide +kernel
  show Value.ref (sR 248 50) = _
  rw [e]
theorem lk_X12_396 : Cond.methodLink RX12 396 yX12_plans ∈ lw_good := lw_i6 207 (by decide +kernel) (by decide +kernel)
theorem mw_X12_plans : sMwV yX12_plans cX12_plans 8 (some .int) 1 := ⟨⟨lw_i6 210 (by decide +kernel) (by decide +kernel), lw_i1 13 (by decide +kernel) (by decide +kernel), by decide +kernel, by decide +kernel, by decide +kernel⟩, lw_i6 209 (by decide +kernel) (by decide +kernel), lw_in (List.mem_append_left _ (by decide +kernel)) (by decide +kernel)⟩
theorem fl_X12_399 : sFL RX12 399 12 55 := ⟨by decide, lw_i7 56 (by decide +kernel) (by decide +kernel)⟩
theorem fl_X12_402 : sFL RX12 402 12 54 := ⟨by decide, lw_i7 55 (by decide +kernel) (by decide +kernel)⟩
theorem ar_280 : sAr 280 1 600 := ⟨by decide, by decide +kernel, by decide +kernel⟩
theorem fr_248_54 {I : sI} {J : sJ} : sF I J 248 12 54 = .ref 280 := by
  have e : sR 248 54 = 280 := by decide +kernel
  show Value.ref (sR 248 54) = _
  rw [e]
theorem lk_X12_405 : Cond.methodLink RX12 405 yX12_passing ∈ lw_good := lw_i6 223 (by decide +kernel) (by decide +kernel)
theorem mw_X12_passing : sMwV yX12_passing cX12_passing 5 (some .int) 3 := ⟨⟨lw_i6 226 (by decide +kernel) (by decide +kernel), lw_i1 13 (by decide +kernel) (by decide +kernel), by decide +kernel, by decide +kernel, by decide +kernel⟩, lw_i6 225 (by decide +kernel) (by decide +kernel), lw_in (List.mem_append_left _ (by decide +kernel)) (by decide +kernel)⟩
theorem fl_X12_409 : sFL RX12 409 12 53 := ⟨by decide, lw_i7 54 (by decide +kernel) (by decide +kernel)⟩
theorem ar_279 : sAr 279 2 3 := ⟨by decide, by decide +kernel, by decide +kernel⟩
theorem fr_248_53 {I : sI} {J : sJ} : sF I J 248 12 53 = .ref 279 := by
  have e : sR 248 53 = 279 := by decide +kernel
  show Value.ref (sR 248 53) = _
  rw [e]
theorem lk_X12_412 : Cond.methodLink RX12 412 yX12_passes ∈ lw_good := lw_i6 219 (by decide +kernel) (by decide +kernel)
theorem mw_X12_passes : sMwV yX12_passes cX12_passes 4 none 2 := ⟨⟨lw_i6 222 (by decide +kernel) (by decide +kernel), lw_i1 13 (by decide +kernel) (by decide +kernel), by decide +kernel, by decide +kernel, by decide +kernel⟩, lw_i6 221 (by decide +kernel) (by decide +kernel), lw_in (List.mem_append_left _ (by decide +kernel)) (by decide +kernel)⟩
theorem lc_X12_416 : Cond.constantLong RX12 416 (5) ∈ lw_good := lw_i6 235 (by decide +kernel) (by decide +kernel)
