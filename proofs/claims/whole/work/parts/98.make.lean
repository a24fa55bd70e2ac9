theorem dX11_init_0 : decode cX11_init 0 = .ok (.aload_n 0, 1) := by decide +kernel
theorem dX11_init_1 : decode cX11_init 1 = .ok (.invokespecial 3, 3) := by decide +kernel
theorem dX11_init_4 : decode cX11_init 4 = .ok (.aload_n 0, 1) := by decide +kernel
theorem dX11_init_5 : decode cX11_init 5 = .ok (.new 9, 3) := by decide +kernel
theorem dX11_init_8 : decode cX11_init 8 = .ok (.dup, 1) := by decide +kernel
theorem dX11_init_9 : decode cX11_init 9 = .ok (.invokespecial 11, 3) := by decide +kernel
theorem dX11_init_12 : decode cX11_init 12 = .ok (.putfield 12, 3) := by decide +kernel
theorem dX11_init_15 : decode cX11_init 15 = .ok (.aload_n 0, 1) := by decide +kernel
theorem dX11_init_16 : decode cX11_init 16 = .ok (.new 16, 3) := by decide +kernel
theorem dX11_init_19 : decode cX11_init 19 = .ok (.dup, 1) := by decide +kernel
theorem dX11_init_20 : decode cX11_init 20 = .ok (.invokespecial 18, 3) := by decide +kernel
theorem dX11_init_23 : decode cX11_init 23 = .ok (.putfield 19, 3) := by decide +kernel
theorem dX11_init_26 : decode cX11_init 26 = .ok (.aload_n 0, 1) := by decide +kernel
theorem dX11_init_27 : decode cX11_init 27 = .ok (.iconst 3, 1) := by decide +kernel
theorem dX11_init_28 : decode cX11_init 28 = .ok (.anewarray 16, 3) := by decide +kernel
theorem dX11_init_31 : decode cX11_init 31 = .ok (.putfield 23, 3) := by decide +kernel
theorem dX11_init_34 : decode cX11_init 34 = .ok (.iconst 0, 1) := by decide +kernel
theorem dX11_init_35 : decode cX11_init 35 = .ok (.istore_n 1, 1) := by decide +kernel
theorem dX11_init_36 : decode cX11_init 36 = .ok (.iload_n 1, 1) := by decide +kernel
theorem dX11_init_37 : decode cX11_init 37 = .ok (.iconst 3, 1) := by decide +kernel
theorem dX11_init_38 : decode cX11_init 38 = .ok (.if_icmp .ge 22, 3) := by decide +kernel
theorem dX11_init_41 : decode cX11_init 41 = .ok (.aload_n 0, 1) := by decide +kernel
theorem dX11_init_42 : decode cX11_init 42 = .ok (.getfield 23, 3) := by decide +kernel
theorem dX11_init_45 : decode cX11_init 45 = .ok (.iload_n 1, 1) := by decide +kernel
theorem dX11_init_46 : decode cX11_init 46 = .ok (.new 16, 3) := by decide +kernel
theorem dX11_init_49 : decode cX11_init 49 = .ok (.dup, 1) := by decide +kernel
theorem dX11_init_50 : decode cX11_init 50 = .ok (.invokespecial 18, 3) := by decide +kernel
theorem dX11_init_53 : decode cX11_init 53 = .ok (.aastore, 1) := by decide +kernel
theorem dX11_init_54 : decode cX11_init 54 = .ok (.iinc 1 1, 3) := by decide +kernel
theorem dX11_init_57 : decode cX11_init 57 = .ok (.goto (-21), 3) := by decide +kernel
theorem dX11_init_60 : decode cX11_init 60 = .ok (.aload_n 0, 1) := by decide +kernel
theorem dX11_init_61 : decode cX11_init 61 = .ok (.iconst 3, 1) := by decide +kernel
theorem dX11_init_62 : decode cX11_init 62 = .ok (.newarray .boolean, 2) := by decide +kernel
theorem dX11_init_64 : decode cX11_init 64 = .ok (.putfield 27, 3) := by decide +kernel
theorem dX11_init_67 : decode cX11_init 67 = .ok (.aload_n 0, 1) := by decide +kernel
theorem dX11_init_68 : decode cX11_init 68 = .ok (.iconst 4, 1) := by decide +kernel
theorem dX11_init_69 : decode cX11_init 69 = .ok (.anewarray 31, 3) := by decide +kernel
theorem dX11_init_72 : decode cX11_init 72 = .ok (.putfield 33, 3) := by decide +kernel
theorem dX11_init_75 : decode cX11_init 75 = .ok (.iconst 0, 1) := by decide +kernel
theorem dX11_init_76 : decode cX11_init 76 = .ok (.istore_n 1, 1) := by decide +kernel
theorem dX11_init_77 : decode cX11_init 77 = .ok (.iload_n 1, 1) := by decide +kernel
theorem dX11_init_78 : decode cX11_init 78 = .ok (.iconst 4, 1) := by decide +kernel
theorem dX11_init_79 : decode cX11_init 79 = .ok (.if_icmp .ge 22, 3) := by decide +kernel
theorem dX11_init_82 : decode cX11_init 82 = .ok (.aload_n 0, 1) := by decide +kernel
theorem dX11_init_83 : decode cX11_init 83 = .ok (.getfield 33, 3) := by decide +kernel
theorem dX11_init_86 : decode cX11_init 86 = .ok (.iload_n 1, 1) := by decide +kernel
theorem dX11_init_87 : decode cX11_init 87 = .ok (.new 31, 3) := by decide +kernel
theorem dX11_init_90 : decode cX11_init 90 = .ok (.dup, 1) := by decide +kernel
theorem dX11_init_91 : decode cX11_init 91 = .ok (.invokespecial 37, 3) := by decide +kernel
theorem dX11_init_94 : decode cX11_init 94 = .ok (.aastore, 1) := by decide +kernel
theorem dX11_init_95 : decode cX11_init 95 = .ok (.iinc 1 1, 3) := by decide +kernel
theorem dX11_init_98 : decode cX11_init 98 = .ok (.goto (-21), 3) := by decide +kernel
theorem dX11_init_101 : decode cX11_init 101 = .ok (.aload_n 0, 1) := by decide +kernel
theorem dX11_init_102 : decode cX11_init 102 = .ok (.new 38, 3) := by decide +kernel
theorem dX11_init_105 : decode cX11_init 105 = .ok (.dup, 1) := by decide +kernel
theorem dX11_init_106 : decode cX11_init 106 = .ok (.invokespecial 40, 3) := by decide +kernel
theorem dX11_init_109 : decode cX11_init 109 = .ok (.putfield 41, 3) := by decide +kernel
theorem dX11_init_112 : decode cX11_init 112 = .ok (.aload_n 0, 1) := by decide +kernel
theorem dX11_init_113 : decode cX11_init 113 = .ok (.new 38, 3) := by decide +kernel
theorem dX11_init_116 : decode cX11_init 116 = .ok (.dup, 1) := by decide +kernel
theorem dX11_init_117 : decode cX11_init 117 = .ok (.invokespecial 40, 3) := by decide +kernel
theorem dX11_init_120 : decode cX11_init 120 = .ok (.putfield 45, 3) := by decide +kernel
theorem dX11_init_123 : decode cX11_init 123 = .ok (.aload_n 0, 1) := by decide +kernel
theorem dX11_init_124 : decode cX11_init 124 = .ok (.new 48, 3) := by decide +kernel
theorem dX11_init_127 : decode cX11_init 127 = .ok (.dup, 1) := by decide +kernel
theorem dX11_init_128 : decode cX11_init 128 = .ok (.invokespecial 50, 3) := by decide +kernel
theorem dX11_init_131 : decode cX11_init 131 = .ok (.putfield 51, 3) := by decide +kernel
theorem dX11_init_134 : decode cX11_init 134 = .ok (.aload_n 0, 1) := by decide +kernel
theorem dX11_init_135 : decode cX11_init 135 = .ok (.new 55, 3) := by decide +kernel
theorem dX11_init_138 : decode cX11_init 138 = .ok (.dup, 1) := by decide +kernel
theorem dX11_init_139 : decode cX11_init 139 = .ok (.invokespecial 57, 3) := by decide +kernel
theorem dX11_init_142 : decode cX11_init 142 = .ok (.putfield 58, 3) := by decide +kernel
theorem dX11_init_145 : decode cX11_init 145 = .ok (.aload_n 0, 1) := by decide +kernel
theorem dX11_init_146 : decode cX11_init 146 = .ok (.new 62, 3) := by decide +kernel
theorem dX11_init_149 : decode cX11_init 149 = .ok (.dup, 1) := by decide +kernel
theorem dX11_init_150 : decode cX11_init 150 = .ok (.aload_n 0, 1) := by decide +kernel
theorem dX11_init_151 : decode cX11_init 151 = .ok (.getfield 58, 3) := by decide +kernel
theorem dX11_init_154 : decode cX11_init 154 = .ok (.invokespecial 64, 3) := by decide +kernel
theorem dX11_init_157 : decode cX11_init 157 = .ok (.putfield 67, 3) := by decide +kernel
theorem dX11_init_160 : decode cX11_init 160 = .ok (.aload_n 0, 1) := by decide +kernel
theorem dX11_init_161 : decode cX11_init 161 = .ok (.new 71, 3) := by decide +kernel
theorem dX11_init_164 : decode cX11_init 164 = .ok (.dup, 1) := by decide +kernel
theorem dX11_init_165 : decode cX11_init 165 = .ok (.invokespecial 73, 3) := by decide +kernel
theorem dX11_init_168 : decode cX11_init 168 = .ok (.putfield 74, 3) := by decide +kernel
theorem dX11_init_171 : decode cX11_init 171 = .ok (.aload_n 0, 1) := by decide +kernel
theorem dX11_init_172 : decode cX11_init 172 = .ok (.new 78, 3) := by decide +kernel
theorem dX11_init_175 : decode cX11_init 175 = .ok (.dup, 1) := by decide +kernel
theorem dX11_init_176 : decode cX11_init 176 = .ok (.invokespecial 80, 3) := by decide +kernel
theorem dX11_init_179 : decode cX11_init 179 = .ok (.putfield 81, 3) := by decide +kernel
theorem dX11_init_182 : decode cX11_init 182 = .ok (.aload_n 0, 1) := by decide +kernel
theorem dX11_init_183 : decode cX11_init 183 = .ok (.new 85, 3) := by decide +kernel
theorem dX11_init_186 : decode cX11_init 186 = .ok (.dup, 1) := by decide +kernel
theorem dX11_init_187 : decode cX11_init 187 = .ok (.invokespecial 87, 3) := by decide +kernel
theorem dX11_init_190 : decode cX11_init 190 = .ok (.putfield 88, 3) := by decide +kernel
theorem dX11_init_193 : decode cX11_init 193 = .ok (.aload_n 0, 1) := by decide +kernel
theorem dX11_init_194 : decode cX11_init 194 = .ok (.new 85, 3) := by decide +kernel
theorem dX11_init_197 : decode cX11_init 197 = .ok (.dup, 1) := by decide +kernel
theorem dX11_init_198 : decode cX11_init 198 = .ok (.invokespecial 87, 3) := by decide +kernel
theorem dX11_init_201 : decode cX11_init 201 = .ok (.putfield 92, 3) := by decide +kernel
theorem dX11_init_204 : decode cX11_init 204 = .ok (.aload_n 0, 1) := by decide +kernel
theorem dX11_init_205 : decode cX11_init 205 = .ok (.bipush 13, 2) := by decide +kernel
theorem dX11_init_207 : decode cX11_init 207 = .ok (.newarray .int, 2) := by decide +kernel
theorem dX11_init_209 : decode cX11_init 209 = .ok (.putfield 95, 3) := by decide +kernel
theorem dX11_init_212 : decode cX11_init 212 = .ok (.aload_n 0, 1) := by decide +kernel
theorem dX11_init_213 : decode cX11_init 213 = .ok (.iconst 1, 1) := by decide +kernel
theorem dX11_init_214 : decode cX11_init 214 = .ok (.putfield 99, 3) := by decide +kernel
theorem dX11_init_217 : decode cX11_init 217 = .ok (.aload_n 0, 1) := by decide +kernel
theorem dX11_init_218 : decode cX11_init 218 = .ok (.iconst 0, 1) := by decide +kernel
theorem dX11_init_219 : decode cX11_init 219 = .ok (.putfield 103, 3) := by decide +kernel
theorem dX11_init_222 : decode cX11_init 222 = .ok (.return_, 1) := by decide +kernel
theorem ob_X11 : Cond.methodLink RX11 3 objectInit ∈ lw_good ∧ Cond.instanceMethod objectInit ∈ lw_good ∧ Cond.code objectInit ⟨#[0xb1]⟩ 1 none ∈ lw_good := ⟨(lw_i1 26 (by decide +kernel) (by decide +kernel)), (lw_i1 27 (by decide +kernel) (by decide +kernel)), (lw_i1 28 (by decide +kernel) (by decide +kernel))⟩
theorem nw_X11_9 : Cond.classLink RX11 9 (sCl 7).1 ∈ lw_good ∧ Cond.instantiable (sCl 7).1 (sCl 7).2.2 ∈ lw_good ∧ Cond.initialized (sCl 7).1 ∈ lw_good := ⟨(lw_i1 29 (by decide +kernel) (by decide +kernel)), (lw_i1 30 (by decide +kernel) (by decide +kernel)), (lw_i1 2 (by decide +kernel) (by decide +kernel))⟩
theorem df_X7 : ∀ j, j < (sCl 7).2.2 → defaultValue (sTy 7 j) = vp_V [.null, .int 0] j := by
  intro j hj
  have hj : j < 2 := hj
  rcases (show j = 0 ∨ j = 1 by omega) with rfl | rfl <;> rfl
theorem dX7_init_0 : decode cX7_init 0 = .ok (.aload_n 0, 1) := by decide +kernel
theorem dX7_init_1 : decode cX7_init 1 = .ok (.invokespecial 3, 3) := by decide +kernel
theorem dX7_init_4 : decode cX7_init 4 = .ok (.aload_n 0, 1) := by decide +kernel
theorem dX7_init_5 : decode cX7_init 5 = .ok (.bipush 80, 2) := by decide +kernel
theorem dX7_init_7 : decode cX7_init 7 = .ok (.newarray .int, 2) := by decide +kernel
theorem dX7_init_9 : decode cX7_init 9 = .ok (.putfield 9, 3) := by decide +kernel
theorem dX7_init_12 : decode cX7_init 12 = .ok (.return_, 1) := by decide +kernel
theorem ob_X7 : Cond.methodLink RX7 3 objectInit ∈ lw_good ∧ Cond.instanceMethod objectInit ∈ lw_good ∧ Cond.code objectInit ⟨#[0xb1]⟩ 1 none ∈ lw_good := ⟨(lw_i1 34 (by decide +kernel) (by decide +kernel)), (lw_i1 27 (by decide +kernel) (by decide +kernel)), (lw_i1 28 (by decide +kernel) (by decide +kernel))⟩
theorem aw_1 : Cond.arrayClass .int ∈ lw_good := (lw_i1 48 (by decide +kernel) (by decide +kernel))
set_option maxRecDepth 20000 in
theorem i_X7_1 (l : Launch) (D : va_G) (cy : Nat → ClassId) (b : Nat) : gMet l D cy b 1 7 2 [.null, .int 0] [] yX7_init cX7_init 1 1 20 1 80 := by
  refine gMet_of (by decide) rfl (Nat.le_of_ble_eq_true rfl) (fun X h hin hB hr up => ?_)
  have h : gOK X cy cX7_init RX7 1 1 20 1 80 := h
  refine gG_w (ws' := (b + 1, .inr (7, [.null, .int 0])) :: ([] ++ wN cy b 2 0)) rfl ?_
  refine a_aload_n (x := b + 1) h rfl 0 rfl dX7_init_0 ?_
  refine a_obj h ob_X7 (by decide) (Nat.le_of_ble_eq_true rfl) dX7_init_1 ?_
  refine a_aload_n (x := b + 1) h rfl 0 rfl dX7_init_4 ?_
  refine a_bipush (v := 80) h (by decide) dX7_init_5 ?_
  refine a_newI (b := b) (q := 2) (N := 80) h rfl rfl ar_2 (gI0_0 (by decide)) aw_1 (by decide) (by decide) (by decide) (by decide) dX7_init_7 ?_
  refine gG_w (ws' := (b + 1, .inr (7, [.null, .int 0])) :: ([] ++ wN cy b 2 1)) rfl ?_
  refine a_put (v := .ref (b + 2)) (ws' := (b + 1, .inr (7, [.ref (b + 2), .int 0])) :: ([] ++ wN cy b 2 1)) 0 (.array .int) h hin hB rfl wN_last rfl (by decide) fl_X7_9 rfl rfl rfl rfl (Nat.le_of_ble_eq_true rfl) dX7_init_9 rfl ?_
  exact a_ret (q := 1) (j := 1) h hr rfl rfl dX7_init_12
theorem mw_X7_init : sMw yX7_init cX7_init 1 none 0 := ⟨(lw_i1 33 (by decide +kernel) (by decide +kernel)), (lw_i1 2 (by decide +kernel) (by decide +kernel)), by decide +kernel, by decide +kernel, by decide +kernel⟩
theorem im_X7_init : yX7_init.name = "<init>" ∧ Cond.instanceMethod yX7_init ∈ lw_good := ⟨rfl, (lw_i1 32 (by decide +kernel) (by decide +kernel))⟩
theorem nl_X11_11 : ∀ U, gNW U → va_Nw (.methodLinkNest RX11 11 yX7_init RX11) U := fun U h => by obtain ⟨⟨a1, a2, a3, a4, a5, a6, a7, a8, a9, a10, a11⟩, -⟩ := h; assumption
theorem nw_X11_16 : Cond.classLink RX11 16 (sCl 8).1 ∈ lw_good ∧ Cond.instantiable (sCl 8).1 (sCl 8).2.2 ∈ lw_good ∧ Cond.initialized (sCl 8).1 ∈ lw_good := ⟨(lw_i1 49 (by decide +kernel) (by decide +kernel)), (lw_i1 50 (by decide +kernel) (by decide +kernel)), (lw_i1 3 (by decide +kernel) (by decide +kernel))⟩
theorem df_X8 : ∀ j, j < (sCl 8).2.2 → defaultValue (sTy 8 j) = vp_V [.null, .null, .null, .int 0, .int 0, .int 0] j := by
  intro j hj
  have hj : j < 6 := hj
  rcases (show j = 0 ∨ j = 1 ∨ j = 2 ∨ j = 3 ∨ j = 4 ∨ j = 5 by omega) with rfl | rfl | rfl | rfl | rfl | rfl <;> rfl
theorem dX8_init_0 : decode cX8_init 0 = .ok (.aload_n 0, 1) := by decide +kernel
theorem dX8_init_1 : decode cX8_init 1 = .ok (.invokespecial 3, 3) := by decide +kernel
theorem dX8_init_4 : decode cX8_init 4 = .ok (.aload_n 0, 1) := by decide +kernel
theorem dX8_init_5 : decode cX8_init 5 = .ok (.new 9, 3) := by decide +kernel
theorem dX8_init_8 : decode cX8_init 8 = .ok (.dup, 1) := by decide +kernel
theorem dX8_init_9 : decode cX8_init 9 = .ok (.invokespecial 11, 3) := by decide +kernel
theorem dX8_init_12 : decode cX8_init 12 = .ok (.putfield 12, 3) := by decide +kernel
theorem dX8_init_15 : decode cX8_init 15 = .ok (.aload_n 0, 1) := by decide +kernel
theorem dX8_init_16 : decode cX8_init 16 = .ok (.new 18, 3) := by decide +kernel
theorem dX8_init_19 : decode cX8_init 19 = .ok (.dup, 1) := by decide +kernel
theorem dX8_init_20 : decode cX8_init 20 = .ok (.invokespecial 20, 3) := by decide +kernel
theorem dX8_init_23 : decode cX8_init 23 = .ok (.putfield 21, 3) := by decide +kernel
theorem dX8_init_26 : decode cX8_init 26 = .ok (.aload_n 0, 1) := by decide +kernel
theorem dX8_init_27 : decode cX8_init 27 = .ok (.bipush 12, 2) := by decide +kernel
theorem dX8_init_29 : decode cX8_init 29 = .ok (.newarray .int, 2) := by decide +kernel
theorem dX8_init_31 : decode cX8_init 31 = .ok (.putfield 25, 3) := by decide +kernel
theorem dX8_init_34 : decode cX8_init 34 = .ok (.aload_n 0, 1) := by decide +kernel
theorem dX8_init_35 : decode cX8_init 35 = .ok (.iconst 1, 1) := by decide +kernel
theorem dX8_init_36 : decode cX8_init 36 = .ok (.putfield 29, 3) := by decide +kernel
theorem dX8_init_39 : decode cX8_init 39 = .ok (.aload_n 0, 1) := by decide +kernel
theorem dX8_init_40 : decode cX8_init 40 = .ok (.iconst 0, 1) := by decide +kernel
theorem dX8_init_41 : decode cX8_init 41 = .ok (.putfield 33, 3) := by decide +kernel
theorem dX8_init_44 : decode cX8_init 44 = .ok (.aload_n 0, 1) := by decide +kernel
theorem dX8_init_45 : decode cX8_init 45 = .ok (.iconst 0, 1) := by decide +kernel
theorem dX8_init_46 : decode cX8_init 46 = .ok (.putfield 36, 3) := by decide +kernel
theorem dX8_init_49 : decode cX8_init 49 = .ok (.return_, 1) := by decide +kernel
theorem ob_X8 : Cond.methodLink RX8 3 objectInit ∈ lw_good ∧ Cond.instanceMethod objectInit ∈ lw_good ∧ Cond.code objectInit ⟨#[0xb1]⟩ 1 none ∈ lw_good := ⟨(lw_i1 54 (by decide +kernel) (by decide +kernel)), (lw_i1 27 (by decide +kernel) (by decide +kernel)), (lw_i1 28 (by decide +kernel) (by decide +kernel))⟩
theorem nw_X8_9 : Cond.classLink RX8 9 (sCl 2).1 ∈ lw_good ∧ Cond.instantiable (sCl 2).1 (sCl 2).2.2 ∈ lw_good ∧ Cond.initialized (sCl 2).1 ∈ lw_good := ⟨(lw_i1 55 (by decide +kernel) (by decide +kernel)), (lw_i1 56 (by decide +kernel) (by decide +kernel)), (lw_i1 4 (by decide +kernel) (by decide +kernel))⟩
theorem df_X2 : ∀ j, j < (sCl 2).2.2 → defaultValue (sTy 2 j) = vp_V [.null, .null, .null, .int 0, .int 0] j := by
  intro j hj
  have hj : j < 5 := hj
  rcases (show j = 0 ∨ j = 1 ∨ j = 2 ∨ j = 3 ∨ j = 4 by omega) with rfl | rfl | rfl | rfl | rfl <;> rfl
theorem dX2_init_0 : decode cX2_init 0 = .ok (.aload_n 0, 1) := by decide +kernel
theorem dX2_init_1 : decode cX2_init 1 = .ok (.invokespecial 3, 3) := by decide +kernel
theorem dX2_init_4 : decode cX2_init 4 = .ok (.aload_n 0, 1) := by decide +kernel
theorem dX2_init_5 : decode cX2_init 5 = .ok (.bipush 60, 2) := by decide +kernel
theorem dX2_init_7 : decode cX2_init 7 = .ok (.newarray .int, 2) := by decide +kernel
theorem dX2_init_9 : decode cX2_init 9 = .ok (.putfield 9, 3) := by decide +kernel
theorem dX2_init_12 : decode cX2_init 12 = .ok (.aload_n 0, 1) := by decide +kernel
theorem dX2_init_13 : decode cX2_init 13 = .ok (.bipush 60, 2) := by decide +kernel
theorem dX2_init_15 : decode cX2_init 15 = .ok (.newarray .int, 2) := by decide +kernel
theorem dX2_init_17 : decode cX2_init 17 = .ok (.putfield 15, 3) := by decide +kernel
theorem dX2_init_20 : decode cX2_init 20 = .ok (.aload_n 0, 1) := by decide +kernel
theorem dX2_init_21 : decode cX2_init 21 = .ok (.bipush 13, 2) := by decide +kernel
theorem dX2_init_23 : decode cX2_init 23 = .ok (.newarray .int, 2) := by decide +kernel
theorem dX2_init_25 : decode cX2_init 25 = .ok (.putfield 18, 3) := by decide +kernel
theorem dX2_init_28 : decode cX2_init 28 = .ok (.return_, 1) := by decide +kernel
theorem ob_X2 : Cond.methodLink RX2 3 objectInit ∈ lw_good ∧ Cond.instanceMethod objectInit ∈ lw_good ∧ Cond.code objectInit ⟨#[0xb1]⟩ 1 none ∈ lw_good := ⟨(lw_i1 60 (by decide +kernel) (by decide +kernel)), (lw_i1 27 (by decide +kernel) (by decide +kernel)), (lw_i1 28 (by decide +kernel) (by decide +kernel))⟩
theorem ar_5 : sAr 5 1 60 := by unfold sAr; decide +kernel
set_option maxRecDepth 20000 in
theorem i_X2_4 (l : Launch) (D : va_G) (cy : Nat → ClassId) (b : Nat) : gMet l D cy b 4 2 4 [.null, .null, .null, .int 0, .int 0] [] yX2_init cX2_init 1 1 20 3 133 := by
  refine gMet_of (by decide) rfl (Nat.le_of_ble_eq_true rfl) (fun X h hin hB hr up => ?_)
  have h : gOK X cy cX2_init RX2 1 1 20 3 133 := h
  refine gG_w (ws' := (b + 4, .inr (2, [.null, .null, .null, .int 0, .int 0])) :: ([] ++ wN cy b 5 0)) rfl ?_
  refine a_aload_n (x := b + 4) h rfl 0 rfl dX2_init_0 ?_
  refine a_obj h ob_X2 (by decide) (Nat.le_of_ble_eq_true rfl) dX2_init_1 ?_
  refine a_aload_n (x := b + 4) h rfl 0 rfl dX2_init_4 ?_
  refine a_bipush (v := 60) h (by decide) dX2_init_5 ?_
  refine a_newI (b := b) (q := 5) (N := 60) h rfl rfl ar_5 (gI0_0 (by decide)) aw_1 (by decide) (by decide) (by decide) (by decide) dX2_init_7 ?_
  refine gG_w (ws' := (b + 4, .inr (2, [.null, .null, .null, .int 0, .int 0])) :: ([] ++ wN cy b 5 1)) rfl ?_
  refine a_put (v := .ref (b + 5)) (ws' := (b + 4, .inr (2, [.ref (b + 5), .null, .null, .int 0, .int 0])) :: ([] ++ wN cy b 5 1)) 0 (.array .int) h hin hB rfl wN_last rfl (by decide) fl_X2_9 rfl rfl rfl rfl (Nat.le_of_ble_eq_true rfl) dX2_init_9 rfl ?_
  refine a_aload_n (x := b + 4) h rfl 0 rfl dX2_init_12 ?_
  refine a_bipush (v := 60) h (by decide) dX2_init_13 ?_
  refine a_newI (b := b) (q := 6) (N := 60) h rfl rfl ar_6 (gI0_0 (by decide)) aw_1 (by decide) (by decide) (by decide) (by decide) dX2_init_15 ?_
  refine gG_w (ws' := (b + 4, .inr (2, [.ref (b + 5), .null, .null, .int 0, .int 0])) :: ([] ++ wN cy b 5 2)) rfl ?_
  refine a_put (v := .ref (b + 6)) (ws' := (b + 4, .inr (2, [.ref (b + 5), .ref (b + 6), .null, .int 0, .int 0])) :: ([] ++ wN cy b 5 2)) 0 (.array .int) h hin hB rfl wN_last rfl (by decide) fl_X2_15 rfl rfl rfl rfl (Nat.le_of_ble_eq_true rfl) dX2_init_17 rfl ?_
  refine a_aload_n (x := b + 4) h rfl 0 rfl dX2_init_20 ?_
  refine a_bipush (v := 13) h (by decide) dX2_init_21 ?_
  refine a_newI (b := b) (q := 7) (N := 13) h rfl rfl ar_7 (gI0_0 (by decide)) aw_1 (by decide) (by decide) (by decide) (by decide) dX2_init_23 ?_
  refine gG_w (ws' := (b + 4, .inr (2, [.ref (b + 5), .ref (b + 6), .null, .int 0, .int 0])) :: ([] ++ wN cy b 5 3)) rfl ?_
  refine a_put (v := .ref (b + 7)) (ws' := (b + 4, .inr (2, [.ref (b + 5), .ref (b + 6), .ref (b + 7), .int 0, .int 0])) :: ([] ++ wN cy b 5 3)) 0 (.array .int) h hin hB rfl wN_last rfl (by decide) fl_X2_18 rfl rfl rfl rfl (Nat.le_of_ble_eq_true rfl) dX2_init_25 rfl ?_
  exact a_ret (q := 4) (j := 3) h hr rfl rfl dX2_init_28
theorem mw_X2_init : sMw yX2_init cX2_init 1 none 0 := ⟨(lw_i1 59 (by decide +kernel) (by decide +kernel)), (lw_i1 4 (by decide +kernel) (by decide +kernel)), by decide +kernel, by decide +kernel, by decide +kernel⟩
theorem im_X2_init : yX2_init.name = "<init>" ∧ Cond.instanceMethod yX2_init ∈ lw_good := ⟨rfl, (lw_i1 58 (by decide +kernel) (by decide +kernel))⟩
theorem nl_X8_11 : ∀ U, gNW U → va_Nw (.methodLinkNest RX8 11 yX2_init RX11) U := fun U h => by obtain ⟨⟨a1, a2, a3, a4, a5, a6, a7, a8, a9, a10, a11⟩, -⟩ := h; assumption
theorem nw_X8_18 : Cond.classLink RX8 18 (sCl 4).1 ∈ lw_good ∧ Cond.instantiable (sCl 4).1 (sCl 4).2.2 ∈ lw_good ∧ Cond.initialized (sCl 4).1 ∈ lw_good := ⟨(lw_i1 85 (by decide +kernel) (by decide +kernel)), (lw_i1 86 (by decide +kernel) (by decide +kernel)), (lw_i1 5 (by decide +kernel) (by decide +kernel))⟩
theorem df_X4 : ∀ j, j < (sCl 4).2.2 → defaultValue (sTy 4 j) = vp_V [.null, .null, .int 0] j := by
  intro j hj
  have hj : j < 3 := hj
  rcases (show j = 0 ∨ j = 1 ∨ j = 2 by omega) with rfl | rfl | rfl <;> rfl
theorem dX4_init_0 : decode cX4_init 0 = .ok (.aload_n 0, 1) := by decide +kernel
theorem dX4_init_1 : decode cX4_init 1 = .ok (.invokespecial 3, 3) := by decide +kernel
theorem dX4_init_4 : decode cX4_init 4 = .ok (.aload_n 0, 1) := by decide +kernel
theorem dX4_init_5 : decode cX4_init 5 = .ok (.bipush 12, 2) := by decide +kernel
theorem dX4_init_7 : decode cX4_init 7 = .ok (.newarray .int, 2) := by decide +kernel
theorem dX4_init_9 : decode cX4_init 9 = .ok (.putfield 9, 3) := by decide +kernel
theorem dX4_init_12 : decode cX4_init 12 = .ok (.aload_n 0, 1) := by decide +kernel
theorem dX4_init_13 : decode cX4_init 13 = .ok (.bipush 12, 2) := by decide +kernel
theorem dX4_init_15 : decode cX4_init 15 = .ok (.newarray .int, 2) := by decide +kernel
theorem dX4_init_17 : decode cX4_init 17 = .ok (.putfield 15, 3) := by decide +kernel
theorem dX4_init_20 : decode cX4_init 20 = .ok (.return_, 1) := by decide +kernel
theorem ob_X4 : Cond.methodLink RX4 3 objectInit ∈ lw_good ∧ Cond.instanceMethod objectInit ∈ lw_good ∧ Cond.code objectInit ⟨#[0xb1]⟩ 1 none ∈ lw_good := ⟨(lw_i1 90 (by decide +kernel) (by decide +kernel)), (lw_i1 27 (by decide +kernel) (by decide +kernel)), (lw_i1 28 (by decide +kernel) (by decide +kernel))⟩
set_option maxRecDepth 20000 in
theorem i_X4_8 (l : Launch) (D : va_G) (cy : Nat → ClassId) (b : Nat) : gMet l D cy b 8 4 3 [.null, .null, .int 0] [] yX4_init cX4_init 1 1 20 2 24 := by
  refine gMet_of (by decide) rfl (Nat.le_of_ble_eq_true rfl) (fun X h hin hB hr up => ?_)
  have h : gOK X cy cX4_init RX4 1 1 20 2 24 := h
  refine gG_w (ws' := (b + 8, .inr (4, [.null, .null, .int 0])) :: ([] ++ wN cy b 9 0)) rfl ?_
  refine a_aload_n (x := b + 8) h rfl 0 rfl dX4_init_0 ?_
  refine a_obj h ob_X4 (by decide) (Nat.le_of_ble_eq_true rfl) dX4_init_1 ?_
  refine a_aload_n (x := b + 8) h rfl 0 rfl dX4_init_4 ?_
  refine a_bipush (v := 12) h (by decide) dX4_init_5 ?_
  refine a_newI (b := b) (q := 9) (N := 12) h rfl rfl ar_9 (gI0_0 (by decide)) aw_1 (by decide) (by decide) (by decide) (by decide) dX4_init_7 ?_
  refine gG_w (ws' := (b + 8, .inr (4, [.null, .null, .int 0])) :: ([] ++ wN cy b 9 1)) rfl ?_
  refine a_put (v := .ref (b + 9)) (ws' := (b + 8, .inr (4, [.ref (b + 9), .null, .int 0])) :: ([] ++ wN cy b 9 1)) 0 (.array .int) h hin hB rfl wN_last rfl (by decide) fl_X4_9 rfl rfl rfl rfl (Nat.le_of_ble_eq_true rfl) dX4_init_9 rfl ?_
  refine a_aload_n (x := b + 8) h rfl 0 rfl dX4_init_12 ?_
  refine a_bipush (v := 12) h (by decide) dX4_init_13 ?_
  refine a_newI (b := b) (q := 10) (N := 12) h rfl rfl ar_10 (gI0_0 (by decide)) aw_1 (by decide) (by decide) (by decide) (by decide) dX4_init_15 ?_
  refine gG_w (ws' := (b + 8, .inr (4, [.ref (b + 9), .null, .int 0])) :: ([] ++ wN cy b 9 2)) rfl ?_
  refine a_put (v := .ref (b + 10)) (ws' := (b + 8, .inr (4, [.ref (b + 9), .ref (b + 10), .int 0])) :: ([] ++ wN cy b 9 2)) 0 (.array .int) h hin hB rfl wN_last rfl (by decide) fl_X4_15 rfl rfl rfl rfl (Nat.le_of_ble_eq_true rfl) dX4_init_17 rfl ?_
  exact a_ret (q := 8) (j := 2) h hr rfl rfl dX4_init_20
theorem mw_X4_init : sMw yX4_init cX4_init 1 none 0 := ⟨(lw_i1 89 (by decide +kernel) (by decide +kernel)), (lw_i1 5 (by decide +kernel) (by decide +kernel)), by decide +kernel, by decide +kernel, by decide +kernel⟩
theorem im_X4_init : yX4_init.name = "<init>" ∧ Cond.instanceMethod yX4_init ∈ lw_good := ⟨rfl, (lw_i1 88 (by decide +kernel) (by decide +kernel))⟩
theorem nl_X8_20 : ∀ U, gNW U → va_Nw (.methodLinkNest RX8 20 yX4_init RX11) U := fun U h => by obtain ⟨⟨a1, a2, a3, a4, a5, a6, a7, a8, a9, a10, a11⟩, -⟩ := h; assumption
set_option maxRecDepth 20000 in
theorem i_X8_3 (l : Launch) (D : va_G) (cy : Nat → ClassId) (b : Nat) : gMet l D cy b 3 8 9 [.null, .null, .null, .int 0, .int 0, .int 0] [] yX8_init cX8_init 1 2 40 8 177 := by
  refine gMet_of (by decide) rfl (Nat.le_of_ble_eq_true rfl) (fun X h hin hB hr up => ?_)
  have h : gOK X cy cX8_init RX8 1 2 40 8 177 := h
  refine gG_w (ws' := (b + 3, .inr (8, [.null, .null, .null, .int 0, .int 0, .int 0])) :: ([] ++ wN cy b 4 0)) rfl ?_
  refine a_aload_n (x := b + 3) h rfl 0 rfl dX8_init_0 ?_
  refine a_obj h ob_X8 (by decide) (Nat.le_of_ble_eq_true rfl) dX8_init_1 ?_
  refine a_aload_n (x := b + 3) h rfl 0 rfl dX8_init_4 ?_
  refine a_new (fs := [.null, .null, .null, .int 0, .int 0]) h (by decide) nw_X8_9 df_X2 (by decide) dX8_init_5 ?_
  refine a_dup h rfl dX8_init_8 ?_
  refine a_initN (b := b) (q := 4) (lw := 4) (j := 0) RX11 [] h hB (up _ _ _ _ _ _ _ _ _ _ _ _ (i_X2_4 l D cy b)) rfl rfl rfl (by omega) (by decide) mw_X2_init im_X2_init nl_X8_11 (by decide) (Nat.le_of_ble_eq_true rfl) dX8_init_9 ?_
  refine gG_w (ws' := (b + 3, .inr (8, [.null, .null, .null, .int 0, .int 0, .int 0])) :: ([] ++ wN cy b 4 4)) rfl ?_
  refine a_put (v := .ref (b + 4)) (ws' := (b + 3, .inr (8, [.ref (b + 4), .null, .null, .int 0, .int 0, .int 0])) :: ([] ++ wN cy b 4 4)) 0 (.object "ClayDisc$Disc") h hin hB rfl wN_last rfl (by decide) fl_X8_12 rfl rfl rfl rfl (Nat.le_of_ble_eq_true rfl) dX8_init_12 rfl ?_
  refine a_aload_n (x := b + 3) h rfl 0 rfl dX8_init_15 ?_
  refine a_new (fs := [.null, .null, .int 0]) h (by decide) nw_X8_18 df_X4 (by decide) dX8_init_16 ?_
  refine a_dup h rfl dX8_init_19 ?_
  refine a_initN (b := b) (q := 8) (lw := 4) (j := 4) RX11 [] h hB (up _ _ _ _ _ _ _ _ _ _ _ _ (i_X4_8 l D cy b)) rfl rfl rfl (by omega) (by decide) mw_X4_init im_X4_init nl_X8_20 (by decide) (Nat.le_of_ble_eq_true rfl) dX8_init_20 ?_
  refine gG_w (ws' := (b + 3, .inr (8, [.ref (b + 4), .null, .null, .int 0, .int 0, .int 0])) :: ([] ++ wN cy b 4 7)) rfl ?_
  refine a_put (v := .ref (b + 8)) (ws' := (b + 3, .inr (8, [.ref (b + 4), .ref (b + 8), .null, .int 0, .int 0, .int 0])) :: ([] ++ wN cy b 4 7)) 0 (.object "ClayDisc$Overs") h hin hB rfl wN_last rfl (by decide) fl_X8_21 rfl rfl rfl rfl (Nat.le_of_ble_eq_true rfl) dX8_init_23 rfl ?_
  refine a_aload_n (x := b + 3) h rfl 0 rfl dX8_init_26 ?_
  refine a_bipush (v := 12) h (by decide) dX8_init_27 ?_
  refine a_newI (b := b) (q := 11) (N := 12) h rfl rfl ar_11 (gI0_0 (by decide)) aw_1 (by decide) (by decide) (by decide) (by decide) dX8_init_29 ?_
  refine gG_w (ws' := (b + 3, .inr (8, [.ref (b + 4), .ref (b + 8), .null, .int 0, .int 0, .int 0])) :: ([] ++ wN cy b 4 8)) rfl ?_
  refine a_put (v := .ref (b + 11)) (ws' := (b + 3, .inr (8, [.ref (b + 4), .ref (b + 8), .ref (b + 11), .int 0, .int 0, .int 0])) :: ([] ++ wN cy b 4 8)) 0 (.array .int) h hin hB rfl wN_last rfl (by decide) fl_X8_25 rfl rfl rfl rfl (Nat.le_of_ble_eq_true rfl) dX8_init_31 rfl ?_
  refine a_aload_n (x := b + 3) h rfl 0 rfl dX8_init_34 ?_
  refine a_iconst (v := 1) h (by decide) dX8_init_35 ?_
  refine a_put (v := .int 1) (ws' := (b + 3, .inr (8, [.ref (b + 4), .ref (b + 8), .ref (b + 11), .int 1, .int 0, .int 0])) :: ([] ++ wN cy b 4 8)) 0 .int h hin hB rfl wN_last rfl (by decide) fl_X8_29 rfl rfl rfl rfl (Nat.le_of_ble_eq_true rfl) dX8_init_36 rfl ?_
  refine a_aload_n (x := b + 3) h rfl 0 rfl dX8_init_39 ?_
  refine a_iconst (v := 0) h (by decide) dX8_init_40 ?_
  refine a_put (v := .int 0) (ws' := (b + 3, .inr (8, [.ref (b + 4), .ref (b + 8), .ref (b + 11), .int 1, .int 0, .int 0])) :: ([] ++ wN cy b 4 8)) 0 .int h hin hB rfl wN_last rfl (by decide) fl_X8_33 rfl rfl rfl rfl (Nat.le_of_ble_eq_true rfl) dX8_init_41 rfl ?_
  refine a_aload_n (x := b + 3) h rfl 0 rfl dX8_init_44 ?_
  refine a_iconst (v := 0) h (by decide) dX8_init_45 ?_
  refine a_put (v := .int 0) (ws' := (b + 3, .inr (8, [.ref (b + 4), .ref (b + 8), .ref (b + 11), .int 1, .int 0, .int 0])) :: ([] ++ wN cy b 4 8)) 0 .boolean h hin hB rfl wN_last rfl (by decide) fl_X8_36 rfl rfl rfl rfl (Nat.le_of_ble_eq_true rfl) dX8_init_46 rfl ?_
  exact a_ret (q := 3) (j := 8) h hr rfl rfl dX8_init_49
theorem mw_X8_init : sMw yX8_init cX8_init 1 none 0 := ⟨(lw_i1 53 (by decide +kernel) (by decide +kernel)), (lw_i1 3 (by decide +kernel) (by decide +kernel)), by decide +kernel, by decide +kernel, by decide +kernel⟩
theorem im_X8_init : yX8_init.name = "<init>" ∧ Cond.instanceMethod yX8_init ∈ lw_good := ⟨rfl, (lw_i1 52 (by decide +kernel) (by decide +kernel))⟩
theorem nl_X11_18 : ∀ U, gNW U → va_Nw (.methodLinkNest RX11 18 yX8_init RX11) U := fun U h => by obtain ⟨⟨a1, a2, a3, a4, a5, a6, a7, a8, a9, a10, a11⟩, -⟩ := h; assumption
theorem cl_X11_16 : Cond.classLink RX11 16 "ClayDisc$Told" ∈ lw_good := (lw_i1 49 (by decide +kernel) (by decide +kernel))
theorem ar_15 : sAr 15 1 60 := by unfold sAr; decide +kernel
theorem ar_16 : sAr 16 1 60 := by unfold sAr; decide +kernel
theorem ar_17 : sAr 17 1 13 := by unfold sAr; decide +kernel
set_option maxRecDepth 20000 in
theorem i_X2_14 (l : Launch) (D : va_G) (cy : Nat → ClassId) (b : Nat) : gMet l D cy b 14 2 4 [.null, .null, .null, .int 0, .int 0] [] yX2_init cX2_init 1 1 20 3 133 := by
  refine gMet_of (by decide) rfl (Nat.le_of_ble_eq_true rfl) (fun X h hin hB hr up => ?_)
  have h : gOK X cy cX2_init RX2 1 1 20 3 133 := h
  refine gG_w (ws' := (b + 14, .inr (2, [.null, .null, .null, .int 0, .int 0])) :: ([] ++ wN cy b 15 0)) rfl ?_
  refine a_aload_n (x := b + 14) h rfl 0 rfl dX2_init_0 ?_
  refine a_obj h ob_X2 (by decide) (Nat.le_of_ble_eq_true rfl) dX2_init_1 ?_
  refine a_aload_n (x := b + 14) h rfl 0 rfl dX2_init_4 ?_
  refine a_bipush (v := 60) h (by decide) dX2_init_5 ?_
  refine a_newI (b := b) (q := 15) (N := 60) h rfl rfl ar_15 (gI0_0 (by decide)) aw_1 (by decide) (by decide) (by decide) (by decide) dX2_init_7 ?_
  refine gG_w (ws' := (b + 14, .inr (2, [.null, .null, .null, .int 0, .int 0])) :: ([] ++ wN cy b 15 1)) rfl ?_
  refine a_put (v := .ref (b + 15)) (ws' := (b + 14, .inr (2, [.ref (b + 15), .null, .null, .int 0, .int 0])) :: ([] ++ wN cy b 15 1)) 0 (.array .int) h hin hB rfl wN_last rfl (by decide) fl_X2_9 rfl rfl rfl rfl (Nat.le_of_ble_eq_true rfl) dX2_init_9 rfl ?_
  refine a_aload_n (x := b + 14) h rfl 0 rfl dX2_init_12 ?_
  refine a_bipush (v := 60) h (by decide) dX2_init_13 ?_
  refine a_newI (b := b) (q := 16) (N := 60) h rfl rfl ar_16 (gI0_0 (by decide)) aw_1 (by decide) (by decide) (by decide) (by decide) dX2_init_15 ?_
  refine gG_w (ws' := (b + 14, .inr (2, [.ref (b + 15), .null, .null, .int 0, .int 0])) :: ([] ++ wN cy b 15 2)) rfl ?_
  refine a_put (v := .ref (b + 16)) (ws' := (b + 14, .inr (2, [.ref (b + 15), .ref (b + 16), .null, .int 0, .int 0])) :: ([] ++ wN cy b 15 2)) 0 (.array .int) h hin hB rfl wN_last rfl (by decide) fl_X2_15 rfl rfl rfl rfl (Nat.le_of_ble_eq_true rfl) dX2_init_17 rfl ?_
  refine a_aload_n (x := b + 14) h rfl 0 rfl dX2_init_20 ?_
  refine a_bipush (v := 13) h (by decide) dX2_init_21 ?_
  refine a_newI (b := b) (q := 17) (N := 13) h rfl rfl ar_17 (gI0_0 (by decide)) aw_1 (by decide) (by decide) (by decide) (by decide) dX2_init_23 ?_
  refine gG_w (ws' := (b + 14, .inr (2, [.ref (b + 15), .ref (b + 16), .null, .int 0, .int 0])) :: ([] ++ wN cy b 15 3)) rfl ?_
  refine a_put (v := .ref (b + 17)) (ws' := (b + 14, .inr (2, [.ref (b + 15), .ref (b + 16), .ref (b + 17), .int 0, .int 0])) :: ([] ++ wN cy b 15 3)) 0 (.array .int) h hin hB rfl wN_last rfl (by decide) fl_X2_18 rfl rfl rfl rfl (Nat.le_of_ble_eq_true rfl) dX2_init_25 rfl ?_
  exact a_ret (q := 14) (j := 3) h hr rfl rfl dX2_init_28
theorem ar_19 : sAr 19 1 12 := by unfold sAr; decide +kernel
theorem ar_20 : sAr 20 1 12 := by unfold sAr; decide +kernel
set_option maxRecDepth 20000 in
theorem i_X4_18 (l : Launch) (D : va_G) (cy : Nat → ClassId) (b : Nat) : gMet l D cy b 18 4 3 [.null, .null, .int 0] [] yX4_init cX4_init 1 1 20 2 24 := by
  refine gMet_of (by decide) rfl (Nat.le_of_ble_eq_true rfl) (fun X h hin hB hr up => ?_)
  have h : gOK X cy cX4_init RX4 1 1 20 2 24 := h
  refine gG_w (ws' := (b + 18, .inr (4, [.null, .null, .int 0])) :: ([] ++ wN cy b 19 0)) rfl ?_
  refine a_aload_n (x := b + 18) h rfl 0 rfl dX4_init_0 ?_
  refine a_obj h ob_X4 (by decide) (Nat.le_of_ble_eq_true rfl) dX4_init_1 ?_
  refine a_aload_n (x := b + 18) h rfl 0 rfl dX4_init_4 ?_
  refine a_bipush (v := 12) h (by decide) dX4_init_5 ?_
  refine a_newI (b := b) (q := 19) (N := 12) h rfl rfl ar_19 (gI0_0 (by decide)) aw_1 (by decide) (by decide) (by decide) (by decide) dX4_init_7 ?_
  refine gG_w (ws' := (b + 18, .inr (4, [.null, .null, .int 0])) :: ([] ++ wN cy b 19 1)) rfl ?_
  refine a_put (v := .ref (b + 19)) (ws' := (b + 18, .inr (4, [.ref (b + 19), .null, .int 0])) :: ([] ++ wN cy b 19 1)) 0 (.array .int) h hin hB rfl wN_last rfl (by decide) fl_X4_9 rfl rfl rfl rfl (Nat.le_of_ble_eq_true rfl) dX4_init_9 rfl ?_
  refine a_aload_n (x := b + 18) h rfl 0 rfl dX4_init_12 ?_
  refine a_bipush (v := 12) h (by decide) dX4_init_13 ?_
  refine a_newI (b := b) (q := 20) (N := 12) h rfl rfl ar_20 (gI0_0 (by decide)) aw_1 (by decide) (by decide) (by decide) (by decide) dX4_init_15 ?_
  refine gG_w (ws' := (b + 18, .inr (4, [.ref (b + 19), .null, .int 0])) :: ([] ++ wN cy b 19 2)) rfl ?_
  refine a_put (v := .ref (b + 20)) (ws' := (b + 18, .inr (4, [.ref (b + 19), .ref (b + 20), .int 0])) :: ([] ++ wN cy b 19 2)) 0 (.array .int) h hin hB rfl wN_last rfl (by decide) fl_X4_15 rfl rfl rfl rfl (Nat.le_of_ble_eq_true rfl) dX4_init_17 rfl ?_
  exact a_ret (q := 18) (j := 2) h hr rfl rfl dX4_init_20
theorem ar_21 : sAr 21 1 12 := by unfold sAr; decide +kernel
set_option maxRecDepth 20000 in
theorem i_X8_13 (l : Launch) (D : va_G) (cy : Nat → ClassId) (b : Nat) : gMet l D cy b 13 8 9 [.null, .null, .null, .int 0, .int 0, .int 0] [] yX8_init cX8_init 1 2 40 8 177 := by
  refine gMet_of (by decide) rfl (Nat.le_of_ble_eq_true rfl) (fun X h hin hB hr up => ?_)
  have h : gOK X cy cX8_init RX8 1 2 40 8 177 := h
  refine gG_w (ws' := (b + 13, .inr (8, [.null, .null, .null, .int 0, .int 0, .int 0])) :: ([] ++ wN cy b 14 0)) rfl ?_
  refine a_aload_n (x := b + 13) h rfl 0 rfl dX8_init_0 ?_
  refine a_obj h ob_X8 (by decide) (Nat.le_of_ble_eq_true rfl) dX8_init_1 ?_
  refine a_aload_n (x := b + 13) h rfl 0 rfl dX8_init_4 ?_
  refine a_new (fs := [.null, .null, .null, .int 0, .int 0]) h (by decide) nw_X8_9 df_X2 (by decide) dX8_init_5 ?_
  refine a_dup h rfl dX8_init_8 ?_
  refine a_initN (b := b) (q := 14) (lw := 14) (j := 0) RX11 [] h hB (up _ _ _ _ _ _ _ _ _ _ _ _ (i_X2_14 l D cy b)) rfl rfl rfl (by omega) (by decide) mw_X2_init im_X2_init nl_X8_11 (by decide) (Nat.le_of_ble_eq_true rfl) dX8_init_9 ?_
  refine gG_w (ws' := (b + 13, .inr (8, [.null, .null, .null, .int 0, .int 0, .int 0])) :: ([] ++ wN cy b 14 4)) rfl ?_
  refine a_put (v := .ref (b + 14)) (ws' := (b + 13, .inr (8, [.ref (b + 14), .null, .null, .int 0, .int 0, .int 0])) :: ([] ++ wN cy b 14 4)) 0 (.object "ClayDisc$Disc") h hin hB rfl wN_last rfl (by decide) fl_X8_12 rfl rfl rfl rfl (Nat.le_of_ble_eq_true rfl) dX8_init_12 rfl ?_
  refine a_aload_n (x := b + 13) h rfl 0 rfl dX8_init_15 ?_
  refine a_new (fs := [.null, .null, .int 0]) h (by decide) nw_X8_18 df_X4 (by decide) dX8_init_16 ?_
  refine a_dup h rfl dX8_init_19 ?_
  refine a_initN (b := b) (q := 18) (lw := 14) (j := 4) RX11 [] h hB (up _ _ _ _ _ _ _ _ _ _ _ _ (i_X4_18 l D cy b)) rfl rfl rfl (by omega) (by decide) mw_X4_init im_X4_init nl_X8_20 (by decide) (Nat.le_of_ble_eq_true rfl) dX8_init_20 ?_
  refine gG_w (ws' := (b + 13, .inr (8, [.ref (b + 14), .null, .null, .int 0, .int 0, .int 0])) :: ([] ++ wN cy b 14 7)) rfl ?_
  refine a_put (v := .ref (b + 18)) (ws' := (b + 13, .inr (8, [.ref (b + 14), .ref (b + 18), .null, .int 0, .int 0, .int 0])) :: ([] ++ wN cy b 14 7)) 0 (.object "ClayDisc$Overs") h hin hB rfl wN_last rfl (by decide) fl_X8_21 rfl rfl rfl rfl (Nat.le_of_ble_eq_true rfl) dX8_init_23 rfl ?_
  refine a_aload_n (x := b + 13) h rfl 0 rfl dX8_init_26 ?_
  refine a_bipush (v := 12) h (by decide) dX8_init_27 ?_
  refine a_newI (b := b) (q := 21) (N := 12) h rfl rfl ar_21 (gI0_0 (by decide)) aw_1 (by decide) (by decide) (by decide) (by decide) dX8_init_29 ?_
  refine gG_w (ws' := (b + 13, .inr (8, [.ref (b + 14), .ref (b + 18), .null, .int 0, .int 0, .int 0])) :: ([] ++ wN cy b 14 8)) rfl ?_
  refine a_put (v := .ref (b + 21)) (ws' := (b + 13, .inr (8, [.ref (b + 14), .ref (b + 18), .ref (b + 21), .int 0, .int 0, .int 0])) :: ([] ++ wN cy b 14 8)) 0 (.array .int) h hin hB rfl wN_last rfl (by decide) fl_X8_25 rfl rfl rfl rfl (Nat.le_of_ble_eq_true rfl) dX8_init_31 rfl ?_
  refine a_aload_n (x := b + 13) h rfl 0 rfl dX8_init_34 ?_
  refine a_iconst (v := 1) h (by decide) dX8_init_35 ?_
  refine a_put (v := .int 1) (ws' := (b + 13, .inr (8, [.ref (b + 14), .ref (b + 18), .ref (b + 21), .int 1, .int 0, .int 0])) :: ([] ++ wN cy b 14 8)) 0 .int h hin hB rfl wN_last rfl (by decide) fl_X8_29 rfl rfl rfl rfl (Nat.le_of_ble_eq_true rfl) dX8_init_36 rfl ?_
  refine a_aload_n (x := b + 13) h rfl 0 rfl dX8_init_39 ?_
  refine a_iconst (v := 0) h (by decide) dX8_init_40 ?_
  refine a_put (v := .int 0) (ws' := (b + 13, .inr (8, [.ref (b + 14), .ref (b + 18), .ref (b + 21), .int 1, .int 0, .int 0])) :: ([] ++ wN cy b 14 8)) 0 .int h hin hB rfl wN_last rfl (by decide) fl_X8_33 rfl rfl rfl rfl (Nat.le_of_ble_eq_true rfl) dX8_init_41 rfl ?_
  refine a_aload_n (x := b + 13) h rfl 0 rfl dX8_init_44 ?_
  refine a_iconst (v := 0) h (by decide) dX8_init_45 ?_
  refine a_put (v := .int 0) (ws' := (b + 13, .inr (8, [.ref (b + 14), .ref (b + 18), .ref (b + 21), .int 1, .int 0, .int 0])) :: ([] ++ wN cy b 14 8)) 0 .boolean h hin hB rfl wN_last rfl (by decide) fl_X8_36 rfl rfl rfl rfl (Nat.le_of_ble_eq_true rfl) dX8_init_46 rfl ?_
  exact a_ret (q := 13) (j := 8) h hr rfl rfl dX8_init_49
theorem ar_24 : sAr 24 1 60 := by unfold sAr; decide +kernel
theorem ar_25 : sAr 25 1 60 := by unfold sAr; decide +kernel
theorem ar_26 : sAr 26 1 13 := by unfold sAr; decide +kernel
set_option maxRecDepth 20000 in
theorem i_X2_23 (l : Launch) (D : va_G) (cy : Nat → ClassId) (b : Nat) : gMet l D cy b 23 2 4 [.null, .null, .null, .int 0, .int 0] [] yX2_init cX2_init 1 1 20 3 133 := by
  refine gMet_of (by decide) rfl (Nat.le_of_ble_eq_true rfl) (fun X h hin hB hr up => ?_)
  have h : gOK X cy cX2_init RX2 1 1 20 3 133 := h
  refine gG_w (ws' := (b + 23, .inr (2, [.null, .null, .null, .int 0, .int 0])) :: ([] ++ wN cy b 24 0)) rfl ?_
  refine a_aload_n (x := b + 23) h rfl 0 rfl dX2_init_0 ?_
  refine a_obj h ob_X2 (by decide) (Nat.le_of_ble_eq_true rfl) dX2_init_1 ?_
  refine a_aload_n (x := b + 23) h rfl 0 rfl dX2_init_4 ?_
  refine a_bipush (v := 60) h (by decide) dX2_init_5 ?_
  refine a_newI (b := b) (q := 24) (N := 60) h rfl rfl ar_24 (gI0_0 (by decide)) aw_1 (by decide) (by decide) (by decide) (by decide) dX2_init_7 ?_
  refine gG_w (ws' := (b + 23, .inr (2, [.null, .null, .null, .int 0, .int 0])) :: ([] ++ wN cy b 24 1)) rfl ?_
  refine a_put (v := .ref (b + 24)) (ws' := (b + 23, .inr (2, [.ref (b + 24), .null, .null, .int 0, .int 0])) :: ([] ++ wN cy b 24 1)) 0 (.array .int) h hin hB rfl wN_last rfl (by decide) fl_X2_9 rfl rfl rfl rfl (Nat.le_of_ble_eq_true rfl) dX2_init_9 rfl ?_
  refine a_aload_n (x := b + 23) h rfl 0 rfl dX2_init_12 ?_
  refine a_bipush (v := 60) h (by decide) dX2_init_13 ?_
  refine a_newI (b := b) (q := 25) (N := 60) h rfl rfl ar_25 (gI0_0 (by decide)) aw_1 (by decide) (by decide) (by decide) (by decide) dX2_init_15 ?_
  refine gG_w (ws' := (b + 23, .inr (2, [.ref (b + 24), .null, .null, .int 0, .int 0])) :: ([] ++ wN cy b 24 2)) rfl ?_
  refine a_put (v := .ref (b + 25)) (ws' := (b + 23, .inr (2, [.ref (b + 24), .ref (b + 25), .null, .int 0, .int 0])) :: ([] ++ wN cy b 24 2)) 0 (.array .int) h hin hB rfl wN_last rfl (by decide) fl_X2_15 rfl rfl rfl rfl (Nat.le_of_ble_eq_true rfl) dX2_init_17 rfl ?_
  refine a_aload_n (x := b + 23) h rfl 0 rfl dX2_init_20 ?_
  refine a_bipush (v := 13) h (by decide) dX2_init_21 ?_
  refine a_newI (b := b) (q := 26) (N := 13) h rfl rfl ar_26 (gI0_0 (by decide)) aw_1 (by decide) (by decide) (by decide) (by decide) dX2_init_23 ?_
  refine gG_w (ws' := (b + 23, .inr (2, [.ref (b + 24), .ref (b + 25), .null, .int 0, .int 0])) :: ([] ++ wN cy b 24 3)) rfl ?_
  refine a_put (v := .ref (b + 26)) (ws' := (b + 23, .inr (2, [.ref (b + 24), .ref (b + 25), .ref (b + 26), .int 0, .int 0])) :: ([] ++ wN cy b 24 3)) 0 (.array .int) h hin hB rfl wN_last rfl (by decide) fl_X2_18 rfl rfl rfl rfl (Nat.le_of_ble_eq_true rfl) dX2_init_25 rfl ?_
  exact a_ret (q := 23) (j := 3) h hr rfl rfl dX2_init_28
theorem ar_28 : sAr 28 1 12 := by unfold sAr; decide +kernel
theorem ar_29 : sAr 29 1 12 := by unfold sAr; decide +kernel
set_option maxRecDepth 20000 in
theorem i_X4_27 (l : Launch) (D : va_G) (cy : Nat → ClassId) (b : Nat) : gMet l D cy b 27 4 3 [.null, .null, .int 0] [] yX4_init cX4_init 1 1 20 2 24 := by
  refine gMet_of (by decide) rfl (Nat.le_of_ble_eq_true rfl) (fun X h hin hB hr up => ?_)
  have h : gOK X cy cX4_init RX4 1 1 20 2 24 := h
  refine gG_w (ws' := (b + 27, .inr (4, [.null, .null, .int 0])) :: ([] ++ wN cy b 28 0)) rfl ?_
  refine a_aload_n (x := b + 27) h rfl 0 rfl dX4_init_0 ?_
  refine a_obj h ob_X4 (by decide) (Nat.le_of_ble_eq_true rfl) dX4_init_1 ?_
  refine a_aload_n (x := b + 27) h rfl 0 rfl dX4_init_4 ?_
  refine a_bipush (v := 12) h (by decide) dX4_init_5 ?_
  refine a_newI (b := b) (q := 28) (N := 12) h rfl rfl ar_28 (gI0_0 (by decide)) aw_1 (by decide) (by decide) (by decide) (by decide) dX4_init_7 ?_
  refine gG_w (ws' := (b + 27, .inr (4, [.null, .null, .int 0])) :: ([] ++ wN cy b 28 1)) rfl ?_
  refine a_put (v := .ref (b + 28)) (ws' := (b + 27, .inr (4, [.ref (b + 28), .null, .int 0])) :: ([] ++ wN cy b 28 1)) 0 (.array .int) h hin hB rfl wN_last rfl (by decide) fl_X4_9 rfl rfl rfl rfl (Nat.le_of_ble_eq_true rfl) dX4_init_9 rfl ?_
  refine a_aload_n (x := b + 27) h rfl 0 rfl dX4_init_12 ?_
  refine a_bipush (v := 12) h (by decide) dX4_init_13 ?_
  refine a_newI (b := b) (q := 29) (N := 12) h rfl rfl ar_29 (gI0_0 (by decide)) aw_1 (by decide) (by decide) (by decide) (by decide) dX4_init_15 ?_
  refine gG_w (ws' := (b + 27, .inr (4, [.ref (b + 28), .null, .int 0])) :: ([] ++ wN cy b 28 2)) rfl ?_
  refine a_put (v := .ref (b + 29)) (ws' := (b + 27, .inr (4, [.ref (b + 28), .ref (b + 29), .int 0])) :: ([] ++ wN cy b 28 2)) 0 (.array .int) h hin hB rfl wN_last rfl (by decide) fl_X4_15 rfl rfl rfl rfl (Nat.le_of_ble_eq_true rfl) dX4_init_17 rfl ?_
  exact a_ret (q := 27) (j := 2) h hr rfl rfl dX4_init_20
theorem ar_30 : sAr 30 1 12 := by unfold sAr; decide +kernel
set_option maxRecDepth 20000 in
theorem i_X8_22 (l : Launch) (D : va_G) (cy : Nat → ClassId) (b : Nat) : gMet l D cy b 22 8 9 [.null, .null, .null, .int 0, .int 0, .int 0] [] yX8_init cX8_init 1 2 40 8 177 := by
  refine gMet_of (by decide) rfl (Nat.le_of_ble_eq_true rfl) (fun X h hin hB hr up => ?_)
  have h : gOK X cy cX8_init RX8 1 2 40 8 177 := h
  refine gG_w (ws' := (b + 22, .inr (8, [.null, .null, .null, .int 0, .int 0, .int 0])) :: ([] ++ wN cy b 23 0)) rfl ?_
  refine a_aload_n (x := b + 22) h rfl 0 rfl dX8_init_0 ?_
  refine a_obj h ob_X8 (by decide) (Nat.le_of_ble_eq_true rfl) dX8_init_1 ?_
  refine a_aload_n (x := b + 22) h rfl 0 rfl dX8_init_4 ?_
  refine a_new (fs := [.null, .null, .null, .int 0, .int 0]) h (by decide) nw_X8_9 df_X2 (by decide) dX8_init_5 ?_
  refine a_dup h rfl dX8_init_8 ?_
  refine a_initN (b := b) (q := 23) (lw := 23) (j := 0) RX11 [] h hB (up _ _ _ _ _ _ _ _ _ _ _ _ (i_X2_23 l D cy b)) rfl rfl rfl (by omega) (by decide) mw_X2_init im_X2_init nl_X8_11 (by decide) (Nat.le_of_ble_eq_true rfl) dX8_init_9 ?_
  refine gG_w (ws' := (b + 22, .inr (8, [.null, .null, .null, .int 0, .int 0, .int 0])) :: ([] ++ wN cy b 23 4)) rfl ?_
  refine a_put (v := .ref (b + 23)) (ws' := (b + 22, .inr (8, [.ref (b + 23), .null, .null, .int 0, .int 0, .int 0])) :: ([] ++ wN cy b 23 4)) 0 (.object "ClayDisc$Disc") h hin hB rfl wN_last rfl (by decide) fl_X8_12 rfl rfl rfl rfl (Nat.le_of_ble_eq_true rfl) dX8_init_12 rfl ?_
  refine a_aload_n (x := b + 22) h rfl 0 rfl dX8_init_15 ?_
  refine a_new (fs := [.null, .null, .int 0]) h (by decide) nw_X8_18 df_X4 (by decide) dX8_init_16 ?_
  refine a_dup h rfl dX8_init_19 ?_
  refine a_initN (b := b) (q := 27) (lw := 23) (j := 4) RX11 [] h hB (up _ _ _ _ _ _ _ _ _ _ _ _ (i_X4_27 l D cy b)) rfl rfl rfl (by omega) (by decide) mw_X4_init im_X4_init nl_X8_20 (by decide) (Nat.le_of_ble_eq_true rfl) dX8_init_20 ?_
  refine gG_w (ws' := (b + 22, .inr (8, [.ref (b + 23), .null, .null, .int 0, .int 0, .int 0])) :: ([] ++ wN cy b 23 7)) rfl ?_
  refine a_put (v := .ref (b + 27)) (ws' := (b + 22, .inr (8, [.ref (b + 23), .ref (b + 27), .null, .int 0, .int 0, .int 0])) :: ([] ++ wN cy b 23 7)) 0 (.object "ClayDisc$Overs") h hin hB rfl wN_last rfl (by decide) fl_X8_21 rfl rfl rfl rfl (Nat.le_of_ble_eq_true rfl) dX8_init_23 rfl ?_
  refine a_aload_n (x := b + 22) h rfl 0 rfl dX8_init_26 ?_
  refine a_bipush (v := 12) h (by decide) dX8_init_27 ?_
  refine a_newI (b := b) (q := 30) (N := 12) h rfl rfl ar_30 (gI0_0 (by decide)) aw_1 (by decide) (by decide) (by decide) (by decide) dX8_init_29 ?_
  refine gG_w (ws' := (b + 22, .inr (8, [.ref (b + 23), .ref (b + 27), .null, .int 0, .int 0, .int 0])) :: ([] ++ wN cy b 23 8)) rfl ?_
  refine a_put (v := .ref (b + 30)) (ws' := (b + 22, .inr (8, [.ref (b + 23), .ref (b + 27), .ref (b + 30), .int 0, .int 0, .int 0])) :: ([] ++ wN cy b 23 8)) 0 (.array .int) h hin hB rfl wN_last rfl (by decide) fl_X8_25 rfl rfl rfl rfl (Nat.le_of_ble_eq_true rfl) dX8_init_31 rfl ?_
  refine a_aload_n (x := b + 22) h rfl 0 rfl dX8_init_34 ?_
  refine a_iconst (v := 1) h (by decide) dX8_init_35 ?_
  refine a_put (v := .int 1) (ws' := (b + 22, .inr (8, [.ref (b + 23), .ref (b + 27), .ref (b + 30), .int 1, .int 0, .int 0])) :: ([] ++ wN cy b 23 8)) 0 .int h hin hB rfl wN_last rfl (by decide) fl_X8_29 rfl rfl rfl rfl (Nat.le_of_ble_eq_true rfl) dX8_init_36 rfl ?_
  refine a_aload_n (x := b + 22) h rfl 0 rfl dX8_init_39 ?_
  refine a_iconst (v := 0) h (by decide) dX8_init_40 ?_
  refine a_put (v := .int 0) (ws' := (b + 22, .inr (8, [.ref (b + 23), .ref (b + 27), .ref (b + 30), .int 1, .int 0, .int 0])) :: ([] ++ wN cy b 23 8)) 0 .int h hin hB rfl wN_last rfl (by decide) fl_X8_33 rfl rfl rfl rfl (Nat.le_of_ble_eq_true rfl) dX8_init_41 rfl ?_
  refine a_aload_n (x := b + 22) h rfl 0 rfl dX8_init_44 ?_
  refine a_iconst (v := 0) h (by decide) dX8_init_45 ?_
  refine a_put (v := .int 0) (ws' := (b + 22, .inr (8, [.ref (b + 23), .ref (b + 27), .ref (b + 30), .int 1, .int 0, .int 0])) :: ([] ++ wN cy b 23 8)) 0 .boolean h hin hB rfl wN_last rfl (by decide) fl_X8_36 rfl rfl rfl rfl (Nat.le_of_ble_eq_true rfl) dX8_init_46 rfl ?_
  exact a_ret (q := 22) (j := 8) h hr rfl rfl dX8_init_49
theorem ar_33 : sAr 33 1 60 := by unfold sAr; decide +kernel
theorem ar_34 : sAr 34 1 60 := by unfold sAr; decide +kernel
theorem ar_35 : sAr 35 1 13 := by unfold sAr; decide +kernel
set_option maxRecDepth 20000 in
theorem i_X2_32 (l : Launch) (D : va_G) (cy : Nat → ClassId) (b : Nat) : gMet l D cy b 32 2 4 [.null, .null, .null, .int 0, .int 0] [] yX2_init cX2_init 1 1 20 3 133 := by
  refine gMet_of (by decide) rfl (Nat.le_of_ble_eq_true rfl) (fun X h hin hB hr up => ?_)
  have h : gOK X cy cX2_init RX2 1 1 20 3 133 := h
  refine gG_w (ws' := (b + 32, .inr (2, [.null, .null, .null, .int 0, .int 0])) :: ([] ++ wN cy b 33 0)) rfl ?_
  refine a_aload_n (x := b + 32) h rfl 0 rfl dX2_init_0 ?_
  refine a_obj h ob_X2 (by decide) (Nat.le_of_ble_eq_true rfl) dX2_init_1 ?_
  refine a_aload_n (x := b + 32) h rfl 0 rfl dX2_init_4 ?_
  refine a_bipush (v := 60) h (by decide) dX2_init_5 ?_
  refine a_newI (b := b) (q := 33) (N := 60) h rfl rfl ar_33 (gI0_0 (by decide)) aw_1 (by decide) (by decide) (by decide) (by decide) dX2_init_7 ?_
  refine gG_w (ws' := (b + 32, .inr (2, [.null, .null, .null, .int 0, .int 0])) :: ([] ++ wN cy b 33 1)) rfl ?_
  refine a_put (v := .ref (b + 33)) (ws' := (b + 32, .inr (2, [.ref (b + 33), .null, .null, .int 0, .int 0])) :: ([] ++ wN cy b 33 1)) 0 (.array .int) h hin hB rfl wN_last rfl (by decide) fl_X2_9 rfl rfl rfl rfl (Nat.le_of_ble_eq_true rfl) dX2_init_9 rfl ?_
  refine a_aload_n (x := b + 32) h rfl 0 rfl dX2_init_12 ?_
  refine a_bipush (v := 60) h (by decide) dX2_init_13 ?_
  refine a_newI (b := b) (q := 34) (N := 60) h rfl rfl ar_34 (gI0_0 (by decide)) aw_1 (by decide) (by decide) (by decide) (by decide) dX2_init_15 ?_
  refine gG_w (ws' := (b + 32, .inr (2, [.ref (b + 33), .null, .null, .int 0, .int 0])) :: ([] ++ wN cy b 33 2)) rfl ?_
  refine a_put (v := .ref (b + 34)) (ws' := (b + 32, .inr (2, [.ref (b + 33), .ref (b + 34), .null, .int 0, .int 0])) :: ([] ++ wN cy b 33 2)) 0 (.array .int) h hin hB rfl wN_last rfl (by decide) fl_X2_15 rfl rfl rfl rfl (Nat.le_of_ble_eq_true rfl) dX2_init_17 rfl ?_
  refine a_aload_n (x := b + 32) h rfl 0 rfl dX2_init_20 ?_
  refine a_bipush (v := 13) h (by decide) dX2_init_21 ?_
  refine a_newI (b := b) (q := 35) (N := 13) h rfl rfl ar_35 (gI0_0 (by decide)) aw_1 (by decide) (by decide) (by decide) (by decide) dX2_init_23 ?_
  refine gG_w (ws' := (b + 32, .inr (2, [.ref (b + 33), .ref (b + 34), .null, .int 0, .int 0])) :: ([] ++ wN cy b 33 3)) rfl ?_
  refine a_put (v := .ref (b + 35)) (ws' := (b + 32, .inr (2, [.ref (b + 33), .ref (b + 34), .ref (b + 35), .int 0, .int 0])) :: ([] ++ wN cy b 33 3)) 0 (.array .int) h hin hB rfl wN_last rfl (by decide) fl_X2_18 rfl rfl rfl rfl (Nat.le_of_ble_eq_true rfl) dX2_init_25 rfl ?_
  exact a_ret (q := 32) (j := 3) h hr rfl rfl dX2_init_28
theorem ar_37 : sAr 37 1 12 := by unfold sAr; decide +kernel
theorem ar_38 : sAr 38 1 12 := by unfold sAr; decide +kernel
set_option maxRecDepth 20000 in
theorem i_X4_36 (l : Launch) (D : va_G) (cy : Nat → ClassId) (b : Nat) : gMet l D cy b 36 4 3 [.null, .null, .int 0] [] yX4_init cX4_init 1 1 20 2 24 := by
  refine gMet_of (by decide) rfl (Nat.le_of_ble_eq_true rfl) (fun X h hin hB hr up => ?_)
  have h : gOK X cy cX4_init RX4 1 1 20 2 24 := h
  refine gG_w (ws' := (b + 36, .inr (4, [.null, .null, .int 0])) :: ([] ++ wN cy b 37 0)) rfl ?_
  refine a_aload_n (x := b + 36) h rfl 0 rfl dX4_init_0 ?_
  refine a_obj h ob_X4 (by decide) (Nat.le_of_ble_eq_true rfl) dX4_init_1 ?_
  refine a_aload_n (x := b + 36) h rfl 0 rfl dX4_init_4 ?_
  refine a_bipush (v := 12) h (by decide) dX4_init_5 ?_
  refine a_newI (b := b) (q := 37) (N := 12) h rfl rfl ar_37 (gI0_0 (by decide)) aw_1 (by decide) (by decide) (by decide) (by decide) dX4_init_7 ?_
  refine gG_w (ws' := (b + 36, .inr (4, [.null, .null, .int 0])) :: ([] ++ wN cy b 37 1)) rfl ?_
  refine a_put (v := .ref (b + 37)) (ws' := (b + 36, .inr (4, [.ref (b + 37), .null, .int 0])) :: ([] ++ wN cy b 37 1)) 0 (.array .int) h hin hB rfl wN_last rfl (by decide) fl_X4_9 rfl rfl rfl rfl (Nat.le_of_ble_eq_true rfl) dX4_init_9 rfl ?_
  refine a_aload_n (x := b + 36) h rfl 0 rfl dX4_init_12 ?_
  refine a_bipush (v := 12) h (by decide) dX4_init_13 ?_
  refine a_newI (b := b) (q := 38) (N := 12) h rfl rfl ar_38 (gI0_0 (by decide)) aw_1 (by decide) (by decide) (by decide) (by decide) dX4_init_15 ?_
  refine gG_w (ws' := (b + 36, .inr (4, [.ref (b + 37), .null, .int 0])) :: ([] ++ wN cy b 37 2)) rfl ?_
  refine a_put (v := .ref (b + 38)) (ws' := (b + 36, .inr (4, [.ref (b + 37), .ref (b + 38), .int 0])) :: ([] ++ wN cy b 37 2)) 0 (.array .int) h hin hB rfl wN_last rfl (by decide) fl_X4_15 rfl rfl rfl rfl (Nat.le_of_ble_eq_true rfl) dX4_init_17 rfl ?_
  exact a_ret (q := 36) (j := 2) h hr rfl rfl dX4_init_20
theorem ar_39 : sAr 39 1 12 := by unfold sAr; decide +kernel
set_option maxRecDepth 20000 in
theorem i_X8_31 (l : Launch) (D : va_G) (cy : Nat → ClassId) (b : Nat) : gMet l D cy b 31 8 9 [.null, .null, .null, .int 0, .int 0, .int 0] [] yX8_init cX8_init 1 2 40 8 177 := by
  refine gMet_of (by decide) rfl (Nat.le_of_ble_eq_true rfl) (fun X h hin hB hr up => ?_)
  have h : gOK X cy cX8_init RX8 1 2 40 8 177 := h
  refine gG_w (ws' := (b + 31, .inr (8, [.null, .null, .null, .int 0, .int 0, .int 0])) :: ([] ++ wN cy b 32 0)) rfl ?_
  refine a_aload_n (x := b + 31) h rfl 0 rfl dX8_init_0 ?_
  refine a_obj h ob_X8 (by decide) (Nat.le_of_ble_eq_true rfl) dX8_init_1 ?_
  refine a_aload_n (x := b + 31) h rfl 0 rfl dX8_init_4 ?_
  refine a_new (fs := [.null, .null, .null, .int 0, .int 0]) h (by decide) nw_X8_9 df_X2 (by decide) dX8_init_5 ?_
  refine a_dup h rfl dX8_init_8 ?_
  refine a_initN (b := b) (q := 32) (lw := 32) (j := 0) RX11 [] h hB (up _ _ _ _ _ _ _ _ _ _ _ _ (i_X2_32 l D cy b)) rfl rfl rfl (by omega) (by decide) mw_X2_init im_X2_init nl_X8_11 (by decide) (Nat.le_of_ble_eq_true rfl) dX8_init_9 ?_
  refine gG_w (ws' := (b + 31, .inr (8, [.null, .null, .null, .int 0, .int 0, .int 0])) :: ([] ++ wN cy b 32 4)) rfl ?_
  refine a_put (v := .ref (b + 32)) (ws' := (b + 31, .inr (8, [.ref (b + 32), .null, .null, .int 0, .int 0, .int 0])) :: ([] ++ wN cy b 32 4)) 0 (.object "ClayDisc$Disc") h hin hB rfl wN_last rfl (by decide) fl_X8_12 rfl rfl rfl rfl (Nat.le_of_ble_eq_true rfl) dX8_init_12 rfl ?_
  refine a_aload_n (x := b + 31) h rfl 0 rfl dX8_init_15 ?_
  refine a_new (fs := [.null, .null, .int 0]) h (by decide) nw_X8_18 df_X4 (by decide) dX8_init_16 ?_
  refine a_dup h rfl dX8_init_19 ?_
  refine a_initN (b := b) (q := 36) (lw := 32) (j := 4) RX11 [] h hB (up _ _ _ _ _ _ _ _ _ _ _ _ (i_X4_36 l D cy b)) rfl rfl rfl (by omega) (by decide) mw_X4_init im_X4_init nl_X8_20 (by decide) (Nat.le_of_ble_eq_true rfl) dX8_init_20 ?_
  refine gG_w (ws' := (b + 31, .inr (8, [.ref (b + 32), .null, .null, .int 0, .int 0, .int 0])) :: ([] ++ wN cy b 32 7)) rfl ?_
  refine a_put (v := .ref (b + 36)) (ws' := (b + 31, .inr (8, [.ref (b + 32), .ref (b + 36), .null, .int 0, .int 0, .int 0])) :: ([] ++ wN cy b 32 7)) 0 (.object "ClayDisc$Overs") h hin hB rfl wN_last rfl (by decide) fl_X8_21 rfl rfl rfl rfl (Nat.le_of_ble_eq_true rfl) dX8_init_23 rfl ?_
  refine a_aload_n (x := b + 31) h rfl 0 rfl dX8_init_26 ?_
  refine a_bipush (v := 12) h (by decide) dX8_init_27 ?_
  refine a_newI (b := b) (q := 39) (N := 12) h rfl rfl ar_39 (gI0_0 (by decide)) aw_1 (by decide) (by decide) (by decide) (by decide) dX8_init_29 ?_
  refine gG_w (ws' := (b + 31, .inr (8, [.ref (b + 32), .ref (b + 36), .null, .int 0, .int 0, .int 0])) :: ([] ++ wN cy b 32 8)) rfl ?_
  refine a_put (v := .ref (b + 39)) (ws' := (b + 31, .inr (8, [.ref (b + 32), .ref (b + 36), .ref (b + 39), .int 0, .int 0, .int 0])) :: ([] ++ wN cy b 32 8)) 0 (.array .int) h hin hB rfl wN_last rfl (by decide) fl_X8_25 rfl rfl rfl rfl (Nat.le_of_ble_eq_true rfl) dX8_init_31 rfl ?_
  refine a_aload_n (x := b + 31) h rfl 0 rfl dX8_init_34 ?_
  refine a_iconst (v := 1) h (by decide) dX8_init_35 ?_
  refine a_put (v := .int 1) (ws' := (b + 31, .inr (8, [.ref (b + 32), .ref (b + 36), .ref (b + 39), .int 1, .int 0, .int 0])) :: ([] ++ wN cy b 32 8)) 0 .int h hin hB rfl wN_last rfl (by decide) fl_X8_29 rfl rfl rfl rfl (Nat.le_of_ble_eq_true rfl) dX8_init_36 rfl ?_
  refine a_aload_n (x := b + 31) h rfl 0 rfl dX8_init_39 ?_
  refine a_iconst (v := 0) h (by decide) dX8_init_40 ?_
  refine a_put (v := .int 0) (ws' := (b + 31, .inr (8, [.ref (b + 32), .ref (b + 36), .ref (b + 39), .int 1, .int 0, .int 0])) :: ([] ++ wN cy b 32 8)) 0 .int h hin hB rfl wN_last rfl (by decide) fl_X8_33 rfl rfl rfl rfl (Nat.le_of_ble_eq_true rfl) dX8_init_41 rfl ?_
  refine a_aload_n (x := b + 31) h rfl 0 rfl dX8_init_44 ?_
  refine a_iconst (v := 0) h (by decide) dX8_init_45 ?_
  refine a_put (v := .int 0) (ws' := (b + 31, .inr (8, [.ref (b + 32), .ref (b + 36), .ref (b + 39), .int 1, .int 0, .int 0])) :: ([] ++ wN cy b 32 8)) 0 .boolean h hin hB rfl wN_last rfl (by decide) fl_X8_36 rfl rfl rfl rfl (Nat.le_of_ble_eq_true rfl) dX8_init_46 rfl ?_
  exact a_ret (q := 31) (j := 8) h hr rfl rfl dX8_init_49
theorem aw_2 : Cond.arrayClass .boolean ∈ lw_good := (lw_i1 156 (by decide +kernel) (by decide +kernel))
theorem cl_X11_31 : Cond.classLink RX11 31 "ClayDisc$Tongue" ∈ lw_good := (lw_i1 133 (by decide +kernel) (by decide +kernel))
theorem nw_X11_31 : Cond.classLink RX11 31 (sCl 9).1 ∈ lw_good ∧ Cond.instantiable (sCl 9).1 (sCl 9).2.2 ∈ lw_good ∧ Cond.initialized (sCl 9).1 ∈ lw_good := ⟨(lw_i1 133 (by decide +kernel) (by decide +kernel)), (lw_i1 135 (by decide +kernel) (by decide +kernel)), (lw_i1 6 (by decide +kernel) (by decide +kernel))⟩
theorem df_X9 : ∀ j, j < (sCl 9).2.2 → defaultValue (sTy 9 j) = vp_V [.null, .null, .int 0] j := by
  intro j hj
  have hj : j < 3 := hj
  rcases (show j = 0 ∨ j = 1 ∨ j = 2 by omega) with rfl | rfl | rfl <;> rfl
theorem dX9_init_0 : decode cX9_init 0 = .ok (.aload_n 0, 1) := by decide +kernel
theorem dX9_init_1 : decode cX9_init 1 = .ok (.invokespecial 3, 3) := by decide +kernel
theorem dX9_init_4 : decode cX9_init 4 = .ok (.aload_n 0, 1) := by decide +kernel
theorem dX9_init_5 : decode cX9_init 5 = .ok (.bipush 20, 2) := by decide +kernel
theorem dX9_init_7 : decode cX9_init 7 = .ok (.bipush 6, 2) := by decide +kernel
theorem dX9_init_9 : decode cX9_init 9 = .ok (.multianewarray 9 2, 4) := by decide +kernel
theorem dX9_init_13 : decode cX9_init 13 = .ok (.putfield 11, 3) := by decide +kernel
theorem dX9_init_16 : decode cX9_init 16 = .ok (.aload_n 0, 1) := by decide +kernel
theorem dX9_init_17 : decode cX9_init 17 = .ok (.bipush 20, 2) := by decide +kernel
theorem dX9_init_19 : decode cX9_init 19 = .ok (.newarray .int, 2) := by decide +kernel
theorem dX9_init_21 : decode cX9_init 21 = .ok (.putfield 16, 3) := by decide +kernel
theorem dX9_init_24 : decode cX9_init 24 = .ok (.return_, 1) := by decide +kernel
theorem ob_X9 : Cond.methodLink RX9 3 objectInit ∈ lw_good ∧ Cond.instanceMethod objectInit ∈ lw_good ∧ Cond.code objectInit ⟨#[0xb1]⟩ 1 none ∈ lw_good := ⟨(lw_i1 139 (by decide +kernel) (by decide +kernel)), (lw_i1 27 (by decide +kernel) (by decide +kernel)), (lw_i1 28 (by decide +kernel) (by decide +kernel))⟩
theorem mc_X9_9 : Cond.classLink RX9 9 ("[" ++ (FieldType.array .int).toString) ∈ lw_good := (lw_i1 140 (by decide +kernel) (by decide +kernel))
theorem ar_43 : sAr 43 6 20 := by unfold sAr; decide +kernel
theorem rw_43 : ∀ i, i < 20 → sAr (43 + 1 + i) 1 6 ∧ sR 43 i = 43 + 1 + i := by unfold sAr; decide +kernel
theorem ar_64 : sAr 64 1 20 := by unfold sAr; decide +kernel
set_option maxRecDepth 20000 in
theorem i_X9_42 (l : Launch) (D : va_G) (cy : Nat → ClassId) (b : Nat) : gMet l D cy b 42 9 23 [.null, .null, .int 0] [] yX9_init cX9_init 1 1 20 22 160 := by
  refine gMet_of (by decide) rfl (Nat.le_of_ble_eq_true rfl) (fun X h hin hB hr up => ?_)
  have h : gOK X cy cX9_init RX9 1 1 20 22 160 := h
  refine gG_w (ws' := (b + 42, .inr (9, [.null, .null, .int 0])) :: ([] ++ wN cy b 43 0)) rfl ?_
  refine a_aload_n (x := b + 42) h rfl 0 rfl dX9_init_0 ?_
  refine a_obj h ob_X9 (by decide) (Nat.le_of_ble_eq_true rfl) dX9_init_1 ?_
  refine a_aload_n (x := b + 42) h rfl 0 rfl dX9_init_4 ?_
  refine a_bipush (v := 20) h (by decide) dX9_init_5 ?_
  refine a_bipush (v := 6) h (by decide) dX9_init_7 ?_
  refine a_mn (b := b) (q := 43) (N := 20) (M' := 6) (t := 2) (u := 1) (ty := .int) h rfl rfl (by decide) ar_43 (fun i hi => ⟨(rw_43 i hi).1, (rw_43 i hi).2, gI0_0 (by omega)⟩) ⟨mc_X9_9, aw_1⟩ (by decide) (by decide) (by decide) (by decide) (by decide) (by decide) dX9_init_9 ?_
  refine gG_w (ws' := (b + 42, .inr (9, [.null, .null, .int 0])) :: ([] ++ wN cy b 43 21)) rfl ?_
  refine a_put (v := .ref (b + 43)) (ws' := (b + 42, .inr (9, [.ref (b + 43), .null, .int 0])) :: ([] ++ wN cy b 43 21)) 0 (.array (.array .int)) h hin hB rfl wN_last rfl (by decide) fl_X9_11 rfl rfl rfl rfl (Nat.le_of_ble_eq_true rfl) dX9_init_13 rfl ?_
  refine a_aload_n (x := b + 42) h rfl 0 rfl dX9_init_16 ?_
  refine a_bipush (v := 20) h (by decide) dX9_init_17 ?_
  refine a_newI (b := b) (q := 64) (N := 20) h rfl rfl ar_64 (gI0_0 (by decide)) aw_1 (by decide) (by decide) (by decide) (by decide) dX9_init_19 ?_
  refine gG_w (ws' := (b + 42, .inr (9, [.ref (b + 43), .null, .int 0])) :: ([] ++ wN cy b 43 22)) rfl ?_
  refine a_put (v := .ref (b + 64)) (ws' := (b + 42, .inr (9, [.ref (b + 43), .ref (b + 64), .int 0])) :: ([] ++ wN cy b 43 22)) 0 (.array .int) h hin hB rfl wN_last rfl (by decide) fl_X9_16 rfl rfl rfl rfl (Nat.le_of_ble_eq_true rfl) dX9_init_21 rfl ?_
  exact a_ret (q := 42) (j := 22) h hr rfl rfl dX9_init_24
theorem mw_X9_init : sMw yX9_init cX9_init 1 none 0 := ⟨(lw_i1 138 (by decide +kernel) (by decide +kernel)), (lw_i1 6 (by decide +kernel) (by decide +kernel)), by decide +kernel, by decide +kernel, by decide +kernel⟩
theorem im_X9_init : yX9_init.name = "<init>" ∧ Cond.instanceMethod yX9_init ∈ lw_good := ⟨rfl, (lw_i1 137 (by decide +kernel) (by decide +kernel))⟩
theorem nl_X11_37 : ∀ U, gNW U → va_Nw (.methodLinkNest RX11 37 yX9_init RX11) U := fun U h => by obtain ⟨⟨a1, a2, a3, a4, a5, a6, a7, a8, a9, a10, a11⟩, -⟩ := h; assumption
theorem ar_66 : sAr 66 6 20 := by unfold sAr; decide +kernel
theorem rw_66 : ∀ i, i < 20 → sAr (66 + 1 + i) 1 6 ∧ sR 66 i = 66 + 1 + i := by unfold sAr; decide +kernel
theorem ar_87 : sAr 87 1 20 := by unfold sAr; decide +kernel
set_option maxRecDepth 20000 in
theorem i_X9_65 (l : Launch) (D : va_G) (cy : Nat → ClassId) (b : Nat) : gMet l D cy b 65 9 23 [.null, .null, .int 0] [] yX9_init cX9_init 1 1 20 22 160 := by
  refine gMet_of (by decide) rfl (Nat.le_of_ble_eq_true rfl) (fun X h hin hB hr up => ?_)
  have h : gOK X cy cX9_init RX9 1 1 20 22 160 := h
  refine gG_w (ws' := (b + 65, .inr (9, [.null, .null, .int 0])) :: ([] ++ wN cy b 66 0)) rfl ?_
  refine a_aload_n (x := b + 65) h rfl 0 rfl dX9_init_0 ?_
  refine a_obj h ob_X9 (by decide) (Nat.le_of_ble_eq_true rfl) dX9_init_1 ?_
  refine a_aload_n (x := b + 65) h rfl 0 rfl dX9_init_4 ?_
  refine a_bipush (v := 20) h (by decide) dX9_init_5 ?_
  refine a_bipush (v := 6) h (by decide) dX9_init_7 ?_
  refine a_mn (b := b) (q := 66) (N := 20) (M' := 6) (t := 2) (u := 1) (ty := .int) h rfl rfl (by decide) ar_66 (fun i hi => ⟨(rw_66 i hi).1, (rw_66 i hi).2, gI0_0 (by omega)⟩) ⟨mc_X9_9, aw_1⟩ (by decide) (by decide) (by decide) (by decide) (by decide) (by decide) dX9_init_9 ?_
  refine gG_w (ws' := (b + 65, .inr (9, [.null, .null, .int 0])) :: ([] ++ wN cy b 66 21)) rfl ?_
  refine a_put (v := .ref (b + 66)) (ws' := (b + 65, .inr (9, [.ref (b + 66), .null, .int 0])) :: ([] ++ wN cy b 66 21)) 0 (.array (.array .int)) h hin hB rfl wN_last rfl (by decide) fl_X9_11 rfl rfl rfl rfl (Nat.le_of_ble_eq_true rfl) dX9_init_13 rfl ?_
  refine a_aload_n (x := b + 65) h rfl 0 rfl dX9_init_16 ?_
  refine a_bipush (v := 20) h (by decide) dX9_init_17 ?_
  refine a_newI (b := b) (q := 87) (N := 20) h rfl rfl ar_87 (gI0_0 (by decide)) aw_1 (by decide) (by decide) (by decide) (by decide) dX9_init_19 ?_
  refine gG_w (ws' := (b + 65, .inr (9, [.ref (b + 66), .null, .int 0])) :: ([] ++ wN cy b 66 22)) rfl ?_
  refine a_put (v := .ref (b + 87)) (ws' := (b + 65, .inr (9, [.ref (b + 66), .ref (b + 87), .int 0])) :: ([] ++ wN cy b 66 22)) 0 (.array .int) h hin hB rfl wN_last rfl (by decide) fl_X9_16 rfl rfl rfl rfl (Nat.le_of_ble_eq_true rfl) dX9_init_21 rfl ?_
  exact a_ret (q := 65) (j := 22) h hr rfl rfl dX9_init_24
theorem ar_89 : sAr 89 6 20 := by unfold sAr; decide +kernel
theorem rw_89 : ∀ i, i < 20 → sAr (89 + 1 + i) 1 6 ∧ sR 89 i = 89 + 1 + i := by unfold sAr; decide +kernel
theorem ar_110 : sAr 110 1 20 := by unfold sAr; decide +kernel
set_option maxRecDepth 20000 in
theorem i_X9_88 (l : Launch) (D : va_G) (cy : Nat → ClassId) (b : Nat) : gMet l D cy b 88 9 23 [.null, .null, .int 0] [] yX9_init cX9_init 1 1 20 22 160 := by
  refine gMet_of (by decide) rfl (Nat.le_of_ble_eq_true rfl) (fun X h hin hB hr up => ?_)
  have h : gOK X cy cX9_init RX9 1 1 20 22 160 := h
  refine gG_w (ws' := (b + 88, .inr (9, [.null, .null, .int 0])) :: ([] ++ wN cy b 89 0)) rfl ?_
  refine a_aload_n (x := b + 88) h rfl 0 rfl dX9_init_0 ?_
  refine a_obj h ob_X9 (by decide) (Nat.le_of_ble_eq_true rfl) dX9_init_1 ?_
  refine a_aload_n (x := b + 88) h rfl 0 rfl dX9_init_4 ?_
  refine a_bipush (v := 20) h (by decide) dX9_init_5 ?_
  refine a_bipush (v := 6) h (by decide) dX9_init_7 ?_
  refine a_mn (b := b) (q := 89) (N := 20) (M' := 6) (t := 2) (u := 1) (ty := .int) h rfl rfl (by decide) ar_89 (fun i hi => ⟨(rw_89 i hi).1, (rw_89 i hi).2, gI0_0 (by omega)⟩) ⟨mc_X9_9, aw_1⟩ (by decide) (by decide) (by decide) (by decide) (by decide) (by decide) dX9_init_9 ?_
  refine gG_w (ws' := (b + 88, .inr (9, [.null, .null, .int 0])) :: ([] ++ wN cy b 89 21)) rfl ?_
  refine a_put (v := .ref (b + 89)) (ws' := (b + 88, .inr (9, [.ref (b + 89), .null, .int 0])) :: ([] ++ wN cy b 89 21)) 0 (.array (.array .int)) h hin hB rfl wN_last rfl (by decide) fl_X9_11 rfl rfl rfl rfl (Nat.le_of_ble_eq_true rfl) dX9_init_13 rfl ?_
  refine a_aload_n (x := b + 88) h rfl 0 rfl dX9_init_16 ?_
  refine a_bipush (v := 20) h (by decide) dX9_init_17 ?_
  refine a_newI (b := b) (q := 110) (N := 20) h rfl rfl ar_110 (gI0_0 (by decide)) aw_1 (by decide) (by decide) (by decide) (by decide) dX9_init_19 ?_
  refine gG_w (ws' := (b + 88, .inr (9, [.ref (b + 89), .null, .int 0])) :: ([] ++ wN cy b 89 22)) rfl ?_
  refine a_put (v := .ref (b + 110)) (ws' := (b + 88, .inr (9, [.ref (b + 89), .ref (b + 110), .int 0])) :: ([] ++ wN cy b 89 22)) 0 (.array .int) h hin hB rfl wN_last rfl (by decide) fl_X9_16 rfl rfl rfl rfl (Nat.le_of_ble_eq_true rfl) dX9_init_21 rfl ?_
  exact a_ret (q := 88) (j := 22) h hr rfl rfl dX9_init_24
theorem ar_112 : sAr 112 6 20 := by unfold sAr; decide +kernel
theorem rw_112 : ∀ i, i < 20 → sAr (112 + 1 + i) 1 6 ∧ sR 112 i = 112 + 1 + i := by unfold sAr; decide +kernel
theorem ar_133 : sAr 133 1 20 := by unfold sAr; decide +kernel
set_option maxRecDepth 20000 in
theorem i_X9_111 (l : Launch) (D : va_G) (cy : Nat → ClassId) (b : Nat) : gMet l D cy b 111 9 23 [.null, .null, .int 0] [] yX9_init cX9_init 1 1 20 22 160 := by
  refine gMet_of (by decide) rfl (Nat.le_of_ble_eq_true rfl) (fun X h hin hB hr up => ?_)
  have h : gOK X cy cX9_init RX9 1 1 20 22 160 := h
  refine gG_w (ws' := (b + 111, .inr (9, [.null, .null, .int 0])) :: ([] ++ wN cy b 112 0)) rfl ?_
  refine a_aload_n (x := b + 111) h rfl 0 rfl dX9_init_0 ?_
  refine a_obj h ob_X9 (by decide) (Nat.le_of_ble_eq_true rfl) dX9_init_1 ?_
  refine a_aload_n (x := b + 111) h rfl 0 rfl dX9_init_4 ?_
  refine a_bipush (v := 20) h (by decide) dX9_init_5 ?_
  refine a_bipush (v := 6) h (by decide) dX9_init_7 ?_
  refine a_mn (b := b) (q := 112) (N := 20) (M' := 6) (t := 2) (u := 1) (ty := .int) h rfl rfl (by decide) ar_112 (fun i hi => ⟨(rw_112 i hi).1, (rw_112 i hi).2, gI0_0 (by omega)⟩) ⟨mc_X9_9, aw_1⟩ (by decide) (by decide) (by decide) (by decide) (by decide) (by decide) dX9_init_9 ?_
  refine gG_w (ws' := (b + 111, .inr (9, [.null, .null, .int 0])) :: ([] ++ wN cy b 112 21)) rfl ?_
  refine a_put (v := .ref (b + 112)) (ws' := (b + 111, .inr (9, [.ref (b + 112), .null, .int 0])) :: ([] ++ wN cy b 112 21)) 0 (.array (.array .int)) h hin hB rfl wN_last rfl (by decide) fl_X9_11 rfl rfl rfl rfl (Nat.le_of_ble_eq_true rfl) dX9_init_13 rfl ?_
  refine a_aload_n (x := b + 111) h rfl 0 rfl dX9_init_16 ?_
  refine a_bipush (v := 20) h (by decide) dX9_init_17 ?_
  refine a_newI (b := b) (q := 133) (N := 20) h rfl rfl ar_133 (gI0_0 (by decide)) aw_1 (by decide) (by decide) (by decide) (by decide) dX9_init_19 ?_
  refine gG_w (ws' := (b + 111, .inr (9, [.ref (b + 112), .null, .int 0])) :: ([] ++ wN cy b 112 22)) rfl ?_
  refine a_put (v := .ref (b + 133)) (ws' := (b + 111, .inr (9, [.ref (b + 112), .ref (b + 133), .int 0])) :: ([] ++ wN cy b 112 22)) 0 (.array .int) h hin hB rfl wN_last rfl (by decide) fl_X9_16 rfl rfl rfl rfl (Nat.le_of_ble_eq_true rfl) dX9_init_21 rfl ?_
  exact a_ret (q := 111) (j := 22) h hr rfl rfl dX9_init_24
theorem nw_X11_38 : Cond.classLink RX11 38 (sCl 6).1 ∈ lw_good ∧ Cond.instantiable (sCl 6).1 (sCl 6).2.2 ∈ lw_good ∧ Cond.initialized (sCl 6).1 ∈ lw_good := ⟨(lw_i1 157 (by decide +kernel) (by decide +kernel)), (lw_i1 158 (by decide +kernel) (by decide +kernel)), (lw_i1 7 (by decide +kernel) (by decide +kernel))⟩
theorem df_X6 : ∀ j, j < (sCl 6).2.2 → defaultValue (sTy 6 j) = vp_V [.null, .int 0] j := by
  intro j hj
  have hj : j < 2 := hj
  rcases (show j = 0 ∨ j = 1 by omega) with rfl | rfl <;> rfl
theorem dX6_init_0 : decode cX6_init 0 = .ok (.aload_n 0, 1) := by decide +kernel
theorem dX6_init_1 : decode cX6_init 1 = .ok (.invokespecial 3, 3) := by decide +kernel
theorem dX6_init_4 : decode cX6_init 4 = .ok (.aload_n 0, 1) := by decide +kernel
theorem dX6_init_5 : decode cX6_init 5 = .ok (.bipush 13, 2) := by decide +kernel
theorem dX6_init_7 : decode cX6_init 7 = .ok (.newarray .long, 2) := by decide +kernel
theorem dX6_init_9 : decode cX6_init 9 = .ok (.putfield 9, 3) := by decide +kernel
theorem dX6_init_12 : decode cX6_init 12 = .ok (.return_, 1) := by decide +kernel
theorem ob_X6 : Cond.methodLink RX6 3 objectInit ∈ lw_good ∧ Cond.instanceMethod objectInit ∈ lw_good ∧ Cond.code objectInit ⟨#[0xb1]⟩ 1 none ∈ lw_good := ⟨(lw_i1 162 (by decide +kernel) (by decide +kernel)), (lw_i1 27 (by decide +kernel) (by decide +kernel)), (lw_i1 28 (by decide +kernel) (by decide +kernel))⟩
theorem aw_3 : Cond.arrayClass .long ∈ lw_good := (lw_i1 172 (by decide +kernel) (by decide +kernel))
theorem ar_135 : sAr 135 3 13 := by unfold sAr; decide +kernel
set_option maxRecDepth 20000 in
theorem i_X6_134 (l : Launch) (D : va_G) (cy : Nat → ClassId) (b : Nat) : gMet l D cy b 134 6 2 [.null, .int 0] [] yX6_init cX6_init 1 1 20 1 13 := by
  refine gMet_of (by decide) rfl (Nat.le_of_ble_eq_true rfl) (fun X h hin hB hr up => ?_)
  have h : gOK X cy cX6_init RX6 1 1 20 1 13 := h
  refine gG_w (ws' := (b + 134, .inr (6, [.null, .int 0])) :: ([] ++ wN cy b 135 0)) rfl ?_
  refine a_aload_n (x := b + 134) h rfl 0 rfl dX6_init_0 ?_
  refine a_obj h ob_X6 (by decide) (Nat.le_of_ble_eq_true rfl) dX6_init_1 ?_
  refine a_aload_n (x := b + 134) h rfl 0 rfl dX6_init_4 ?_
  refine a_bipush (v := 13) h (by decide) dX6_init_5 ?_
  refine a_newL (b := b) (q := 135) (N := 13) h rfl rfl ar_135 aw_3 (by decide) (by decide) (by decide) (by decide) dX6_init_7 ?_
  refine gG_w (ws' := (b + 134, .inr (6, [.null, .int 0])) :: ([] ++ wN cy b 135 1)) rfl ?_
  refine a_put (v := .ref (b + 135)) (ws' := (b + 134, .inr (6, [.ref (b + 135), .int 0])) :: ([] ++ wN cy b 135 1)) 0 (.array .long) h hin hB rfl wN_last rfl (by decide) fl_X6_9 rfl rfl rfl rfl (Nat.le_of_ble_eq_true rfl) dX6_init_9 rfl ?_
  exact a_ret (q := 134) (j := 1) h hr rfl rfl dX6_init_12
theorem mw_X6_init : sMw yX6_init cX6_init 1 none 0 := ⟨(lw_i1 161 (by decide +kernel) (by decide +kernel)), (lw_i1 7 (by decide +kernel) (by decide +kernel)), by decide +kernel, by decide +kernel, by decide +kernel⟩
theorem im_X6_init : yX6_init.name = "<init>" ∧ Cond.instanceMethod yX6_init ∈ lw_good := ⟨rfl, (lw_i1 160 (by decide +kernel) (by decide +kernel))⟩
theorem nl_X11_40 : ∀ U, gNW U → va_Nw (.methodLinkNest RX11 40 yX6_init RX11) U := fun U h => by obtain ⟨⟨a1, a2, a3, a4, a5, a6, a7, a8, a9, a10, a11⟩, -⟩ := h; assumption
theorem ar_137 : sAr 137 3 13 := by unfold sAr; decide +kernel
set_option maxRecDepth 20000 in
theorem i_X6_136 (l : Launch) (D : va_G) (cy : Nat → ClassId) (b : Nat) : gMet l D cy b 136 6 2 [.null, .int 0] [] yX6_init cX6_init 1 1 20 1 13 := by
  refine gMet_of (by decide) rfl (Nat.le_of_ble_eq_true rfl) (fun X h hin hB hr up => ?_)
  have h : gOK X cy cX6_init RX6 1 1 20 1 13 := h
  refine gG_w (ws' := (b + 136, .inr (6, [.null, .int 0])) :: ([] ++ wN cy b 137 0)) rfl ?_
  refine a_aload_n (x := b + 136) h rfl 0 rfl dX6_init_0 ?_
  refine a_obj h ob_X6 (by decide) (Nat.le_of_ble_eq_true rfl) dX6_init_1 ?_
  refine a_aload_n (x := b + 136) h rfl 0 rfl dX6_init_4 ?_
  refine a_bipush (v := 13) h (by decide) dX6_init_5 ?_
  refine a_newL (b := b) (q := 137) (N := 13) h rfl rfl ar_137 aw_3 (by decide) (by decide) (by decide) (by decide) dX6_init_7 ?_
  refine gG_w (ws' := (b + 136, .inr (6, [.null, .int 0])) :: ([] ++ wN cy b 137 1)) rfl ?_
  refine a_put (v := .ref (b + 137)) (ws' := (b + 136, .inr (6, [.ref (b + 137), .int 0])) :: ([] ++ wN cy b 137 1)) 0 (.array .long) h hin hB rfl wN_last rfl (by decide) fl_X6_9 rfl rfl rfl rfl (Nat.le_of_ble_eq_true rfl) dX6_init_9 rfl ?_
  exact a_ret (q := 136) (j := 1) h hr rfl rfl dX6_init_12
theorem nw_X11_48 : Cond.classLink RX11 48 (sCl 2).1 ∈ lw_good ∧ Cond.instantiable (sCl 2).1 (sCl 2).2.2 ∈ lw_good ∧ Cond.initialized (sCl 2).1 ∈ lw_good := ⟨(lw_i1 173 (by decide +kernel) (by decide +kernel)), (lw_i1 56 (by decide +kernel) (by decide +kernel)), (lw_i1 4 (by decide +kernel) (by decide +kernel))⟩
theorem ar_139 : sAr 139 1 60 := by unfold sAr; decide +kernel
theorem ar_140 : sAr 140 1 60 := by unfold sAr; decide +kernel
theorem ar_141 : sAr 141 1 13 := by unfold sAr; decide +kernel
set_option maxRecDepth 20000 in
theorem i_X2_138 (l : Launch) (D : va_G) (cy : Nat → ClassId) (b : Nat) : gMet l D cy b 138 2 4 [.null, .null, .null, .int 0, .int 0] [] yX2_init cX2_init 1 1 20 3 133 := by
  refine gMet_of (by decide) rfl (Nat.le_of_ble_eq_true rfl) (fun X h hin hB hr up => ?_)
  have h : gOK X cy cX2_init RX2 1 1 20 3 133 := h
  refine gG_w (ws' := (b + 138, .inr (2, [.null, .null, .null, .int 0, .int 0])) :: ([] ++ wN cy b 139 0)) rfl ?_
  refine a_aload_n (x := b + 138) h rfl 0 rfl dX2_init_0 ?_
  refine a_obj h ob_X2 (by decide) (Nat.le_of_ble_eq_true rfl) dX2_init_1 ?_
  refine a_aload_n (x := b + 138) h rfl 0 rfl dX2_init_4 ?_
  refine a_bipush (v := 60) h (by decide) dX2_init_5 ?_
  refine a_newI (b := b) (q := 139) (N := 60) h rfl rfl ar_139 (gI0_0 (by decide)) aw_1 (by decide) (by decide) (by decide) (by decide) dX2_init_7 ?_
  refine gG_w (ws' := (b + 138, .inr (2, [.null, .null, .null, .int 0, .int 0])) :: ([] ++ wN cy b 139 1)) rfl ?_
  refine a_put (v := .ref (b + 139)) (ws' := (b + 138, .inr (2, [.ref (b + 139), .null, .null, .int 0, .int 0])) :: ([] ++ wN cy b 139 1)) 0 (.array .int) h hin hB rfl wN_last rfl (by decide) fl_X2_9 rfl rfl rfl rfl (Nat.le_of_ble_eq_true rfl) dX2_init_9 rfl ?_
  refine a_aload_n (x := b + 138) h rfl 0 rfl dX2_init_12 ?_
  refine a_bipush (v := 60) h (by decide) dX2_init_13 ?_
  refine a_newI (b := b) (q := 140) (N := 60) h rfl rfl ar_140 (gI0_0 (by decide)) aw_1 (by decide) (by decide) (by decide) (by decide) dX2_init_15 ?_
  refine gG_w (ws' := (b + 138, .inr (2, [.ref (b + 139), .null, .null, .int 0, .int 0])) :: ([] ++ wN cy b 139 2)) rfl ?_
  refine a_put (v := .ref (b + 140)) (ws' := (b + 138, .inr (2, [.ref (b + 139), .ref (b + 140), .null, .int 0, .int 0])) :: ([] ++ wN cy b 139 2)) 0 (.array .int) h hin hB rfl wN_last rfl (by decide) fl_X2_15 rfl rfl rfl rfl (Nat.le_of_ble_eq_true rfl) dX2_init_17 rfl ?_
  refine a_aload_n (x := b + 138) h rfl 0 rfl dX2_init_20 ?_
  refine a_bipush (v := 13) h (by decide) dX2_init_21 ?_
  refine a_newI (b := b) (q := 141) (N := 13) h rfl rfl ar_141 (gI0_0 (by decide)) aw_1 (by decide) (by decide) (by decide) (by decide) dX2_init_23 ?_
  refine gG_w (ws' := (b + 138, .inr (2, [.ref (b + 139), .ref (b + 140), .null, .int 0, .int 0])) :: ([] ++ wN cy b 139 3)) rfl ?_
  refine a_put (v := .ref (b + 141)) (ws' := (b + 138, .inr (2, [.ref (b + 139), .ref (b + 140), .ref (b + 141), .int 0, .int 0])) :: ([] ++ wN cy b 139 3)) 0 (.array .int) h hin hB rfl wN_last rfl (by decide) fl_X2_18 rfl rfl rfl rfl (Nat.le_of_ble_eq_true rfl) dX2_init_25 rfl ?_
  exact a_ret (q := 138) (j := 3) h hr rfl rfl dX2_init_28
theorem nl_X11_50 : ∀ U, gNW U → va_Nw (.methodLinkNest RX11 50 yX2_init RX11) U := fun U h => by obtain ⟨⟨a1, a2, a3, a4, a5, a6, a7, a8, a9, a10, a11⟩, -⟩ := h; assumption
theorem nw_X11_55 : Cond.classLink RX11 55 (sCl 10).1 ∈ lw_good ∧ Cond.instantiable (sCl 10).1 (sCl 10).2.2 ∈ lw_good ∧ Cond.initialized (sCl 10).1 ∈ lw_good := ⟨(lw_i1 175 (by decide +kernel) (by decide +kernel)), (lw_i1 176 (by decide +kernel) (by decide +kernel)), (lw_i1 8 (by decide +kernel) (by decide +kernel))⟩
theorem df_X10 : ∀ j, j < (sCl 10).2.2 → defaultValue (sTy 10 j) = vp_V [.null, .null, .null, .null, .null, .int 0, .long 0, .int 0, .int 0, .int 0] j := by
  intro j hj
  have hj : j < 10 := hj
  rcases (show j = 0 ∨ j = 1 ∨ j = 2 ∨ j = 3 ∨ j = 4 ∨ j = 5 ∨ j = 6 ∨ j = 7 ∨ j = 8 ∨ j = 9 by omega) with rfl | rfl | rfl | rfl | rfl | rfl | rfl | rfl | rfl | rfl <;> rfl
theorem dX10_init_0 : decode cX10_init 0 = .ok (.aload_n 0, 1) := by decide +kernel
theorem dX10_init_1 : decode cX10_init 1 = .ok (.invokespecial 3, 3) := by decide +kernel
theorem dX10_init_4 : decode cX10_init 4 = .ok (.aload_n 0, 1) := by decide +kernel
theorem dX10_init_5 : decode cX10_init 5 = .ok (.bipush 24, 2) := by decide +kernel
theorem dX10_init_7 : decode cX10_init 7 = .ok (.bipush 20, 2) := by decide +kernel
theorem dX10_init_9 : decode cX10_init 9 = .ok (.multianewarray 9 2, 4) := by decide +kernel
theorem dX10_init_13 : decode cX10_init 13 = .ok (.putfield 11, 3) := by decide +kernel
theorem dX10_init_16 : decode cX10_init 16 = .ok (.aload_n 0, 1) := by decide +kernel
theorem dX10_init_17 : decode cX10_init 17 = .ok (.bipush 24, 2) := by decide +kernel
theorem dX10_init_19 : decode cX10_init 19 = .ok (.bipush 20, 2) := by decide +kernel
theorem dX10_init_21 : decode cX10_init 21 = .ok (.multianewarray 16 2, 4) := by decide +kernel
theorem dX10_init_25 : decode cX10_init 25 = .ok (.putfield 18, 3) := by decide +kernel
theorem dX10_init_28 : decode cX10_init 28 = .ok (.aload_n 0, 1) := by decide +kernel
theorem dX10_init_29 : decode cX10_init 29 = .ok (.bipush 24, 2) := by decide +kernel
theorem dX10_init_31 : decode cX10_init 31 = .ok (.bipush 20, 2) := by decide +kernel
theorem dX10_init_33 : decode cX10_init 33 = .ok (.multianewarray 16 2, 4) := by decide +kernel
theorem dX10_init_37 : decode cX10_init 37 = .ok (.putfield 21, 3) := by decide +kernel
theorem dX10_init_40 : decode cX10_init 40 = .ok (.aload_n 0, 1) := by decide +kernel
theorem dX10_init_41 : decode cX10_init 41 = .ok (.bipush 24, 2) := by decide +kernel
theorem dX10_init_43 : decode cX10_init 43 = .ok (.newarray .int, 2) := by decide +kernel
theorem dX10_init_45 : decode cX10_init 45 = .ok (.putfield 24, 3) := by decide +kernel
theorem dX10_init_48 : decode cX10_init 48 = .ok (.aload_n 0, 1) := by decide +kernel
theorem dX10_init_49 : decode cX10_init 49 = .ok (.bipush 24, 2) := by decide +kernel
theorem dX10_init_51 : decode cX10_init 51 = .ok (.newarray .long, 2) := by decide +kernel
theorem dX10_init_53 : decode cX10_init 53 = .ok (.putfield 28, 3) := by decide +kernel
theorem dX10_init_56 : decode cX10_init 56 = .ok (.return_, 1) := by decide +kernel
theorem ob_X10 : Cond.methodLink RX10 3 objectInit ∈ lw_good ∧ Cond.instanceMethod objectInit ∈ lw_good ∧ Cond.code objectInit ⟨#[0xb1]⟩ 1 none ∈ lw_good := ⟨(lw_i1 180 (by decide +kernel) (by decide +kernel)), (lw_i1 27 (by decide +kernel) (by decide +kernel)), (lw_i1 28 (by decide +kernel) (by decide +kernel))⟩
theorem mc_X10_9 : Cond.classLink RX10 9 ("[" ++ (FieldType.array .long).toString) ∈ lw_good := (lw_i1 181 (by decide +kernel) (by decide +kernel))
theorem rw_143 : ∀ i, i < 24 → sAr (143 + 1 + i) 3 20 ∧ sR 143 i = 143 + 1 + i := by unfold sAr; decide +kernel
theorem mc_X10_16 : Cond.classLink RX10 16 ("[" ++ (FieldType.array .int).toString) ∈ lw_good := (lw_i1 183 (by decide +kernel) (by decide +kernel))
theorem rw_168 : ∀ i, i < 24 → sAr (168 + 1 + i) 1 20 ∧ sR 168 i = 168 + 1 + i := by unfold sAr; decide +kernel
theorem rw_193 : ∀ i, i < 24 → sAr (193 + 1 + i) 1 20 ∧ sR 193 i = 193 + 1 + i := by unfold sAr; decide +kernel
set_option maxRecDepth 20000 in
theorem i_X10_142 (l : Launch) (D : va_G) (cy : Nat → ClassId) (b : Nat) : gMet l D cy b 142 10 78 [.null, .null, .null, .null, .null, .int 0, .long 0, .int 0, .int 0, .int 0] [] yX10_init cX10_init 1 1 20 77 1560 := by
  refine gMet_of (by decide) rfl (Nat.le_of_ble_eq_true rfl) (fun X h hin hB hr up => ?_)
  have h : gOK X cy cX10_init RX10 1 1 20 77 1560 := h
  refine gG_w (ws' := (b + 142, .inr (10, [.null, .null, .null, .null, .null, .int 0, .long 0, .int 0, .int 0, .int 0])) :: ([] ++ wN cy b 143 0)) rfl ?_
  refine a_aload_n (x := b + 142) h rfl 0 rfl dX10_init_0 ?_
  refine a_obj h ob_X10 (by decide) (Nat.le_of_ble_eq_true rfl) dX10_init_1 ?_
  refine a_aload_n (x := b + 142) h rfl 0 rfl dX10_init_4 ?_
  refine a_bipush (v := 24) h (by decide) dX10_init_5 ?_
  refine a_bipush (v := 20) h (by decide) dX10_init_7 ?_
  refine a_mn (b := b) (q := 143) (N := 24) (M' := 20) (t := 3) (u := 3) (ty := .long) h rfl rfl (by decide) ar_143 (fun i hi => ⟨(rw_143 i hi).1, (rw_143 i hi).2, gI0_0 (by omega)⟩) ⟨mc_X10_9, aw_3⟩ (by decide) (by decide) (by decide) (by decide) (by decide) (by decide) dX10_init_9 ?_
  refine gG_w (ws' := (b + 142, .inr (10, [.null, .null, .null, .null, .null, .int 0, .long 0, .int 0, .int 0, .int 0])) :: ([] ++ wN cy b 143 25)) rfl ?_
  refine a_put (v := .ref (b + 143)) (ws' := (b + 142, .inr (10, [.ref (b + 143), .null, .null, .null, .null, .int 0, .long 0, .int 0, .int 0, .int 0])) :: ([] ++ wN cy b 143 25)) 0 (.array (.array .long)) h hin hB rfl wN_last rfl (by decide) fl_X10_11 rfl rfl rfl rfl (Nat.le_of_ble_eq_true rfl) dX10_init_13 rfl ?_
  refine a_aload_n (x := b + 142) h rfl 0 rfl dX10_init_16 ?_
  refine a_bipush (v := 24) h (by decide) dX10_init_17 ?_
  refine a_bipush (v := 20) h (by decide) dX10_init_19 ?_
  refine a_mn (b := b) (q := 168) (N := 24) (M' := 20) (t := 2) (u := 1) (ty := .int) h rfl rfl (by decide) ar_168 (fun i hi => ⟨(rw_168 i hi).1, (rw_168 i hi).2, gI0_0 (by omega)⟩) ⟨mc_X10_16, aw_1⟩ (by decide) (by decide) (by decide) (by decide) (by decide) (by decide) dX10_init_21 ?_
  refine gG_w (ws' := (b + 142, .inr (10, [.ref (b + 143), .null, .null, .null, .null, .int 0, .long 0, .int 0, .int 0, .int 0])) :: ([] ++ wN cy b 143 50)) rfl ?_
  refine a_put (v := .ref (b + 168)) (ws' := (b + 142, .inr (10, [.ref (b + 143), .ref (b + 168), .null, .null, .null, .int 0, .long 0, .int 0, .int 0, .int 0])) :: ([] ++ wN cy b 143 50)) 0 (.array (.array .int)) h hin hB rfl wN_last rfl (by decide) fl_X10_18 rfl rfl rfl rfl (Nat.le_of_ble_eq_true rfl) dX10_init_25 rfl ?_
  refine a_aload_n (x := b + 142) h rfl 0 rfl dX10_init_28 ?_
  refine a_bipush (v := 24) h (by decide) dX10_init_29 ?_
  refine a_bipush (v := 20) h (by decide) dX10_init_31 ?_
  refine a_mn (b := b) (q := 193) (N := 24) (M' := 20) (t := 2) (u := 1) (ty := .int) h rfl rfl (by decide) ar_193 (fun i hi => ⟨(rw_193 i hi).1, (rw_193 i hi).2, gI0_0 (by omega)⟩) ⟨mc_X10_16, aw_1⟩ (by decide) (by decide) (by decide) (by decide) (by decide) (by decide) dX10_init_33 ?_
  refine gG_w (ws' := (b + 142, .inr (10, [.ref (b + 143), .ref (b + 168), .null, .null, .null, .int 0, .long 0, .int 0, .int 0, .int 0])) :: ([] ++ wN cy b 143 75)) rfl ?_
  refine a_put (v := .ref (b + 193)) (ws' := (b + 142, .inr (10, [.ref (b + 143), .ref (b + 168), .ref (b + 193), .null, .null, .int 0, .long 0, .int 0, .int 0, .int 0])) :: ([] ++ wN cy b 143 75)) 0 (.array (.array .int)) h hin hB rfl wN_last rfl (by decide) fl_X10_21 rfl rfl rfl rfl (Nat.le_of_ble_eq_true rfl) dX10_init_37 rfl ?_
  refine a_aload_n (x := b + 142) h rfl 0 rfl dX10_init_40 ?_
  refine a_bipush (v := 24) h (by decide) dX10_init_41 ?_
  refine a_newI (b := b) (q := 218) (N := 24) h rfl rfl ar_218 (gI0_0 (by decide)) aw_1 (by decide) (by decide) (by decide) (by decide) dX10_init_43 ?_
  refine gG_w (ws' := (b + 142, .inr (10, [.ref (b + 143), .ref (b + 168), .ref (b + 193), .null, .null, .int 0, .long 0, .int 0, .int 0, .int 0])) :: ([] ++ wN cy b 143 76)) rfl ?_
  refine a_put (v := .ref (b + 218)) (ws' := (b + 142, .inr (10, [.ref (b + 143), .ref (b + 168), .ref (b + 193), .ref (b + 218), .null, .int 0, .long 0, .int 0, .int 0, .int 0])) :: ([] ++ wN cy b 143 76)) 0 (.array .int) h hin hB rfl wN_last rfl (by decide) fl_X10_24 rfl rfl rfl rfl (Nat.le_of_ble_eq_true rfl) dX10_init_45 rfl ?_
  refine a_aload_n (x := b + 142) h rfl 0 rfl dX10_init_48 ?_
  refine a_bipush (v := 24) h (by decide) dX10_init_49 ?_
  refine a_newL (b := b) (q := 219) (N := 24) h rfl rfl ar_219 aw_3 (by decide) (by decide) (by decide) (by decide) dX10_init_51 ?_
  refine gG_w (ws' := (b + 142, .inr (10, [.ref (b + 143), .ref (b + 168), .ref (b + 193), .ref (b + 218), .null, .int 0, .long 0, .int 0, .int 0, .int 0])) :: ([] ++ wN cy b 143 77)) rfl ?_
  refine a_put (v := .ref (b + 219)) (ws' := (b + 142, .inr (10, [.ref (b + 143), .ref (b + 168), .ref (b + 193), .ref (b + 218), .ref (b + 219), .int 0, .long 0, .int 0, .int 0, .int 0])) :: ([] ++ wN cy b 143 77)) 0 (.array .long) h hin hB rfl wN_last rfl (by decide) fl_X10_28 rfl rfl rfl rfl (Nat.le_of_ble_eq_true rfl) dX10_init_53 rfl ?_
  exact a_ret (q := 142) (j := 77) h hr rfl rfl dX10_init_56
theorem mw_X10_init : sMw yX10_init cX10_init 1 none 0 := ⟨(lw_i1 179 (by decide +kernel) (by decide +kernel)), (lw_i1 8 (by decide +kernel) (by decide +kernel)), by decide +kernel, by decide +kernel, by decide +kernel⟩
theorem im_X10_init : yX10_init.name = "<init>" ∧ Cond.instanceMethod yX10_init ∈ lw_good := ⟨rfl, (lw_i1 178 (by decide +kernel) (by decide +kernel))⟩
theorem nl_X11_57 : ∀ U, gNW U → va_Nw (.methodLinkNest RX11 57 yX10_init RX11) U := fun U h => by obtain ⟨⟨a1, a2, a3, a4, a5, a6, a7, a8, a9, a10, a11⟩, -⟩ := h; assumption
theorem nw_X11_62 : Cond.classLink RX11 62 (sCl 5).1 ∈ lw_good ∧ Cond.instantiable (sCl 5).1 (sCl 5).2.2 ∈ lw_good ∧ Cond.initialized (sCl 5).1 ∈ lw_good := ⟨(lw_i1 222 (by decide +kernel) (by decide +kernel)), (lw_i1 223 (by decide +kernel) (by decide +kernel)), (lw_i1 9 (by decide +kernel) (by decide +kernel))⟩
theorem df_X5 : ∀ j, j < (sCl 5).2.2 → defaultValue (sTy 5 j) = vp_V [.null, .int 0, .int 0, .int 0, .int 0, .long 0, .null, .null, .null, .int 0, .int 0, .int 0] j := by
  intro j hj
  have hj : j < 12 := hj
  rcases (show j = 0 ∨ j = 1 ∨ j = 2 ∨ j = 3 ∨ j = 4 ∨ j = 5 ∨ j = 6 ∨ j = 7 ∨ j = 8 ∨ j = 9 ∨ j = 10 ∨ j = 11 by omega) with rfl | rfl | rfl | rfl | rfl | rfl | rfl | rfl | rfl | rfl | rfl | rfl <;> rfl
theorem dX5_init_0 : decode cX5_init 0 = .ok (.aload_n 0, 1) := by decide +kernel
theorem dX5_init_1 : decode cX5_init 1 = .ok (.invokespecial 3, 3) := by decide +kernel
theorem dX5_init_4 : decode cX5_init 4 = .ok (.aload_n 0, 1) := by decide +kernel
theorem dX5_init_5 : decode cX5_init 5 = .ok (.sipush 200, 3) := by decide +kernel
theorem dX5_init_8 : decode cX5_init 8 = .ok (.newarray .long, 2) := by decide +kernel
theorem dX5_init_10 : decode cX5_init 10 = .ok (.putfield 9, 3) := by decide +kernel
theorem dX5_init_13 : decode cX5_init 13 = .ok (.aload_n 0, 1) := by decide +kernel
theorem dX5_init_14 : decode cX5_init 14 = .ok (.bipush 96, 2) := by decide +kernel
theorem dX5_init_16 : decode cX5_init 16 = .ok (.newarray .int, 2) := by decide +kernel
theorem dX5_init_18 : decode cX5_init 18 = .ok (.putfield 15, 3) := by decide +kernel
theorem dX5_init_21 : decode cX5_init 21 = .ok (.aload_n 0, 1) := by decide +kernel
theorem dX5_init_22 : decode cX5_init 22 = .ok (.bipush 24, 2) := by decide +kernel
theorem dX5_init_24 : decode cX5_init 24 = .ok (.newarray .int, 2) := by decide +kernel
theorem dX5_init_26 : decode cX5_init 26 = .ok (.putfield 19, 3) := by decide +kernel
theorem dX5_init_29 : decode cX5_init 29 = .ok (.aload_n 0, 1) := by decide +kernel
theorem dX5_init_30 : decode cX5_init 30 = .ok (.aload_n 1, 1) := by decide +kernel
theorem dX5_init_31 : decode cX5_init 31 = .ok (.putfield 22, 3) := by decide +kernel
theorem dX5_init_34 : decode cX5_init 34 = .ok (.return_, 1) := by decide +kernel
theorem ob_X5 : Cond.methodLink RX5 3 objectInit ∈ lw_good ∧ Cond.instanceMethod objectInit ∈ lw_good ∧ Cond.code objectInit ⟨#[0xb1]⟩ 1 none ∈ lw_good := ⟨(lw_i1 227 (by decide +kernel) (by decide +kernel)), (lw_i1 27 (by decide +kernel) (by decide +kernel)), (lw_i1 28 (by decide +kernel) (by decide +kernel))⟩
set_option maxRecDepth 20000 in
theorem i_X5_220 (l : Launch) (D : va_G) (cy : Nat → ClassId) (b : Nat) : gMet l D cy b 220 5 4 [.null, .int 0, .int 0, .int 0, .int 0, .long 0, .null, .null, .null, .int 0, .int 0, .int 0] [.ref (b + 142)] yX5_init cX5_init 2 1 20 3 320 := by
  refine gMet_of (by decide) rfl (Nat.le_of_ble_eq_true rfl) (fun X h hin hB hr up => ?_)
  have h : gOK X cy cX5_init RX5 2 1 20 3 320 := h
  refine gG_w (ws' := (b + 220, .inr (5, [.null, .int 0, .int 0, .int 0, .int 0, .long 0, .null, .null, .null, .int 0, .int 0, .int 0])) :: ([] ++ wN cy b 221 0)) rfl ?_
  refine a_aload_n (x := b + 220) h rfl 0 rfl dX5_init_0 ?_
  refine a_obj h ob_X5 (by decide) (Nat.le_of_ble_eq_true rfl) dX5_init_1 ?_
  refine a_aload_n (x := b + 220) h rfl 0 rfl dX5_init_4 ?_
  refine a_sipush (v := 200) h (by decide) dX5_init_5 ?_
  refine a_newL (b := b) (q := 221) (N := 200) h rfl rfl ar_221 aw_3 (by decide) (by decide) (by decide) (by decide) dX5_init_8 ?_
  refine gG_w (ws' := (b + 220, .inr (5, [.null, .int 0, .int 0, .int 0, .int 0, .long 0, .null, .null, .null, .int 0, .int 0, .int 0])) :: ([] ++ wN cy b 221 1)) rfl ?_
  refine a_put (v := .ref (b + 221)) (ws' := (b + 220, .inr (5, [.ref (b + 221), .int 0, .int 0, .int 0, .int 0, .long 0, .null, .null, .null, .int 0, .int 0, .int 0])) :: ([] ++ wN cy b 221 1)) 0 (.array .long) h hin hB rfl wN_last rfl (by decide) fl_X5_9 rfl rfl rfl rfl (Nat.le_of_ble_eq_true rfl) dX5_init_10 rfl ?_
  refine a_aload_n (x := b + 220) h rfl 0 rfl dX5_init_13 ?_
  refine a_bipush (v := 96) h (by decide) dX5_init_14 ?_
  refine a_newI (b := b) (q := 222) (N := 96) h rfl rfl ar_222 (gI0_0 (by decide)) aw_1 (by decide) (by decide) (by decide) (by decide) dX5_init_16 ?_
  refine gG_w (ws' := (b + 220, .inr (5, [.ref (b + 221), .int 0, .int 0, .int 0, .int 0, .long 0, .null, .null, .null, .int 0, .int 0, .int 0])) :: ([] ++ wN cy b 221 2)) rfl ?_
  refine a_put (v := .ref (b + 222)) (ws' := (b + 220, .inr (5, [.ref (b + 221), .int 0, .int 0, .int 0, .int 0, .long 0, .null, .ref (b + 222), .null, .int 0, .int 0, .int 0])) :: ([] ++ wN cy b 221 2)) 0 (.array .int) h hin hB rfl wN_last rfl (by decide) fl_X5_15 rfl rfl rfl rfl (Nat.le_of_ble_eq_true rfl) dX5_init_18 rfl ?_
  refine a_aload_n (x := b + 220) h rfl 0 rfl dX5_init_21 ?_
  refine a_bipush (v := 24) h (by decide) dX5_init_22 ?_
  refine a_newI (b := b) (q := 223) (N := 24) h rfl rfl ar_223 (gI0_0 (by decide)) aw_1 (by decide) (by decide) (by decide) (by decide) dX5_init_24 ?_
  refine gG_w (ws' := (b + 220, .inr (5, [.ref (b + 221), .int 0, .int 0, .int 0, .int 0, .long 0, .null, .ref (b + 222), .null, .int 0, .int 0, .int 0])) :: ([] ++ wN cy b 221 3)) rfl ?_
  refine a_put (v := .ref (b + 223)) (ws' := (b + 220, .inr (5, [.ref (b + 221), .int 0, .int 0, .int 0, .int 0, .long 0, .null, .ref (b + 222), .ref (b + 223), .int 0, .int 0, .int 0])) :: ([] ++ wN cy b 221 3)) 0 (.array .int) h hin hB rfl wN_last rfl (by decide) fl_X5_19 rfl rfl rfl rfl (Nat.le_of_ble_eq_true rfl) dX5_init_26 rfl ?_
  refine a_aload_n (x := b + 220) h rfl 0 rfl dX5_init_29 ?_
  refine a_aload_n (x := b + 142) h rfl 1 rfl dX5_init_30 ?_
  refine a_put (v := .ref (b + 142)) (ws' := (b + 220, .inr (5, [.ref (b + 221), .int 0, .int 0, .int 0, .int 0, .long 0, .ref (b + 142), .ref (b + 222), .ref (b + 223), .int 0, .int 0, .int 0])) :: ([] ++ wN cy b 221 3)) 0 (.object "ClayDisc$Ways") h hin hB rfl wN_last rfl (by decide) fl_X5_22 rfl rfl rfl rfl (Nat.le_of_ble_eq_true rfl) dX5_init_31 rfl ?_
  exact a_ret (q := 220) (j := 3) h hr rfl rfl dX5_init_34
theorem mw_X5_init : sMw yX5_init cX5_init 2 none 1 := ⟨(lw_i1 226 (by decide +kernel) (by decide +kernel)), (lw_i1 9 (by decide +kernel) (by decide +kernel)), by decide +kernel, by decide +kernel, by decide +kernel⟩
theorem im_X5_init : yX5_init.name = "<init>" ∧ Cond.instanceMethod yX5_init ∈ lw_good := ⟨rfl, (lw_i1 225 (by decide +kernel) (by decide +kernel))⟩
theorem ml_X11_64 : Cond.methodLink RX11 64 yX5_init ∈ lw_good := (lw_i1 224 (by decide +kernel) (by decide +kernel))
theorem nw_X11_71 : Cond.classLink RX11 71 (sCl 3).1 ∈ lw_good ∧ Cond.instantiable (sCl 3).1 (sCl 3).2.2 ∈ lw_good ∧ Cond.initialized (sCl 3).1 ∈ lw_good := ⟨(lw_i2 31 (by decide +kernel) (by decide +kernel)), (lw_i2 32 (by decide +kernel) (by decide +kernel)), (lw_i1 10 (by decide +kernel) (by decide +kernel))⟩
theorem df_X3 : ∀ j, j < (sCl 3).2.2 → defaultValue (sTy 3 j) = vp_V [.null, .null, .int 0] j := by
  intro j hj
  have hj : j < 3 := hj
  rcases (show j = 0 ∨ j = 1 ∨ j = 2 by omega) with rfl | rfl | rfl <;> rfl
theorem dX3_init_0 : decode cX3_init 0 = .ok (.aload_n 0, 1) := by decide +kernel
theorem dX3_init_1 : decode cX3_init 1 = .ok (.invokespecial 3, 3) := by decide +kernel
theorem dX3_init_4 : decode cX3_init 4 = .ok (.aload_n 0, 1) := by decide +kernel
theorem dX3_init_5 : decode cX3_init 5 = .ok (.sipush 16384, 3) := by decide +kernel
theorem dX3_init_8 : decode cX3_init 8 = .ok (.newarray .long, 2) := by decide +kernel
theorem dX3_init_10 : decode cX3_init 10 = .ok (.putfield 9, 3) := by decide +kernel
theorem dX3_init_13 : decode cX3_init 13 = .ok (.aload_n 0, 1) := by decide +kernel
theorem dX3_init_14 : decode cX3_init 14 = .ok (.bipush 14, 2) := by decide +kernel
theorem dX3_init_16 : decode cX3_init 16 = .ok (.newarray .int, 2) := by decide +kernel
theorem dX3_init_18 : decode cX3_init 18 = .ok (.putfield 15, 3) := by decide +kernel
theorem dX3_init_21 : decode cX3_init 21 = .ok (.return_, 1) := by decide +kernel
theorem ob_X3 : Cond.methodLink RX3 3 objectInit ∈ lw_good ∧ Cond.instanceMethod objectInit ∈ lw_good ∧ Cond.code objectInit ⟨#[0xb1]⟩ 1 none ∈ lw_good := ⟨(lw_i2 36 (by decide +kernel) (by decide +kernel)), (lw_i1 27 (by decide +kernel) (by decide +kernel)), (lw_i1 28 (by decide +kernel) (by decide +kernel))⟩
set_option maxRecDepth 20000 in
theorem i_X3_224 (l : Launch) (D : va_G) (cy : Nat → ClassId) (b : Nat) : gMet l D cy b 224 3 3 [.null, .null, .int 0] [] yX3_init cX3_init 1 1 20 2 16398 := by
  refine gMet_of (by decide) rfl (Nat.le_of_ble_eq_true rfl) (fun X h hin hB hr up => ?_)
  have h : gOK X cy cX3_init RX3 1 1 20 2 16398 := h
  refine gG_w (ws' := (b + 224, .inr (3, [.null, .null, .int 0])) :: ([] ++ wN cy b 225 0)) rfl ?_
  refine a_aload_n (x := b + 224) h rfl 0 rfl dX3_init_0 ?_
  refine a_obj h ob_X3 (by decide) (Nat.le_of_ble_eq_true rfl) dX3_init_1 ?_
  refine a_aload_n (x := b + 224) h rfl 0 rfl dX3_init_4 ?_
  refine a_sipush (v := 16384) h (by decide) dX3_init_5 ?_
  refine a_newL (b := b) (q := 225) (N := 16384) h rfl rfl ar_225 aw_3 (by decide) (by decide) (by decide) (by decide) dX3_init_8 ?_
  refine gG_w (ws' := (b + 224, .inr (3, [.null, .null, .int 0])) :: ([] ++ wN cy b 225 1)) rfl ?_
  refine a_put (v := .ref (b + 225)) (ws' := (b + 224, .inr (3, [.ref (b + 225), .null, .int 0])) :: ([] ++ wN cy b 225 1)) 0 (.array .long) h hin hB rfl wN_last rfl (by decide) fl_X3_9 rfl rfl rfl rfl (Nat.le_of_ble_eq_true rfl) dX3_init_10 rfl ?_
  refine a_aload_n (x := b + 224) h rfl 0 rfl dX3_init_13 ?_
  refine a_bipush (v := 14) h (by decide) dX3_init_14 ?_
  refine a_newI (b := b) (q := 226) (N := 14) h rfl rfl ar_226 (gI0_0 (by decide)) aw_1 (by decide) (by decide) (by decide) (by decide) dX3_init_16 ?_
  refine gG_w (ws' := (b + 224, .inr (3, [.ref (b + 225), .null, .int 0])) :: ([] ++ wN cy b 225 2)) rfl ?_
  refine a_put (v := .ref (b + 226)) (ws' := (b + 224, .inr (3, [.ref (b + 225), .ref (b + 226), .int 0])) :: ([] ++ wN cy b 225 2)) 0 (.array .int) h hin hB rfl wN_last rfl (by decide) fl_X3_15 rfl rfl rfl rfl (Nat.le_of_ble_eq_true rfl) dX3_init_18 rfl ?_
  exact a_ret (q := 224) (j := 2) h hr rfl rfl dX3_init_21
theorem mw_X3_init : sMw yX3_init cX3_init 1 none 0 := ⟨(lw_i2 35 (by decide +kernel) (by decide +kernel)), (lw_i1 10 (by decide +kernel) (by decide +kernel)), by decide +kernel, by decide +kernel, by decide +kernel⟩
theorem im_X3_init : yX3_init.name = "<init>" ∧ Cond.instanceMethod yX3_init ∈ lw_good := ⟨rfl, (lw_i2 34 (by decide +kernel) (by decide +kernel))⟩
theorem nl_X11_73 : ∀ U, gNW U → va_Nw (.methodLinkNest RX11 73 yX3_init RX11) U := fun U h => by obtain ⟨⟨a1, a2, a3, a4, a5, a6, a7, a8, a9, a10, a11⟩, -⟩ := h; assumption
theorem nw_X11_78 : Cond.classLink RX11 78 (sCl 1).1 ∈ lw_good ∧ Cond.instantiable (sCl 1).1 (sCl 1).2.2 ∈ lw_good ∧ Cond.initialized (sCl 1).1 ∈ lw_good := ⟨(lw_i2 47 (by decide +kernel) (by decide +kernel)), (lw_i2 48 (by decide +kernel) (by decide +kernel)), (lw_i1 11 (by decide +kernel) (by decide +kernel))⟩
theorem df_X1 : ∀ j, j < (sCl 1).2.2 → defaultValue (sTy 1 j) = vp_V [.null, .int 0, .null, .null, .null, .null, .int 0] j := by
  intro j hj
  have hj : j < 7 := hj
  rcases (show j = 0 ∨ j = 1 ∨ j = 2 ∨ j = 3 ∨ j = 4 ∨ j = 5 ∨ j = 6 by omega) with rfl | rfl | rfl | rfl | rfl | rfl | rfl <;> rfl
theorem dX1_init_0 : decode cX1_init 0 = .ok (.aload_n 0, 1) := by decide +kernel
theorem dX1_init_1 : decode cX1_init 1 = .ok (.invokespecial 3, 3) := by decide +kernel
theorem dX1_init_4 : decode cX1_init 4 = .ok (.aload_n 0, 1) := by decide +kernel
theorem dX1_init_5 : decode cX1_init 5 = .ok (.bipush 10, 2) := by decide +kernel
theorem dX1_init_7 : decode cX1_init 7 = .ok (.bipush 12, 2) := by decide +kernel
theorem dX1_init_9 : decode cX1_init 9 = .ok (.multianewarray 9 2, 4) := by decide +kernel
theorem dX1_init_13 : decode cX1_init 13 = .ok (.putfield 11, 3) := by decide +kernel
theorem dX1_init_16 : decode cX1_init 16 = .ok (.aload_n 0, 1) := by decide +kernel
theorem dX1_init_17 : decode cX1_init 17 = .ok (.bipush 100, 2) := by decide +kernel
theorem dX1_init_19 : decode cX1_init 19 = .ok (.newarray .int, 2) := by decide +kernel
theorem dX1_init_21 : decode cX1_init 21 = .ok (.putfield 16, 3) := by decide +kernel
theorem dX1_init_24 : decode cX1_init 24 = .ok (.aload_n 0, 1) := by decide +kernel
theorem dX1_init_25 : decode cX1_init 25 = .ok (.sipush 1024, 3) := by decide +kernel
theorem dX1_init_28 : decode cX1_init 28 = .ok (.newarray .int, 2) := by decide +kernel
theorem dX1_init_30 : decode cX1_init 30 = .ok (.putfield 20, 3) := by decide +kernel
theorem dX1_init_33 : decode cX1_init 33 = .ok (.aload_n 0, 1) := by decide +kernel
theorem dX1_init_34 : decode cX1_init 34 = .ok (.bipush 12, 2) := by decide +kernel
theorem dX1_init_36 : decode cX1_init 36 = .ok (.newarray .int, 2) := by decide +kernel
theorem dX1_init_38 : decode cX1_init 38 = .ok (.putfield 23, 3) := by decide +kernel
theorem dX1_init_41 : decode cX1_init 41 = .ok (.aload_n 0, 1) := by decide +kernel
theorem dX1_init_42 : decode cX1_init 42 = .ok (.bipush 12, 2) := by decide +kernel
theorem dX1_init_44 : decode cX1_init 44 = .ok (.newarray .int, 2) := by decide +kernel
theorem dX1_init_46 : decode cX1_init 46 = .ok (.putfield 26, 3) := by decide +kernel
theorem dX1_init_49 : decode cX1_init 49 = .ok (.return_, 1) := by decide +kernel
theorem ob_X1 : Cond.methodLink RX1 3 objectInit ∈ lw_good ∧ Cond.instanceMethod objectInit ∈ lw_good ∧ Cond.code objectInit ⟨#[0xb1]⟩ 1 none ∈ lw_good := ⟨(lw_i2 52 (by decide +kernel) (by decide +kernel)), (lw_i1 27 (by decide +kernel) (by decide +kernel)), (lw_i1 28 (by decide +kernel) (by decide +kernel))⟩
theorem mc_X1_9 : Cond.classLink RX1 9 ("[" ++ (FieldType.array .int).toString) ∈ lw_good := (lw_i2 53 (by decide +kernel) (by decide +kernel))
theorem rw_228 : ∀ i, i < 10 → sAr (228 + 1 + i) 1 12 ∧ sR 228 i = 228 + 1 + i := by unfold sAr; decide +kernel
set_option maxRecDepth 20000 in
theorem i_X1_227 (l : Launch) (D : va_G) (cy : Nat → ClassId) (b : Nat) : gMet l D cy b 227 1 16 [.null, .int 0, .null, .null, .null, .null, .int 0] [] yX1_init cX1_init 1 1 20 15 1278 := by
  refine gMet_of (by decide) rfl (Nat.le_of_ble_eq_true rfl) (fun X h hin hB hr up => ?_)
  have h : gOK X cy cX1_init RX1 1 1 20 15 1278 := h
  refine gG_w (ws' := (b + 227, .inr (1, [.null, .int 0, .null, .null, .null, .null, .int 0])) :: ([] ++ wN cy b 228 0)) rfl ?_
  refine a_aload_n (x := b + 227) h rfl 0 rfl dX1_init_0 ?_
  refine a_obj h ob_X1 (by decide) (Nat.le_of_ble_eq_true rfl) dX1_init_1 ?_
  refine a_aload_n (x := b + 227) h rfl 0 rfl dX1_init_4 ?_
  refine a_bipush (v := 10) h (by decide) dX1_init_5 ?_
  refine a_bipush (v := 12) h (by decide) dX1_init_7 ?_
  refine a_mn (b := b) (q := 228) (N := 10) (M' := 12) (t := 2) (u := 1) (ty := .int) h rfl rfl (by decide) ar_228 (fun i hi => ⟨(rw_228 i hi).1, (rw_228 i hi).2, gI0_0 (by omega)⟩) ⟨mc_X1_9, aw_1⟩ (by decide) (by decide) (by decide) (by decide) (by decide) (by decide) dX1_init_9 ?_
  refine gG_w (ws' := (b + 227, .inr (1, [.null, .int 0, .null, .null, .null, .null, .int 0])) :: ([] ++ wN cy b 228 11)) rfl ?_
  refine a_put (v := .ref (b + 228)) (ws' := (b + 227, .inr (1, [.ref (b + 228), .int 0, .null, .null, .null, .null, .int 0])) :: ([] ++ wN cy b 228 11)) 0 (.array (.array .int)) h hin hB rfl wN_last rfl (by decide) fl_X1_11 rfl rfl rfl rfl (Nat.le_of_ble_eq_true rfl) dX1_init_13 rfl ?_
  refine a_aload_n (x := b + 227) h rfl 0 rfl dX1_init_16 ?_
  refine a_bipush (v := 100) h (by decide) dX1_init_17 ?_
  refine a_newI (b := b) (q := 239) (N := 100) h rfl rfl ar_239 (gI0_0 (by decide)) aw_1 (by decide) (by decide) (by decide) (by decide) dX1_init_19 ?_
  refine gG_w (ws' := (b + 227, .inr (1, [.ref (b + 228), .int 0, .null, .null, .null, .null, .int 0])) :: ([] ++ wN cy b 228 12)) rfl ?_
  refine a_put (v := .ref (b + 239)) (ws' := (b + 227, .inr (1, [.ref (b + 228), .int 0, .ref (b + 239), .null, .null, .null, .int 0])) :: ([] ++ wN cy b 228 12)) 0 (.array .int) h hin hB rfl wN_last rfl (by decide) fl_X1_16 rfl rfl rfl rfl (Nat.le_of_ble_eq_true rfl) dX1_init_21 rfl ?_
  refine a_aload_n (x := b + 227) h rfl 0 rfl dX1_init_24 ?_
  refine a_sipush (v := 1024) h (by decide) dX1_init_25 ?_
  refine a_newI (b := b) (q := 240) (N := 1024) h rfl rfl ar_240 (gI0_0 (by decide)) aw_1 (by decide) (by decide) (by decide) (by decide) dX1_init_28 ?_
  refine gG_w (ws' := (b + 227, .inr (1, [.ref (b + 228), .int 0, .ref (b + 239), .null, .null, .null, .int 0])) :: ([] ++ wN cy b 228 13)) rfl ?_
  refine a_put (v := .ref (b + 240)) (ws' := (b + 227, .inr (1, [.ref (b + 228), .int 0, .ref (b + 239), .ref (b + 240), .null, .null, .int 0])) :: ([] ++ wN cy b 228 13)) 0 (.array .int) h hin hB rfl wN_last rfl (by decide) fl_X1_20 rfl rfl rfl rfl (Nat.le_of_ble_eq_true rfl) dX1_init_30 rfl ?_
  refine a_aload_n (x := b + 227) h rfl 0 rfl dX1_init_33 ?_
  refine a_bipush (v := 12) h (by decide) dX1_init_34 ?_
  refine a_newI (b := b) (q := 241) (N := 12) h rfl rfl ar_241 (gI0_0 (by decide)) aw_1 (by decide) (by decide) (by decide) (by decide) dX1_init_36 ?_
  refine gG_w (ws' := (b + 227, .inr (1, [.ref (b + 228), .int 0, .ref (b + 239), .ref (b + 240), .null, .null, .int 0])) :: ([] ++ wN cy b 228 14)) rfl ?_
  refine a_put (v := .ref (b + 241)) (ws' := (b + 227, .inr (1, [.ref (b + 228), .int 0, .ref (b + 239), .ref (b + 240), .ref (b + 241), .null, .int 0])) :: ([] ++ wN cy b 228 14)) 0 (.array .int) h hin hB rfl wN_last rfl (by decide) fl_X1_23 rfl rfl rfl rfl (Nat.le_of_ble_eq_true rfl) dX1_init_38 rfl ?_
  refine a_aload_n (x := b + 227) h rfl 0 rfl dX1_init_41 ?_
  refine a_bipush (v := 12) h (by decide) dX1_init_42 ?_
  refine a_newI (b := b) (q := 242) (N := 12) h rfl rfl ar_242 (gI0_0 (by decide)) aw_1 (by decide) (by decide) (by decide) (by decide) dX1_init_44 ?_
  refine gG_w (ws' := (b + 227, .inr (1, [.ref (b + 228), .int 0, .ref (b + 239), .ref (b + 240), .ref (b + 241), .null, .int 0])) :: ([] ++ wN cy b 228 15)) rfl ?_
  refine a_put (v := .ref (b + 242)) (ws' := (b + 227, .inr (1, [.ref (b + 228), .int 0, .ref (b + 239), .ref (b + 240), .ref (b + 241), .ref (b + 242), .int 0])) :: ([] ++ wN cy b 228 15)) 0 (.array .int) h hin hB rfl wN_last rfl (by decide) fl_X1_26 rfl rfl rfl rfl (Nat.le_of_ble_eq_true rfl) dX1_init_46 rfl ?_
  exact a_ret (q := 227) (j := 15) h hr rfl rfl dX1_init_49
theorem mw_X1_init : sMw yX1_init cX1_init 1 none 0 := ⟨(lw_i2 51 (by decide +kernel) (by decide +kernel)), (lw_i1 11 (by decide +kernel) (by decide +kernel)), by decide +kernel, by decide +kernel, by decide +kernel⟩
theorem im_X1_init : yX1_init.name = "<init>" ∧ Cond.instanceMethod yX1_init ∈ lw_good := ⟨rfl, (lw_i2 50 (by decide +kernel) (by decide +kernel))⟩
theorem nl_X11_80 : ∀ U, gNW U → va_Nw (.methodLinkNest RX11 80 yX1_init RX11) U := fun U h => by obtain ⟨⟨a1, a2, a3, a4, a5, a6, a7, a8, a9, a10, a11⟩, -⟩ := h; assumption
theorem nw_X11_85 : Cond.classLink RX11 85 (sCl 0).1 ∈ lw_good ∧ Cond.instantiable (sCl 0).1 (sCl 0).2.2 ∈ lw_good ∧ Cond.initialized (sCl 0).1 ∈ lw_good := ⟨(lw_i2 78 (by decide +kernel) (by decide +kernel)), (lw_i2 79 (by decide +kernel) (by decide +kernel)), (lw_i1 12 (by decide +kernel) (by decide +kernel))⟩
theorem df_X0 : ∀ j, j < (sCl 0).2.2 → defaultValue (sTy 0 j) = vp_V [.null, .int 0] j := by
  intro j hj
  have hj : j < 2 := hj
  rcases (show j = 0 ∨ j = 1 by omega) with rfl | rfl <;> rfl
theorem dX0_init_0 : decode cX0_init 0 = .ok (.aload_n 0, 1) := by decide +kernel
theorem dX0_init_1 : decode cX0_init 1 = .ok (.invokespecial 3, 3) := by decide +kernel
theorem dX0_init_4 : decode cX0_init 4 = .ok (.aload_n 0, 1) := by decide +kernel
theorem dX0_init_5 : decode cX0_init 5 = .ok (.bipush 16, 2) := by decide +kernel
theorem dX0_init_7 : decode cX0_init 7 = .ok (.newarray .long, 2) := by decide +kernel
theorem dX0_init_9 : decode cX0_init 9 = .ok (.putfield 9, 3) := by decide +kernel
theorem dX0_init_12 : decode cX0_init 12 = .ok (.return_, 1) := by decide +kernel
theorem ob_X0 : Cond.methodLink RX0 3 objectInit ∈ lw_good ∧ Cond.instanceMethod objectInit ∈ lw_good ∧ Cond.code objectInit ⟨#[0xb1]⟩ 1 none ∈ lw_good := ⟨(lw_i2 83 (by decide +kernel) (by decide +kernel)), (lw_i1 27 (by decide +kernel) (by decide +kernel)), (lw_i1 28 (by decide +kernel) (by decide +kernel))⟩
theorem ar_244 : sAr 244 3 16 := by unfold sAr; decide +kernel
set_option maxRecDepth 20000 in
theorem i_X0_243 (l : Launch) (D : va_G) (cy : Nat → ClassId) (b : Nat) : gMet l D cy b 243 0 2 [.null, .int 0] [] yX0_init cX0_init 1 1 20 1 16 := by
  refine gMet_of (by decide) rfl (Nat.le_of_ble_eq_true rfl) (fun X h hin hB hr up => ?_)
  have h : gOK X cy cX0_init RX0 1 1 20 1 16 := h
  refine gG_w (ws' := (b + 243, .inr (0, [.null, .int 0])) :: ([] ++ wN cy b 244 0)) rfl ?_
  refine a_aload_n (x := b + 243) h rfl 0 rfl dX0_init_0 ?_
  refine a_obj h ob_X0 (by decide) (Nat.le_of_ble_eq_true rfl) dX0_init_1 ?_
  refine a_aload_n (x := b + 243) h rfl 0 rfl dX0_init_4 ?_
  refine a_bipush (v := 16) h (by decide) dX0_init_5 ?_
  refine a_newL (b := b) (q := 244) (N := 16) h rfl rfl ar_244 aw_3 (by decide) (by decide) (by decide) (by decide) dX0_init_7 ?_
  refine gG_w (ws' := (b + 243, .inr (0, [.null, .int 0])) :: ([] ++ wN cy b 244 1)) rfl ?_
  refine a_put (v := .ref (b + 244)) (ws' := (b + 243, .inr (0, [.ref (b + 244), .int 0])) :: ([] ++ wN cy b 244 1)) 0 (.array .long) h hin hB rfl wN_last rfl (by decide) fl_X0_9 rfl rfl rfl rfl (Nat.le_of_ble_eq_true rfl) dX0_init_9 rfl ?_
  exact a_ret (q := 243) (j := 1) h hr rfl rfl dX0_init_12
theorem mw_X0_init : sMw yX0_init cX0_init 1 none 0 := ⟨(lw_i2 82 (by decide +kernel) (by decide +kernel)), (lw_i1 12 (by decide +kernel) (by decide +kernel)), by decide +kernel, by decide +kernel, by decide +kernel⟩
theorem im_X0_init : yX0_init.name = "<init>" ∧ Cond.instanceMethod yX0_init ∈ lw_good := ⟨rfl, (lw_i2 81 (by decide +kernel) (by decide +kernel))⟩
theorem nl_X11_87 : ∀ U, gNW U → va_Nw (.methodLinkNest RX11 87 yX0_init RX11) U := fun U h => by obtain ⟨⟨a1, a2, a3, a4, a5, a6, a7, a8, a9, a10, a11⟩, -⟩ := h; assumption
theorem ar_246 : sAr 246 3 16 := by unfold sAr; decide +kernel
set_option maxRecDepth 20000 in
theorem i_X0_245 (l : Launch) (D : va_G) (cy : Nat → ClassId) (b : Nat) : gMet l D cy b 245 0 2 [.null, .int 0] [] yX0_init cX0_init 1 1 20 1 16 := by
  refine gMet_of (by decide) rfl (Nat.le_of_ble_eq_true rfl) (fun X h hin hB hr up => ?_)
  have h : gOK X cy cX0_init RX0 1 1 20 1 16 := h
  refine gG_w (ws' := (b + 245, .inr (0, [.null, .int 0])) :: ([] ++ wN cy b 246 0)) rfl ?_
  refine a_aload_n (x := b + 245) h rfl 0 rfl dX0_init_0 ?_
  refine a_obj h ob_X0 (by decide) (Nat.le_of_ble_eq_true rfl) dX0_init_1 ?_
  refine a_aload_n (x := b + 245) h rfl 0 rfl dX0_init_4 ?_
  refine a_bipush (v := 16) h (by decide) dX0_init_5 ?_
  refine a_newL (b := b) (q := 246) (N := 16) h rfl rfl ar_246 aw_3 (by decide) (by decide) (by decide) (by decide) dX0_init_7 ?_
  refine gG_w (ws' := (b + 245, .inr (0, [.null, .int 0])) :: ([] ++ wN cy b 246 1)) rfl ?_
  refine a_put (v := .ref (b + 246)) (ws' := (b + 245, .inr (0, [.ref (b + 246), .int 0])) :: ([] ++ wN cy b 246 1)) 0 (.array .long) h hin hB rfl wN_last rfl (by decide) fl_X0_9 rfl rfl rfl rfl (Nat.le_of_ble_eq_true rfl) dX0_init_9 rfl ?_
  exact a_ret (q := 245) (j := 1) h hr rfl rfl dX0_init_12
set_option maxRecDepth 20000 in
theorem i_X11_0 (l : Launch) (D : va_G) (cy : Nat → ClassId) (b : Nat) : gMet l D cy b 0 11 248 [.null, .null, .null, .null, .null, .null, .null, .null, .null, .null, .null, .null, .null, .null, .null, .int 0, .int 0] [] yX11_init cX11_init 2 3 60 247 21281 := by
  refine gMet_of (by decide) rfl (Nat.le_of_ble_eq_true rfl) (fun X h hin hB hr up => ?_)
  have h : gOK X cy cX11_init RX11 2 3 60 247 21281 := h
  refine gG_w (ws' := (b + 0, .inr (11, [.null, .null, .null, .null, .null, .null, .null, .null, .null, .null, .null, .null, .null, .null, .null, .int 0, .int 0])) :: ([] ++ wN cy b 1 0)) rfl ?_
  refine a_aload_n (x := b + 0) h rfl 0 rfl dX11_init_0 ?_
  refine a_obj h ob_X11 (by decide) (Nat.le_of_ble_eq_true rfl) dX11_init_1 ?_
  refine a_aload_n (x := b + 0) h rfl 0 rfl dX11_init_4 ?_
  refine a_new (fs := [.null, .int 0]) h (by decide) nw_X11_9 df_X7 (by decide) dX11_init_5 ?_
  refine a_dup h rfl dX11_init_8 ?_
  refine a_initN (b := b) (q := 1) (lw := 1) (j := 0) RX11 [] h hB (up _ _ _ _ _ _ _ _ _ _ _ _ (i_X7_1 l D cy b)) rfl rfl rfl (by omega) (by decide) mw_X7_init im_X7_init nl_X11_11 (by decide) (Nat.le_of_ble_eq_true rfl) dX11_init_9 ?_
  refine gG_w (ws' := (b + 0, .inr (11, [.null, .null, .null, .null, .null, .null, .null, .null, .null, .null, .null, .null, .null, .null, .null, .int 0, .int 0])) :: ([] ++ wN cy b 1 2)) rfl ?_
  refine a_put (v := .ref (b + 1)) (ws' := (b + 0, .inr (11, [.ref (b + 1), .null, .null, .null, .null, .null, .null, .null, .null, .null, .null, .null, .null, .null, .null, .int 0, .int 0])) :: ([] ++ wN cy b 1 2)) 0 (.object "ClayDisc$Text") h hin hB rfl wN_last rfl (by decide) fl_X11_12 rfl rfl rfl rfl (Nat.le_of_ble_eq_true rfl) dX11_init_12 rfl ?_
  refine a_aload_n (x := b + 0) h rfl 0 rfl dX11_init_15 ?_
  refine a_new (fs := [.null, .null, .null, .int 0, .int 0, .int 0]) h (by decide) nw_X11_16 df_X8 (by decide) dX11_init_16 ?_
  refine a_dup h rfl dX11_init_19 ?_
  refine a_initN (b := b) (q := 3) (lw := 1) (j := 2) RX11 [] h hB (up _ _ _ _ _ _ _ _ _ _ _ _ (i_X8_3 l D cy b)) rfl rfl rfl (by omega) (by decide) mw_X8_init im_X8_init nl_X11_18 (by decide) (Nat.le_of_ble_eq_true rfl) dX11_init_20 ?_
  refine gG_w (ws' := (b + 0, .inr (11, [.ref (b + 1), .null, .null, .null, .null, .null, .null, .null, .null, .null, .null, .null, .null, .null, .null, .int 0, .int 0])) :: ([] ++ wN cy b 1 11)) rfl ?_
  refine a_put (v := .ref (b + 3)) (ws' := (b + 0, .inr (11, [.ref (b + 1), .ref (b + 3), .null, .null, .null, .null, .null, .null, .null, .null, .null, .null, .null, .null, .null, .int 0, .int 0])) :: ([] ++ wN cy b 1 11)) 0 (.object "ClayDisc$Told") h hin hB rfl wN_last rfl (by decide) fl_X11_19 rfl rfl rfl rfl (Nat.le_of_ble_eq_true rfl) dX11_init_23 rfl ?_
  refine a_aload_n (x := b + 0) h rfl 0 rfl dX11_init_26 ?_
  refine a_iconst (v := 3) h (by decide) dX11_init_27 ?_
  refine a_anew (t := 4) (N := 3) (C := "ClayDisc$Told") h rfl (by decide) cl_X11_16 (by decide) (by decide) (by decide) (by decide) dX11_init_28 ?_
  refine gG_w (ws' := (b + 0, .inr (11, [.ref (b + 1), .ref (b + 3), .null, .null, .null, .null, .null, .null, .null, .null, .null, .null, .null, .null, .null, .int 0, .int 0])) :: ((wN cy b 1 11 ++ [(b + 12, .inl (cy 4, 3, .inr (.inr (.inr (.inr (fun _ => none))))))]) ++ wN cy b 13 0)) rfl ?_
  refine a_put (v := .ref (b + 12)) (ws' := (b + 0, .inr (11, [.ref (b + 1), .ref (b + 3), .ref (b + 12), .null, .null, .null, .null, .null, .null, .null, .null, .null, .null, .null, .null, .int 0, .int 0])) :: ((wN cy b 1 11 ++ [(b + 12, .inl (cy 4, 3, .inr (.inr (.inr (.inr (fun _ => none))))))]) ++ wN cy b 13 0)) 0 (.array (.object "ClayDisc$Told")) h hin hB rfl ⟨12, _, rfl, rfl⟩ rfl (by decide) fl_X11_23 rfl rfl rfl rfl (Nat.le_of_ble_eq_true rfl) dX11_init_31 rfl ?_
  refine a_iconst (v := 0) h (by decide) dX11_init_34 ?_
  refine a_istore_n (lo2 := [(1, .int 0), (0, .ref (b + 0))]) h rfl (by decide) rfl dX11_init_35 ?_
  refine a_iload_n (x := 0) h rfl 0 rfl dX11_init_36 ?_
  refine a_iconst (v := 3) h (by decide) dX11_init_37 ?_
  refine a_icmp_ge (tgt := 60) h (by decide) dX11_init_38 (fun z => absurd z (by decide)) (fun _ => ?_)
  refine a_aload_n (x := b + 0) h rfl 1 rfl dX11_init_41 ?_
  refine a_get (v := .ref (b + 12)) 0 h rfl (by decide) fl_X11_23 rfl dX11_init_42 ?_
  refine a_iload_n (x := 0) h rfl 0 rfl dX11_init_45 ?_
  refine a_new (fs := [.null, .null, .null, .int 0, .int 0, .int 0]) h (by decide) nw_X11_16 df_X8 (by decide) dX11_init_46 ?_
  refine a_dup h rfl dX11_init_49 ?_
  refine a_initN (b := b) (q := 13) (lw := 13) (j := 0) RX11 [] h hB (up _ _ _ _ _ _ _ _ _ _ _ _ (i_X8_13 l D cy b)) rfl rfl rfl (by omega) (by decide) mw_X8_init im_X8_init nl_X11_18 (by decide) (Nat.le_of_ble_eq_true rfl) dX11_init_50 ?_
  refine gG_w (ws' := (b + 0, .inr (11, [.ref (b + 1), .ref (b + 3), .ref (b + 12), .null, .null, .null, .null, .null, .null, .null, .null, .null, .null, .null, .null, .int 0, .int 0])) :: ((wN cy b 1 11 ++ [(b + 12, .inl (cy 4, 3, .inr (.inr (.inr (.inr (fun _ => none))))))]) ++ wN cy b 13 9)) rfl ?_
  refine a_aast (a := b + 12) (v := b + 13) (n := 3) (t := 4) (ci := 8) (i := 0) (ws' := (b + 0, .inr (11, [.ref (b + 1), .ref (b + 3), .ref (b + 12), .null, .null, .null, .null, .null, .null, .null, .null, .null, .null, .null, .null, .int 0, .int 0])) :: ((wN cy b 1 11 ++ [(b + 12, .inl (cy 4, 3, .inr (.inr (.inr (.inr (va_up (fun _ => none) (Int32.toNatClampNeg 0) (some (b + 13))))))))]) ++ wN cy b 13 9)) 12 13 h hB rfl wN_last rfl rfl rfl (by decide) (by unfold vp_in; decide) dX11_init_53 rfl ?_
  refine a_iinc (v := 1) (lo2 := [(1, .int 1), (0, .ref (b + 0))]) h 0 rfl (by decide) (by decide) rfl dX11_init_54 ?_
  refine a_goto (tgt := 36) h (by decide) dX11_init_57 ?_
  refine a_iload_n (x := 1) h rfl 0 rfl dX11_init_36 ?_
  refine a_iconst (v := 3) h (by decide) dX11_init_37 ?_
  refine a_icmp_ge (tgt := 60) h (by decide) dX11_init_38 (fun z => absurd z (by decide)) (fun _ => ?_)
  refine a_aload_n (x := b + 0) h rfl 1 rfl dX11_init_41 ?_
  refine a_get (v := .ref (b + 12)) 0 h rfl (by decide) fl_X11_23 rfl dX11_init_42 ?_
  refine a_iload_n (x := 1) h rfl 0 rfl dX11_init_45 ?_
  refine a_new (fs := [.null, .null, .null, .int 0, .int 0, .int 0]) h (by decide) nw_X11_16 df_X8 (by decide) dX11_init_46 ?_
  refine a_dup h rfl dX11_init_49 ?_
  refine a_initN (b := b) (q := 22) (lw := 13) (j := 9) RX11 [] h hB (up _ _ _ _ _ _ _ _ _ _ _ _ (i_X8_22 l D cy b)) rfl rfl rfl (by omega) (by decide) mw_X8_init im_X8_init nl_X11_18 (by decide) (Nat.le_of_ble_eq_true rfl) dX11_init_50 ?_
  refine gG_w (ws' := (b + 0, .inr (11, [.ref (b + 1), .ref (b + 3), .ref (b + 12), .null, .null, .null, .null, .null, .null, .null, .null, .null, .null, .null, .null, .int 0, .int 0])) :: ((wN cy b 1 11 ++ [(b + 12, .inl (cy 4, 3, .inr (.inr (.inr (.inr (va_up (fun _ => none) (Int32.toNatClampNeg 0) (some (b + 13))))))))]) ++ wN cy b 13 18)) rfl ?_
  refine a_aast (a := b + 12) (v := b + 22) (n := 3) (t := 4) (ci := 8) (i := 1) (ws' := (b + 0, .inr (11, [.ref (b + 1), .ref (b + 3), .ref (b + 12), .null, .null, .null, .null, .null, .null, .null, .null, .null, .null, .null, .null, .int 0, .int 0])) :: ((wN cy b 1 11 ++ [(b + 12, .inl (cy 4, 3, .inr (.inr (.inr (.inr (va_up (va_up (fun _ => none) (Int32.toNatClampNeg 0) (some (b + 13))) (Int32.toNatClampNeg 1) (some (b + 22))))))))]) ++ wN cy b 13 18)) 12 22 h hB rfl wN_last rfl rfl rfl (by decide) (by unfold vp_in; decide) dX11_init_53 rfl ?_
  refine a_iinc (v := 2) (lo2 := [(1, .int 2), (0, .ref (b + 0))]) h 0 rfl (by decide) (by decide) rfl dX11_init_54 ?_
  refine a_goto (tgt := 36) h (by decide) dX11_init_57 ?_
  refine a_iload_n (x := 2) h rfl 0 rfl dX11_init_36 ?_
  refine a_iconst (v := 3) h (by decide) dX11_init_37 ?_
  refine a_icmp_ge (tgt := 60) h (by decide) dX11_init_38 (fun z => absurd z (by decide)) (fun _ => ?_)
  refine a_aload_n (x := b + 0) h rfl 1 rfl dX11_init_41 ?_
  refine a_get (v := .ref (b + 12)) 0 h rfl (by decide) fl_X11_23 rfl dX11_init_42 ?_
  refine a_iload_n (x := 2) h rfl 0 rfl dX11_init_45 ?_
  refine a_new (fs := [.null, .null, .null, .int 0, .int 0, .int 0]) h (by decide) nw_X11_16 df_X8 (by decide) dX11_init_46 ?_
  refine a_dup h rfl dX11_init_49 ?_
  refine a_initN (b := b) (q := 31) (lw := 13) (j := 18) RX11 [] h hB (up _ _ _ _ _ _ _ _ _ _ _ _ (i_X8_31 l D cy b)) rfl rfl rfl (by omega) (by decide) mw_X8_init im_X8_init nl_X11_18 (by decide) (Nat.le_of_ble_eq_true rfl) dX11_init_50 ?_
  refine gG_w (ws' := (b + 0, .inr (11, [.ref (b + 1), .ref (b + 3), .ref (b + 12), .null, .null, .null, .null, .null, .null, .null, .null, .null, .null, .null, .null, .int 0, .int 0])) :: ((wN cy b 1 11 ++ [(b + 12, .inl (cy 4, 3, .inr (.inr (.inr (.inr (va_up (va_up (fun _ => none) (Int32.toNatClampNeg 0) (some (b + 13))) (Int32.toNatClampNeg 1) (some (b + 22))))))))]) ++ wN cy b 13 27)) rfl ?_
  refine a_aast (a := b + 12) (v := b + 31) (n := 3) (t := 4) (ci := 8) (i := 2) (ws' := (b + 0, .inr (11, [.ref (b + 1), .ref (b + 3), .ref (b + 12), .null, .null, .null, .null, .null, .null, .null, .null, .null, .null, .null, .null, .int 0, .int 0])) :: ((wN cy b 1 11 ++ [(b + 12, .inl (cy 4, 3, .inr (.inr (.inr (.inr (va_up (va_up (va_up (fun _ => none) (Int32.toNatClampNeg 0) (some (b + 13))) (Int32.toNatClampNeg 1) (some (b + 22))) (Int32.toNatClampNeg 2) (some (b + 31))))))))]) ++ wN cy b 13 27)) 12 31 h hB rfl wN_last rfl rfl rfl (by decide) (by unfold vp_in; decide) dX11_init_53 rfl ?_
  refine a_iinc (v := 3) (lo2 := [(1, .int 3), (0, .ref (b + 0))]) h 0 rfl (by decide) (by decide) rfl dX11_init_54 ?_
  refine a_goto (tgt := 36) h (by decide) dX11_init_57 ?_
  refine a_iload_n (x := 3) h rfl 0 rfl dX11_init_36 ?_
  refine a_iconst (v := 3) h (by decide) dX11_init_37 ?_
  refine a_icmp_ge (tgt := 60) h (by decide) dX11_init_38 (fun _ => ?_) (fun z => absurd (by decide) z)
  refine a_conv (ws' := (b + 0, .inr (11, [.ref (b + 1), .ref (b + 3), .ref (b + 12), .null, .null, .null, .null, .null, .null, .null, .null, .null, .null, .null, .null, .int 0, .int 0])) :: ([] ++ wN cy b 1 39)) 12 (g := fun i => some (b + sR 12 i)) rfl (fun j hj => ?_) rfl ?_
  · rcases (show j = 0 ∨ j = 1 ∨ j = 2 by omega) with rfl | rfl | rfl <;> rfl
  refine a_aload_n (x := b + 0) h rfl 1 rfl dX11_init_60 ?_
  refine a_iconst (v := 3) h (by decide) dX11_init_61 ?_
  refine a_newZ (b := b) (q := 40) (N := 3) h rfl rfl ar_40 (gI0_0 (by decide)) aw_2 (by decide) (by decide) (by decide) (by decide) dX11_init_62 ?_
  refine gG_w (ws' := (b + 0, .inr (11, [.ref (b + 1), .ref (b + 3), .ref (b + 12), .null, .null, .null, .null, .null, .null, .null, .null, .null, .null, .null, .null, .int 0, .int 0])) :: ([] ++ wN cy b 1 40)) rfl ?_
  refine a_put (v := .ref (b + 40)) (ws' := (b + 0, .inr (11, [.ref (b + 1), .ref (b + 3), .ref (b + 12), .ref (b + 40), .null, .null, .null, .null, .null, .null, .null, .null, .null, .null, .null, .int 0, .int 0])) :: ([] ++ wN cy b 1 40)) 0 (.array .boolean) h hin hB rfl wN_last rfl (by decide) fl_X11_27 rfl rfl rfl rfl (Nat.le_of_ble_eq_true rfl) dX11_init_64 rfl ?_
  refine a_aload_n (x := b + 0) h rfl 1 rfl dX11_init_67 ?_
  refine a_iconst (v := 4) h (by decide) dX11_init_68 ?_
  refine a_anew (t := 5) (N := 4) (C := "ClayDisc$Tongue") h rfl (by decide) cl_X11_31 (by decide) (by decide) (by decide) (by decide) dX11_init_69 ?_
  refine gG_w (ws' := (b + 0, .inr (11, [.ref (b + 1), .ref (b + 3), .ref (b + 12), .ref (b + 40), .null, .null, .null, .null, .null, .null, .null, .null, .null, .null, .null, .int 0, .int 0])) :: ((wN cy b 1 40 ++ [(b + 41, .inl (cy 5, 4, .inr (.inr (.inr (.inr (fun _ => none))))))]) ++ wN cy b 42 0)) rfl ?_
  refine a_put (v := .ref (b + 41)) (ws' := (b + 0, .inr (11, [.ref (b + 1), .ref (b + 3), .ref (b + 12), .ref (b + 40), .ref (b + 41), .null, .null, .null, .null, .null, .null, .null, .null, .null, .null, .int 0, .int 0])) :: ((wN cy b 1 40 ++ [(b + 41, .inl (cy 5, 4, .inr (.inr (.inr (.inr (fun _ => none))))))]) ++ wN cy b 42 0)) 0 (.array (.object "ClayDisc$Tongue")) h hin hB rfl ⟨41, _, rfl, rfl⟩ rfl (by decide) fl_X11_33 rfl rfl rfl rfl (Nat.le_of_ble_eq_true rfl) dX11_init_72 rfl ?_
  refine a_iconst (v := 0) h (by decide) dX11_init_75 ?_
  refine a_istore_n (lo2 := [(1, .int 0), (0, .ref (b + 0))]) h rfl (by decide) rfl dX11_init_76 ?_
  refine a_iload_n (x := 0) h rfl 0 rfl dX11_init_77 ?_
  refine a_iconst (v := 4) h (by decide) dX11_init_78 ?_
  refine a_icmp_ge (tgt := 101) h (by decide) dX11_init_79 (fun z => absurd z (by decide)) (fun _ => ?_)
  refine a_aload_n (x := b + 0) h rfl 1 rfl dX11_init_82 ?_
  refine a_get (v := .ref (b + 41)) 0 h rfl (by decide) fl_X11_33 rfl dX11_init_83 ?_
  refine a_iload_n (x := 0) h rfl 0 rfl dX11_init_86 ?_
  refine a_new (fs := [.null, .null, .int 0]) h (by decide) nw_X11_31 df_X9 (by decide) dX11_init_87 ?_
  refine a_dup h rfl dX11_init_90 ?_
  refine a_initN (b := b) (q := 42) (lw := 42) (j := 0) RX11 [] h hB (up _ _ _ _ _ _ _ _ _ _ _ _ (i_X9_42 l D cy b)) rfl rfl rfl (by omega) (by decide) mw_X9_init im_X9_init nl_X11_37 (by decide) (Nat.le_of_ble_eq_true rfl) dX11_init_91 ?_
  refine gG_w (ws' := (b + 0, .inr (11, [.ref (b + 1), .ref (b + 3), .ref (b + 12), .ref (b + 40), .ref (b + 41), .null, .null, .null, .null, .null, .null, .null, .null, .null, .null, .int 0, .int 0])) :: ((wN cy b 1 40 ++ [(b + 41, .inl (cy 5, 4, .inr (.inr (.inr (.inr (fun _ => none))))))]) ++ wN cy b 42 23)) rfl ?_
  refine a_aast (a := b + 41) (v := b + 42) (n := 4) (t := 5) (ci := 9) (i := 0) (ws' := (b + 0, .inr (11, [.ref (b + 1), .ref (b + 3), .ref (b + 12), .ref (b + 40), .ref (b + 41), .null, .null, .null, .null, .null, .null, .null, .null, .null, .null, .int 0, .int 0])) :: ((wN cy b 1 40 ++ [(b + 41, .inl (cy 5, 4, .inr (.inr (.inr (.inr (va_up (fun _ => none) (Int32.toNatClampNeg 0) (some (b + 42))))))))]) ++ wN cy b 42 23)) 41 42 h hB rfl wN_last rfl rfl rfl (by decide) (by unfold vp_in; decide) dX11_init_94 rfl ?_
  refine a_iinc (v := 1) (lo2 := [(1, .int 1), (0, .ref (b + 0))]) h 0 rfl (by decide) (by decide) rfl dX11_init_95 ?_
  refine a_goto (tgt := 77) h (by decide) dX11_init_98 ?_
  refine a_iload_n (x := 1) h rfl 0 rfl dX11_init_77 ?_
  refine a_iconst (v := 4) h (by decide) dX11_init_78 ?_
  refine a_icmp_ge (tgt := 101) h (by decide) dX11_init_79 (fun z => absurd z (by decide)) (fun _ => ?_)
  refine a_aload_n (x := b + 0) h rfl 1 rfl dX11_init_82 ?_
  refine a_get (v := .ref (b + 41)) 0 h rfl (by decide) fl_X11_33 rfl dX11_init_83 ?_
  refine a_iload_n (x := 1) h rfl 0 rfl dX11_init_86 ?_
  refine a_new (fs := [.null, .null, .int 0]) h (by decide) nw_X11_31 df_X9 (by decide) dX11_init_87 ?_
  refine a_dup h rfl dX11_init_90 ?_
  refine a_initN (b := b) (q := 65) (lw := 42) (j := 23) RX11 [] h hB (up _ _ _ _ _ _ _ _ _ _ _ _ (i_X9_65 l D cy b)) rfl rfl rfl (by omega) (by decide) mw_X9_init im_X9_init nl_X11_37 (by decide) (Nat.le_of_ble_eq_true rfl) dX11_init_91 ?_
  refine gG_w (ws' := (b + 0, .inr (11, [.ref (b + 1), .ref (b + 3), .ref (b + 12), .ref (b + 40), .ref (b + 41), .null, .null, .null, .null, .null, .null, .null, .null, .null, .null, .int 0, .int 0])) :: ((wN cy b 1 40 ++ [(b + 41, .inl (cy 5, 4, .inr (.inr (.inr (.inr (va_up (fun _ => none) (Int32.toNatClampNeg 0) (some (b + 42))))))))]) ++ wN cy b 42 46)) rfl ?_
  refine a_aast (a := b + 41) (v := b + 65) (n := 4) (t := 5) (ci := 9) (i := 1) (ws' := (b + 0, .inr (11, [.ref (b + 1), .ref (b + 3), .ref (b + 12), .ref (b + 40), .ref (b + 41), .null, .null, .null, .null, .null, .null, .null, .null, .null, .null, .int 0, .int 0])) :: ((wN cy b 1 40 ++ [(b + 41, .inl (cy 5, 4, .inr (.inr (.inr (.inr (va_up (va_up (fun _ => none) (Int32.toNatClampNeg 0) (some (b + 42))) (Int32.toNatClampNeg 1) (some (b + 65))))))))]) ++ wN cy b 42 46)) 41 65 h hB rfl wN_last rfl rfl rfl (by decide) (by unfold vp_in; decide) dX11_init_94 rfl ?_
  refine a_iinc (v := 2) (lo2 := [(1, .int 2), (0, .ref (b + 0))]) h 0 rfl (by decide) (by decide) rfl dX11_init_95 ?_
  refine a_goto (tgt := 77) h (by decide) dX11_init_98 ?_
  refine a_iload_n (x := 2) h rfl 0 rfl dX11_init_77 ?_
  refine a_iconst (v := 4) h (by decide) dX11_init_78 ?_
  refine a_icmp_ge (tgt := 101) h (by decide) dX11_init_79 (fun z => absurd z (by decide)) (fun _ => ?_)
  refine a_aload_n (x := b + 0) h rfl 1 rfl dX11_init_82 ?_
  refine a_get (v := .ref (b + 41)) 0 h rfl (by decide) fl_X11_33 rfl dX11_init_83 ?_
  refine a_iload_n (x := 2) h rfl 0 rfl dX11_init_86 ?_
  refine a_new (fs := [.null, .null, .int 0]) h (by decide) nw_X11_31 df_X9 (by decide) dX11_init_87 ?_
  refine a_dup h rfl dX11_init_90 ?_
  refine a_initN (b := b) (q := 88) (lw := 42) (j := 46) RX11 [] h hB (up _ _ _ _ _ _ _ _ _ _ _ _ (i_X9_88 l D cy b)) rfl rfl rfl (by omega) (by decide) mw_X9_init im_X9_init nl_X11_37 (by decide) (Nat.le_of_ble_eq_true rfl) dX11_init_91 ?_
  refine gG_w (ws' := (b + 0, .inr (11, [.ref (b + 1), .ref (b + 3), .ref (b + 12), .ref (b + 40), .ref (b + 41), .null, .null, .null, .null, .null, .null, .null, .null, .null, .null, .int 0, .int 0])) :: ((wN cy b 1 40 ++ [(b + 41, .inl (cy 5, 4, .inr (.inr (.inr (.inr (va_up (va_up (fun _ => none) (Int32.toNatClampNeg 0) (some (b + 42))) (Int32.toNatClampNeg 1) (some (b + 65))))))))]) ++ wN cy b 42 69)) rfl ?_
  refine a_aast (a := b + 41) (v := b + 88) (n := 4) (t := 5) (ci := 9) (i := 2) (ws' := (b + 0, .inr (11, [.ref (b + 1), .ref (b + 3), .ref (b + 12), .ref (b + 40), .ref (b + 41), .null, .null, .null, .null, .null, .null, .null, .null, .null, .null, .int 0, .int 0])) :: ((wN cy b 1 40 ++ [(b + 41, .inl (cy 5, 4, .inr (.inr (.inr (.inr (va_up (va_up (va_up (fun _ => none) (Int32.toNatClampNeg 0) (some (b + 42))) (Int32.toNatClampNeg 1) (some (b + 65))) (Int32.toNatClampNeg 2) (some (b + 88))))))))]) ++ wN cy b 42 69)) 41 88 h hB rfl wN_last rfl rfl rfl (by decide) (by unfold vp_in; decide) dX11_init_94 rfl ?_
  refine a_iinc (v := 3) (lo2 := [(1, .int 3), (0, .ref (b + 0))]) h 0 rfl (by decide) (by decide) rfl dX11_init_95 ?_
  refine a_goto (tgt := 77) h (by decide) dX11_init_98 ?_
  refine a_iload_n (x := 3) h rfl 0 rfl dX11_init_77 ?_
  refine a_iconst (v := 4) h (by decide) dX11_init_78 ?_
  refine a_icmp_ge (tgt := 101) h (by decide) dX11_init_79 (fun z => absurd z (by decide)) (fun _ => ?_)
  refine a_aload_n (x := b + 0) h rfl 1 rfl dX11_init_82 ?_
  refine a_get (v := .ref (b + 41)) 0 h rfl (by decide) fl_X11_33 rfl dX11_init_83 ?_
  refine a_iload_n (x := 3) h rfl 0 rfl dX11_init_86 ?_
  refine a_new (fs := [.null, .null, .int 0]) h (by decide) nw_X11_31 df_X9 (by decide) dX11_init_87 ?_
  refine a_dup h rfl dX11_init_90 ?_
  refine a_initN (b := b) (q := 111) (lw := 42) (j := 69) RX11 [] h hB (up _ _ _ _ _ _ _ _ _ _ _ _ (i_X9_111 l D cy b)) rfl rfl rfl (by omega) (by decide) mw_X9_init im_X9_init nl_X11_37 (by decide) (Nat.le_of_ble_eq_true rfl) dX11_init_91 ?_
  refine gG_w (ws' := (b + 0, .inr (11, [.ref (b + 1), .ref (b + 3), .ref (b + 12), .ref (b + 40), .ref (b + 41), .null, .null, .null, .null, .null, .null, .null, .null, .null, .null, .int 0, .int 0])) :: ((wN cy b 1 40 ++ [(b + 41, .inl (cy 5, 4, .inr (.inr (.inr (.inr (va_up (va_up (va_up (fun _ => none) (Int32.toNatClampNeg 0) (some (b + 42))) (Int32.toNatClampNeg 1) (some (b + 65))) (Int32.toNatClampNeg 2) (some (b + 88))))))))]) ++ wN cy b 42 92)) rfl ?_
  refine a_aast (a := b + 41) (v := b + 111) (n := 4) (t := 5) (ci := 9) (i := 3) (ws' := (b + 0, .inr (11, [.ref (b + 1), .ref (b + 3), .ref (b + 12), .ref (b + 40), .ref (b + 41), .null, .null, .null, .null, .null, .null, .null, .null, .null, .null, .int 0, .int 0])) :: ((wN cy b 1 40 ++ [(b + 41, .inl (cy 5, 4, .inr (.inr (.inr (.inr (va_up (va_up (va_up (va_up (fun _ => none) (Int32.toNatClampNeg 0) (some (b + 42))) (Int32.toNatClampNeg 1) (some (b + 65))) (Int32.toNatClampNeg 2) (some (b + 88))) (Int32.toNatClampNeg 3) (some (b + 111))))))))]) ++ wN cy b 42 92)) 41 111 h hB rfl wN_last rfl rfl rfl (by decide) (by unfold vp_in; decide) dX11_init_94 rfl ?_
  refine a_iinc (v := 4) (lo2 := [(1, .int 4), (0, .ref (b + 0))]) h 0 rfl (by decide) (by decide) rfl dX11_init_95 ?_
  refine a_goto (tgt := 77) h (by decide) dX11_init_98 ?_
  refine a_iload_n (x := 4) h rfl 0 rfl dX11_init_77 ?_
  refine a_iconst (v := 4) h (by decide) dX11_init_78 ?_
  refine a_icmp_ge (tgt := 101) h (by decide) dX11_init_79 (fun _ => ?_) (fun z => absurd (by decide) z)
  refine a_conv (ws' := (b + 0, .inr (11, [.ref (b + 1), .ref (b + 3), .ref (b + 12), .ref (b + 40), .ref (b + 41), .null, .null, .null, .null, .null, .null, .null, .null, .null, .null, .int 0, .int 0])) :: ([] ++ wN cy b 1 133)) 41 (g := fun i => some (b + sR 41 i)) rfl (fun j hj => ?_) rfl ?_
  · rcases (show j = 0 ∨ j = 1 ∨ j = 2 ∨ j = 3 by omega) with rfl | rfl | rfl | rfl <;> rfl
  refine a_aload_n (x := b + 0) h rfl 1 rfl dX11_init_101 ?_
  refine a_new (fs := [.null, .int 0]) h (by decide) nw_X11_38 df_X6 (by decide) dX11_init_102 ?_
  refine a_dup h rfl dX11_init_105 ?_
  refine a_initN (b := b) (q := 134) (lw := 1) (j := 133) RX11 [] h hB (up _ _ _ _ _ _ _ _ _ _ _ _ (i_X6_134 l D cy b)) rfl rfl rfl (by omega) (by decide) mw_X6_init im_X6_init nl_X11_40 (by decide) (Nat.le_of_ble_eq_true rfl) dX11_init_106 ?_
  refine gG_w (ws' := (b + 0, .inr (11, [.ref (b + 1), .ref (b + 3), .ref (b + 12), .ref (b + 40), .ref (b + 41), .null, .null, .null, .null, .null, .null, .null, .null, .null, .null, .int 0, .int 0])) :: ([] ++ wN cy b 1 135)) rfl ?_
  refine a_put (v := .ref (b + 134)) (ws' := (b + 0, .inr (11, [.ref (b + 1), .ref (b + 3), .ref (b + 12), .ref (b + 40), .ref (b + 41), .ref (b + 134), .null, .null, .null, .null, .null, .null, .null, .null, .null, .int 0, .int 0])) :: ([] ++ wN cy b 1 135)) 0 (.object "ClayDisc$Row") h hin hB rfl wN_last rfl (by decide) fl_X11_41 rfl rfl rfl rfl (Nat.le_of_ble_eq_true rfl) dX11_init_109 rfl ?_
  refine a_aload_n (x := b + 0) h rfl 1 rfl dX11_init_112 ?_
  refine a_new (fs := [.null, .int 0]) h (by decide) nw_X11_38 df_X6 (by decide) dX11_init_113 ?_
  refine a_dup h rfl dX11_init_116 ?_
  refine a_initN (b := b) (q := 136) (lw := 1) (j := 135) RX11 [] h hB (up _ _ _ _ _ _ _ _ _ _ _ _ (i_X6_136 l D cy b)) rfl rfl rfl (by omega) (by decide) mw_X6_init im_X6_init nl_X11_40 (by decide) (Nat.le_of_ble_eq_true rfl) dX11_init_117 ?_
  refine gG_w (ws' := (b + 0, .inr (11, [.ref (b + 1), .ref (b + 3), .ref (b + 12), .ref (b + 40), .ref (b + 41), .ref (b + 134), .null, .null, .null, .null, .null, .null, .null, .null, .null, .int 0, .int 0])) :: ([] ++ wN cy b 1 137)) rfl ?_
  refine a_put (v := .ref (b + 136)) (ws' := (b + 0, .inr (11, [.ref (b + 1), .ref (b + 3), .ref (b + 12), .ref (b + 40), .ref (b + 41), .ref (b + 134), .ref (b + 136), .null, .null, .null, .null, .null, .null, .null, .null, .int 0, .int 0])) :: ([] ++ wN cy b 1 137)) 0 (.object "ClayDisc$Row") h hin hB rfl wN_last rfl (by decide) fl_X11_45 rfl rfl rfl rfl (Nat.le_of_ble_eq_true rfl) dX11_init_120 rfl ?_
  refine a_aload_n (x := b + 0) h rfl 1 rfl dX11_init_123 ?_
  refine a_new (fs := [.null, .null, .null, .int 0, .int 0]) h (by decide) nw_X11_48 df_X2 (by decide) dX11_init_124 ?_
  refine a_dup h rfl dX11_init_127 ?_
  refine a_initN (b := b) (q := 138) (lw := 1) (j := 137) RX11 [] h hB (up _ _ _ _ _ _ _ _ _ _ _ _ (i_X2_138 l D cy b)) rfl rfl rfl (by omega) (by decide) mw_X2_init im_X2_init nl_X11_50 (by decide) (Nat.le_of_ble_eq_true rfl) dX11_init_128 ?_
  refine gG_w (ws' := (b + 0, .inr (11, [.ref (b + 1), .ref (b + 3), .ref (b + 12), .ref (b + 40), .ref (b + 41), .ref (b + 134), .ref (b + 136), .null, .null, .null, .null, .null, .null, .null, .null, .int 0, .int 0])) :: ([] ++ wN cy b 1 141)) rfl ?_
  refine a_put (v := .ref (b + 138)) (ws' := (b + 0, .inr (11, [.ref (b + 1), .ref (b + 3), .ref (b + 12), .ref (b + 40), .ref (b + 41), .ref (b + 134), .ref (b + 136), .ref (b + 138), .null, .null, .null, .null, .null, .null, .null, .int 0, .int 0])) :: ([] ++ wN cy b 1 141)) 0 (.object "ClayDisc$Disc") h hin hB rfl wN_last rfl (by decide) fl_X11_51 rfl rfl rfl rfl (Nat.le_of_ble_eq_true rfl) dX11_init_131 rfl ?_
  refine a_aload_n (x := b + 0) h rfl 1 rfl dX11_init_134 ?_
  refine a_new (fs := [.null, .null, .null, .null, .null, .int 0, .long 0, .int 0, .int 0, .int 0]) h (by decide) nw_X11_55 df_X10 (by decide) dX11_init_135 ?_
  refine a_dup h rfl dX11_init_138 ?_
  refine a_initN (b := b) (q := 142) (lw := 1) (j := 141) RX11 [] h hB (up _ _ _ _ _ _ _ _ _ _ _ _ (i_X10_142 l D cy b)) rfl rfl rfl (by omega) (by decide) mw_X10_init im_X10_init nl_X11_57 (by decide) (Nat.le_of_ble_eq_true rfl) dX11_init_139 ?_
  refine gG_w (ws' := (b + 0, .inr (11, [.ref (b + 1), .ref (b + 3), .ref (b + 12), .ref (b + 40), .ref (b + 41), .ref (b + 134), .ref (b + 136), .ref (b + 138), .null, .null, .null, .null, .null, .null, .null, .int 0, .int 0])) :: ([] ++ wN cy b 1 219)) rfl ?_
  refine a_put (v := .ref (b + 142)) (ws' := (b + 0, .inr (11, [.ref (b + 1), .ref (b + 3), .ref (b + 12), .ref (b + 40), .ref (b + 41), .ref (b + 134), .ref (b + 136), .ref (b + 138), .ref (b + 142), .null, .null, .null, .null, .null, .null, .int 0, .int 0])) :: ([] ++ wN cy b 1 219)) 0 (.object "ClayDisc$Ways") h hin hB rfl wN_last rfl (by decide) fl_X11_58 rfl rfl rfl rfl (Nat.le_of_ble_eq_true rfl) dX11_init_142 rfl ?_
  refine a_aload_n (x := b + 0) h rfl 1 rfl dX11_init_145 ?_
  refine a_new (fs := [.null, .int 0, .int 0, .int 0, .int 0, .long 0, .null, .null, .null, .int 0, .int 0, .int 0]) h (by decide) nw_X11_62 df_X5 (by decide) dX11_init_146 ?_
  refine a_dup h rfl dX11_init_149 ?_
  refine a_aload_n (x := b + 0) h rfl 1 rfl dX11_init_150 ?_
  refine a_get (v := .ref (b + 142)) 0 h rfl (by decide) fl_X11_58 rfl dX11_init_151 ?_
  refine a_initP (b := b) (q := 220) (lw := 1) (j := 219) [.ref (b + 142)] h hB (up _ _ _ _ _ _ _ _ _ _ _ _ (i_X5_220 l D cy b)) rfl rfl rfl (by omega) (by decide) mw_X5_init im_X5_init ml_X11_64 (by decide) (Nat.le_of_ble_eq_true rfl) dX11_init_154 ?_
  refine gG_w (ws' := (b + 0, .inr (11, [.ref (b + 1), .ref (b + 3), .ref (b + 12), .ref (b + 40), .ref (b + 41), .ref (b + 134), .ref (b + 136), .ref (b + 138), .ref (b + 142), .null, .null, .null, .null, .null, .null, .int 0, .int 0])) :: ([] ++ wN cy b 1 223)) rfl ?_
  refine a_put (v := .ref (b + 220)) (ws' := (b + 0, .inr (11, [.ref (b + 1), .ref (b + 3), .ref (b + 12), .ref (b + 40), .ref (b + 41), .ref (b + 134), .ref (b + 136), .ref (b + 138), .ref (b + 142), .ref (b + 220), .null, .null, .null, .null, .null, .int 0, .int 0])) :: ([] ++ wN cy b 1 223)) 0 (.object "ClayDisc$Reader") h hin hB rfl wN_last rfl (by decide) fl_X11_67 rfl rfl rfl rfl (Nat.le_of_ble_eq_true rfl) dX11_init_157 rfl ?_
  refine a_aload_n (x := b + 0) h rfl 1 rfl dX11_init_160 ?_
  refine a_new (fs := [.null, .null, .int 0]) h (by decide) nw_X11_71 df_X3 (by decide) dX11_init_161 ?_
  refine a_dup h rfl dX11_init_164 ?_
  refine a_initN (b := b) (q := 224) (lw := 1) (j := 223) RX11 [] h hB (up _ _ _ _ _ _ _ _ _ _ _ _ (i_X3_224 l D cy b)) rfl rfl rfl (by omega) (by decide) mw_X3_init im_X3_init nl_X11_73 (by decide) (Nat.le_of_ble_eq_true rfl) dX11_init_165 ?_
  refine gG_w (ws' := (b + 0, .inr (11, [.ref (b + 1), .ref (b + 3), .ref (b + 12), .ref (b + 40), .ref (b + 41), .ref (b + 134), .ref (b + 136), .ref (b + 138), .ref (b + 142), .ref (b + 220), .null, .null, .null, .null, .null, .int 0, .int 0])) :: ([] ++ wN cy b 1 226)) rfl ?_
  refine a_put (v := .ref (b + 224)) (ws' := (b + 0, .inr (11, [.ref (b + 1), .ref (b + 3), .ref (b + 12), .ref (b + 40), .ref (b + 41), .ref (b + 134), .ref (b + 136), .ref (b + 138), .ref (b + 142), .ref (b + 220), .ref (b + 224), .null, .null, .null, .null, .int 0, .int 0])) :: ([] ++ wN cy b 1 226)) 0 (.object "ClayDisc$Orders") h hin hB rfl wN_last rfl (by decide) fl_X11_74 rfl rfl rfl rfl (Nat.le_of_ble_eq_true rfl) dX11_init_168 rfl ?_
  refine a_aload_n (x := b + 0) h rfl 1 rfl dX11_init_171 ?_
  refine a_new (fs := [.null, .int 0, .null, .null, .null, .null, .int 0]) h (by decide) nw_X11_78 df_X1 (by decide) dX11_init_172 ?_
  refine a_dup h rfl dX11_init_175 ?_
  refine a_initN (b := b) (q := 227) (lw := 1) (j := 226) RX11 [] h hB (up _ _ _ _ _ _ _ _ _ _ _ _ (i_X1_227 l D cy b)) rfl rfl rfl (by omega) (by decide) mw_X1_init im_X1_init nl_X11_80 (by decide) (Nat.le_of_ble_eq_true rfl) dX11_init_176 ?_
  refine gG_w (ws' := (b + 0, .inr (11, [.ref (b + 1), .ref (b + 3), .ref (b + 12), .ref (b + 40), .ref (b + 41), .ref (b + 134), .ref (b + 136), .ref (b + 138), .ref (b + 142), .ref (b + 220), .ref (b + 224), .null, .null, .null, .null, .int 0, .int 0])) :: ([] ++ wN cy b 1 242)) rfl ?_
  refine a_put (v := .ref (b + 227)) (ws' := (b + 0, .inr (11, [.ref (b + 1), .ref (b + 3), .ref (b + 12), .ref (b + 40), .ref (b + 41), .ref (b + 134), .ref (b + 136), .ref (b + 138), .ref (b + 142), .ref (b + 220), .ref (b + 224), .ref (b + 227), .null, .null, .null, .int 0, .int 0])) :: ([] ++ wN cy b 1 242)) 0 (.object "ClayDisc$Claims") h hin hB rfl wN_last rfl (by decide) fl_X11_81 rfl rfl rfl rfl (Nat.le_of_ble_eq_true rfl) dX11_init_179 rfl ?_
  refine a_aload_n (x := b + 0) h rfl 1 rfl dX11_init_182 ?_
  refine a_new (fs := [.null, .int 0]) h (by decide) nw_X11_85 df_X0 (by decide) dX11_init_183 ?_
  refine a_dup h rfl dX11_init_186 ?_
  refine a_initN (b := b) (q := 243) (lw := 1) (j := 242) RX11 [] h hB (up _ _ _ _ _ _ _ _ _ _ _ _ (i_X0_243 l D cy b)) rfl rfl rfl (by omega) (by decide) mw_X0_init im_X0_init nl_X11_87 (by decide) (Nat.le_of_ble_eq_true rfl) dX11_init_187 ?_
  refine gG_w (ws' := (b + 0, .inr (11, [.ref (b + 1), .ref (b + 3), .ref (b + 12), .ref (b + 40), .ref (b + 41), .ref (b + 134), .ref (b + 136), .ref (b + 138), .ref (b + 142), .ref (b + 220), .ref (b + 224), .ref (b + 227), .null, .null, .null, .int 0, .int 0])) :: ([] ++ wN cy b 1 244)) rfl ?_
  refine a_put (v := .ref (b + 243)) (ws' := (b + 0, .inr (11, [.ref (b + 1), .ref (b + 3), .ref (b + 12), .ref (b + 40), .ref (b + 41), .ref (b + 134), .ref (b + 136), .ref (b + 138), .ref (b + 142), .ref (b + 220), .ref (b + 224), .ref (b + 227), .ref (b + 243), .null, .null, .int 0, .int 0])) :: ([] ++ wN cy b 1 244)) 0 (.object "ClayDisc$Big") h hin hB rfl wN_last rfl (by decide) fl_X11_88 rfl rfl rfl rfl (Nat.le_of_ble_eq_true rfl) dX11_init_190 rfl ?_
  refine a_aload_n (x := b + 0) h rfl 1 rfl dX11_init_193 ?_
  refine a_new (fs := [.null, .int 0]) h (by decide) nw_X11_85 df_X0 (by decide) dX11_init_194 ?_
  refine a_dup h rfl dX11_init_197 ?_
  refine a_initN (b := b) (q := 245) (lw := 1) (j := 244) RX11 [] h hB (up _ _ _ _ _ _ _ _ _ _ _ _ (i_X0_245 l D cy b)) rfl rfl rfl (by omega) (by decide) mw_X0_init im_X0_init nl_X11_87 (by decide) (Nat.le_of_ble_eq_true rfl) dX11_init_198 ?_
  refine gG_w (ws' := (b + 0, .inr (11, [.ref (b + 1), .ref (b + 3), .ref (b + 12), .ref (b + 40), .ref (b + 41), .ref (b + 134), .ref (b + 136), .ref (b + 138), .ref (b + 142), .ref (b + 220), .ref (b + 224), .ref (b + 227), .ref (b + 243), .null, .null, .int 0, .int 0])) :: ([] ++ wN cy b 1 246)) rfl ?_
  refine a_put (v := .ref (b + 245)) (ws' := (b + 0, .inr (11, [.ref (b + 1), .ref (b + 3), .ref (b + 12), .ref (b + 40), .ref (b + 41), .ref (b + 134), .ref (b + 136), .ref (b + 138), .ref (b + 142), .ref (b + 220), .ref (b + 224), .ref (b + 227), .ref (b + 243), .ref (b + 245), .null, .int 0, .int 0])) :: ([] ++ wN cy b 1 246)) 0 (.object "ClayDisc$Big") h hin hB rfl wN_last rfl (by decide) fl_X11_92 rfl rfl rfl rfl (Nat.le_of_ble_eq_true rfl) dX11_init_201 rfl ?_
  refine a_aload_n (x := b + 0) h rfl 1 rfl dX11_init_204 ?_
  refine a_bipush (v := 13) h (by decide) dX11_init_205 ?_
  refine a_newI (b := b) (q := 247) (N := 13) h rfl rfl ar_247 (gI0_0 (by decide)) aw_1 (by decide) (by decide) (by decide) (by decide) dX11_init_207 ?_
  refine gG_w (ws' := (b + 0, .inr (11, [.ref (b + 1), .ref (b + 3), .ref (b + 12), .ref (b + 40), .ref (b + 41), .ref (b + 134), .ref (b + 136), .ref (b + 138), .ref (b + 142), .ref (b + 220), .ref (b + 224), .ref (b + 227), .ref (b + 243), .ref (b + 245), .null, .int 0, .int 0])) :: ([] ++ wN cy b 1 247)) rfl ?_
  refine a_put (v := .ref (b + 247)) (ws' := (b + 0, .inr (11, [.ref (b + 1), .ref (b + 3), .ref (b + 12), .ref (b + 40), .ref (b + 41), .ref (b + 134), .ref (b + 136), .ref (b + 138), .ref (b + 142), .ref (b + 220), .ref (b + 224), .ref (b + 227), .ref (b + 243), .ref (b + 245), .ref (b + 247), .int 0, .int 0])) :: ([] ++ wN cy b 1 247)) 0 (.array .int) h hin hB rfl wN_last rfl (by decide) fl_X11_95 rfl rfl rfl rfl (Nat.le_of_ble_eq_true rfl) dX11_init_209 rfl ?_
  refine a_aload_n (x := b + 0) h rfl 1 rfl dX11_init_212 ?_
  refine a_iconst (v := 1) h (by decide) dX11_init_213 ?_
  refine a_put (v := .int 1) (ws' := (b + 0, .inr (11, [.ref (b + 1), .ref (b + 3), .ref (b + 12), .ref (b + 40), .ref (b + 41), .ref (b + 134), .ref (b + 136), .ref (b + 138), .ref (b + 142), .ref (b + 220), .ref (b + 224), .ref (b + 227), .ref (b + 243), .ref (b + 245), .ref (b + 247), .int 1, .int 0])) :: ([] ++ wN cy b 1 247)) 0 .int h hin hB rfl wN_last rfl (by decide) fl_X11_99 rfl rfl rfl rfl (Nat.le_of_ble_eq_true rfl) dX11_init_214 rfl ?_
  refine a_aload_n (x := b + 0) h rfl 1 rfl dX11_init_217 ?_
  refine a_iconst (v := 0) h (by decide) dX11_init_218 ?_
  refine a_put (v := .int 0) (ws' := (b + 0, .inr (11, [.ref (b + 1), .ref (b + 3), .ref (b + 12), .ref (b + 40), .ref (b + 41), .ref (b + 134), .ref (b + 136), .ref (b + 138), .ref (b + 142), .ref (b + 220), .ref (b + 224), .ref (b + 227), .ref (b + 243), .ref (b + 245), .ref (b + 247), .int 1, .int 0])) :: ([] ++ wN cy b 1 247)) 0 .int h hin hB rfl wN_last rfl (by decide) fl_X11_103 rfl rfl rfl rfl (Nat.le_of_ble_eq_true rfl) dX11_init_219 rfl ?_
  exact a_ret (q := 0) (j := 247) h hr rfl rfl dX11_init_222
theorem dX12_init_0 : decode cX12_init 0 = .ok (.aload_n 0, 1) := by decide +kernel
theorem dX12_init_1 : decode cX12_init 1 = .ok (.invokespecial 418, 3) := by decide +kernel
theorem dX12_init_4 : decode cX12_init 4 = .ok (.aload_n 0, 1) := by decide +kernel
theorem dX12_init_5 : decode cX12_init 5 = .ok (.bipush 64, 2) := by decide +kernel
theorem dX12_init_7 : decode cX12_init 7 = .ok (.newarray .long, 2) := by decide +kernel
theorem dX12_init_9 : decode cX12_init 9 = .ok (.putfield 7, 3) := by decide +kernel
theorem dX12_init_12 : decode cX12_init 12 = .ok (.aload_n 0, 1) := by decide +kernel
theorem dX12_init_13 : decode cX12_init 13 = .ok (.bipush 80, 2) := by decide +kernel
theorem dX12_init_15 : decode cX12_init 15 = .ok (.newarray .int, 2) := by decide +kernel
theorem dX12_init_17 : decode cX12_init 17 = .ok (.putfield 25, 3) := by decide +kernel
theorem dX12_init_20 : decode cX12_init 20 = .ok (.aload_n 0, 1) := by decide +kernel
theorem dX12_init_21 : decode cX12_init 21 = .ok (.bipush 24, 2) := by decide +kernel
theorem dX12_init_23 : decode cX12_init 23 = .ok (.newarray .int, 2) := by decide +kernel
theorem dX12_init_25 : decode cX12_init 25 = .ok (.putfield 62, 3) := by decide +kernel
theorem dX12_init_28 : decode cX12_init 28 = .ok (.aload_n 0, 1) := by decide +kernel
theorem dX12_init_29 : decode cX12_init 29 = .ok (.bipush 80, 2) := by decide +kernel
theorem dX12_init_31 : decode cX12_init 31 = .ok (.newarray .int, 2) := by decide +kernel
theorem dX12_init_33 : decode cX12_init 33 = .ok (.putfield 59, 3) := by decide +kernel
theorem dX12_init_36 : decode cX12_init 36 = .ok (.aload_n 0, 1) := by decide +kernel
theorem dX12_init_37 : decode cX12_init 37 = .ok (.bipush 24, 2) := by decide +kernel
theorem dX12_init_39 : decode cX12_init 39 = .ok (.newarray .int, 2) := by decide +kernel
theorem dX12_init_41 : decode cX12_init 41 = .ok (.putfield 82, 3) := by decide +kernel
theorem dX12_init_44 : decode cX12_init 44 = .ok (.aload_n 0, 1) := by decide +kernel
theorem dX12_init_45 : decode cX12_init 45 = .ok (.bipush 80, 2) := by decide +kernel
theorem dX12_init_47 : decode cX12_init 47 = .ok (.newarray .int, 2) := by decide +kernel
theorem dX12_init_49 : decode cX12_init 49 = .ok (.putfield 85, 3) := by decide +kernel
theorem dX12_init_52 : decode cX12_init 52 = .ok (.aload_n 0, 1) := by decide +kernel
theorem dX12_init_53 : decode cX12_init 53 = .ok (.bipush 12, 2) := by decide +kernel
theorem dX12_init_55 : decode cX12_init 55 = .ok (.newarray .int, 2) := by decide +kernel
theorem dX12_init_57 : decode cX12_init 57 = .ok (.putfield 245, 3) := by decide +kernel
theorem dX12_init_60 : decode cX12_init 60 = .ok (.aload_n 0, 1) := by decide +kernel
theorem dX12_init_61 : decode cX12_init 61 = .ok (.bipush 12, 2) := by decide +kernel
theorem dX12_init_63 : decode cX12_init 63 = .ok (.newarray .int, 2) := by decide +kernel
theorem dX12_init_65 : decode cX12_init 65 = .ok (.putfield 248, 3) := by decide +kernel
theorem dX12_init_68 : decode cX12_init 68 = .ok (.aload_n 0, 1) := by decide +kernel
theorem dX12_init_69 : decode cX12_init 69 = .ok (.iconst 4, 1) := by decide +kernel
theorem dX12_init_70 : decode cX12_init 70 = .ok (.newarray .int, 2) := by decide +kernel
theorem dX12_init_72 : decode cX12_init 72 = .ok (.putfield 100, 3) := by decide +kernel
theorem dX12_init_75 : decode cX12_init 75 = .ok (.aload_n 0, 1) := by decide +kernel
theorem dX12_init_76 : decode cX12_init 76 = .ok (.bipush 80, 2) := by decide +kernel
theorem dX12_init_78 : decode cX12_init 78 = .ok (.newarray .int, 2) := by decide +kernel
theorem dX12_init_80 : decode cX12_init 80 = .ok (.putfield 110, 3) := by decide +kernel
theorem dX12_init_83 : decode cX12_init 83 = .ok (.aload_n 0, 1) := by decide +kernel
theorem dX12_init_84 : decode cX12_init 84 = .ok (.sipush 480, 3) := by decide +kernel
theorem dX12_init_87 : decode cX12_init 87 = .ok (.newarray .int, 2) := by decide +kernel
theorem dX12_init_89 : decode cX12_init 89 = .ok (.putfield 107, 3) := by decide +kernel
theorem dX12_init_92 : decode cX12_init 92 = .ok (.aload_n 0, 1) := by decide +kernel
theorem dX12_init_93 : decode cX12_init 93 = .ok (.iconst 1, 1) := by decide +kernel
theorem dX12_init_94 : decode cX12_init 94 = .ok (.putfield 117, 3) := by decide +kernel
theorem dX12_init_97 : decode cX12_init 97 = .ok (.aload_n 0, 1) := by decide +kernel
theorem dX12_init_98 : decode cX12_init 98 = .ok (.bipush 24, 2) := by decide +kernel
theorem dX12_init_100 : decode cX12_init 100 = .ok (.newarray .int, 2) := by decide +kernel
theorem dX12_init_102 : decode cX12_init 102 = .ok (.putfield 132, 3) := by decide +kernel
theorem dX12_init_105 : decode cX12_init 105 = .ok (.aload_n 0, 1) := by decide +kernel
theorem dX12_init_106 : decode cX12_init 106 = .ok (.sipush 160, 3) := by decide +kernel
theorem dX12_init_109 : decode cX12_init 109 = .ok (.newarray .int, 2) := by decide +kernel
theorem dX12_init_111 : decode cX12_init 111 = .ok (.putfield 135, 3) := by decide +kernel
theorem dX12_init_114 : decode cX12_init 114 = .ok (.aload_n 0, 1) := by decide +kernel
theorem dX12_init_115 : decode cX12_init 115 = .ok (.sipush 20002, 3) := by decide +kernel
theorem dX12_init_118 : decode cX12_init 118 = .ok (.newarray .long, 2) := by decide +kernel
theorem dX12_init_120 : decode cX12_init 120 = .ok (.putfield 155, 3) := by decide +kernel
theorem dX12_init_123 : decode cX12_init 123 = .ok (.aload_n 0, 1) := by decide +kernel
theorem dX12_init_124 : decode cX12_init 124 = .ok (.sipush 20002, 3) := by decide +kernel
theorem dX12_init_127 : decode cX12_init 127 = .ok (.newarray .int, 2) := by decide +kernel
theorem dX12_init_129 : decode cX12_init 129 = .ok (.putfield 162, 3) := by decide +kernel
theorem dX12_init_132 : decode cX12_init 132 = .ok (.aload_n 0, 1) := by decide +kernel
theorem dX12_init_133 : decode cX12_init 133 = .ok (.bipush 25, 2) := by decide +kernel
theorem dX12_init_135 : decode cX12_init 135 = .ok (.newarray .int, 2) := by decide +kernel
theorem dX12_init_137 : decode cX12_init 137 = .ok (.putfield 169, 3) := by decide +kernel
theorem dX12_init_140 : decode cX12_init 140 = .ok (.aload_n 0, 1) := by decide +kernel
theorem dX12_init_141 : decode cX12_init 141 = .ok (.sipush 20000, 3) := by decide +kernel
theorem dX12_init_144 : decode cX12_init 144 = .ok (.newarray .long, 2) := by decide +kernel
theorem dX12_init_146 : decode cX12_init 146 = .ok (.putfield 178, 3) := by decide +kernel
theorem dX12_init_149 : decode cX12_init 149 = .ok (.aload_n 0, 1) := by decide +kernel
theorem dX12_init_150 : decode cX12_init 150 = .ok (.iconst 4, 1) := by decide +kernel
theorem dX12_init_151 : decode cX12_init 151 = .ok (.newarray .int, 2) := by decide +kernel
theorem dX12_init_153 : decode cX12_init 153 = .ok (.putfield 215, 3) := by decide +kernel
theorem dX12_init_156 : decode cX12_init 156 = .ok (.aload_n 0, 1) := by decide +kernel
theorem dX12_init_157 : decode cX12_init 157 = .ok (.bipush 12, 2) := by decide +kernel
theorem dX12_init_159 : decode cX12_init 159 = .ok (.newarray .int, 2) := by decide +kernel
theorem dX12_init_161 : decode cX12_init 161 = .ok (.putfield 218, 3) := by decide +kernel
theorem dX12_init_164 : decode cX12_init 164 = .ok (.aload_n 0, 1) := by decide +kernel
theorem dX12_init_165 : decode cX12_init 165 = .ok (.sipush 20002, 3) := by decide +kernel
theorem dX12_init_168 : decode cX12_init 168 = .ok (.newarray .boolean, 2) := by decide +kernel
theorem dX12_init_170 : decode cX12_init 170 = .ok (.putfield 221, 3) := by decide +kernel
theorem dX12_init_173 : decode cX12_init 173 = .ok (.aload_n 0, 1) := by decide +kernel
theorem dX12_init_174 : decode cX12_init 174 = .ok (.iconst 1, 1) := by decide +kernel
theorem dX12_init_175 : decode cX12_init 175 = .ok (.putfield 225, 3) := by decide +kernel
theorem dX12_init_178 : decode cX12_init 178 = .ok (.aload_n 0, 1) := by decide +kernel
theorem dX12_init_179 : decode cX12_init 179 = .ok (.bipush 12, 2) := by decide +kernel
theorem dX12_init_181 : decode cX12_init 181 = .ok (.newarray .int, 2) := by decide +kernel
theorem dX12_init_183 : decode cX12_init 183 = .ok (.putfield 234, 3) := by decide +kernel
theorem dX12_init_186 : decode cX12_init 186 = .ok (.aload_n 0, 1) := by decide +kernel
theorem dX12_init_187 : decode cX12_init 187 = .ok (.sipush 16384, 3) := by decide +kernel
theorem dX12_init_190 : decode cX12_init 190 = .ok (.newarray .long, 2) := by decide +kernel
theorem dX12_init_192 : decode cX12_init 192 = .ok (.putfield 251, 3) := by decide +kernel
theorem dX12_init_195 : decode cX12_init 195 = .ok (.aload_n 0, 1) := by decide +kernel
theorem dX12_init_196 : decode cX12_init 196 = .ok (.bipush 80, 2) := by decide +kernel
theorem dX12_init_198 : decode cX12_init 198 = .ok (.newarray .int, 2) := by decide +kernel
theorem dX12_init_200 : decode cX12_init 200 = .ok (.putfield 283, 3) := by decide +kernel
theorem dX12_init_203 : decode cX12_init 203 = .ok (.aload_n 0, 1) := by decide +kernel
theorem dX12_init_204 : decode cX12_init 204 = .ok (.bipush 13, 2) := by decide +kernel
theorem dX12_init_206 : decode cX12_init 206 = .ok (.newarray .int, 2) := by decide +kernel
theorem dX12_init_208 : decode cX12_init 208 = .ok (.putfield 295, 3) := by decide +kernel
theorem dX12_init_211 : decode cX12_init 211 = .ok (.aload_n 0, 1) := by decide +kernel
theorem dX12_init_212 : decode cX12_init 212 = .ok (.bipush 65, 2) := by decide +kernel
theorem dX12_init_214 : decode cX12_init 214 = .ok (.newarray .int, 2) := by decide +kernel
theorem dX12_init_216 : decode cX12_init 216 = .ok (.putfield 311, 3) := by decide +kernel
theorem dX12_init_219 : decode cX12_init 219 = .ok (.aload_n 0, 1) := by decide +kernel
theorem dX12_init_220 : decode cX12_init 220 = .ok (.bipush 65, 2) := by decide +kernel
theorem dX12_init_222 : decode cX12_init 222 = .ok (.newarray .int, 2) := by decide +kernel
theorem dX12_init_224 : decode cX12_init 224 = .ok (.putfield 318, 3) := by decide +kernel
theorem dX12_init_227 : decode cX12_init 227 = .ok (.aload_n 0, 1) := by decide +kernel
theorem dX12_init_228 : decode cX12_init 228 = .ok (.bipush 120, 2) := by decide +kernel
theorem dX12_init_230 : decode cX12_init 230 = .ok (.newarray .int, 2) := by decide +kernel
theorem dX12_init_232 : decode cX12_init 232 = .ok (.putfield 359, 3) := by decide +kernel
theorem dX12_init_235 : decode cX12_init 235 = .ok (.aload_n 0, 1) := by decide +kernel
theorem dX12_init_236 : decode cX12_init 236 = .ok (.bipush 12, 2) := by decide +kernel
theorem dX12_init_238 : decode cX12_init 238 = .ok (.newarray .int, 2) := by decide +kernel
theorem dX12_init_240 : decode cX12_init 240 = .ok (.putfield 365, 3) := by decide +kernel
theorem dX12_init_243 : decode cX12_init 243 = .ok (.aload_n 0, 1) := by decide +kernel
theorem dX12_init_244 : decode cX12_init 244 = .ok (.bipush 8, 2) := by decide +kernel
theorem dX12_init_246 : decode cX12_init 246 = .ok (.newarray .int, 2) := by decide +kernel
theorem dX12_init_248 : decode cX12_init 248 = .ok (.putfield 393, 3) := by decide +kernel
theorem dX12_init_251 : decode cX12_init 251 = .ok (.aload_n 0, 1) := by decide +kernel
theorem dX12_init_252 : decode cX12_init 252 = .ok (.sipush 6561, 3) := by decide +kernel
theorem dX12_init_255 : decode cX12_init 255 = .ok (.newarray .int, 2) := by decide +kernel
theorem dX12_init_257 : decode cX12_init 257 = .ok (.putfield 384, 3) := by decide +kernel
theorem dX12_init_260 : decode cX12_init 260 = .ok (.aload_n 0, 1) := by decide +kernel
theorem dX12_init_261 : decode cX12_init 261 = .ok (.iconst 3, 1) := by decide +kernel
theorem dX12_init_262 : decode cX12_init 262 = .ok (.newarray .boolean, 2) := by decide +kernel
theorem dX12_init_264 : decode cX12_init 264 = .ok (.putfield 409, 3) := by decide +kernel
theorem dX12_init_267 : decode cX12_init 267 = .ok (.aload_n 0, 1) := by decide +kernel
theorem dX12_init_268 : decode cX12_init 268 = .ok (.sipush 600, 3) := by decide +kernel
theorem dX12_init_271 : decode cX12_init 271 = .ok (.newarray .int, 2) := by decide +kernel
theorem dX12_init_273 : decode cX12_init 273 = .ok (.putfield 402, 3) := by decide +kernel
theorem dX12_init_276 : decode cX12_init 276 = .ok (.return_, 1) := by decide +kernel
theorem ob_X12 : Cond.methodLink RX12 418 objectInit ∈ lw_good ∧ Cond.instanceMethod objectInit ∈ lw_good ∧ Cond.code objectInit ⟨#[0xb1]⟩ 1 none ∈ lw_good := ⟨(lw_i7 0 (by decide +kernel) (by decide +kernel)), (lw_i1 27 (by decide +kernel) (by decide +kernel)), (lw_i1 28 (by decide +kernel) (by decide +kernel))⟩
set_option maxRecDepth 20000 in
theorem i_X12_248 (l : Launch) (D : va_G) (cy : Nat → ClassId) (b : Nat) : gMet l D cy b 248 12 33 [.int 0, .int 0, .null, .null, .int 0, .int 0, .int 0, .int 0, .int 0, .null, .null, .int 0, .int 0, .null, .null, .int 0, .null, .null, .null, .null, .null, .int 0, .int 0, .int 0, .int 0, .null, .null, .null, .null, .null, .int 0, .null, .int 0, .int 0, .null, .null, .null, .int 0, .null, .null, .null, .null, .int 0, .int 0, .null, .null, .int 0, .null, .null, .int 0, .null, .null, .int 0, .null, .null, .int 0] [] yX12_init cX12_init 1 1 20 32 105094 := by
  refine gMet_of (by decide) rfl (Nat.le_of_ble_eq_true rfl) (fun X h hin hB hr up => ?_)
  have h : gOK X cy cX12_init RX12 1 1 20 32 105094 := h
  refine gG_w (ws' := (b + 248, .inr (12, [.int 0, .int 0, .null, .null, .int 0, .int 0, .int 0, .int 0, .int 0, .null, .null, .int 0, .int 0, .null, .null, .int 0, .null, .null, .null, .null, .null, .int 0, .int 0, .int 0, .int 0, .null, .null, .null, .null, .null, .int 0, .null, .int 0, .int 0, .null, .null, .null, .int 0, .null, .null, .null, .null, .int 0, .int 0, .null, .null, .int 0, .null, .null, .int 0, .null, .null, .int 0, .null, .null, .int 0])) :: ([] ++ wN cy b 249 0)) rfl ?_
  refine a_aload_n (x := b + 248) h rfl 0 rfl dX12_init_0 ?_
  refine a_obj h ob_X12 (by decide) (Nat.le_of_ble_eq_true rfl) dX12_init_1 ?_
  refine a_aload_n (x := b + 248) h rfl 0 rfl dX12_init_4 ?_
  refine a_bipush (v := 64) h (by decide) dX12_init_5 ?_
  refine a_newL (b := b) (q := 249) (N := 64) h rfl rfl ar_249 aw_3 (by decide) (by decide) (by decide) (by decide) dX12_init_7 ?_
  refine gG_w (ws' := (b + 248, .inr (12, [.int 0, .int 0, .null, .null, .int 0, .int 0, .int 0, .int 0, .int 0, .null, .null, .int 0, .int 0, .null, .null, .int 0, .null, .null, .null, .null, .null, .int 0, .int 0, .int 0, .int 0, .null, .null, .null, .null, .null, .int 0, .null, .int 0, .int 0, .null, .null, .null, .int 0, .null, .null, .null, .null, .int 0, .int 0, .null, .null, .int 0, .null, .null, .int 0, .null, .null, .int 0, .null, .null, .int 0])) :: ([] ++ wN cy b 249 1)) rfl ?_
  refine a_put (v := .ref (b + 249)) (ws' := (b + 248, .inr (12, [.int 0, .int 0, .ref (b + 249), .null, .int 0, .int 0, .int 0, .int 0, .int 0, .null, .null, .int 0, .int 0, .null, .null, .int 0, .null, .null, .null, .null, .null, .int 0, .int 0, .int 0, .int 0, .null, .null, .null, .null, .null, .int 0, .null, .int 0, .int 0, .null, .null, .null, .int 0, .null, .null, .null, .null, .int 0, .int 0, .null, .null, .int 0, .null, .null, .int 0, .null, .null, .int 0, .null, .null, .int 0])) :: ([] ++ wN cy b 249 1)) 0 (.array .long) h hin hB rfl wN_last rfl (by decide) fl_X12_7 rfl rfl rfl rfl (Nat.le_of_ble_eq_true rfl) dX12_init_9 rfl ?_
  refine a_aload_n (x := b + 248) h rfl 0 rfl dX12_init_12 ?_
  refine a_bipush (v := 80) h (by decide) dX12_init_13 ?_
  refine a_newI (b := b) (q := 250) (N := 80) h rfl rfl ar_250 (gI0_0 (by decide)) aw_1 (by decide) (by decide) (by decide) (by decide) dX12_init_15 ?_
  refine gG_w (ws' := (b + 248, .inr (12, [.int 0, .int 0, .ref (b + 249), .null, .int 0, .int 0, .int 0, .int 0, .int 0, .null, .null, .int 0, .int 0, .null, .null, .int 0, .null, .null, .null, .null, .null, .int 0, .int 0, .int 0, .int 0, .null, .null, .null, .null, .null, .int 0, .null, .int 0, .int 0, .null, .null, .null, .int 0, .null, .null, .null, .null, .int 0, .int 0, .null, .null, .int 0, .null, .null, .int 0, .null, .null, .int 0, .null, .null, .int 0])) :: ([] ++ wN cy b 249 2)) rfl ?_
  refine a_put (v := .ref (b + 250)) (ws' := (b + 248, .inr (12, [.int 0, .int 0, .ref (b + 249), .ref (b + 250), .int 0, .int 0, .int 0, .int 0, .int 0, .null, .null, .int 0, .int 0, .null, .null, .int 0, .null, .null, .null, .null, .null, .int 0, .int 0, .int 0, .int 0, .null, .null, .null, .null, .null, .int 0, .null, .int 0, .int 0, .null, .null, .null, .int 0, .null, .null, .null, .null, .int 0, .int 0, .null, .null, .int 0, .null, .null, .int 0, .null, .null, .int 0, .null, .null, .int 0])) :: ([] ++ wN cy b 249 2)) 0 (.array .int) h hin hB rfl wN_last rfl (by decide) fl_X12_25 rfl rfl rfl rfl (Nat.le_of_ble_eq_true rfl) dX12_init_17 rfl ?_
  refine a_aload_n (x := b + 248) h rfl 0 rfl dX12_init_20 ?_
  refine a_bipush (v := 24) h (by decide) dX12_init_21 ?_
  refine a_newI (b := b) (q := 251) (N := 24) h rfl rfl ar_251 (gI0_0 (by decide)) aw_1 (by decide) (by decide) (by decide) (by decide) dX12_init_23 ?_
  refine gG_w (ws' := (b + 248, .inr (12, [.int 0, .int 0, .ref (b + 249), .ref (b + 250), .int 0, .int 0, .int 0, .int 0, .int 0, .null, .null, .int 0, .int 0, .null, .null, .int 0, .null, .null, .null, .null, .null, .int 0, .int 0, .int 0, .int 0, .null, .null, .null, .null, .null, .int 0, .null, .int 0, .int 0, .null, .null, .null, .int 0, .null, .null, .null, .null, .int 0, .int 0, .null, .null, .int 0, .null, .null, .int 0, .null, .null, .int 0, .null, .null, .int 0])) :: ([] ++ wN cy b 249 3)) rfl ?_
  refine a_put (v := .ref (b + 251)) (ws' := (b + 248, .inr (12, [.int 0, .int 0, .ref (b + 249), .ref (b + 250), .int 0, .int 0, .int 0, .int 0, .int 0, .ref (b + 251), .null, .int 0, .int 0, .null, .null, .int 0, .null, .null, .null, .null, .null, .int 0, .int 0, .int 0, .int 0, .null, .null, .null, .null, .null, .int 0, .null, .int 0, .int 0, .null, .null, .null, .int 0, .null, .null, .null, .null, .int 0, .int 0, .null, .null, .int 0, .null, .null, .int 0, .null, .null, .int 0, .null, .null, .int 0])) :: ([] ++ wN cy b 249 3)) 0 (.array .int) h hin hB rfl wN_last rfl (by decide) fl_X12_62 rfl rfl rfl rfl (Nat.le_of_ble_eq_true rfl) dX12_init_25 rfl ?_
  refine a_aload_n (x := b + 248) h rfl 0 rfl dX12_init_28 ?_
  refine a_bipush (v := 80) h (by decide) dX12_init_29 ?_
  refine a_newI (b := b) (q := 252) (N := 80) h rfl rfl ar_252 (gI0_0 (by decide)) aw_1 (by decide) (by decide) (by decide) (by decide) dX12_init_31 ?_
  refine gG_w (ws' := (b + 248, .inr (12, [.int 0, .int 0, .ref (b + 249), .ref (b + 250), .int 0, .int 0, .int 0, .int 0, .int 0, .ref (b + 251), .null, .int 0, .int 0, .null, .null, .int 0, .null, .null, .null, .null, .null, .int 0, .int 0, .int 0, .int 0, .null, .null, .null, .null, .null, .int 0, .null, .int 0, .int 0, .null, .null, .null, .int 0, .null, .null, .null, .null, .int 0, .int 0, .null, .null, .int 0, .null, .null, .int 0, .null, .null, .int 0, .null, .null, .int 0])) :: ([] ++ wN cy b 249 4)) rfl ?_
  refine a_put (v := .ref (b + 252)) (ws' := (b + 248, .inr (12, [.int 0, .int 0, .ref (b + 249), .ref (b + 250), .int 0, .int 0, .int 0, .int 0, .int 0, .ref (b + 251), .ref (b + 252), .int 0, .int 0, .null, .null, .int 0, .null, .null, .null, .null, .null, .int 0, .int 0, .int 0, .int 0, .null, .null, .null, .null, .null, .int 0, .null, .int 0, .int 0, .null, .null, .null, .int 0, .null, .null, .null, .null, .int 0, .int 0, .null, .null, .int 0, .null, .null, .int 0, .null, .null, .int 0, .null, .null, .int 0])) :: ([] ++ wN cy b 249 4)) 0 (.array .int) h hin hB rfl wN_last rfl (by decide) fl_X12_59 rfl rfl rfl rfl (Nat.le_of_ble_eq_true rfl) dX12_init_33 rfl ?_
  refine a_aload_n (x := b + 248) h rfl 0 rfl dX12_init_36 ?_
  refine a_bipush (v := 24) h (by decide) dX12_init_37 ?_
  refine a_newI (b := b) (q := 253) (N := 24) h rfl rfl ar_253 (gI0_0 (by decide)) aw_1 (by decide) (by decide) (by decide) (by decide) dX12_init_39 ?_
  refine gG_w (ws' := (b + 248, .inr (12, [.int 0, .int 0, .ref (b + 249), .ref (b + 250), .int 0, .int 0, .int 0, .int 0, .int 0, .ref (b + 251), .ref (b + 252), .int 0, .int 0, .null, .null, .int 0, .null, .null, .null, .null, .null, .int 0, .int 0, .int 0, .int 0, .null, .null, .null, .null, .null, .int 0, .null, .int 0, .int 0, .null, .null, .null, .int 0, .null, .null, .null, .null, .int 0, .int 0, .null, .null, .int 0, .null, .null, .int 0, .null, .null, .int 0, .null, .null, .int 0])) :: ([] ++ wN cy b 249 5)) rfl ?_
  refine a_put (v := .ref (b + 253)) (ws' := (b + 248, .inr (12, [.int 0, .int 0, .ref (b + 249), .ref (b + 250), .int 0, .int 0, .int 0, .int 0, .int 0, .ref (b + 251), .ref (b + 252), .int 0, .int 0, .ref (b + 253), .null, .int 0, .null, .null, .null, .null, .null, .int 0, .int 0, .int 0, .int 0, .null, .null, .null, .null, .null, .int 0, .null, .int 0, .int 0, .null, .null, .null, .int 0, .null, .null, .null, .null, .int 0, .int 0, .null, .null, .int 0, .null, .null, .int 0, .null, .null, .int 0, .null, .null, .int 0])) :: ([] ++ wN cy b 249 5)) 0 (.array .int) h hin hB rfl wN_last rfl (by decide) fl_X12_82 rfl rfl rfl rfl (Nat.le_of_ble_eq_true rfl) dX12_init_41 rfl ?_
  refine a_aload_n (x := b + 248) h rfl 0 rfl dX12_init_44 ?_
  refine a_bipush (v := 80) h (by decide) dX12_init_45 ?_
  refine a_newI (b := b) (q := 254) (N := 80) h rfl rfl ar_254 (gI0_0 (by decide)) aw_1 (by decide) (by decide) (by decide) (by decide) dX12_init_47 ?_
  refine gG_w (ws' := (b + 248, .inr (12, [.int 0, .int 0, .ref (b + 249), .ref (b + 250), .int 0, .int 0, .int 0, .int 0, .int 0, .ref (b + 251), .ref (b + 252), .int 0, .int 0, .ref (b + 253), .null, .int 0, .null, .null, .null, .null, .null, .int 0, .int 0, .int 0, .int 0, .null, .null, .null, .null, .null, .int 0, .null, .int 0, .int 0, .null, .null, .null, .int 0, .null, .null, .null, .null, .int 0, .int 0, .null, .null, .int 0, .null, .null, .int 0, .null, .null, .int 0, .null, .null, .int 0])) :: ([] ++ wN cy b 249 6)) rfl ?_
  refine a_put (v := .ref (b + 254)) (ws' := (b + 248, .inr (12, [.int 0, .int 0, .ref (b + 249), .ref (b + 250), .int 0, .int 0, .int 0, .int 0, .int 0, .ref (b + 251), .ref (b + 252), .int 0, .int 0, .ref (b + 253), .ref (b + 254), .int 0, .null, .null, .null, .null, .null, .int 0, .int 0, .int 0, .int 0, .null, .null, .null, .null, .null, .int 0, .null, .int 0, .int 0, .null, .null, .null, .int 0, .null, .null, .null, .null, .int 0, .int 0, .null, .null, .int 0, .null, .null, .int 0, .null, .null, .int 0, .null, .null, .int 0])) :: ([] ++ wN cy b 249 6)) 0 (.array .int) h hin hB rfl wN_last rfl (by decide) fl_X12_85 rfl rfl rfl rfl (Nat.le_of_ble_eq_true rfl) dX12_init_49 rfl ?_
  refine a_aload_n (x := b + 248) h rfl 0 rfl dX12_init_52 ?_
  refine a_bipush (v := 12) h (by decide) dX12_init_53 ?_
  refine a_newI (b := b) (q := 255) (N := 12) h rfl rfl ar_255 (gI0_0 (by decide)) aw_1 (by decide) (by decide) (by decide) (by decide) dX12_init_55 ?_
  refine gG_w (ws' := (b + 248, .inr (12, [.int 0, .int 0, .ref (b + 249), .ref (b + 250), .int 0, .int 0, .int 0, .int 0, .int 0, .ref (b + 251), .ref (b + 252), .int 0, .int 0, .ref (b + 253), .ref (b + 254), .int 0, .null, .null, .null, .null, .null, .int 0, .int 0, .int 0, .int 0, .null, .null, .null, .null, .null, .int 0, .null, .int 0, .int 0, .null, .null, .null, .int 0, .null, .null, .null, .null, .int 0, .int 0, .null, .null, .int 0, .null, .null, .int 0, .null, .null, .int 0, .null, .null, .int 0])) :: ([] ++ wN cy b 249 7)) rfl ?_
  refine a_put (v := .ref (b + 255)) (ws' := (b + 248, .inr (12, [.int 0, .int 0, .ref (b + 249), .ref (b + 250), .int 0, .int 0, .int 0, .int 0, .int 0, .ref (b + 251), .ref (b + 252), .int 0, .int 0, .ref (b + 253), .ref (b + 254), .int 0, .ref (b + 255), .null, .null, .null, .null, .int 0, .int 0, .int 0, .int 0, .null, .null, .null, .null, .null, .int 0, .null, .int 0, .int 0, .null, .null, .null, .int 0, .null, .null, .null, .null, .int 0, .int 0, .null, .null, .int 0, .null, .null, .int 0, .null, .null, .int 0, .null, .null, .int 0])) :: ([] ++ wN cy b 249 7)) 0 (.array .int) h hin hB rfl wN_last rfl (by decide) fl_X12_245 rfl rfl rfl rfl (Nat.le_of_ble_eq_true rfl) dX12_init_57 rfl ?_
  refine a_aload_n (x := b + 248) h rfl 0 rfl dX12_init_60 ?_
  refine a_bipush (v := 12) h (by decide) dX12_init_61 ?_
  refine a_newI (b := b) (q := 256) (N := 12) h rfl rfl ar_256 (gI0_0 (by decide)) aw_1 (by decide) (by decide) (by decide) (by decide) dX12_init_63 ?_
  refine gG_w (ws' := (b + 248, .inr (12, [.int 0, .int 0, .ref (b + 249), .ref (b + 250), .int 0, .int 0, .int 0, .int 0, .int 0, .ref (b + 251), .ref (b + 252), .int 0, .int 0, .ref (b + 253), .ref (b + 254), .int 0, .ref (b + 255), .null, .null, .null, .null, .int 0, .int 0, .int 0, .int 0, .null, .null, .null, .null, .null, .int 0, .null, .int 0, .int 0, .null, .null, .null, .int 0, .null, .null, .null, .null, .int 0, .int 0, .null, .null, .int 0, .null, .null, .int 0, .null, .null, .int 0, .null, .null, .int 0])) :: ([] ++ wN cy b 249 8)) rfl ?_
  refine a_put (v := .ref (b + 256)) (ws' := (b + 248, .inr (12, [.int 0, .int 0, .ref (b + 249), .ref (b + 250), .int 0, .int 0, .int 0, .int 0, .int 0, .ref (b + 251), .ref (b + 252), .int 0, .int 0, .ref (b + 253), .ref (b + 254), .int 0, .ref (b + 255), .ref (b + 256), .null, .null, .null, .int 0, .int 0, .int 0, .int 0, .null, .null, .null, .null, .null, .int 0, .null, .int 0, .int 0, .null, .null, .null, .int 0, .null, .null, .null, .null, .int 0, .int 0, .null, .null, .int 0, .null, .null, .int 0, .null, .null, .int 0, .null, .null, .int 0])) :: ([] ++ wN cy b 249 8)) 0 (.array .int) h hin hB rfl wN_last rfl (by decide) fl_X12_248 rfl rfl rfl rfl (Nat.le_of_ble_eq_true rfl) dX12_init_65 rfl ?_
  refine a_aload_n (x := b + 248) h rfl 0 rfl dX12_init_68 ?_
  refine a_iconst (v := 4) h (by decide) dX12_init_69 ?_
  refine a_newI (b := b) (q := 257) (N := 4) h rfl rfl ar_257 (gI0_0 (by decide)) aw_1 (by decide) (by decide) (by decide) (by decide) dX12_init_70 ?_
  refine gG_w (ws' := (b + 248, .inr (12, [.int 0, .int 0, .ref (b + 249), .ref (b + 250), .int 0, .int 0, .int 0, .int 0, .int 0, .ref (b + 251), .ref (b + 252), .int 0, .int 0, .ref (b + 253), .ref (b + 254), .int 0, .ref (b + 255), .ref (b + 256), .null, .null, .null, .int 0, .int 0, .int 0, .int 0, .null, .null, .null, .null, .null, .int 0, .null, .int 0, .int 0, .null, .null, .null, .int 0, .null, .null, .null, .null, .int 0, .int 0, .null, .null, .int 0, .null, .null, .int 0, .null, .null, .int 0, .null, .null, .int 0])) :: ([] ++ wN cy b 249 9)) rfl ?_
  refine a_put (v := .ref (b + 257)) (ws' := (b + 248, .inr (12, [.int 0, .int 0, .ref (b + 249), .ref (b + 250), .int 0, .int 0, .int 0, .int 0, .int 0, .ref (b + 251), .ref (b + 252), .int 0, .int 0, .ref (b + 253), .ref (b + 254), .int 0, .ref (b + 255), .ref (b + 256), .ref (b + 257), .null, .null, .int 0, .int 0, .int 0, .int 0, .null, .null, .null, .null, .null, .int 0, .null, .int 0, .int 0, .null, .null, .null, .int 0, .null, .null, .null, .null, .int 0, .int 0, .null, .null, .int 0, .null, .null, .int 0, .null, .null, .int 0, .null, .null, .int 0])) :: ([] ++ wN cy b 249 9)) 0 (.array .int) h hin hB rfl wN_last rfl (by decide) fl_X12_100 rfl rfl rfl rfl (Nat.le_of_ble_eq_true rfl) dX12_init_72 rfl ?_
  refine a_aload_n (x := b + 248) h rfl 0 rfl dX12_init_75 ?_
  refine a_bipush (v := 80) h (by decide) dX12_init_76 ?_
  refine a_newI (b := b) (q := 258) (N := 80) h rfl rfl ar_258 (gI0_0 (by decide)) aw_1 (by decide) (by decide) (by decide) (by decide) dX12_init_78 ?_
  refine gG_w (ws' := (b + 248, .inr (12, [.int 0, .int 0, .ref (b + 249), .ref (b + 250), .int 0, .int 0, .int 0, .int 0, .int 0, .ref (b + 251), .ref (b + 252), .int 0, .int 0, .ref (b + 253), .ref (b + 254), .int 0, .ref (b + 255), .ref (b + 256), .ref (b + 257), .null, .null, .int 0, .int 0, .int 0, .int 0, .null, .null, .null, .null, .null, .int 0, .null, .int 0, .int 0, .null, .null, .null, .int 0, .null, .null, .null, .null, .int 0, .int 0, .null, .null, .int 0, .null, .null, .int 0, .null, .null, .int 0, .null, .null, .int 0])) :: ([] ++ wN cy b 249 10)) rfl ?_
  refine a_put (v := .ref (b + 258)) (ws' := (b + 248, .inr (12, [.int 0, .int 0, .ref (b + 249), .ref (b + 250), .int 0, .int 0, .int 0, .int 0, .int 0, .ref (b + 251), .ref (b + 252), .int 0, .int 0, .ref (b + 253), .ref (b + 254), .int 0, .ref (b + 255), .ref (b + 256), .ref (b + 257), .ref (b + 258), .null, .int 0, .int 0, .int 0, .int 0, .null, .null, .null, .null, .null, .int 0, .null, .int 0, .int 0, .null, .null, .null, .int 0, .null, .null, .null, .null, .int 0, .int 0, .null, .null, .int 0, .null, .null, .int 0, .null, .null, .int 0, .null, .null, .int 0])) :: ([] ++ wN cy b 249 10)) 0 (.array .int) h hin hB rfl wN_last rfl (by decide) fl_X12_110 rfl rfl rfl rfl (Nat.le_of_ble_eq_true rfl) dX12_init_80 rfl ?_
  refine a_aload_n (x := b + 248) h rfl 0 rfl dX12_init_83 ?_
  refine a_sipush (v := 480) h (by decide) dX12_init_84 ?_
  refine a_newI (b := b) (q := 259) (N := 480) h rfl rfl ar_259 (gI0_0 (by decide)) aw_1 (by decide) (by decide) (by decide) (by decide) dX12_init_87 ?_
  refine gG_w (ws' := (b + 248, .inr (12, [.int 0, .int 0, .ref (b + 249), .ref (b + 250), .int 0, .int 0, .int 0, .int 0, .int 0, .ref (b + 251), .ref (b + 252), .int 0, .int 0, .ref (b + 253), .ref (b + 254), .int 0, .ref (b + 255), .ref (b + 256), .ref (b + 257), .ref (b + 258), .null, .int 0, .int 0, .int 0, .int 0, .null, .null, .null, .null, .null, .int 0, .null, .int 0, .int 0, .null, .null, .null, .int 0, .null, .null, .null, .null, .int 0, .int 0, .null, .null, .int 0, .null, .null, .int 0, .null, .null, .int 0, .null, .null, .int 0])) :: ([] ++ wN cy b 249 11)) rfl ?_
  refine a_put (v := .ref (b + 259)) (ws' := (b + 248, .inr (12, [.int 0, .int 0, .ref (b + 249), .ref (b + 250), .int 0, .int 0, .int 0, .int 0, .int 0, .ref (b + 251), .ref (b + 252), .int 0, .int 0, .ref (b + 253), .ref (b + 254), .int 0, .ref (b + 255), .ref (b + 256), .ref (b + 257), .ref (b + 258), .ref (b + 259), .int 0, .int 0, .int 0, .int 0, .null, .null, .null, .null, .null, .int 0, .null, .int 0, .int 0, .null, .null, .null, .int 0, .null, .null, .null, .null, .int 0, .int 0, .null, .null, .int 0, .null, .null, .int 0, .null, .null, .int 0, .null, .null, .int 0])) :: ([] ++ wN cy b 249 11)) 0 (.array .int) h hin hB rfl wN_last rfl (by decide) fl_X12_107 rfl rfl rfl rfl (Nat.le_of_ble_eq_true rfl) dX12_init_89 rfl ?_
  refine a_aload_n (x := b + 248) h rfl 0 rfl dX12_init_92 ?_
  refine a_iconst (v := 1) h (by decide) dX12_init_93 ?_
  refine a_put (v := .int 1) (ws' := (b + 248, .inr (12, [.int 0, .int 0, .ref (b + 249), .ref (b + 250), .int 0, .int 0, .int 0, .int 0, .int 0, .ref (b + 251), .ref (b + 252), .int 0, .int 0, .ref (b + 253), .ref (b + 254), .int 0, .ref (b + 255), .ref (b + 256), .ref (b + 257), .ref (b + 258), .ref (b + 259), .int 1, .int 0, .int 0, .int 0, .null, .null, .null, .null, .null, .int 0, .null, .int 0, .int 0, .null, .null, .null, .int 0, .null, .null, .null, .null, .int 0, .int 0, .null, .null, .int 0, .null, .null, .int 0, .null, .null, .int 0, .null, .null, .int 0])) :: ([] ++ wN cy b 249 11)) 0 .int h hin hB rfl wN_last rfl (by decide) fl_X12_117 rfl rfl rfl rfl (Nat.le_of_ble_eq_true rfl) dX12_init_94 rfl ?_
  refine a_aload_n (x := b + 248) h rfl 0 rfl dX12_init_97 ?_
  refine a_bipush (v := 24) h (by decide) dX12_init_98 ?_
  refine a_newI (b := b) (q := 260) (N := 24) h rfl rfl ar_260 (gI0_0 (by decide)) aw_1 (by decide) (by decide) (by decide) (by decide) dX12_init_100 ?_
  refine gG_w (ws' := (b + 248, .inr (12, [.int 0, .int 0, .ref (b + 249), .ref (b + 250), .int 0, .int 0, .int 0, .int 0, .int 0, .ref (b + 251), .ref (b + 252), .int 0, .int 0, .ref (b + 253), .ref (b + 254), .int 0, .ref (b + 255), .ref (b + 256), .ref (b + 257), .ref (b + 258), .ref (b + 259), .int 1, .int 0, .int 0, .int 0, .null, .null, .null, .null, .null, .int 0, .null, .int 0, .int 0, .null, .null, .null, .int 0, .null, .null, .null, .null, .int 0, .int 0, .null, .null, .int 0, .null, .null, .int 0, .null, .null, .int 0, .null, .null, .int 0])) :: ([] ++ wN cy b 249 12)) rfl ?_
  refine a_put (v := .ref (b + 260)) (ws' := (b + 248, .inr (12, [.int 0, .int 0, .ref (b + 249), .ref (b + 250), .int 0, .int 0, .int 0, .int 0, .int 0, .ref (b + 251), .ref (b + 252), .int 0, .int 0, .ref (b + 253), .ref (b + 254), .int 0, .ref (b + 255), .ref (b + 256), .ref (b + 257), .ref (b + 258), .ref (b + 259), .int 1, .int 0, .int 0, .int 0, .ref (b + 260), .null, .null, .null, .null, .int 0, .null, .int 0, .int 0, .null, .null, .null, .int 0, .null, .null, .null, .null, .int 0, .int 0, .null, .null, .int 0, .null, .null, .int 0, .null, .null, .int 0, .null, .null, .int 0])) :: ([] ++ wN cy b 249 12)) 0 (.array .int) h hin hB rfl wN_last rfl (by decide) fl_X12_132 rfl rfl rfl rfl (Nat.le_of_ble_eq_true rfl) dX12_init_102 rfl ?_
  refine a_aload_n (x := b + 248) h rfl 0 rfl dX12_init_105 ?_
  refine a_sipush (v := 160) h (by decide) dX12_init_106 ?_
  refine a_newI (b := b) (q := 261) (N := 160) h rfl rfl ar_261 (gI0_0 (by decide)) aw_1 (by decide) (by decide) (by decide) (by decide) dX12_init_109 ?_
  refine gG_w (ws' := (b + 248, .inr (12, [.int 0, .int 0, .ref (b + 249), .ref (b + 250), .int 0, .int 0, .int 0, .int 0, .int 0, .ref (b + 251), .ref (b + 252), .int 0, .int 0, .ref (b + 253), .ref (b + 254), .int 0, .ref (b + 255), .ref (b + 256), .ref (b + 257), .ref (b + 258), .ref (b + 259), .int 1, .int 0, .int 0, .int 0, .ref (b + 260), .null, .null, .null, .null, .int 0, .null, .int 0, .int 0, .null, .null, .null, .int 0, .null, .null, .null, .null, .int 0, .int 0, .null, .null, .int 0, .null, .null, .int 0, .null, .null, .int 0, .null, .null, .int 0])) :: ([] ++ wN cy b 249 13)) rfl ?_
  refine a_put (v := .ref (b + 261)) (ws' := (b + 248, .inr (12, [.int 0, .int 0, .ref (b + 249), .ref (b + 250), .int 0, .int 0, .int 0, .int 0, .int 0, .ref (b + 251), .ref (b + 252), .int 0, .int 0, .ref (b + 253), .ref (b + 254), .int 0, .ref (b + 255), .ref (b + 256), .ref (b + 257), .ref (b + 258), .ref (b + 259), .int 1, .int 0, .int 0, .int 0, .ref (b + 260), .ref (b + 261), .null, .null, .null, .int 0, .null, .int 0, .int 0, .null, .null, .null, .int 0, .null, .null, .null, .null, .int 0, .int 0, .null, .null, .int 0, .null, .null, .int 0, .null, .null, .int 0, .null, .null, .int 0])) :: ([] ++ wN cy b 249 13)) 0 (.array .int) h hin hB rfl wN_last rfl (by decide) fl_X12_135 rfl rfl rfl rfl (Nat.le_of_ble_eq_true rfl) dX12_init_111 rfl ?_
  refine a_aload_n (x := b + 248) h rfl 0 rfl dX12_init_114 ?_
  refine a_sipush (v := 20002) h (by decide) dX12_init_115 ?_
  refine a_newL (b := b) (q := 262) (N := 20002) h rfl rfl ar_262 aw_3 (by decide) (by decide) (by decide) (by decide) dX12_init_118 ?_
  refine gG_w (ws' := (b + 248, .inr (12, [.int 0, .int 0, .ref (b + 249), .ref (b + 250), .int 0, .int 0, .int 0, .int 0, .int 0, .ref (b + 251), .ref (b + 252), .int 0, .int 0, .ref (b + 253), .ref (b + 254), .int 0, .ref (b + 255), .ref (b + 256), .ref (b + 257), .ref (b + 258), .ref (b + 259), .int 1, .int 0, .int 0, .int 0, .ref (b + 260), .ref (b + 261), .null, .null, .null, .int 0, .null, .int 0, .int 0, .null, .null, .null, .int 0, .null, .null, .null, .null, .int 0, .int 0, .null, .null, .int 0, .null, .null, .int 0, .null, .null, .int 0, .null, .null, .int 0])) :: ([] ++ wN cy b 249 14)) rfl ?_
  refine a_put (v := .ref (b + 262)) (ws' := (b + 248, .inr (12, [.int 0, .int 0, .ref (b + 249), .ref (b + 250), .int 0, .int 0, .int 0, .int 0, .int 0, .ref (b + 251), .ref (b + 252), .int 0, .int 0, .ref (b + 253), .ref (b + 254), .int 0, .ref (b + 255), .ref (b + 256), .ref (b + 257), .ref (b + 258), .ref (b + 259), .int 1, .int 0, .int 0, .int 0, .ref (b + 260), .ref (b + 261), .ref (b + 262), .null, .null, .int 0, .null, .int 0, .int 0, .null, .null, .null, .int 0, .null, .null, .null, .null, .int 0, .int 0, .null, .null, .int 0, .null, .null, .int 0, .null, .null, .int 0, .null, .null, .int 0])) :: ([] ++ wN cy b 249 14)) 0 (.array .long) h hin hB rfl wN_last rfl (by decide) fl_X12_155 rfl rfl rfl rfl (Nat.le_of_ble_eq_true rfl) dX12_init_120 rfl ?_
  refine a_aload_n (x := b + 248) h rfl 0 rfl dX12_init_123 ?_
  refine a_sipush (v := 20002) h (by decide) dX12_init_124 ?_
  refine a_newI (b := b) (q := 263) (N := 20002) h rfl rfl ar_263 (gI0_0 (by decide)) aw_1 (by decide) (by decide) (by decide) (by decide) dX12_init_127 ?_
  refine gG_w (ws' := (b + 248, .inr (12, [.int 0, .int 0, .ref (b + 249), .ref (b + 250), .int 0, .int 0, .int 0, .int 0, .int 0, .ref (b + 251), .ref (b + 252), .int 0, .int 0, .ref (b + 253), .ref (b + 254), .int 0, .ref (b + 255), .ref (b + 256), .ref (b + 257), .ref (b + 258), .ref (b + 259), .int 1, .int 0, .int 0, .int 0, .ref (b + 260), .ref (b + 261), .ref (b + 262), .null, .null, .int 0, .null, .int 0, .int 0, .null, .null, .null, .int 0, .null, .null, .null, .null, .int 0, .int 0, .null, .null, .int 0, .null, .null, .int 0, .null, .null, .int 0, .null, .null, .int 0])) :: ([] ++ wN cy b 249 15)) rfl ?_
  refine a_put (v := .ref (b + 263)) (ws' := (b + 248, .inr (12, [.int 0, .int 0, .ref (b + 249), .ref (b + 250), .int 0, .int 0, .int 0, .int 0, .int 0, .ref (b + 251), .ref (b + 252), .int 0, .int 0, .ref (b + 253), .ref (b + 254), .int 0, .ref (b + 255), .ref (b + 256), .ref (b + 257), .ref (b + 258), .ref (b + 259), .int 1, .int 0, .int 0, .int 0, .ref (b + 260), .ref (b + 261), .ref (b + 262), .ref (b + 263), .null, .int 0, .null, .int 0, .int 0, .null, .null, .null, .int 0, .null, .null, .null, .null, .int 0, .int 0, .null, .null, .int 0, .null, .null, .int 0, .null, .null, .int 0, .null, .null, .int 0])) :: ([] ++ wN cy b 249 15)) 0 (.array .int) h hin hB rfl wN_last rfl (by decide) fl_X12_162 rfl rfl rfl rfl (Nat.le_of_ble_eq_true rfl) dX12_init_129 rfl ?_
  refine a_aload_n (x := b + 248) h rfl 0 rfl dX12_init_132 ?_
  refine a_bipush (v := 25) h (by decide) dX12_init_133 ?_
  refine a_newI (b := b) (q := 264) (N := 25) h rfl rfl ar_264 (gI0_0 (by decide)) aw_1 (by decide) (by decide) (by decide) (by decide) dX12_init_135 ?_
  refine gG_w (ws' := (b + 248, .inr (12, [.int 0, .int 0, .ref (b + 249), .ref (b + 250), .int 0, .int 0, .int 0, .int 0, .int 0, .ref (b + 251), .ref (b + 252), .int 0, .int 0, .ref (b + 253), .ref (b + 254), .int 0, .ref (b + 255), .ref (b + 256), .ref (b + 257), .ref (b + 258), .ref (b + 259), .int 1, .int 0, .int 0, .int 0, .ref (b + 260), .ref (b + 261), .ref (b + 262), .ref (b + 263), .null, .int 0, .null, .int 0, .int 0, .null, .null, .null, .int 0, .null, .null, .null, .null, .int 0, .int 0, .null, .null, .int 0, .null, .null, .int 0, .null, .null, .int 0, .null, .null, .int 0])) :: ([] ++ wN cy b 249 16)) rfl ?_
  refine a_put (v := .ref (b + 264)) (ws' := (b + 248, .inr (12, [.int 0, .int 0, .ref (b + 249), .ref (b + 250), .int 0, .int 0, .int 0, .int 0, .int 0, .ref (b + 251), .ref (b + 252), .int 0, .int 0, .ref (b + 253), .ref (b + 254), .int 0, .ref (b + 255), .ref (b + 256), .ref (b + 257), .ref (b + 258), .ref (b + 259), .int 1, .int 0, .int 0, .int 0, .ref (b + 260), .ref (b + 261), .ref (b + 262), .ref (b + 263), .ref (b + 264), .int 0, .null, .int 0, .int 0, .null, .null, .null, .int 0, .null, .null, .null, .null, .int 0, .int 0, .null, .null, .int 0, .null, .null, .int 0, .null, .null, .int 0, .null, .null, .int 0])) :: ([] ++ wN cy b 249 16)) 0 (.array .int) h hin hB rfl wN_last rfl (by decide) fl_X12_169 rfl rfl rfl rfl (Nat.le_of_ble_eq_true rfl) dX12_init_137 rfl ?_
  refine a_aload_n (x := b + 248) h rfl 0 rfl dX12_init_140 ?_
  refine a_sipush (v := 20000) h (by decide) dX12_init_141 ?_
  refine a_newL (b := b) (q := 265) (N := 20000) h rfl rfl ar_265 aw_3 (by decide) (by decide) (by decide) (by decide) dX12_init_144 ?_
  refine gG_w (ws' := (b + 248, .inr (12, [.int 0, .int 0, .ref (b + 249), .ref (b + 250), .int 0, .int 0, .int 0, .int 0, .int 0, .ref (b + 251), .ref (b + 252), .int 0, .int 0, .ref (b + 253), .ref (b + 254), .int 0, .ref (b + 255), .ref (b + 256), .ref (b + 257), .ref (b + 258), .ref (b + 259), .int 1, .int 0, .int 0, .int 0, .ref (b + 260), .ref (b + 261), .ref (b + 262), .ref (b + 263), .ref (b + 264), .int 0, .null, .int 0, .int 0, .null, .null, .null, .int 0, .null, .null, .null, .null, .int 0, .int 0, .null, .null, .int 0, .null, .null, .int 0, .null, .null, .int 0, .null, .null, .int 0])) :: ([] ++ wN cy b 249 17)) rfl ?_
  refine a_put (v := .ref (b + 265)) (ws' := (b + 248, .inr (12, [.int 0, .int 0, .ref (b + 249), .ref (b + 250), .int 0, .int 0, .int 0, .int 0, .int 0, .ref (b + 251), .ref (b + 252), .int 0, .int 0, .ref (b + 253), .ref (b + 254), .int 0, .ref (b + 255), .ref (b + 256), .ref (b + 257), .ref (b + 258), .ref (b + 259), .int 1, .int 0, .int 0, .int 0, .ref (b + 260), .ref (b + 261), .ref (b + 262), .ref (b + 263), .ref (b + 264), .int 0, .ref (b + 265), .int 0, .int 0, .null, .null, .null, .int 0, .null, .null, .null, .null, .int 0, .int 0, .null, .null, .int 0, .null, .null, .int 0, .null, .null, .int 0, .null, .null, .int 0])) :: ([] ++ wN cy b 249 17)) 0 (.array .long) h hin hB rfl wN_last rfl (by decide) fl_X12_178 rfl rfl rfl rfl (Nat.le_of_ble_eq_true rfl) dX12_init_146 rfl ?_
  refine a_aload_n (x := b + 248) h rfl 0 rfl dX12_init_149 ?_
  refine a_iconst (v := 4) h (by decide) dX12_init_150 ?_
  refine a_newI (b := b) (q := 266) (N := 4) h rfl rfl ar_266 (gI0_0 (by decide)) aw_1 (by decide) (by decide) (by decide) (by decide) dX12_init_151 ?_
  refine gG_w (ws' := (b + 248, .inr (12, [.int 0, .int 0, .ref (b + 249), .ref (b + 250), .int 0, .int 0, .int 0, .int 0, .int 0, .ref (b + 251), .ref (b + 252), .int 0, .int 0, .ref (b + 253), .ref (b + 254), .int 0, .ref (b + 255), .ref (b + 256), .ref (b + 257), .ref (b + 258), .ref (b + 259), .int 1, .int 0, .int 0, .int 0, .ref (b + 260), .ref (b + 261), .ref (b + 262), .ref (b + 263), .ref (b + 264), .int 0, .ref (b + 265), .int 0, .int 0, .null, .null, .null, .int 0, .null, .null, .null, .null, .int 0, .int 0, .null, .null, .int 0, .null, .null, .int 0, .null, .null, .int 0, .null, .null, .int 0])) :: ([] ++ wN cy b 249 18)) rfl ?_
  refine a_put (v := .ref (b + 266)) (ws' := (b + 248, .inr (12, [.int 0, .int 0, .ref (b + 249), .ref (b + 250), .int 0, .int 0, .int 0, .int 0, .int 0, .ref (b + 251), .ref (b + 252), .int 0, .int 0, .ref (b + 253), .ref (b + 254), .int 0, .ref (b + 255), .ref (b + 256), .ref (b + 257), .ref (b + 258), .ref (b + 259), .int 1, .int 0, .int 0, .int 0, .ref (b + 260), .ref (b + 261), .ref (b + 262), .ref (b + 263), .ref (b + 264), .int 0, .ref (b + 265), .int 0, .int 0, .ref (b + 266), .null, .null, .int 0, .null, .null, .null, .null, .int 0, .int 0, .null, .null, .int 0, .null, .null, .int 0, .null, .null, .int 0, .null, .null, .int 0])) :: ([] ++ wN cy b 249 18)) 0 (.array .int) h hin hB rfl wN_last rfl (by decide) fl_X12_215 rfl rfl rfl rfl (Nat.le_of_ble_eq_true rfl) dX12_init_153 rfl ?_
  refine a_aload_n (x := b + 248) h rfl 0 rfl dX12_init_156 ?_
  refine a_bipush (v := 12) h (by decide) dX12_init_157 ?_
  refine a_newI (b := b) (q := 267) (N := 12) h rfl rfl ar_267 (gI0_0 (by decide)) aw_1 (by decide) (by decide) (by decide) (by decide) dX12_init_159 ?_
  refine gG_w (ws' := (b + 248, .inr (12, [.int 0, .int 0, .ref (b + 249), .ref (b + 250), .int 0, .int 0, .int 0, .int 0, .int 0, .ref (b + 251), .ref (b + 252), .int 0, .int 0, .ref (b + 253), .ref (b + 254), .int 0, .ref (b + 255), .ref (b + 256), .ref (b + 257), .ref (b + 258), .ref (b + 259), .int 1, .int 0, .int 0, .int 0, .ref (b + 260), .ref (b + 261), .ref (b + 262), .ref (b + 263), .ref (b + 264), .int 0, .ref (b + 265), .int 0, .int 0, .ref (b + 266), .null, .null, .int 0, .null, .null, .null, .null, .int 0, .int 0, .null, .null, .int 0, .null, .null, .int 0, .null, .null, .int 0, .null, .null, .int 0])) :: ([] ++ wN cy b 249 19)) rfl ?_
  refine a_put (v := .ref (b + 267)) (ws' := (b + 248, .inr (12, [.int 0, .int 0, .ref (b + 249), .ref (b + 250), .int 0, .int 0, .int 0, .int 0, .int 0, .ref (b + 251), .ref (b + 252), .int 0, .int 0, .ref (b + 253), .ref (b + 254), .int 0, .ref (b + 255), .ref (b + 256), .ref (b + 257), .ref (b + 258), .ref (b + 259), .int 1, .int 0, .int 0, .int 0, .ref (b + 260), .ref (b + 261), .ref (b + 262), .ref (b + 263), .ref (b + 264), .int 0, .ref (b + 265), .int 0, .int 0, .ref (b + 266), .ref (b + 267), .null, .int 0, .null, .null, .null, .null, .int 0, .int 0, .null, .null, .int 0, .null, .null, .int 0, .null, .null, .int 0, .null, .null, .int 0])) :: ([] ++ wN cy b 249 19)) 0 (.array .int) h hin hB rfl wN_last rfl (by decide) fl_X12_218 rfl rfl rfl rfl (Nat.le_of_ble_eq_true rfl) dX12_init_161 rfl ?_
  refine a_aload_n (x := b + 248) h rfl 0 rfl dX12_init_164 ?_
  refine a_sipush (v := 20002) h (by decide) dX12_init_165 ?_
  refine a_newZ (b := b) (q := 268) (N := 20002) h rfl rfl ar_268 (gI0_0 (by decide)) aw_2 (by decide) (by decide) (by decide) (by decide) dX12_init_168 ?_
  refine gG_w (ws' := (b + 248, .inr (12, [.int 0, .int 0, .ref (b + 249), .ref (b + 250), .int 0, .int 0, .int 0, .int 0, .int 0, .ref (b + 251), .ref (b + 252), .int 0, .int 0, .ref (b + 253), .ref (b + 254), .int 0, .ref (b + 255), .ref (b + 256), .ref (b + 257), .ref (b + 258), .ref (b + 259), .int 1, .int 0, .int 0, .int 0, .ref (b + 260), .ref (b + 261), .ref (b + 262), .ref (b + 263), .ref (b + 264), .int 0, .ref (b + 265), .int 0, .int 0, .ref (b + 266), .ref (b + 267), .null, .int 0, .null, .null, .null, .null, .int 0, .int 0, .null, .null, .int 0, .null, .null, .int 0, .null, .null, .int 0, .null, .null, .int 0])) :: ([] ++ wN cy b 249 20)) rfl ?_
  refine a_put (v := .ref (b + 268)) (ws' := (b + 248, .inr (12, [.int 0, .int 0, .ref (b + 249), .ref (b + 250), .int 0, .int 0, .int 0, .int 0, .int 0, .ref (b + 251), .ref (b + 252), .int 0, .int 0, .ref (b + 253), .ref (b + 254), .int 0, .ref (b + 255), .ref (b + 256), .ref (b + 257), .ref (b + 258), .ref (b + 259), .int 1, .int 0, .int 0, .int 0, .ref (b + 260), .ref (b + 261), .ref (b + 262), .ref (b + 263), .ref (b + 264), .int 0, .ref (b + 265), .int 0, .int 0, .ref (b + 266), .ref (b + 267), .ref (b + 268), .int 0, .null, .null, .null, .null, .int 0, .int 0, .null, .null, .int 0, .null, .null, .int 0, .null, .null, .int 0, .null, .null, .int 0])) :: ([] ++ wN cy b 249 20)) 0 (.array .boolean) h hin hB rfl wN_last rfl (by decide) fl_X12_221 rfl rfl rfl rfl (Nat.le_of_ble_eq_true rfl) dX12_init_170 rfl ?_
  refine a_aload_n (x := b + 248) h rfl 0 rfl dX12_init_173 ?_
  refine a_iconst (v := 1) h (by decide) dX12_init_174 ?_
  refine a_put (v := .int 1) (ws' := (b + 248, .inr (12, [.int 0, .int 0, .ref (b + 249), .ref (b + 250), .int 0, .int 0, .int 0, .int 0, .int 0, .ref (b + 251), .ref (b + 252), .int 0, .int 0, .ref (b + 253), .ref (b + 254), .int 0, .ref (b + 255), .ref (b + 256), .ref (b + 257), .ref (b + 258), .ref (b + 259), .int 1, .int 0, .int 0, .int 0, .ref (b + 260), .ref (b + 261), .ref (b + 262), .ref (b + 263), .ref (b + 264), .int 0, .ref (b + 265), .int 0, .int 0, .ref (b + 266), .ref (b + 267), .ref (b + 268), .int 1, .null, .null, .null, .null, .int 0, .int 0, .null, .null, .int 0, .null, .null, .int 0, .null, .null, .int 0, .null, .null, .int 0])) :: ([] ++ wN cy b 249 20)) 0 .int h hin hB rfl wN_last rfl (by decide) fl_X12_225 rfl rfl rfl rfl (Nat.le_of_ble_eq_true rfl) dX12_init_175 rfl ?_
  refine a_aload_n (x := b + 248) h rfl 0 rfl dX12_init_178 ?_
  refine a_bipush (v := 12) h (by decide) dX12_init_179 ?_
  refine a_newI (b := b) (q := 269) (N := 12) h rfl rfl ar_269 (gI0_0 (by decide)) aw_1 (by decide) (by decide) (by decide) (by decide) dX12_init_181 ?_
  refine gG_w (ws' := (b + 248, .inr (12, [.int 0, .int 0, .ref (b + 249), .ref (b + 250), .int 0, .int 0, .int 0, .int 0, .int 0, .ref (b + 251), .ref (b + 252), .int 0, .int 0, .ref (b + 253), .ref (b + 254), .int 0, .ref (b + 255), .ref (b + 256), .ref (b + 257), .ref (b + 258), .ref (b + 259), .int 1, .int 0, .int 0, .int 0, .ref (b + 260), .ref (b + 261), .ref (b + 262), .ref (b + 263), .ref (b + 264), .int 0, .ref (b + 265), .int 0, .int 0, .ref (b + 266), .ref (b + 267), .ref (b + 268), .int 1, .null, .null, .null, .null, .int 0, .int 0, .null, .null, .int 0, .null, .null, .int 0, .null, .null, .int 0, .null, .null, .int 0])) :: ([] ++ wN cy b 249 21)) rfl ?_
  refine a_put (v := .ref (b + 269)) (ws' := (b + 248, .inr (12, [.int 0, .int 0, .ref (b + 249), .ref (b + 250), .int 0, .int 0, .int 0, .int 0, .int 0, .ref (b + 251), .ref (b + 252), .int 0, .int 0, .ref (b + 253), .ref (b + 254), .int 0, .ref (b + 255), .ref (b + 256), .ref (b + 257), .ref (b + 258), .ref (b + 259), .int 1, .int 0, .int 0, .int 0, .ref (b + 260), .ref (b + 261), .ref (b + 262), .ref (b + 263), .ref (b + 264), .int 0, .ref (b + 265), .int 0, .int 0, .ref (b + 266), .ref (b + 267), .ref (b + 268), .int 1, .ref (b + 269), .null, .null, .null, .int 0, .int 0, .null, .null, .int 0, .null, .null, .int 0, .null, .null, .int 0, .null, .null, .int 0])) :: ([] ++ wN cy b 249 21)) 0 (.array .int) h hin hB rfl wN_last rfl (by decide) fl_X12_234 rfl rfl rfl rfl (Nat.le_of_ble_eq_true rfl) dX12_init_183 rfl ?_
  refine a_aload_n (x := b + 248) h rfl 0 rfl dX12_init_186 ?_
  refine a_sipush (v := 16384) h (by decide) dX12_init_187 ?_
  refine a_newL (b := b) (q := 270) (N := 16384) h rfl rfl ar_270 aw_3 (by decide) (by decide) (by decide) (by decide) dX12_init_190 ?_
  refine gG_w (ws' := (b + 248, .inr (12, [.int 0, .int 0, .ref (b + 249), .ref (b + 250), .int 0, .int 0, .int 0, .int 0, .int 0, .ref (b + 251), .ref (b + 252), .int 0, .int 0, .ref (b + 253), .ref (b + 254), .int 0, .ref (b + 255), .ref (b + 256), .ref (b + 257), .ref (b + 258), .ref (b + 259), .int 1, .int 0, .int 0, .int 0, .ref (b + 260), .ref (b + 261), .ref (b + 262), .ref (b + 263), .ref (b + 264), .int 0, .ref (b + 265), .int 0, .int 0, .ref (b + 266), .ref (b + 267), .ref (b + 268), .int 1, .ref (b + 269), .null, .null, .null, .int 0, .int 0, .null, .null, .int 0, .null, .null, .int 0, .null, .null, .int 0, .null, .null, .int 0])) :: ([] ++ wN cy b 249 22)) rfl ?_
  refine a_put (v := .ref (b + 270)) (ws' := (b + 248, .inr (12, [.int 0, .int 0, .ref (b + 249), .ref (b + 250), .int 0, .int 0, .int 0, .int 0, .int 0, .ref (b + 251), .ref (b + 252), .int 0, .int 0, .ref (b + 253), .ref (b + 254), .int 0, .ref (b + 255), .ref (b + 256), .ref (b + 257), .ref (b + 258), .ref (b + 259), .int 1, .int 0, .int 0, .int 0, .ref (b + 260), .ref (b + 261), .ref (b + 262), .ref (b + 263), .ref (b + 264), .int 0, .ref (b + 265), .int 0, .int 0, .ref (b + 266), .ref (b + 267), .ref (b + 268), .int 1, .ref (b + 269), .ref (b + 270), .null, .null, .int 0, .int 0, .null, .null, .int 0, .null, .null, .int 0, .null, .null, .int 0, .null, .null, .int 0])) :: ([] ++ wN cy b 249 22)) 0 (.array .long) h hin hB rfl wN_last rfl (by decide) fl_X12_251 rfl rfl rfl rfl (Nat.le_of_ble_eq_true rfl) dX12_init_192 rfl ?_
  refine a_aload_n (x := b + 248) h rfl 0 rfl dX12_init_195 ?_
  refine a_bipush (v := 80) h (by decide) dX12_init_196 ?_
  refine a_newI (b := b) (q := 271) (N := 80) h rfl rfl ar_271 (gI0_0 (by decide)) aw_1 (by decide) (by decide) (by decide) (by decide) dX12_init_198 ?_
  refine gG_w (ws' := (b + 248, .inr (12, [.int 0, .int 0, .ref (b + 249), .ref (b + 250), .int 0, .int 0, .int 0, .int 0, .int 0, .ref (b + 251), .ref (b + 252), .int 0, .int 0, .ref (b + 253), .ref (b + 254), .int 0, .ref (b + 255), .ref (b + 256), .ref (b + 257), .ref (b + 258), .ref (b + 259), .int 1, .int 0, .int 0, .int 0, .ref (b + 260), .ref (b + 261), .ref (b + 262), .ref (b + 263), .ref (b + 264), .int 0, .ref (b + 265), .int 0, .int 0, .ref (b + 266), .ref (b + 267), .ref (b + 268), .int 1, .ref (b + 269), .ref (b + 270), .null, .null, .int 0, .int 0, .null, .null, .int 0, .null, .null, .int 0, .null, .null, .int 0, .null, .null, .int 0])) :: ([] ++ wN cy b 249 23)) rfl ?_
  refine a_put (v := .ref (b + 271)) (ws' := (b + 248, .inr (12, [.int 0, .int 0, .ref (b + 249), .ref (b + 250), .int 0, .int 0, .int 0, .int 0, .int 0, .ref (b + 251), .ref (b + 252), .int 0, .int 0, .ref (b + 253), .ref (b + 254), .int 0, .ref (b + 255), .ref (b + 256), .ref (b + 257), .ref (b + 258), .ref (b + 259), .int 1, .int 0, .int 0, .int 0, .ref (b + 260), .ref (b + 261), .ref (b + 262), .ref (b + 263), .ref (b + 264), .int 0, .ref (b + 265), .int 0, .int 0, .ref (b + 266), .ref (b + 267), .ref (b + 268), .int 1, .ref (b + 269), .ref (b + 270), .ref (b + 271), .null, .int 0, .int 0, .null, .null, .int 0, .null, .null, .int 0, .null, .null, .int 0, .null, .null, .int 0])) :: ([] ++ wN cy b 249 23)) 0 (.array .int) h hin hB rfl wN_last rfl (by decide) fl_X12_283 rfl rfl rfl rfl (Nat.le_of_ble_eq_true rfl) dX12_init_200 rfl ?_
  refine a_aload_n (x := b + 248) h rfl 0 rfl dX12_init_203 ?_
  refine a_bipush (v := 13) h (by decide) dX12_init_204 ?_
  refine a_newI (b := b) (q := 272) (N := 13) h rfl rfl ar_272 (gI0_0 (by decide)) aw_1 (by decide) (by decide) (by decide) (by decide) dX12_init_206 ?_
  refine gG_w (ws' := (b + 248, .inr (12, [.int 0, .int 0, .ref (b + 249), .ref (b + 250), .int 0, .int 0, .int 0, .int 0, .int 0, .ref (b + 251), .ref (b + 252), .int 0, .int 0, .ref (b + 253), .ref (b + 254), .int 0, .ref (b + 255), .ref (b + 256), .ref (b + 257), .ref (b + 258), .ref (b + 259), .int 1, .int 0, .int 0, .int 0, .ref (b + 260), .ref (b + 261), .ref (b + 262), .ref (b + 263), .ref (b + 264), .int 0, .ref (b + 265), .int 0, .int 0, .ref (b + 266), .ref (b + 267), .ref (b + 268), .int 1, .ref (b + 269), .ref (b + 270), .ref (b + 271), .null, .int 0, .int 0, .null, .null, .int 0, .null, .null, .int 0, .null, .null, .int 0, .null, .null, .int 0])) :: ([] ++ wN cy b 249 24)) rfl ?_
  refine a_put (v := .ref (b + 272)) (ws' := (b + 248, .inr (12, [.int 0, .int 0, .ref (b + 249), .ref (b + 250), .int 0, .int 0, .int 0, .int 0, .int 0, .ref (b + 251), .ref (b + 252), .int 0, .int 0, .ref (b + 253), .ref (b + 254), .int 0, .ref (b + 255), .ref (b + 256), .ref (b + 257), .ref (b + 258), .ref (b + 259), .int 1, .int 0, .int 0, .int 0, .ref (b + 260), .ref (b + 261), .ref (b + 262), .ref (b + 263), .ref (b + 264), .int 0, .ref (b + 265), .int 0, .int 0, .ref (b + 266), .ref (b + 267), .ref (b + 268), .int 1, .ref (b + 269), .ref (b + 270), .ref (b + 271), .ref (b + 272), .int 0, .int 0, .null, .null, .int 0, .null, .null, .int 0, .null, .null, .int 0, .null, .null, .int 0])) :: ([] ++ wN cy b 249 24)) 0 (.array .int) h hin hB rfl wN_last rfl (by decide) fl_X12_295 rfl rfl rfl rfl (Nat.le_of_ble_eq_true rfl) dX12_init_208 rfl ?_
  refine a_aload_n (x := b + 248) h rfl 0 rfl dX12_init_211 ?_
  refine a_bipush (v := 65) h (by decide) dX12_init_212 ?_
  refine a_newI (b := b) (q := 273) (N := 65) h rfl rfl ar_273 (gI0_0 (by decide)) aw_1 (by decide) (by decide) (by decide) (by decide) dX12_init_214 ?_
  refine gG_w (ws' := (b + 248, .inr (12, [.int 0, .int 0, .ref (b + 249), .ref (b + 250), .int 0, .int 0, .int 0, .int 0, .int 0, .ref (b + 251), .ref (b + 252), .int 0, .int 0, .ref (b + 253), .ref (b + 254), .int 0, .ref (b + 255), .ref (b + 256), .ref (b + 257), .ref (b + 258), .ref (b + 259), .int 1, .int 0, .int 0, .int 0, .ref (b + 260), .ref (b + 261), .ref (b + 262), .ref (b + 263), .ref (b + 264), .int 0, .ref (b + 265), .int 0, .int 0, .ref (b + 266), .ref (b + 267), .ref (b + 268), .int 1, .ref (b + 269), .ref (b + 270), .ref (b + 271), .ref (b + 272), .int 0, .int 0, .null, .null, .int 0, .null, .null, .int 0, .null, .null, .int 0, .null, .null, .int 0])) :: ([] ++ wN cy b 249 25)) rfl ?_
  refine a_put (v := .ref (b + 273)) (ws' := (b + 248, .inr (12, [.int 0, .int 0, .ref (b + 249), .ref (b + 250), .int 0, .int 0, .int 0, .int 0, .int 0, .ref (b + 251), .ref (b + 252), .int 0, .int 0, .ref (b + 253), .ref (b + 254), .int 0, .ref (b + 255), .ref (b + 256), .ref (b + 257), .ref (b + 258), .ref (b + 259), .int 1, .int 0, .int 0, .int 0, .ref (b + 260), .ref (b + 261), .ref (b + 262), .ref (b + 263), .ref (b + 264), .int 0, .ref (b + 265), .int 0, .int 0, .ref (b + 266), .ref (b + 267), .ref (b + 268), .int 1, .ref (b + 269), .ref (b + 270), .ref (b + 271), .ref (b + 272), .int 0, .int 0, .ref (b + 273), .null, .int 0, .null, .null, .int 0, .null, .null, .int 0, .null, .null, .int 0])) :: ([] ++ wN cy b 249 25)) 0 (.array .int) h hin hB rfl wN_last rfl (by decide) fl_X12_311 rfl rfl rfl rfl (Nat.le_of_ble_eq_true rfl) dX12_init_216 rfl ?_
  refine a_aload_n (x := b + 248) h rfl 0 rfl dX12_init_219 ?_
  refine a_bipush (v := 65) h (by decide) dX12_init_220 ?_
  refine a_newI (b := b) (q := 274) (N := 65) h rfl rfl ar_274 (gI0_0 (by decide)) aw_1 (by decide) (by decide) (by decide) (by decide) dX12_init_222 ?_
  refine gG_w (ws' := (b + 248, .inr (12, [.int 0, .int 0, .ref (b + 249), .ref (b + 250), .int 0, .int 0, .int 0, .int 0, .int 0, .ref (b + 251), .ref (b + 252), .int 0, .int 0, .ref (b + 253), .ref (b + 254), .int 0, .ref (b + 255), .ref (b + 256), .ref (b + 257), .ref (b + 258), .ref (b + 259), .int 1, .int 0, .int 0, .int 0, .ref (b + 260), .ref (b + 261), .ref (b + 262), .ref (b + 263), .ref (b + 264), .int 0, .ref (b + 265), .int 0, .int 0, .ref (b + 266), .ref (b + 267), .ref (b + 268), .int 1, .ref (b + 269), .ref (b + 270), .ref (b + 271), .ref (b + 272), .int 0, .int 0, .ref (b + 273), .null, .int 0, .null, .null, .int 0, .null, .null, .int 0, .null, .null, .int 0])) :: ([] ++ wN cy b 249 26)) rfl ?_
  refine a_put (v := .ref (b + 274)) (ws' := (b + 248, .inr (12, [.int 0, .int 0, .ref (b + 249), .ref (b + 250), .int 0, .int 0, .int 0, .int 0, .int 0, .ref (b + 251), .ref (b + 252), .int 0, .int 0, .ref (b + 253), .ref (b + 254), .int 0, .ref (b + 255), .ref (b + 256), .ref (b + 257), .ref (b + 258), .ref (b + 259), .int 1, .int 0, .int 0, .int 0, .ref (b + 260), .ref (b + 261), .ref (b + 262), .ref (b + 263), .ref (b + 264), .int 0, .ref (b + 265), .int 0, .int 0, .ref (b + 266), .ref (b + 267), .ref (b + 268), .int 1, .ref (b + 269), .ref (b + 270), .ref (b + 271), .ref (b + 272), .int 0, .int 0, .ref (b + 273), .ref (b + 274), .int 0, .null, .null, .int 0, .null, .null, .int 0, .null, .null, .int 0])) :: ([] ++ wN cy b 249 26)) 0 (.array .int) h hin hB rfl wN_last rfl (by decide) fl_X12_318 rfl rfl rfl rfl (Nat.le_of_ble_eq_true rfl) dX12_init_224 rfl ?_
  refine a_aload_n (x := b + 248) h rfl 0 rfl dX12_init_227 ?_
  refine a_bipush (v := 120) h (by decide) dX12_init_228 ?_
  refine a_newI (b := b) (q := 275) (N := 120) h rfl rfl ar_275 (gI0_0 (by decide)) aw_1 (by decide) (by decide) (by decide) (by decide) dX12_init_230 ?_
  refine gG_w (ws' := (b + 248, .inr (12, [.int 0, .int 0, .ref (b + 249), .ref (b + 250), .int 0, .int 0, .int 0, .int 0, .int 0, .ref (b + 251), .ref (b + 252), .int 0, .int 0, .ref (b + 253), .ref (b + 254), .int 0, .ref (b + 255), .ref (b + 256), .ref (b + 257), .ref (b + 258), .ref (b + 259), .int 1, .int 0, .int 0, .int 0, .ref (b + 260), .ref (b + 261), .ref (b + 262), .ref (b + 263), .ref (b + 264), .int 0, .ref (b + 265), .int 0, .int 0, .ref (b + 266), .ref (b + 267), .ref (b + 268), .int 1, .ref (b + 269), .ref (b + 270), .ref (b + 271), .ref (b + 272), .int 0, .int 0, .ref (b + 273), .ref (b + 274), .int 0, .null, .null, .int 0, .null, .null, .int 0, .null, .null, .int 0])) :: ([] ++ wN cy b 249 27)) rfl ?_
  refine a_put (v := .ref (b + 275)) (ws' := (b + 248, .inr (12, [.int 0, .int 0, .ref (b + 249), .ref (b + 250), .int 0, .int 0, .int 0, .int 0, .int 0, .ref (b + 251), .ref (b + 252), .int 0, .int 0, .ref (b + 253), .ref (b + 254), .int 0, .ref (b + 255), .ref (b + 256), .ref (b + 257), .ref (b + 258), .ref (b + 259), .int 1, .int 0, .int 0, .int 0, .ref (b + 260), .ref (b + 261), .ref (b + 262), .ref (b + 263), .ref (b + 264), .int 0, .ref (b + 265), .int 0, .int 0, .ref (b + 266), .ref (b + 267), .ref (b + 268), .int 1, .ref (b + 269), .ref (b + 270), .ref (b + 271), .ref (b + 272), .int 0, .int 0, .ref (b + 273), .ref (b + 274), .int 0, .ref (b + 275), .null, .int 0, .null, .null, .int 0, .null, .null, .int 0])) :: ([] ++ wN cy b 249 27)) 0 (.array .int) h hin hB rfl wN_last rfl (by decide) fl_X12_359 rfl rfl rfl rfl (Nat.le_of_ble_eq_true rfl) dX12_init_232 rfl ?_
  refine a_aload_n (x := b + 248) h rfl 0 rfl dX12_init_235 ?_
  refine a_bipush (v := 12) h (by decide) dX12_init_236 ?_
  refine a_newI (b := b) (q := 276) (N := 12) h rfl rfl ar_276 (gI0_0 (by decide)) aw_1 (by decide) (by decide) (by decide) (by decide) dX12_init_238 ?_
  refine gG_w (ws' := (b + 248, .inr (12, [.int 0, .int 0, .ref (b + 249), .ref (b + 250), .int 0, .int 0, .int 0, .int 0, .int 0, .ref (b + 251), .ref (b + 252), .int 0, .int 0, .ref (b + 253), .ref (b + 254), .int 0, .ref (b + 255), .ref (b + 256), .ref (b + 257), .ref (b + 258), .ref (b + 259), .int 1, .int 0, .int 0, .int 0, .ref (b + 260), .ref (b + 261), .ref (b + 262), .ref (b + 263), .ref (b + 264), .int 0, .ref (b + 265), .int 0, .int 0, .ref (b + 266), .ref (b + 267), .ref (b + 268), .int 1, .ref (b + 269), .ref (b + 270), .ref (b + 271), .ref (b + 272), .int 0, .int 0, .ref (b + 273), .ref (b + 274), .int 0, .ref (b + 275), .null, .int 0, .null, .null, .int 0, .null, .null, .int 0])) :: ([] ++ wN cy b 249 28)) rfl ?_
  refine a_put (v := .ref (b + 276)) (ws' := (b + 248, .inr (12, [.int 0, .int 0, .ref (b + 249), .ref (b + 250), .int 0, .int 0, .int 0, .int 0, .int 0, .ref (b + 251), .ref (b + 252), .int 0, .int 0, .ref (b + 253), .ref (b + 254), .int 0, .ref (b + 255), .ref (b + 256), .ref (b + 257), .ref (b + 258), .ref (b + 259), .int 1, .int 0, .int 0, .int 0, .ref (b + 260), .ref (b + 261), .ref (b + 262), .ref (b + 263), .ref (b + 264), .int 0, .ref (b + 265), .int 0, .int 0, .ref (b + 266), .ref (b + 267), .ref (b + 268), .int 1, .ref (b + 269), .ref (b + 270), .ref (b + 271), .ref (b + 272), .int 0, .int 0, .ref (b + 273), .ref (b + 274), .int 0, .ref (b + 275), .ref (b + 276), .int 0, .null, .null, .int 0, .null, .null, .int 0])) :: ([] ++ wN cy b 249 28)) 0 (.array .int) h hin hB rfl wN_last rfl (by decide) fl_X12_365 rfl rfl rfl rfl (Nat.le_of_ble_eq_true rfl) dX12_init_240 rfl ?_
  refine a_aload_n (x := b + 248) h rfl 0 rfl dX12_init_243 ?_
  refine a_bipush (v := 8) h (by decide) dX12_init_244 ?_
  refine a_newI (b := b) (q := 277) (N := 8) h rfl rfl ar_277 (gI0_0 (by decide)) aw_1 (by decide) (by decide) (by decide) (by decide) dX12_init_246 ?_
  refine gG_w (ws' := (b + 248, .inr (12, [.int 0, .int 0, .ref (b + 249), .ref (b + 250), .int 0, .int 0, .int 0, .int 0, .int 0, .ref (b + 251), .ref (b + 252), .int 0, .int 0, .ref (b + 253), .ref (b + 254), .int 0, .ref (b + 255), .ref (b + 256), .ref (b + 257), .ref (b + 258), .ref (b + 259), .int 1, .int 0, .int 0, .int 0, .ref (b + 260), .ref (b + 261), .ref (b + 262), .ref (b + 263), .ref (b + 264), .int 0, .ref (b + 265), .int 0, .int 0, .ref (b + 266), .ref (b + 267), .ref (b + 268), .int 1, .ref (b + 269), .ref (b + 270), .ref (b + 271), .ref (b + 272), .int 0, .int 0, .ref (b + 273), .ref (b + 274), .int 0, .ref (b + 275), .ref (b + 276), .int 0, .null, .null, .int 0, .null, .null, .int 0])) :: ([] ++ wN cy b 249 29)) rfl ?_
  refine a_put (v := .ref (b + 277)) (ws' := (b + 248, .inr (12, [.int 0, .int 0, .ref (b + 249), .ref (b + 250), .int 0, .int 0, .int 0, .int 0, .int 0, .ref (b + 251), .ref (b + 252), .int 0, .int 0, .ref (b + 253), .ref (b + 254), .int 0, .ref (b + 255), .ref (b + 256), .ref (b + 257), .ref (b + 258), .ref (b + 259), .int 1, .int 0, .int 0, .int 0, .ref (b + 260), .ref (b + 261), .ref (b + 262), .ref (b + 263), .ref (b + 264), .int 0, .ref (b + 265), .int 0, .int 0, .ref (b + 266), .ref (b + 267), .ref (b + 268), .int 1, .ref (b + 269), .ref (b + 270), .ref (b + 271), .ref (b + 272), .int 0, .int 0, .ref (b + 273), .ref (b + 274), .int 0, .ref (b + 275), .ref (b + 276), .int 0, .ref (b + 277), .null, .int 0, .null, .null, .int 0])) :: ([] ++ wN cy b 249 29)) 0 (.array .int) h hin hB rfl wN_last rfl (by decide) fl_X12_393 rfl rfl rfl rfl (Nat.le_of_ble_eq_true rfl) dX12_init_248 rfl ?_
  refine a_aload_n (x := b + 248) h rfl 0 rfl dX12_init_251 ?_
  refine a_sipush (v := 6561) h (by decide) dX12_init_252 ?_
  refine a_newI (b := b) (q := 278) (N := 6561) h rfl rfl ar_278 (gI0_0 (by decide)) aw_1 (by decide) (by decide) (by decide) (by decide) dX12_init_255 ?_
  refine gG_w (ws' := (b + 248, .inr (12, [.int 0, .int 0, .ref (b + 249), .ref (b + 250), .int 0, .int 0, .int 0, .int 0, .int 0, .ref (b + 251), .ref (b + 252), .int 0, .int 0, .ref (b + 253), .ref (b + 254), .int 0, .ref (b + 255), .ref (b + 256), .ref (b + 257), .ref (b + 258), .ref (b + 259), .int 1, .int 0, .int 0, .int 0, .ref (b + 260), .ref (b + 261), .ref (b + 262), .ref (b + 263), .ref (b + 264), .int 0, .ref (b + 265), .int 0, .int 0, .ref (b + 266), .ref (b + 267), .ref (b + 268), .int 1, .ref (b + 269), .ref (b + 270), .ref (b + 271), .ref (b + 272), .int 0, .int 0, .ref (b + 273), .ref (b + 274), .int 0, .ref (b + 275), .ref (b + 276), .int 0, .ref (b + 277), .null, .int 0, .null, .null, .int 0])) :: ([] ++ wN cy b 249 30)) rfl ?_
  refine a_put (v := .ref (b + 278)) (ws' := (b + 248, .inr (12, [.int 0, .int 0, .ref (b + 249), .ref (b + 250), .int 0, .int 0, .int 0, .int 0, .int 0, .ref (b + 251), .ref (b + 252), .int 0, .int 0, .ref (b + 253), .ref (b + 254), .int 0, .ref (b + 255), .ref (b + 256), .ref (b + 257), .ref (b + 258), .ref (b + 259), .int 1, .int 0, .int 0, .int 0, .ref (b + 260), .ref (b + 261), .ref (b + 262), .ref (b + 263), .ref (b + 264), .int 0, .ref (b + 265), .int 0, .int 0, .ref (b + 266), .ref (b + 267), .ref (b + 268), .int 1, .ref (b + 269), .ref (b + 270), .ref (b + 271), .ref (b + 272), .int 0, .int 0, .ref (b + 273), .ref (b + 274), .int 0, .ref (b + 275), .ref (b + 276), .int 0, .ref (b + 277), .ref (b + 278), .int 0, .null, .null, .int 0])) :: ([] ++ wN cy b 249 30)) 0 (.array .int) h hin hB rfl wN_last rfl (by decide) fl_X12_384 rfl rfl rfl rfl (Nat.le_of_ble_eq_true rfl) dX12_init_257 rfl ?_
  refine a_aload_n (x := b + 248) h rfl 0 rfl dX12_init_260 ?_
  refine a_iconst (v := 3) h (by decide) dX12_init_261 ?_
  refine a_newZ (b := b) (q := 279) (N := 3) h rfl rfl ar_279 (gI0_0 (by decide)) aw_2 (by decide) (by decide) (by decide) (by decide) dX12_init_262 ?_
  refine gG_w (ws' := (b + 248, .inr (12, [.int 0, .int 0, .ref (b + 249), .ref (b + 250), .int 0, .int 0, .int 0, .int 0, .int 0, .ref (b + 251), .ref (b + 252), .int 0, .int 0, .ref (b + 253), .ref (b + 254), .int 0, .ref (b + 255), .ref (b + 256), .ref (b + 257), .ref (b + 258), .ref (b + 259), .int 1, .int 0, .int 0, .int 0, .ref (b + 260), .ref (b + 261), .ref (b + 262), .ref (b + 263), .ref (b + 264), .int 0, .ref (b + 265), .int 0, .int 0, .ref (b + 266), .ref (b + 267), .ref (b + 268), .int 1, .ref (b + 269), .ref (b + 270), .ref (b + 271), .ref (b + 272), .int 0, .int 0, .ref (b + 273), .ref (b + 274), .int 0, .ref (b + 275), .ref (b + 276), .int 0, .ref (b + 277), .ref (b + 278), .int 0, .null, .null, .int 0])) :: ([] ++ wN cy b 249 31)) rfl ?_
  refine a_put (v := .ref (b + 279)) (ws' := (b + 248, .inr (12, [.int 0, .int 0, .ref (b + 249), .ref (b + 250), .int 0, .int 0, .int 0, .int 0, .int 0, .ref (b + 251), .ref (b + 252), .int 0, .int 0, .ref (b + 253), .ref (b + 254), .int 0, .ref (b + 255), .ref (b + 256), .ref (b + 257), .ref (b + 258), .ref (b + 259), .int 1, .int 0, .int 0, .int 0, .ref (b + 260), .ref (b + 261), .ref (b + 262), .ref (b + 263), .ref (b + 264), .int 0, .ref (b + 265), .int 0, .int 0, .ref (b + 266), .ref (b + 267), .ref (b + 268), .int 1, .ref (b + 269), .ref (b + 270), .ref (b + 271), .ref (b + 272), .int 0, .int 0, .ref (b + 273), .ref (b + 274), .int 0, .ref (b + 275), .ref (b + 276), .int 0, .ref (b + 277), .ref (b + 278), .int 0, .ref (b + 279), .null, .int 0])) :: ([] ++ wN cy b 249 31)) 0 (.array .boolean) h hin hB rfl wN_last rfl (by decide) fl_X12_409 rfl rfl rfl rfl (Nat.le_of_ble_eq_true rfl) dX12_init_264 rfl ?_
  refine a_aload_n (x := b + 248) h rfl 0 rfl dX12_init_267 ?_
  refine a_sipush (v := 600) h (by decide) dX12_init_268 ?_
  refine a_newI (b := b) (q := 280) (N := 600) h rfl rfl ar_280 (gI0_0 (by decide)) aw_1 (by decide) (by decide) (by decide) (by decide) dX12_init_271 ?_
  refine gG_w (ws' := (b + 248, .inr (12, [.int 0, .int 0, .ref (b + 249), .ref (b + 250), .int 0, .int 0, .int 0, .int 0, .int 0, .ref (b + 251), .ref (b + 252), .int 0, .int 0, .ref (b + 253), .ref (b + 254), .int 0, .ref (b + 255), .ref (b + 256), .ref (b + 257), .ref (b + 258), .ref (b + 259), .int 1, .int 0, .int 0, .int 0, .ref (b + 260), .ref (b + 261), .ref (b + 262), .ref (b + 263), .ref (b + 264), .int 0, .ref (b + 265), .int 0, .int 0, .ref (b + 266), .ref (b + 267), .ref (b + 268), .int 1, .ref (b + 269), .ref (b + 270), .ref (b + 271), .ref (b + 272), .int 0, .int 0, .ref (b + 273), .ref (b + 274), .int 0, .ref (b + 275), .ref (b + 276), .int 0, .ref (b + 277), .ref (b + 278), .int 0, .ref (b + 279), .null, .int 0])) :: ([] ++ wN cy b 249 32)) rfl ?_
  refine a_put (v := .ref (b + 280)) (ws' := (b + 248, .inr (12, [.int 0, .int 0, .ref (b + 249), .ref (b + 250), .int 0, .int 0, .int 0, .int 0, .int 0, .ref (b + 251), .ref (b + 252), .int 0, .int 0, .ref (b + 253), .ref (b + 254), .int 0, .ref (b + 255), .ref (b + 256), .ref (b + 257), .ref (b + 258), .ref (b + 259), .int 1, .int 0, .int 0, .int 0, .ref (b + 260), .ref (b + 261), .ref (b + 262), .ref (b + 263), .ref (b + 264), .int 0, .ref (b + 265), .int 0, .int 0, .ref (b + 266), .ref (b + 267), .ref (b + 268), .int 1, .ref (b + 269), .ref (b + 270), .ref (b + 271), .ref (b + 272), .int 0, .int 0, .ref (b + 273), .ref (b + 274), .int 0, .ref (b + 275), .ref (b + 276), .int 0, .ref (b + 277), .ref (b + 278), .int 0, .ref (b + 279), .ref (b + 280), .int 0])) :: ([] ++ wN cy b 249 32)) 0 (.array .int) h hin hB rfl wN_last rfl (by decide) fl_X12_402 rfl rfl rfl rfl (Nat.le_of_ble_eq_true rfl) dX12_init_273 rfl ?_
  exact a_ret (q := 248) (j := 32) h hr rfl rfl dX12_init_276
