theorem dX12_goesOn_0 : decode cX12_goesOn 0 = .ok (.aload_n 0, 1) := by decide +kernel
theorem dX12_goesOn_1 : decode cX12_goesOn 1 = .ok (.getfield 148, 3) := by decide +kernel
theorem dX12_goesOn_4 : decode cX12_goesOn 4 = .ok (.istore 5, 2) := by decide +kernel
theorem dX12_goesOn_6 : decode cX12_goesOn 6 = .ok (.iconst 0, 1) := by decide +kernel
theorem dX12_goesOn_7 : decode cX12_goesOn 7 = .ok (.istore 6, 2) := by decide +kernel
theorem dX12_goesOn_9 : decode cX12_goesOn 9 = .ok (.iload 6, 2) := by decide +kernel
theorem dX12_goesOn_11 : decode cX12_goesOn 11 = .ok (.aload_n 0, 1) := by decide +kernel
theorem dX12_goesOn_12 : decode cX12_goesOn 12 = .ok (.getfield 100, 3) := by decide +kernel
theorem dX12_goesOn_15 : decode cX12_goesOn 15 = .ok (.iload_n 1, 1) := by decide +kernel
theorem dX12_goesOn_16 : decode cX12_goesOn 16 = .ok (.iaload, 1) := by decide +kernel
theorem dX12_goesOn_17 : decode cX12_goesOn 17 = .ok (.if_icmp .ge 173, 3) := by decide +kernel
theorem dX12_goesOn_20 : decode cX12_goesOn 20 = .ok (.bipush 20, 2) := by decide +kernel
theorem dX12_goesOn_22 : decode cX12_goesOn 22 = .ok (.iload_n 1, 1) := by decide +kernel
theorem dX12_goesOn_23 : decode cX12_goesOn 23 = .ok (.imul, 1) := by decide +kernel
theorem dX12_goesOn_24 : decode cX12_goesOn 24 = .ok (.iload 6, 2) := by decide +kernel
theorem dX12_goesOn_26 : decode cX12_goesOn 26 = .ok (.iadd, 1) := by decide +kernel
theorem dX12_goesOn_27 : decode cX12_goesOn 27 = .ok (.istore 7, 2) := by decide +kernel
theorem dX12_goesOn_29 : decode cX12_goesOn 29 = .ok (.aload_n 0, 1) := by decide +kernel
theorem dX12_goesOn_30 : decode cX12_goesOn 30 = .ok (.iload 7, 2) := by decide +kernel
theorem dX12_goesOn_32 : decode cX12_goesOn 32 = .ok (.iload 4, 2) := by decide +kernel
theorem dX12_goesOn_34 : decode cX12_goesOn 34 = .ok (.invokevirtual 151, 3) := by decide +kernel
theorem dX12_goesOn_37 : decode cX12_goesOn 37 = .ok (.ifCond .ne 6, 3) := by decide +kernel
theorem dX12_goesOn_40 : decode cX12_goesOn 40 = .ok (.goto 144, 3) := by decide +kernel
theorem dX12_goesOn_43 : decode cX12_goesOn 43 = .ok (.aload_n 0, 1) := by decide +kernel
theorem dX12_goesOn_44 : decode cX12_goesOn 44 = .ok (.iload_n 2, 1) := by decide +kernel
theorem dX12_goesOn_45 : decode cX12_goesOn 45 = .ok (.ifCond .ge 7, 3) := by decide +kernel
theorem dX12_goesOn_48 : decode cX12_goesOn 48 = .ok (.lconst 0, 1) := by decide +kernel
theorem dX12_goesOn_49 : decode cX12_goesOn 49 = .ok (.goto 9, 3) := by decide +kernel
theorem dX12_goesOn_52 : decode cX12_goesOn 52 = .ok (.aload_n 0, 1) := by decide +kernel
theorem dX12_goesOn_53 : decode cX12_goesOn 53 = .ok (.getfield 155, 3) := by decide +kernel
theorem dX12_goesOn_56 : decode cX12_goesOn 56 = .ok (.iload_n 2, 1) := by decide +kernel
theorem dX12_goesOn_57 : decode cX12_goesOn 57 = .ok (.laload, 1) := by decide +kernel
theorem dX12_goesOn_58 : decode cX12_goesOn 58 = .ok (.iload_n 3, 1) := by decide +kernel
theorem dX12_goesOn_59 : decode cX12_goesOn 59 = .ok (.iload 4, 2) := by decide +kernel
theorem dX12_goesOn_61 : decode cX12_goesOn 61 = .ok (.iload 7, 2) := by decide +kernel
theorem dX12_goesOn_63 : decode cX12_goesOn 63 = .ok (.invokevirtual 158, 3) := by decide +kernel
theorem dX12_goesOn_66 : decode cX12_goesOn 66 = .ok (.lstore 8, 2) := by decide +kernel
theorem dX12_goesOn_68 : decode cX12_goesOn 68 = .ok (.lload 8, 2) := by decide +kernel
theorem dX12_goesOn_70 : decode cX12_goesOn 70 = .ok (.lconst 0, 1) := by decide +kernel
theorem dX12_goesOn_71 : decode cX12_goesOn 71 = .ok (.lcmp, 1) := by decide +kernel
theorem dX12_goesOn_72 : decode cX12_goesOn 72 = .ok (.ifCond .lt 7, 3) := by decide +kernel
theorem dX12_goesOn_75 : decode cX12_goesOn 75 = .ok (.iconst 1, 1) := by decide +kernel
theorem dX12_goesOn_76 : decode cX12_goesOn 76 = .ok (.goto 4, 3) := by decide +kernel
theorem dX12_goesOn_79 : decode cX12_goesOn 79 = .ok (.iconst 0, 1) := by decide +kernel
theorem dX12_goesOn_80 : decode cX12_goesOn 80 = .ok (.istore 10, 2) := by decide +kernel
theorem dX12_goesOn_82 : decode cX12_goesOn 82 = .ok (.iload 5, 2) := by decide +kernel
theorem dX12_goesOn_84 : decode cX12_goesOn 84 = .ok (.istore 11, 2) := by decide +kernel
theorem dX12_goesOn_86 : decode cX12_goesOn 86 = .ok (.iload 11, 2) := by decide +kernel
theorem dX12_goesOn_88 : decode cX12_goesOn 88 = .ok (.aload_n 0, 1) := by decide +kernel
theorem dX12_goesOn_89 : decode cX12_goesOn 89 = .ok (.getfield 148, 3) := by decide +kernel
theorem dX12_goesOn_92 : decode cX12_goesOn 92 = .ok (.if_icmp .ge 34, 3) := by decide +kernel
theorem dX12_goesOn_95 : decode cX12_goesOn 95 = .ok (.iload 10, 2) := by decide +kernel
theorem dX12_goesOn_97 : decode cX12_goesOn 97 = .ok (.ifCond .eq 29, 3) := by decide +kernel
theorem dX12_goesOn_100 : decode cX12_goesOn 100 = .ok (.aload_n 0, 1) := by decide +kernel
theorem dX12_goesOn_101 : decode cX12_goesOn 101 = .ok (.getfield 155, 3) := by decide +kernel
theorem dX12_goesOn_104 : decode cX12_goesOn 104 = .ok (.iload 11, 2) := by decide +kernel
theorem dX12_goesOn_106 : decode cX12_goesOn 106 = .ok (.laload, 1) := by decide +kernel
theorem dX12_goesOn_107 : decode cX12_goesOn 107 = .ok (.lload 8, 2) := by decide +kernel
theorem dX12_goesOn_109 : decode cX12_goesOn 109 = .ok (.lcmp, 1) := by decide +kernel
theorem dX12_goesOn_110 : decode cX12_goesOn 110 = .ok (.ifCond .eq 7, 3) := by decide +kernel
theorem dX12_goesOn_113 : decode cX12_goesOn 113 = .ok (.iconst 1, 1) := by decide +kernel
theorem dX12_goesOn_114 : decode cX12_goesOn 114 = .ok (.goto 4, 3) := by decide +kernel
theorem dX12_goesOn_117 : decode cX12_goesOn 117 = .ok (.iconst 0, 1) := by decide +kernel
theorem dX12_goesOn_118 : decode cX12_goesOn 118 = .ok (.istore 10, 2) := by decide +kernel
theorem dX12_goesOn_120 : decode cX12_goesOn 120 = .ok (.iinc 11 1, 3) := by decide +kernel
theorem dX12_goesOn_123 : decode cX12_goesOn 123 = .ok (.goto (-37), 3) := by decide +kernel
theorem dX12_goesOn_126 : decode cX12_goesOn 126 = .ok (.iload 10, 2) := by decide +kernel
theorem dX12_goesOn_128 : decode cX12_goesOn 128 = .ok (.ifCond .eq 56, 3) := by decide +kernel
theorem dX12_goesOn_131 : decode cX12_goesOn 131 = .ok (.aload_n 0, 1) := by decide +kernel
theorem dX12_goesOn_132 : decode cX12_goesOn 132 = .ok (.getfield 148, 3) := by decide +kernel
theorem dX12_goesOn_135 : decode cX12_goesOn 135 = .ok (.sipush 20000, 3) := by decide +kernel
theorem dX12_goesOn_138 : decode cX12_goesOn 138 = .ok (.if_icmp .ne 15, 3) := by decide +kernel
theorem dX12_goesOn_141 : decode cX12_goesOn 141 = .ok (.aload_n 0, 1) := by decide +kernel
theorem dX12_goesOn_142 : decode cX12_goesOn 142 = .ok (.dup, 1) := by decide +kernel
theorem dX12_goesOn_143 : decode cX12_goesOn 143 = .ok (.getfield 148, 3) := by decide +kernel
theorem dX12_goesOn_146 : decode cX12_goesOn 146 = .ok (.iconst 1, 1) := by decide +kernel
theorem dX12_goesOn_147 : decode cX12_goesOn 147 = .ok (.iadd, 1) := by decide +kernel
theorem dX12_goesOn_148 : decode cX12_goesOn 148 = .ok (.putfield 148, 3) := by decide +kernel
theorem dX12_goesOn_151 : decode cX12_goesOn 151 = .ok (.iconst 0, 1) := by decide +kernel
theorem dX12_goesOn_152 : decode cX12_goesOn 152 = .ok (.ireturn, 1) := by decide +kernel
theorem dX12_goesOn_153 : decode cX12_goesOn 153 = .ok (.aload_n 0, 1) := by decide +kernel
theorem dX12_goesOn_154 : decode cX12_goesOn 154 = .ok (.getfield 155, 3) := by decide +kernel
theorem dX12_goesOn_157 : decode cX12_goesOn 157 = .ok (.aload_n 0, 1) := by decide +kernel
theorem dX12_goesOn_158 : decode cX12_goesOn 158 = .ok (.getfield 148, 3) := by decide +kernel
theorem dX12_goesOn_161 : decode cX12_goesOn 161 = .ok (.lload 8, 2) := by decide +kernel
theorem dX12_goesOn_163 : decode cX12_goesOn 163 = .ok (.lastore, 1) := by decide +kernel
theorem dX12_goesOn_164 : decode cX12_goesOn 164 = .ok (.aload_n 0, 1) := by decide +kernel
theorem dX12_goesOn_165 : decode cX12_goesOn 165 = .ok (.getfield 162, 3) := by decide +kernel
theorem dX12_goesOn_168 : decode cX12_goesOn 168 = .ok (.aload_n 0, 1) := by decide +kernel
theorem dX12_goesOn_169 : decode cX12_goesOn 169 = .ok (.getfield 148, 3) := by decide +kernel
theorem dX12_goesOn_172 : decode cX12_goesOn 172 = .ok (.iload_n 2, 1) := by decide +kernel
theorem dX12_goesOn_173 : decode cX12_goesOn 173 = .ok (.iastore, 1) := by decide +kernel
theorem dX12_goesOn_174 : decode cX12_goesOn 174 = .ok (.aload_n 0, 1) := by decide +kernel
theorem dX12_goesOn_175 : decode cX12_goesOn 175 = .ok (.dup, 1) := by decide +kernel
theorem dX12_goesOn_176 : decode cX12_goesOn 176 = .ok (.getfield 148, 3) := by decide +kernel
theorem dX12_goesOn_179 : decode cX12_goesOn 179 = .ok (.iconst 1, 1) := by decide +kernel
theorem dX12_goesOn_180 : decode cX12_goesOn 180 = .ok (.iadd, 1) := by decide +kernel
theorem dX12_goesOn_181 : decode cX12_goesOn 181 = .ok (.putfield 148, 3) := by decide +kernel
theorem dX12_goesOn_184 : decode cX12_goesOn 184 = .ok (.iinc 6 1, 3) := by decide +kernel
theorem dX12_goesOn_187 : decode cX12_goesOn 187 = .ok (.goto (-178), 3) := by decide +kernel
theorem dX12_goesOn_190 : decode cX12_goesOn 190 = .ok (.iconst 1, 1) := by decide +kernel
theorem dX12_goesOn_191 : decode cX12_goesOn 191 = .ok (.ireturn, 1) := by decide +kernel
def w_X12_goesOn_184 (post : Int32 → sI → sJ → Prop) (k9 : Int32 → Int32 → Int32 → Int32 → Int32 → Int32 → sI → sJ → Prop) (x1 : Int32) (x2 : Int32) (x3 : Int32) (x4 : Int32) (x5 : Int32) (x6 : Int32) (I : sI) (J : sJ) : Prop :=
  (∀ v6_184 : Int32, v6_184 = x6 + 1 → k9 x1 x2 x3 x4 x5 v6_184 I J)
set_option maxHeartbeats 4000000 in
set_option maxRecDepth 100000 in
theorem t_X12_goesOn_184 {X : sX} {post : Int32 → sI → sJ → Prop} (h : sOK X cX12_goesOn RX12 12 2 56) (hr : sRt X (some .boolean) (sPi post)) {k9 : Int32 → Int32 → Int32 → Int32 → Int32 → Int32 → sI → sJ → Prop} (hk9 : ∀ (x1 : Int32) (x2 : Int32) (x3 : Int32) (x4 : Int32) (x5 : Int32) (x6 : Int32) (I : sI) (J : sJ), k9 x1 x2 x3 x4 x5 x6 I J → sG X 12 9 [(0, .ref 248), (1, .int x1), (2, .int x2), (3, .int x3), (4, .int x4), (5, .int x5), (6, .int x6)] [] I J) {x1 : Int32} {x2 : Int32} {x3 : Int32} {x4 : Int32} {x5 : Int32} {x6 : Int32} {I : sI} {J : sJ} (hw : w_X12_goesOn_184 post k9 x1 x2 x3 x4 x5 x6 I J) : sG X 12 184 [(0, .ref 248), (1, .int x1), (2, .int x2), (3, .int x3), (4, .int x4), (5, .int x5), (6, .int x6)] [] I J := by
  unfold w_X12_goesOn_184 at hw
  obtain ⟨v6_184, ev6_184⟩ : ∃ z : Int32, z = x6 + 1 := ⟨_, rfl⟩
  replace hw := hw v6_184 ev6_184
  refine g_iinc (v := v6_184) (lo2 := [(6, .int v6_184), (0, .ref 248), (1, .int x1), (2, .int x2), (3, .int x3), (4, .int x4), (5, .int x5)]) h 6 rfl (by rw [ev6_184]; rfl) (by decide) rfl dX12_goesOn_184 ?_
  refine g_goto (tgt := 9) h (by decide) dX12_goesOn_187 ?_
  exact g_sub [1, 2, 3, 4, 5, 6, 0] rfl (hk9 _ _ _ _ _ _ _ _ hw)
def w_X12_goesOn_126 (post : Int32 → sI → sJ → Prop) (k9 : Int32 → Int32 → Int32 → Int32 → Int32 → Int32 → sI → sJ → Prop) (x1 : Int32) (x2 : Int32) (x3 : Int32) (x4 : Int32) (x5 : Int32) (x6 : Int32) (x8 : Int64) (x10 : Int32) (I : sI) (J : sJ) : Prop :=
  ((x10 = 0 → w_X12_goesOn_184 post k9 x1 x2 x3 x4 x5 x6 I J) ∧ (¬ x10 = 0 → ((¬ (I 248 30) = 20000 → (vp_in (I 248 30) 20002 ∧ (∀ J_163 : sJ, J_163 = sUJ J 262 (Int32.toNatClampNeg (I 248 30)) x8 → (vp_in (I 248 30) 20002 ∧ (∀ I_173 : sI, I_173 = sUI I 263 (Int32.toNatClampNeg (I 248 30)) x2 → (∀ I_181 : sI, I_181 = sUI I_173 248 30 ((I_173 248 30) + 1) → w_X12_goesOn_184 post k9 x1 x2 x3 x4 x5 x6 I_181 J_163)))))) ∧ ((I 248 30) = 20000 → (∀ I_148 : sI, I_148 = sUI I 248 30 ((I 248 30) + 1) → post 0 I_148 J)))))
set_option maxHeartbeats 4000000 in
set_option maxRecDepth 100000 in
theorem t_X12_goesOn_126 {X : sX} {post : Int32 → sI → sJ → Prop} (h : sOK X cX12_goesOn RX12 12 2 56) (hr : sRt X (some .boolean) (sPi post)) {k9 : Int32 → Int32 → Int32 → Int32 → Int32 → Int32 → sI → sJ → Prop} (hk9 : ∀ (x1 : Int32) (x2 : Int32) (x3 : Int32) (x4 : Int32) (x5 : Int32) (x6 : Int32) (I : sI) (J : sJ), k9 x1 x2 x3 x4 x5 x6 I J → sG X 12 9 [(0, .ref 248), (1, .int x1), (2, .int x2), (3, .int x3), (4, .int x4), (5, .int x5), (6, .int x6)] [] I J) {x1 : Int32} {x2 : Int32} {x3 : Int32} {x4 : Int32} {x5 : Int32} {x6 : Int32} {x8 : Int64} {x10 : Int32} {I : sI} {J : sJ} (hw : w_X12_goesOn_126 post k9 x1 x2 x3 x4 x5 x6 x8 x10 I J) : sG X 12 126 [(0, .ref 248), (1, .int x1), (2, .int x2), (3, .int x3), (4, .int x4), (5, .int x5), (6, .int x6), (8, .long x8), (10, .int x10)] [] I J := by
  unfold w_X12_goesOn_126 at hw
  refine g_iload h 8 rfl dX12_goesOn_126 ?_
  refine g_if_eq (tgt := 184) h (by decide) dX12_goesOn_128 (fun q128 => ?_) (fun q128 => ?_)
  · replace hw := hw.1 q128
    exact g_sub [0, 1, 2, 3, 4, 5, 6] rfl (t_X12_goesOn_184 h hr hk9 hw)
  · replace hw := hw.2 q128
    refine g_aload_n h rfl 0 rfl dX12_goesOn_131 ?_
    refine g_get h is_248 fl_X12_148 rfl dX12_goesOn_132 ?_
    refine g_sipush (v := 20000) h (by decide) dX12_goesOn_135 ?_
    refine g_icmp_ne (tgt := 153) h (by decide) dX12_goesOn_138 (fun q138 => ?_) (fun q138 => ?_)
    · replace hw := hw.1 q138
      refine g_aload_n h rfl 0 rfl dX12_goesOn_153 ?_
      refine g_get h is_248 fl_X12_155 fr_248_27 dX12_goesOn_154 ?_
      refine g_aload_n h rfl 0 rfl dX12_goesOn_157 ?_
      refine g_get h is_248 fl_X12_148 rfl dX12_goesOn_158 ?_
      refine g_lload h 7 rfl dX12_goesOn_161 ?_
      obtain ⟨hi163, hw⟩ := hw
      refine g_last h ar_262 hi163 dX12_goesOn_163 ?_
      refine g_nJ (fun J_163 eJ_163 => ?_)
      replace hw := hw J_163 eJ_163
      refine g_aload_n h rfl 0 rfl dX12_goesOn_164 ?_
      refine g_get h is_248 fl_X12_162 fr_248_28 dX12_goesOn_165 ?_
      refine g_aload_n h rfl 0 rfl dX12_goesOn_168 ?_
      refine g_get h is_248 fl_X12_148 rfl dX12_goesOn_169 ?_
      refine g_iload_n h rfl 2 rfl dX12_goesOn_172 ?_
      obtain ⟨hi173, hw⟩ := hw
      refine g_iast h ar_263 hi173 dX12_goesOn_173 ?_
      refine g_nI (fun I_173 eI_173 => ?_)
      replace hw := hw I_173 eI_173
      refine g_aload_n h rfl 0 rfl dX12_goesOn_174 ?_
      refine g_dup h rfl dX12_goesOn_175 ?_
      refine g_get h is_248 fl_X12_148 rfl dX12_goesOn_176 ?_
      refine g_iconst (v := 1) h (by decide) dX12_goesOn_179 ?_
      refine g_iadd h dX12_goesOn_180 ?_
      refine g_putI h is_248 fl_X12_148 rfl rfl dX12_goesOn_181 ?_
      refine g_nI (fun I_181 eI_181 => ?_)
      replace hw := hw I_181 eI_181
      exact g_sub [0, 1, 2, 3, 4, 5, 6] rfl (t_X12_goesOn_184 h hr hk9 hw)
    · replace hw := hw.2 q138
      refine g_aload_n h rfl 0 rfl dX12_goesOn_141 ?_
      refine g_dup h rfl dX12_goesOn_142 ?_
      refine g_get h is_248 fl_X12_148 rfl dX12_goesOn_143 ?_
      refine g_iconst (v := 1) h (by decide) dX12_goesOn_146 ?_
      refine g_iadd h dX12_goesOn_147 ?_
      refine g_putI h is_248 fl_X12_148 rfl rfl dX12_goesOn_148 ?_
      refine g_nI (fun I_148 eI_148 => ?_)
      replace hw := hw I_148 eI_148
      refine g_iconst (v := 0) h (by decide) dX12_goesOn_151 ?_
      exact g_zret h hr (Or.inl rfl) dX12_goesOn_152 hw
def w_X12_goesOn_118 (post : Int32 → sI → sJ → Prop) (k9 : Int32 → Int32 → Int32 → Int32 → Int32 → Int32 → sI → sJ → Prop) (k86 : Int32 → Int32 → Int32 → Int32 → Int32 → Int32 → Int64 → Int32 → Int32 → sI → sJ → Prop) (x1 : Int32) (x2 : Int32) (x3 : Int32) (x4 : Int32) (x5 : Int32) (x6 : Int32) (x8 : Int64) (x11 : Int32) (s0 : Int32) (I : sI) (J : sJ) : Prop :=
  (∀ v11_120 : Int32, v11_120 = x11 + 1 → k86 x1 x2 x3 x4 x5 x6 x8 s0 v11_120 I J)
set_option maxHeartbeats 4000000 in
set_option maxRecDepth 100000 in
theorem t_X12_goesOn_118 {X : sX} {post : Int32 → sI → sJ → Prop} (h : sOK X cX12_goesOn RX12 12 2 56) (hr : sRt X (some .boolean) (sPi post)) {k9 : Int32 → Int32 → Int32 → Int32 → Int32 → Int32 → sI → sJ → Prop} (hk9 : ∀ (x1 : Int32) (x2 : Int32) (x3 : Int32) (x4 : Int32) (x5 : Int32) (x6 : Int32) (I : sI) (J : sJ), k9 x1 x2 x3 x4 x5 x6 I J → sG X 12 9 [(0, .ref 248), (1, .int x1), (2, .int x2), (3, .int x3), (4, .int x4), (5, .int x5), (6, .int x6)] [] I J) {k86 : Int32 → Int32 → Int32 → Int32 → Int32 → Int32 → Int64 → Int32 → Int32 → sI → sJ → Prop} (hk86 : ∀ (x1 : Int32) (x2 : Int32) (x3 : Int32) (x4 : Int32) (x5 : Int32) (x6 : Int32) (x8 : Int64) (x10 : Int32) (x11 : Int32) (I : sI) (J : sJ), k86 x1 x2 x3 x4 x5 x6 x8 x10 x11 I J → sG X 12 86 [(0, .ref 248), (1, .int x1), (2, .int x2), (3, .int x3), (4, .int x4), (5, .int x5), (6, .int x6), (8, .long x8), (10, .int x10), (11, .int x11)] [] I J) {x1 : Int32} {x2 : Int32} {x3 : Int32} {x4 : Int32} {x5 : Int32} {x6 : Int32} {x8 : Int64} {x11 : Int32} {s0 : Int32} {I : sI} {J : sJ} (hw : w_X12_goesOn_118 post k9 k86 x1 x2 x3 x4 x5 x6 x8 x11 s0 I J) : sG X 12 118 [(0, .ref 248), (1, .int x1), (2, .int x2), (3, .int x3), (4, .int x4), (5, .int x5), (6, .int x6), (8, .long x8), (11, .int x11)] [.int s0] I J := by
  unfold w_X12_goesOn_118 at hw
  refine g_istore (lo2 := [(10, .int s0), (0, .ref 248), (1, .int x1), (2, .int x2), (3, .int x3), (4, .int x4), (5, .int x5), (6, .int x6), (8, .long x8), (11, .int x11)]) h (by decide) rfl dX12_goesOn_118 ?_
  obtain ⟨v11_120, ev11_120⟩ : ∃ z : Int32, z = x11 + 1 := ⟨_, rfl⟩
  replace hw := hw v11_120 ev11_120
  refine g_iinc (v := v11_120) (lo2 := [(11, .int v11_120), (10, .int s0), (0, .ref 248), (1, .int x1), (2, .int x2), (3, .int x3), (4, .int x4), (5, .int x5), (6, .int x6), (8, .long x8)]) h 9 rfl (by rw [ev11_120]; rfl) (by decide) rfl dX12_goesOn_120 ?_
  refine g_goto (tgt := 86) h (by decide) dX12_goesOn_123 ?_
  exact g_sub [2, 3, 4, 5, 6, 7, 8, 9, 1, 0] rfl (hk86 _ _ _ _ _ _ _ _ _ _ _ hw)
def w_X12_goesOn_86_s (post : Int32 → sI → sJ → Prop) (k9 : Int32 → Int32 → Int32 → Int32 → Int32 → Int32 → sI → sJ → Prop) (k86 : Int32 → Int32 → Int32 → Int32 → Int32 → Int32 → Int64 → Int32 → Int32 → sI → sJ → Prop) (x1 : Int32) (x2 : Int32) (x3 : Int32) (x4 : Int32) (x5 : Int32) (x6 : Int32) (x8 : Int64) (x10 : Int32) (x11 : Int32) (I : sI) (J : sJ) : Prop :=
  (((I 248 30) ≤ x11 → w_X12_goesOn_126 post k9 x1 x2 x3 x4 x5 x6 x8 x10 I J) ∧ (¬ (I 248 30) ≤ x11 → ((x10 = 0 → w_X12_goesOn_126 post k9 x1 x2 x3 x4 x5 x6 x8 x10 I J) ∧ (¬ x10 = 0 → (vp_in x11 20002 ∧ (((lg_cmp (J 262 (Int32.toNatClampNeg x11)) x8) = 0 → w_X12_goesOn_118 post k9 k86 x1 x2 x3 x4 x5 x6 x8 x11 0 I J) ∧ (¬ (lg_cmp (J 262 (Int32.toNatClampNeg x11)) x8) = 0 → w_X12_goesOn_118 post k9 k86 x1 x2 x3 x4 x5 x6 x8 x11 1 I J)))))))
def w_X12_goesOn_86_n (post : Int32 → sI → sJ → Prop) (k9 : Int32 → Int32 → Int32 → Int32 → Int32 → Int32 → sI → sJ → Prop) : Nat → Int32 → Int32 → Int32 → Int32 → Int32 → Int32 → Int64 → Int32 → Int32 → sI → sJ → Prop
  | 0 => fun _ _ _ _ _ _ _ _ _ _ _ => False
  | n + 1 => fun x1 x2 x3 x4 x5 x6 x8 x10 x11 I J => w_X12_goesOn_86_s post k9 (w_X12_goesOn_86_n post k9 n) x1 x2 x3 x4 x5 x6 x8 x10 x11 I J
def w_X12_goesOn_86 (post : Int32 → sI → sJ → Prop) (k9 : Int32 → Int32 → Int32 → Int32 → Int32 → Int32 → sI → sJ → Prop) (x1 : Int32) (x2 : Int32) (x3 : Int32) (x4 : Int32) (x5 : Int32) (x6 : Int32) (x8 : Int64) (x10 : Int32) (x11 : Int32) (I : sI) (J : sJ) : Prop := ∃ n, w_X12_goesOn_86_n post k9 n x1 x2 x3 x4 x5 x6 x8 x10 x11 I J
set_option maxHeartbeats 4000000 in
set_option maxRecDepth 100000 in
theorem t_X12_goesOn_86_s {X : sX} {post : Int32 → sI → sJ → Prop} (h : sOK X cX12_goesOn RX12 12 2 56) (hr : sRt X (some .boolean) (sPi post)) {k9 : Int32 → Int32 → Int32 → Int32 → Int32 → Int32 → sI → sJ → Prop} (hk9 : ∀ (x1 : Int32) (x2 : Int32) (x3 : Int32) (x4 : Int32) (x5 : Int32) (x6 : Int32) (I : sI) (J : sJ), k9 x1 x2 x3 x4 x5 x6 I J → sG X 12 9 [(0, .ref 248), (1, .int x1), (2, .int x2), (3, .int x3), (4, .int x4), (5, .int x5), (6, .int x6)] [] I J) {k86 : Int32 → Int32 → Int32 → Int32 → Int32 → Int32 → Int64 → Int32 → Int32 → sI → sJ → Prop} (hk86 : ∀ (x1 : Int32) (x2 : Int32) (x3 : Int32) (x4 : Int32) (x5 : Int32) (x6 : Int32) (x8 : Int64) (x10 : Int32) (x11 : Int32) (I : sI) (J : sJ), k86 x1 x2 x3 x4 x5 x6 x8 x10 x11 I J → sG X 12 86 [(0, .ref 248), (1, .int x1), (2, .int x2), (3, .int x3), (4, .int x4), (5, .int x5), (6, .int x6), (8, .long x8), (10, .int x10), (11, .int x11)] [] I J) {x1 : Int32} {x2 : Int32} {x3 : Int32} {x4 : Int32} {x5 : Int32} {x6 : Int32} {x8 : Int64} {x10 : Int32} {x11 : Int32} {I : sI} {J : sJ} (hw : w_X12_goesOn_86_s post k9 k86 x1 x2 x3 x4 x5 x6 x8 x10 x11 I J) : sG X 12 86 [(0, .ref 248), (1, .int x1), (2, .int x2), (3, .int x3), (4, .int x4), (5, .int x5), (6, .int x6), (8, .long x8), (10, .int x10), (11, .int x11)] [] I J := by
  unfold w_X12_goesOn_86_s at hw
  refine g_iload h 9 rfl dX12_goesOn_86 ?_
  refine g_aload_n h rfl 0 rfl dX12_goesOn_88 ?_
  refine g_get h is_248 fl_X12_148 rfl dX12_goesOn_89 ?_
  refine g_icmp_ge (tgt := 126) h (by decide) dX12_goesOn_92 (fun q92 => ?_) (fun q92 => ?_)
  · replace hw := hw.1 q92
    exact g_sub [0, 1, 2, 3, 4, 5, 6, 7, 8] rfl (t_X12_goesOn_126 h hr hk9 hw)
  · replace hw := hw.2 q92
    refine g_iload h 8 rfl dX12_goesOn_95 ?_
    refine g_if_eq (tgt := 126) h (by decide) dX12_goesOn_97 (fun q97 => ?_) (fun q97 => ?_)
    · replace hw := hw.1 q97
      exact g_sub [0, 1, 2, 3, 4, 5, 6, 7, 8] rfl (t_X12_goesOn_126 h hr hk9 hw)
    · replace hw := hw.2 q97
      refine g_aload_n h rfl 0 rfl dX12_goesOn_100 ?_
      refine g_get h is_248 fl_X12_155 fr_248_27 dX12_goesOn_101 ?_
      refine g_iload h 9 rfl dX12_goesOn_104 ?_
      obtain ⟨hi106, hw⟩ := hw
      refine g_lald h ar_262 hi106 dX12_goesOn_106 ?_
      refine g_lload h 7 rfl dX12_goesOn_107 ?_
      refine g_lcmp h dX12_goesOn_109 ?_
      refine g_if_eq (tgt := 117) h (by decide) dX12_goesOn_110 (fun q110 => ?_) (fun q110 => ?_)
      · replace hw := hw.1 q110
        refine g_iconst (v := 0) h (by decide) dX12_goesOn_117 ?_
        exact g_sub [0, 1, 2, 3, 4, 5, 6, 7, 9] rfl (t_X12_goesOn_118 h hr hk9 hk86 hw)
      · replace hw := hw.2 q110
        refine g_iconst (v := 1) h (by decide) dX12_goesOn_113 ?_
        refine g_goto (tgt := 118) h (by decide) dX12_goesOn_114 ?_
        exact g_sub [0, 1, 2, 3, 4, 5, 6, 7, 9] rfl (t_X12_goesOn_118 h hr hk9 hk86 hw)
theorem t_X12_goesOn_86 {X : sX} {post : Int32 → sI → sJ → Prop} (h : sOK X cX12_goesOn RX12 12 2 56) (hr : sRt X (some .boolean) (sPi post)) {k9 : Int32 → Int32 → Int32 → Int32 → Int32 → Int32 → sI → sJ → Prop} (hk9 : ∀ (x1 : Int32) (x2 : Int32) (x3 : Int32) (x4 : Int32) (x5 : Int32) (x6 : Int32) (I : sI) (J : sJ), k9 x1 x2 x3 x4 x5 x6 I J → sG X 12 9 [(0, .ref 248), (1, .int x1), (2, .int x2), (3, .int x3), (4, .int x4), (5, .int x5), (6, .int x6)] [] I J) {x1 : Int32} {x2 : Int32} {x3 : Int32} {x4 : Int32} {x5 : Int32} {x6 : Int32} {x8 : Int64} {x10 : Int32} {x11 : Int32} {I : sI} {J : sJ} (hw : w_X12_goesOn_86 post k9 x1 x2 x3 x4 x5 x6 x8 x10 x11 I J) : sG X 12 86 [(0, .ref 248), (1, .int x1), (2, .int x2), (3, .int x3), (4, .int x4), (5, .int x5), (6, .int x6), (8, .long x8), (10, .int x10), (11, .int x11)] [] I J := by
  obtain ⟨n, hw⟩ := hw
  induction n generalizing x1 x2 x3 x4 x5 x6 x8 x10 x11 I J with
  | zero => exact hw.elim
  | succ n ih => exact t_X12_goesOn_86_s h hr hk9 (fun _ _ _ _ _ _ _ _ _ _ _ q => ih q) hw
def w_X12_goesOn_80 (post : Int32 → sI → sJ → Prop) (k9 : Int32 → Int32 → Int32 → Int32 → Int32 → Int32 → sI → sJ → Prop) (x1 : Int32) (x2 : Int32) (x3 : Int32) (x4 : Int32) (x5 : Int32) (x6 : Int32) (x8 : Int64) (s0 : Int32) (I : sI) (J : sJ) : Prop :=
  w_X12_goesOn_86 post k9 x1 x2 x3 x4 x5 x6 x8 s0 x5 I J
set_option maxHeartbeats 4000000 in
set_option maxRecDepth 100000 in
theorem t_X12_goesOn_80 {X : sX} {post : Int32 → sI → sJ → Prop} (h : sOK X cX12_goesOn RX12 12 2 56) (hr : sRt X (some .boolean) (sPi post)) {k9 : Int32 → Int32 → Int32 → Int32 → Int32 → Int32 → sI → sJ → Prop} (hk9 : ∀ (x1 : Int32) (x2 : Int32) (x3 : Int32) (x4 : Int32) (x5 : Int32) (x6 : Int32) (I : sI) (J : sJ), k9 x1 x2 x3 x4 x5 x6 I J → sG X 12 9 [(0, .ref 248), (1, .int x1), (2, .int x2), (3, .int x3), (4, .int x4), (5, .int x5), (6, .int x6)] [] I J) {x1 : Int32} {x2 : Int32} {x3 : Int32} {x4 : Int32} {x5 : Int32} {x6 : Int32} {x8 : Int64} {s0 : Int32} {I : sI} {J : sJ} (hw : w_X12_goesOn_80 post k9 x1 x2 x3 x4 x5 x6 x8 s0 I J) : sG X 12 80 [(0, .ref 248), (1, .int x1), (2, .int x2), (3, .int x3), (4, .int x4), (5, .int x5), (6, .int x6), (8, .long x8)] [.int s0] I J := by
  unfold w_X12_goesOn_80 at hw
  refine g_istore (lo2 := [(10, .int s0), (0, .ref 248), (1, .int x1), (2, .int x2), (3, .int x3), (4, .int x4), (5, .int x5), (6, .int x6), (8, .long x8)]) h (by decide) rfl dX12_goesOn_80 ?_
  refine g_iload h 6 rfl dX12_goesOn_82 ?_
  refine g_istore (lo2 := [(11, .int x5), (10, .int s0), (0, .ref 248), (1, .int x1), (2, .int x2), (3, .int x3), (4, .int x4), (5, .int x5), (6, .int x6), (8, .long x8)]) h (by decide) rfl dX12_goesOn_84 ?_
  exact g_sub [2, 3, 4, 5, 6, 7, 8, 9, 1, 0] rfl (t_X12_goesOn_86 h hr hk9 hw)
def w_X12_goesOn_58 (post : Int32 → sI → sJ → Prop) (k9 : Int32 → Int32 → Int32 → Int32 → Int32 → Int32 → sI → sJ → Prop) (x1 : Int32) (x2 : Int32) (x3 : Int32) (x4 : Int32) (x5 : Int32) (x6 : Int32) (x7 : Int32) (s0 : Int64) (I : sI) (J : sJ) : Prop :=
  w_X12_fits s0 x3 x4 x7 I J (fun (r_63 : Int64) (I_63 : sI) (J_63 : sJ) => ((((lg_cmp r_63 0) < 0 → w_X12_goesOn_80 post k9 x1 x2 x3 x4 x5 x6 r_63 0 I_63 J_63) ∧ (¬ (lg_cmp r_63 0) < 0 → w_X12_goesOn_80 post k9 x1 x2 x3 x4 x5 x6 r_63 1 I_63 J_63))))
set_option maxHeartbeats 4000000 in
set_option maxRecDepth 100000 in
theorem t_X12_goesOn_58 {X : sX} {post : Int32 → sI → sJ → Prop} (h : sOK X cX12_goesOn RX12 12 2 56) (hr : sRt X (some .boolean) (sPi post)) {k9 : Int32 → Int32 → Int32 → Int32 → Int32 → Int32 → sI → sJ → Prop} (hk9 : ∀ (x1 : Int32) (x2 : Int32) (x3 : Int32) (x4 : Int32) (x5 : Int32) (x6 : Int32) (I : sI) (J : sJ), k9 x1 x2 x3 x4 x5 x6 I J → sG X 12 9 [(0, .ref 248), (1, .int x1), (2, .int x2), (3, .int x3), (4, .int x4), (5, .int x5), (6, .int x6)] [] I J) {x1 : Int32} {x2 : Int32} {x3 : Int32} {x4 : Int32} {x5 : Int32} {x6 : Int32} {x7 : Int32} {s0 : Int64} {I : sI} {J : sJ} (hw : w_X12_goesOn_58 post k9 x1 x2 x3 x4 x5 x6 x7 s0 I J) : sG X 12 58 [(0, .ref 248), (1, .int x1), (2, .int x2), (3, .int x3), (4, .int x4), (5, .int x5), (6, .int x6), (7, .int x7)] [.long s0, .ref 248] I J := by
  unfold w_X12_goesOn_58 at hw
  refine g_iload_n h rfl 3 rfl dX12_goesOn_58 ?_
  refine g_iload h 4 rfl dX12_goesOn_59 ?_
  refine g_iload h 7 rfl dX12_goesOn_61 ?_
  refine g_callV [.long s0, .int x3, .int x4, .int x7] h (c_X12_fits X hw) sPl_v mw_X12_fits lk_X12_158 is_248 rfl rfl ⟨by decide, by decide⟩ (Nat.le_of_ble_eq_true rfl) dX12_goesOn_63 (sPl_k (fun r_63 I_63 J_63 hw => ?_))
  refine g_lstore (lo2 := [(8, .long r_63), (0, .ref 248), (1, .int x1), (2, .int x2), (3, .int x3), (4, .int x4), (5, .int x5), (6, .int x6), (7, .int x7)]) h (by decide) rfl dX12_goesOn_66 ?_
  refine g_lload h 0 rfl dX12_goesOn_68 ?_
  refine g_lconst (v := 0) h (by decide) dX12_goesOn_70 ?_
  refine g_lcmp h dX12_goesOn_71 ?_
  refine g_if_lt (tgt := 79) h (by decide) dX12_goesOn_72 (fun q72 => ?_) (fun q72 => ?_)
  · replace hw := hw.1 q72
    refine g_iconst (v := 0) h (by decide) dX12_goesOn_79 ?_
    exact g_sub [1, 2, 3, 4, 5, 6, 7, 0] rfl (t_X12_goesOn_80 h hr hk9 hw)
  · replace hw := hw.2 q72
    refine g_iconst (v := 1) h (by decide) dX12_goesOn_75 ?_
    refine g_goto (tgt := 80) h (by decide) dX12_goesOn_76 ?_
    exact g_sub [1, 2, 3, 4, 5, 6, 7, 0] rfl (t_X12_goesOn_80 h hr hk9 hw)
def w_X12_goesOn_9_s (post : Int32 → sI → sJ → Prop) (k9 : Int32 → Int32 → Int32 → Int32 → Int32 → Int32 → sI → sJ → Prop) (x1 : Int32) (x2 : Int32) (x3 : Int32) (x4 : Int32) (x5 : Int32) (x6 : Int32) (I : sI) (J : sJ) : Prop :=
  (vp_in x1 4 ∧ (((I 257 (Int32.toNatClampNeg x1)) ≤ x6 → post 1 I J) ∧ (¬ (I 257 (Int32.toNatClampNeg x1)) ≤ x6 → (∀ v7_27 : Int32, v7_27 = (20 * x1) + x6 → w_X12_mayBe v7_27 x4 I J (fun (r_34 : Int32) (I_34 : sI) (J_34 : sJ) => (((¬ r_34 = 0 → ((0 ≤ x2 → (vp_in x2 20002 ∧ w_X12_goesOn_58 post k9 x1 x2 x3 x4 x5 x6 v7_27 (J_34 262 (Int32.toNatClampNeg x2)) I_34 J_34)) ∧ (¬ 0 ≤ x2 → w_X12_goesOn_58 post k9 x1 x2 x3 x4 x5 x6 v7_27 0 I_34 J_34))) ∧ (r_34 = 0 → w_X12_goesOn_184 post k9 x1 x2 x3 x4 x5 x6 I_34 J_34))))))))
def w_X12_goesOn_9_n (post : Int32 → sI → sJ → Prop) : Nat → Int32 → Int32 → Int32 → Int32 → Int32 → Int32 → sI → sJ → Prop
  | 0 => fun _ _ _ _ _ _ _ _ => False
  | n + 1 => fun x1 x2 x3 x4 x5 x6 I J => w_X12_goesOn_9_s post (w_X12_goesOn_9_n post n) x1 x2 x3 x4 x5 x6 I J
def w_X12_goesOn_9 (post : Int32 → sI → sJ → Prop) (x1 : Int32) (x2 : Int32) (x3 : Int32) (x4 : Int32) (x5 : Int32) (x6 : Int32) (I : sI) (J : sJ) : Prop := ∃ n, w_X12_goesOn_9_n post n x1 x2 x3 x4 x5 x6 I J
set_option maxHeartbeats 4000000 in
set_option maxRecDepth 100000 in
theorem t_X12_goesOn_9_s {X : sX} {post : Int32 → sI → sJ → Prop} (h : sOK X cX12_goesOn RX12 12 2 56) (hr : sRt X (some .boolean) (sPi post)) {k9 : Int32 → Int32 → Int32 → Int32 → Int32 → Int32 → sI → sJ → Prop} (hk9 : ∀ (x1 : Int32) (x2 : Int32) (x3 : Int32) (x4 : Int32) (x5 : Int32) (x6 : Int32) (I : sI) (J : sJ), k9 x1 x2 x3 x4 x5 x6 I J → sG X 12 9 [(0, .ref 248), (1, .int x1), (2, .int x2), (3, .int x3), (4, .int x4), (5, .int x5), (6, .int x6)] [] I J) {x1 : Int32} {x2 : Int32} {x3 : Int32} {x4 : Int32} {x5 : Int32} {x6 : Int32} {I : sI} {J : sJ} (hw : w_X12_goesOn_9_s post k9 x1 x2 x3 x4 x5 x6 I J) : sG X 12 9 [(0, .ref 248), (1, .int x1), (2, .int x2), (3, .int x3), (4, .int x4), (5, .int x5), (6, .int x6)] [] I J := by
  unfold w_X12_goesOn_9_s at hw
  refine g_iload h 6 rfl dX12_goesOn_9 ?_
  refine g_aload_n h rfl 0 rfl dX12_goesOn_11 ?_
  refine g_get h is_248 fl_X12_100 fr_248_18 dX12_goesOn_12 ?_
  refine g_iload_n h rfl 1 rfl dX12_goesOn_15 ?_
  obtain ⟨hi16, hw⟩ := hw
  refine g_iald h ar_257 hi16 dX12_goesOn_16 ?_
  refine g_icmp_ge (tgt := 190) h (by decide) dX12_goesOn_17 (fun q17 => ?_) (fun q17 => ?_)
  · replace hw := hw.1 q17
    refine g_iconst (v := 1) h (by decide) dX12_goesOn_190 ?_
    exact g_zret h hr (Or.inr rfl) dX12_goesOn_191 hw
  · replace hw := hw.2 q17
    refine g_bipush (v := 20) h (by decide) dX12_goesOn_20 ?_
    refine g_iload_n h rfl 1 rfl dX12_goesOn_22 ?_
    refine g_imul h dX12_goesOn_23 ?_
    refine g_iload h 6 rfl dX12_goesOn_24 ?_
    refine g_iadd h dX12_goesOn_26 ?_
    refine g_ni (fun v7_27 ev7_27 => ?_)
    replace hw := hw v7_27 ev7_27
    refine g_istore (lo2 := [(7, .int v7_27), (0, .ref 248), (1, .int x1), (2, .int x2), (3, .int x3), (4, .int x4), (5, .int x5), (6, .int x6)]) h (by decide) rfl dX12_goesOn_27 ?_
    refine g_aload_n h rfl 1 rfl dX12_goesOn_29 ?_
    refine g_iload h 0 rfl dX12_goesOn_30 ?_
    refine g_iload h 5 rfl dX12_goesOn_32 ?_
    refine g_callV [.int v7_27, .int x4] h (c_X12_mayBe X hw) sPi_v mw_X12_mayBe lk_X12_151 is_248 rfl rfl ⟨by decide, by decide⟩ (Nat.le_of_ble_eq_true rfl) dX12_goesOn_34 (sPi_k (fun r_34 I_34 J_34 hw => ?_))
    refine g_if_ne (tgt := 43) h (by decide) dX12_goesOn_37 (fun q37 => ?_) (fun q37 => ?_)
    · replace hw := hw.1 q37
      refine g_aload_n h rfl 1 rfl dX12_goesOn_43 ?_
      refine g_iload_n h rfl 3 rfl dX12_goesOn_44 ?_
      refine g_if_ge (tgt := 52) h (by decide) dX12_goesOn_45 (fun q45 => ?_) (fun q45 => ?_)
      · replace hw := hw.1 q45
        refine g_aload_n h rfl 1 rfl dX12_goesOn_52 ?_
        refine g_get h is_248 fl_X12_155 fr_248_27 dX12_goesOn_53 ?_
        refine g_iload_n h rfl 3 rfl dX12_goesOn_56 ?_
        obtain ⟨hi57, hw⟩ := hw
        refine g_lald h ar_262 hi57 dX12_goesOn_57 ?_
        exact g_sub [1, 2, 3, 4, 5, 6, 7, 0] rfl (t_X12_goesOn_58 h hr hk9 hw)
      · replace hw := hw.2 q45
        refine g_lconst (v := 0) h (by decide) dX12_goesOn_48 ?_
        refine g_goto (tgt := 58) h (by decide) dX12_goesOn_49 ?_
        exact g_sub [1, 2, 3, 4, 5, 6, 7, 0] rfl (t_X12_goesOn_58 h hr hk9 hw)
    · replace hw := hw.2 q37
      refine g_goto (tgt := 184) h (by decide) dX12_goesOn_40 ?_
      exact g_sub [1, 2, 3, 4, 5, 6, 7] rfl (t_X12_goesOn_184 h hr hk9 hw)
theorem t_X12_goesOn_9 {X : sX} {post : Int32 → sI → sJ → Prop} (h : sOK X cX12_goesOn RX12 12 2 56) (hr : sRt X (some .boolean) (sPi post)) {x1 : Int32} {x2 : Int32} {x3 : Int32} {x4 : Int32} {x5 : Int32} {x6 : Int32} {I : sI} {J : sJ} (hw : w_X12_goesOn_9 post x1 x2 x3 x4 x5 x6 I J) : sG X 12 9 [(0, .ref 248), (1, .int x1), (2, .int x2), (3, .int x3), (4, .int x4), (5, .int x5), (6, .int x6)] [] I J := by
  obtain ⟨n, hw⟩ := hw
  induction n generalizing x1 x2 x3 x4 x5 x6 I J with
  | zero => exact hw.elim
  | succ n ih => exact t_X12_goesOn_9_s h hr (fun _ _ _ _ _ _ _ _ q => ih q) hw
def w_X12_goesOn (a1 : Int32) (a2 : Int32) (a3 : Int32) (a4 : Int32) (I : sI) (J : sJ) (post : Int32 → sI → sJ → Prop) : Prop :=
  (∀ v5_4 : Int32, v5_4 = I 248 30 → w_X12_goesOn_9 post a1 a2 a3 a4 v5_4 0 I J)
set_option maxHeartbeats 4000000 in
set_option maxRecDepth 100000 in
theorem t_X12_goesOn {X : sX} {a1 : Int32} {a2 : Int32} {a3 : Int32} {a4 : Int32} {I : sI} {J : sJ} {post : Int32 → sI → sJ → Prop} (h : sOK X cX12_goesOn RX12 12 2 56) (hr : sRt X (some .boolean) (sPi post)) (hw : w_X12_goesOn a1 a2 a3 a4 I J post) : sG X 12 0 [(0, .ref 248), (1, .int a1), (2, .int a2), (3, .int a3), (4, .int a4)] [] I J := by
  unfold w_X12_goesOn at hw
  refine g_aload_n h rfl 0 rfl dX12_goesOn_0 ?_
  refine g_get h is_248 fl_X12_148 rfl dX12_goesOn_1 ?_
  refine g_ni (fun v5_4 ev5_4 => ?_)
  replace hw := hw v5_4 ev5_4
  refine g_istore (lo2 := [(5, .int v5_4), (0, .ref 248), (1, .int a1), (2, .int a2), (3, .int a3), (4, .int a4)]) h (by decide) rfl dX12_goesOn_4 ?_
  refine g_iconst (v := 0) h (by decide) dX12_goesOn_6 ?_
  refine g_istore (lo2 := [(6, .int 0), (5, .int v5_4), (0, .ref 248), (1, .int a1), (2, .int a2), (3, .int a3), (4, .int a4)]) h (by decide) rfl dX12_goesOn_7 ?_
  exact g_sub [2, 3, 4, 5, 6, 1, 0] rfl (t_X12_goesOn_9 h hr hw)
theorem c_X12_goesOn (X : sX) {a1 : Int32} {a2 : Int32} {a3 : Int32} {a4 : Int32} {I : sI} {J : sJ} {post : Int32 → sI → sJ → Prop} (hw : w_X12_goesOn a1 a2 a3 a4 I J post) : sCall X yX12_goesOn cX12_goesOn 12 (some .boolean) 2 56 [.ref 248, .int a1, .int a2, .int a3, .int a4] I J (sPi post) := sCall_of (by decide +kernel) (Nat.le_of_ble_eq_true rfl) (fun X h hr => t_X12_goesOn h hr hw)
theorem dX12_searches_0 : decode cX12_searches 0 = .ok (.aload_n 0, 1) := by decide +kernel
theorem dX12_searches_1 : decode cX12_searches 1 = .ok (.iconst 0, 1) := by decide +kernel
theorem dX12_searches_2 : decode cX12_searches 2 = .ok (.putfield 148, 3) := by decide +kernel
theorem dX12_searches_5 : decode cX12_searches 5 = .ok (.iconst 0, 1) := by decide +kernel
theorem dX12_searches_6 : decode cX12_searches 6 = .ok (.istore_n 2, 1) := by decide +kernel
theorem dX12_searches_7 : decode cX12_searches 7 = .ok (.iconst (-1), 1) := by decide +kernel
theorem dX12_searches_8 : decode cX12_searches 8 = .ok (.istore_n 3, 1) := by decide +kernel
theorem dX12_searches_9 : decode cX12_searches 9 = .ok (.iconst 0, 1) := by decide +kernel
theorem dX12_searches_10 : decode cX12_searches 10 = .ok (.istore 4, 2) := by decide +kernel
theorem dX12_searches_12 : decode cX12_searches 12 = .ok (.iconst 0, 1) := by decide +kernel
theorem dX12_searches_13 : decode cX12_searches 13 = .ok (.istore 5, 2) := by decide +kernel
theorem dX12_searches_15 : decode cX12_searches 15 = .ok (.iload 5, 2) := by decide +kernel
theorem dX12_searches_17 : decode cX12_searches 17 = .ok (.aload_n 0, 1) := by decide +kernel
theorem dX12_searches_18 : decode cX12_searches 18 = .ok (.getfield 129, 3) := by decide +kernel
theorem dX12_searches_21 : decode cX12_searches 21 = .ok (.if_icmp .ge 81, 3) := by decide +kernel
theorem dX12_searches_24 : decode cX12_searches 24 = .ok (.aload_n 0, 1) := by decide +kernel
theorem dX12_searches_25 : decode cX12_searches 25 = .ok (.getfield 148, 3) := by decide +kernel
theorem dX12_searches_28 : decode cX12_searches 28 = .ok (.istore 6, 2) := by decide +kernel
theorem dX12_searches_30 : decode cX12_searches 30 = .ok (.iload_n 3, 1) := by decide +kernel
theorem dX12_searches_31 : decode cX12_searches 31 = .ok (.istore 7, 2) := by decide +kernel
theorem dX12_searches_33 : decode cX12_searches 33 = .ok (.iload 7, 2) := by decide +kernel
theorem dX12_searches_35 : decode cX12_searches 35 = .ok (.iload 4, 2) := by decide +kernel
theorem dX12_searches_37 : decode cX12_searches 37 = .ok (.if_icmp .ge 29, 3) := by decide +kernel
theorem dX12_searches_40 : decode cX12_searches 40 = .ok (.aload_n 0, 1) := by decide +kernel
theorem dX12_searches_41 : decode cX12_searches 41 = .ok (.iload_n 1, 1) := by decide +kernel
theorem dX12_searches_42 : decode cX12_searches 42 = .ok (.iload 7, 2) := by decide +kernel
theorem dX12_searches_44 : decode cX12_searches 44 = .ok (.iload_n 2, 1) := by decide +kernel
theorem dX12_searches_45 : decode cX12_searches 45 = .ok (.aload_n 0, 1) := by decide +kernel
theorem dX12_searches_46 : decode cX12_searches 46 = .ok (.getfield 132, 3) := by decide +kernel
theorem dX12_searches_49 : decode cX12_searches 49 = .ok (.iload 5, 2) := by decide +kernel
theorem dX12_searches_51 : decode cX12_searches 51 = .ok (.iaload, 1) := by decide +kernel
theorem dX12_searches_52 : decode cX12_searches 52 = .ok (.invokevirtual 165, 3) := by decide +kernel
theorem dX12_searches_55 : decode cX12_searches 55 = .ok (.ifCond .ne 5, 3) := by decide +kernel
theorem dX12_searches_58 : decode cX12_searches 58 = .ok (.iconst 0, 1) := by decide +kernel
theorem dX12_searches_59 : decode cX12_searches 59 = .ok (.ireturn, 1) := by decide +kernel
theorem dX12_searches_60 : decode cX12_searches 60 = .ok (.iinc 7 1, 3) := by decide +kernel
theorem dX12_searches_63 : decode cX12_searches 63 = .ok (.goto (-30), 3) := by decide +kernel
theorem dX12_searches_66 : decode cX12_searches 66 = .ok (.iload 6, 2) := by decide +kernel
theorem dX12_searches_68 : decode cX12_searches 68 = .ok (.istore_n 3, 1) := by decide +kernel
theorem dX12_searches_69 : decode cX12_searches 69 = .ok (.aload_n 0, 1) := by decide +kernel
theorem dX12_searches_70 : decode cX12_searches 70 = .ok (.getfield 148, 3) := by decide +kernel
theorem dX12_searches_73 : decode cX12_searches 73 = .ok (.istore 4, 2) := by decide +kernel
theorem dX12_searches_75 : decode cX12_searches 75 = .ok (.aload_n 0, 1) := by decide +kernel
theorem dX12_searches_76 : decode cX12_searches 76 = .ok (.getfield 169, 3) := by decide +kernel
theorem dX12_searches_79 : decode cX12_searches 79 = .ok (.iload 5, 2) := by decide +kernel
theorem dX12_searches_81 : decode cX12_searches 81 = .ok (.aload_n 0, 1) := by decide +kernel
theorem dX12_searches_82 : decode cX12_searches 82 = .ok (.getfield 148, 3) := by decide +kernel
theorem dX12_searches_85 : decode cX12_searches 85 = .ok (.iastore, 1) := by decide +kernel
theorem dX12_searches_86 : decode cX12_searches 86 = .ok (.iload_n 2, 1) := by decide +kernel
theorem dX12_searches_87 : decode cX12_searches 87 = .ok (.aload_n 0, 1) := by decide +kernel
theorem dX12_searches_88 : decode cX12_searches 88 = .ok (.getfield 132, 3) := by decide +kernel
theorem dX12_searches_91 : decode cX12_searches 91 = .ok (.iload 5, 2) := by decide +kernel
theorem dX12_searches_93 : decode cX12_searches 93 = .ok (.iaload, 1) := by decide +kernel
theorem dX12_searches_94 : decode cX12_searches 94 = .ok (.iadd, 1) := by decide +kernel
theorem dX12_searches_95 : decode cX12_searches 95 = .ok (.istore_n 2, 1) := by decide +kernel
theorem dX12_searches_96 : decode cX12_searches 96 = .ok (.iinc 5 1, 3) := by decide +kernel
theorem dX12_searches_99 : decode cX12_searches 99 = .ok (.goto (-84), 3) := by decide +kernel
theorem dX12_searches_102 : decode cX12_searches 102 = .ok (.iconst 1, 1) := by decide +kernel
theorem dX12_searches_103 : decode cX12_searches 103 = .ok (.ireturn, 1) := by decide +kernel
def w_X12_searches_33_s (post : Int32 → sI → sJ → Prop) (k15 : Int32 → Int32 → Int32 → Int32 → Int32 → sI → sJ → Prop) (k33 : Int32 → Int32 → Int32 → Int32 → Int32 → Int32 → sI → sJ → Prop) (x1 : Int32) (x2 : Int32) (x4 : Int32) (x5 : Int32) (x6 : Int32) (x7 : Int32) (I : sI) (J : sJ) : Prop :=
  ((x4 ≤ x7 → (∀ v4_73 : Int32, v4_73 = I 248 30 → (vp_in x5 25 ∧ (∀ I_85 : sI, I_85 = sUI I 264 (Int32.toNatClampNeg x5) (I 248 30) → (vp_in x5 24 ∧ (∀ v2_95 : Int32, v2_95 = x2 + (I_85 260 (Int32.toNatClampNeg x5)) → (∀ v5_96 : Int32, v5_96 = x5 + 1 → k15 x1 v2_95 x6 v4_73 v5_96 I_85 J))))))) ∧ (¬ x4 ≤ x7 → (vp_in x5 24 ∧ w_X12_goesOn x1 x7 x2 (I 260 (Int32.toNatClampNeg x5)) I J (fun (r_52 : Int32) (I_52 : sI) (J_52 : sJ) => (((¬ r_52 = 0 → (∀ v7_60 : Int32, v7_60 = x7 + 1 → k33 x1 x2 x4 x5 x6 v7_60 I_52 J_52)) ∧ (r_52 = 0 → post 0 I_52 J_52)))))))
def w_X12_searches_33_n (post : Int32 → sI → sJ → Prop) (k15 : Int32 → Int32 → Int32 → Int32 → Int32 → sI → sJ → Prop) : Nat → Int32 → Int32 → Int32 → Int32 → Int32 → Int32 → sI → sJ → Prop
  | 0 => fun _ _ _ _ _ _ _ _ => False
  | n + 1 => fun x1 x2 x4 x5 x6 x7 I J => w_X12_searches_33_s post k15 (w_X12_searches_33_n post k15 n) x1 x2 x4 x5 x6 x7 I J
def w_X12_searches_33 (post : Int32 → sI → sJ → Prop) (k15 : Int32 → Int32 → Int32 → Int32 → Int32 → sI → sJ → Prop) (x1 : Int32) (x2 : Int32) (x4 : Int32) (x5 : Int32) (x6 : Int32) (x7 : Int32) (I : sI) (J : sJ) : Prop := ∃ n, w_X12_searches_33_n post k15 n x1 x2 x4 x5 x6 x7 I J
set_option maxHeartbeats 4000000 in
set_option maxRecDepth 100000 in
theorem t_X12_searches_33_s {X : sX} {post : Int32 → sI → sJ → Prop} (h : sOK X cX12_searches RX12 8 3 87) (hr : sRt X (some .boolean) (sPi post)) {k15 : Int32 → Int32 → Int32 → Int32 → Int32 → sI → sJ → Prop} (hk15 : ∀ (x1 : Int32) (x2 : Int32) (x3 : Int32) (x4 : Int32) (x5 : Int32) (I : sI) (J : sJ), k15 x1 x2 x3 x4 x5 I J → sG X 8 15 [(0, .ref 248), (1, .int x1), (2, .int x2), (3, .int x3), (4, .int x4), (5, .int x5)] [] I J) {k33 : Int32 → Int32 → Int32 → Int32 → Int32 → Int32 → sI → sJ → Prop} (hk33 : ∀ (x1 : Int32) (x2 : Int32) (x4 : Int32) (x5 : Int32) (x6 : Int32) (x7 : Int32) (I : sI) (J : sJ), k33 x1 x2 x4 x5 x6 x7 I J → sG X 8 33 [(0, .ref 248), (1, .int x1), (2, .int x2), (4, .int x4), (5, .int x5), (6, .int x6), (7, .int x7)] [] I J) {x1 : Int32} {x2 : Int32} {x4 : Int32} {x5 : Int32} {x6 : Int32} {x7 : Int32} {I : sI} {J : sJ} (hw : w_X12_searches_33_s post k15 k33 x1 x2 x4 x5 x6 x7 I J) : sG X 8 33 [(0, .ref 248), (1, .int x1), (2, .int x2), (4, .int x4), (5, .int x5), (6, .int x6), (7, .int x7)] [] I J := by
  unfold w_X12_searches_33_s at hw
  refine g_iload h 6 rfl dX12_searches_33 ?_
  refine g_iload h 3 rfl dX12_searches_35 ?_
  refine g_icmp_ge (tgt := 66) h (by decide) dX12_searches_37 (fun q37 => ?_) (fun q37 => ?_)
  · replace hw := hw.1 q37
    refine g_iload h 5 rfl dX12_searches_66 ?_
    refine g_istore_n (lo2 := [(3, .int x6), (0, .ref 248), (1, .int x1), (2, .int x2), (4, .int x4), (5, .int x5), (6, .int x6), (7, .int x7)]) h rfl (by decide) rfl dX12_searches_68 ?_
    refine g_aload_n h rfl 1 rfl dX12_searches_69 ?_
    refine g_get h is_248 fl_X12_148 rfl dX12_searches_70 ?_
    refine g_ni (fun v4_73 ev4_73 => ?_)
    replace hw := hw v4_73 ev4_73
    refine g_istore (lo2 := [(4, .int v4_73), (3, .int x6), (0, .ref 248), (1, .int x1), (2, .int x2), (5, .int x5), (6, .int x6), (7, .int x7)]) h (by decide) rfl dX12_searches_73 ?_
    refine g_aload_n h rfl 2 rfl dX12_searches_75 ?_
    refine g_get h is_248 fl_X12_169 fr_248_29 dX12_searches_76 ?_
    refine g_iload h 5 rfl dX12_searches_79 ?_
    refine g_aload_n h rfl 2 rfl dX12_searches_81 ?_
    refine g_get h is_248 fl_X12_148 rfl dX12_searches_82 ?_
    obtain ⟨hi85, hw⟩ := hw
    refine g_iast h ar_264 hi85 dX12_searches_85 ?_
    refine g_nI (fun I_85 eI_85 => ?_)
    replace hw := hw I_85 eI_85
    refine g_iload_n h rfl 4 rfl dX12_searches_86 ?_
    refine g_aload_n h rfl 2 rfl dX12_searches_87 ?_
    refine g_get h is_248 fl_X12_132 fr_248_25 dX12_searches_88 ?_
    refine g_iload h 5 rfl dX12_searches_91 ?_
    obtain ⟨hi93, hw⟩ := hw
    refine g_iald h ar_260 hi93 dX12_searches_93 ?_
    refine g_iadd h dX12_searches_94 ?_
    refine g_ni (fun v2_95 ev2_95 => ?_)
    replace hw := hw v2_95 ev2_95
    refine g_istore_n (lo2 := [(2, .int v2_95), (4, .int v4_73), (3, .int x6), (0, .ref 248), (1, .int x1), (5, .int x5), (6, .int x6), (7, .int x7)]) h rfl (by decide) rfl dX12_searches_95 ?_
    obtain ⟨v5_96, ev5_96⟩ : ∃ z : Int32, z = x5 + 1 := ⟨_, rfl⟩
    replace hw := hw v5_96 ev5_96
    refine g_iinc (v := v5_96) (lo2 := [(5, .int v5_96), (2, .int v2_95), (4, .int v4_73), (3, .int x6), (0, .ref 248), (1, .int x1), (6, .int x6), (7, .int x7)]) h 5 rfl (by rw [ev5_96]; rfl) (by decide) rfl dX12_searches_96 ?_
    refine g_goto (tgt := 15) h (by decide) dX12_searches_99 ?_
    exact g_sub [4, 5, 1, 3, 2, 0] rfl (hk15 _ _ _ _ _ _ _ hw)
  · replace hw := hw.2 q37
    refine g_aload_n h rfl 0 rfl dX12_searches_40 ?_
    refine g_iload_n h rfl 1 rfl dX12_searches_41 ?_
    refine g_iload h 6 rfl dX12_searches_42 ?_
    refine g_iload_n h rfl 2 rfl dX12_searches_44 ?_
    refine g_aload_n h rfl 0 rfl dX12_searches_45 ?_
    refine g_get h is_248 fl_X12_132 fr_248_25 dX12_searches_46 ?_
    refine g_iload h 4 rfl dX12_searches_49 ?_
    obtain ⟨hi51, hw⟩ := hw
    refine g_iald h ar_260 hi51 dX12_searches_51 ?_
    refine g_callV [.int x1, .int x7, .int x2, .int (I 260 (Int32.toNatClampNeg x5))] h (c_X12_goesOn X hw) sPi_v mw_X12_goesOn lk_X12_165 is_248 rfl rfl ⟨by decide, by decide⟩ (Nat.le_of_ble_eq_true rfl) dX12_searches_52 (sPi_k (fun r_52 I_52 J_52 hw => ?_))
    refine g_if_ne (tgt := 60) h (by decide) dX12_searches_55 (fun q55 => ?_) (fun q55 => ?_)
    · replace hw := hw.1 q55
      obtain ⟨v7_60, ev7_60⟩ : ∃ z : Int32, z = x7 + 1 := ⟨_, rfl⟩
      replace hw := hw v7_60 ev7_60
      refine g_iinc (v := v7_60) (lo2 := [(7, .int v7_60), (0, .ref 248), (1, .int x1), (2, .int x2), (4, .int x4), (5, .int x5), (6, .int x6)]) h 6 rfl (by rw [ev7_60]; rfl) (by decide) rfl dX12_searches_60 ?_
      refine g_goto (tgt := 33) h (by decide) dX12_searches_63 ?_
      exact g_sub [1, 2, 3, 4, 5, 6, 0] rfl (hk33 _ _ _ _ _ _ _ _ hw)
    · replace hw := hw.2 q55
      refine g_iconst (v := 0) h (by decide) dX12_searches_58 ?_
      exact g_zret h hr (Or.inl rfl) dX12_searches_59 hw
theorem t_X12_searches_33 {X : sX} {post : Int32 → sI → sJ → Prop} (h : sOK X cX12_searches RX12 8 3 87) (hr : sRt X (some .boolean) (sPi post)) {k15 : Int32 → Int32 → Int32 → Int32 → Int32 → sI → sJ → Prop} (hk15 : ∀ (x1 : Int32) (x2 : Int32) (x3 : Int32) (x4 : Int32) (x5 : Int32) (I : sI) (J : sJ), k15 x1 x2 x3 x4 x5 I J → sG X 8 15 [(0, .ref 248), (1, .int x1), (2, .int x2), (3, .int x3), (4, .int x4), (5, .int x5)] [] I J) {x1 : Int32} {x2 : Int32} {x4 : Int32} {x5 : Int32} {x6 : Int32} {x7 : Int32} {I : sI} {J : sJ} (hw : w_X12_searches_33 post k15 x1 x2 x4 x5 x6 x7 I J) : sG X 8 33 [(0, .ref 248), (1, .int x1), (2, .int x2), (4, .int x4), (5, .int x5), (6, .int x6), (7, .int x7)] [] I J := by
  obtain ⟨n, hw⟩ := hw
  induction n generalizing x1 x2 x4 x5 x6 x7 I J with
  | zero => exact hw.elim
  | succ n ih => exact t_X12_searches_33_s h hr hk15 (fun _ _ _ _ _ _ _ _ q => ih q) hw
def w_X12_searches_15_s (post : Int32 → sI → sJ → Prop) (k15 : Int32 → Int32 → Int32 → Int32 → Int32 → sI → sJ → Prop) (x1 : Int32) (x2 : Int32) (x3 : Int32) (x4 : Int32) (x5 : Int32) (I : sI) (J : sJ) : Prop :=
  (((I 248 24) ≤ x5 → post 1 I J) ∧ (¬ (I 248 24) ≤ x5 → (∀ v6_28 : Int32, v6_28 = I 248 30 → w_X12_searches_33 post k15 x1 x2 x4 x5 v6_28 x3 I J)))
def w_X12_searches_15_n (post : Int32 → sI → sJ → Prop) : Nat → Int32 → Int32 → Int32 → Int32 → Int32 → sI → sJ → Prop
  | 0 => fun _ _ _ _ _ _ _ => False
  | n + 1 => fun x1 x2 x3 x4 x5 I J => w_X12_searches_15_s post (w_X12_searches_15_n post n) x1 x2 x3 x4 x5 I J
def w_X12_searches_15 (post : Int32 → sI → sJ → Prop) (x1 : Int32) (x2 : Int32) (x3 : Int32) (x4 : Int32) (x5 : Int32) (I : sI) (J : sJ) : Prop := ∃ n, w_X12_searches_15_n post n x1 x2 x3 x4 x5 I J
set_option maxHeartbeats 4000000 in
set_option maxRecDepth 100000 in
theorem t_X12_searches_15_s {X : sX} {post : Int32 → sI → sJ → Prop} (h : sOK X cX12_searches RX12 8 3 87) (hr : sRt X (some .boolean) (sPi post)) {k15 : Int32 → Int32 → Int32 → Int32 → Int32 → sI → sJ → Prop} (hk15 : ∀ (x1 : Int32) (x2 : Int32) (x3 : Int32) (x4 : Int32) (x5 : Int32) (I : sI) (J : sJ), k15 x1 x2 x3 x4 x5 I J → sG X 8 15 [(0, .ref 248), (1, .int x1), (2, .int x2), (3, .int x3), (4, .int x4), (5, .int x5)] [] I J) {x1 : Int32} {x2 : Int32} {x3 : Int32} {x4 : Int32} {x5 : Int32} {I : sI} {J : sJ} (hw : w_X12_searches_15_s post k15 x1 x2 x3 x4 x5 I J) : sG X 8 15 [(0, .ref 248), (1, .int x1), (2, .int x2), (3, .int x3), (4, .int x4), (5, .int x5)] [] I J := by
  unfold w_X12_searches_15_s at hw
  refine g_iload h 5 rfl dX12_searches_15 ?_
  refine g_aload_n h rfl 0 rfl dX12_searches_17 ?_
  refine g_get h is_248 fl_X12_129 rfl dX12_searches_18 ?_
  refine g_icmp_ge (tgt := 102) h (by decide) dX12_searches_21 (fun q21 => ?_) (fun q21 => ?_)
  · replace hw := hw.1 q21
    refine g_iconst (v := 1) h (by decide) dX12_searches_102 ?_
    exact g_zret h hr (Or.inr rfl) dX12_searches_103 hw
  · replace hw := hw.2 q21
    refine g_aload_n h rfl 0 rfl dX12_searches_24 ?_
    refine g_get h is_248 fl_X12_148 rfl dX12_searches_25 ?_
    refine g_ni (fun v6_28 ev6_28 => ?_)
    replace hw := hw v6_28 ev6_28
    refine g_istore (lo2 := [(6, .int v6_28), (0, .ref 248), (1, .int x1), (2, .int x2), (3, .int x3), (4, .int x4), (5, .int x5)]) h (by decide) rfl dX12_searches_28 ?_
    refine g_iload_n h rfl 4 rfl dX12_searches_30 ?_
    refine g_istore (lo2 := [(7, .int x3), (6, .int v6_28), (0, .ref 248), (1, .int x1), (2, .int x2), (3, .int x3), (4, .int x4), (5, .int x5)]) h (by decide) rfl dX12_searches_31 ?_
    exact g_sub [2, 3, 4, 6, 7, 1, 0] rfl (t_X12_searches_33 h hr hk15 hw)
theorem t_X12_searches_15 {X : sX} {post : Int32 → sI → sJ → Prop} (h : sOK X cX12_searches RX12 8 3 87) (hr : sRt X (some .boolean) (sPi post)) {x1 : Int32} {x2 : Int32} {x3 : Int32} {x4 : Int32} {x5 : Int32} {I : sI} {J : sJ} (hw : w_X12_searches_15 post x1 x2 x3 x4 x5 I J) : sG X 8 15 [(0, .ref 248), (1, .int x1), (2, .int x2), (3, .int x3), (4, .int x4), (5, .int x5)] [] I J := by
  obtain ⟨n, hw⟩ := hw
  induction n generalizing x1 x2 x3 x4 x5 I J with
  | zero => exact hw.elim
  | succ n ih => exact t_X12_searches_15_s h hr (fun _ _ _ _ _ _ _ q => ih q) hw
def w_X12_searches (a1 : Int32) (I : sI) (J : sJ) (post : Int32 → sI → sJ → Prop) : Prop :=
  (∀ I_2 : sI, I_2 = sUI I 248 30 0 → w_X12_searches_15 post a1 0 (-1) 0 0 I_2 J)
set_option maxHeartbeats 4000000 in
set_option maxRecDepth 100000 in
theorem t_X12_searches {X : sX} {a1 : Int32} {I : sI} {J : sJ} {post : Int32 → sI → sJ → Prop} (h : sOK X cX12_searches RX12 8 3 87) (hr : sRt X (some .boolean) (sPi post)) (hw : w_X12_searches a1 I J post) : sG X 8 0 [(0, .ref 248), (1, .int a1)] [] I J := by
  unfold w_X12_searches at hw
  refine g_aload_n h rfl 0 rfl dX12_searches_0 ?_
  refine g_iconst (v := 0) h (by decide) dX12_searches_1 ?_
  refine g_putI h is_248 fl_X12_148 rfl rfl dX12_searches_2 ?_
  refine g_nI (fun I_2 eI_2 => ?_)
  replace hw := hw I_2 eI_2
  refine g_iconst (v := 0) h (by decide) dX12_searches_5 ?_
  refine g_istore_n (lo2 := [(2, .int 0), (0, .ref 248), (1, .int a1)]) h rfl (by decide) rfl dX12_searches_6 ?_
  refine g_iconst (v := (-1)) h (by decide) dX12_searches_7 ?_
  refine g_istore_n (lo2 := [(3, .int (-1)), (2, .int 0), (0, .ref 248), (1, .int a1)]) h rfl (by decide) rfl dX12_searches_8 ?_
  refine g_iconst (v := 0) h (by decide) dX12_searches_9 ?_
  refine g_istore (lo2 := [(4, .int 0), (3, .int (-1)), (2, .int 0), (0, .ref 248), (1, .int a1)]) h (by decide) rfl dX12_searches_10 ?_
  refine g_iconst (v := 0) h (by decide) dX12_searches_12 ?_
  refine g_istore (lo2 := [(5, .int 0), (4, .int 0), (3, .int (-1)), (2, .int 0), (0, .ref 248), (1, .int a1)]) h (by decide) rfl dX12_searches_13 ?_
  exact g_sub [4, 5, 3, 2, 1, 0] rfl (t_X12_searches_15 h hr hw)
theorem c_X12_searches (X : sX) {a1 : Int32} {I : sI} {J : sJ} {post : Int32 → sI → sJ → Prop} (hw : w_X12_searches a1 I J post) : sCall X yX12_searches cX12_searches 8 (some .boolean) 3 87 [.ref 248, .int a1] I J (sPi post) := sCall_of (by decide +kernel) (Nat.le_of_ble_eq_true rfl) (fun X h hr => t_X12_searches h hr hw)
theorem dX12_levelBegin_0 : decode cX12_levelBegin 0 = .ok (.iload_n 1, 1) := by decide +kernel
theorem dX12_levelBegin_1 : decode cX12_levelBegin 1 = .ok (.ifCond .ne 7, 3) := by decide +kernel
theorem dX12_levelBegin_4 : decode cX12_levelBegin 4 = .ok (.iconst 0, 1) := by decide +kernel
theorem dX12_levelBegin_5 : decode cX12_levelBegin 5 = .ok (.goto 11, 3) := by decide +kernel
theorem dX12_levelBegin_8 : decode cX12_levelBegin 8 = .ok (.aload_n 0, 1) := by decide +kernel
theorem dX12_levelBegin_9 : decode cX12_levelBegin 9 = .ok (.getfield 169, 3) := by decide +kernel
theorem dX12_levelBegin_12 : decode cX12_levelBegin 12 = .ok (.iload_n 1, 1) := by decide +kernel
theorem dX12_levelBegin_13 : decode cX12_levelBegin 13 = .ok (.iconst 1, 1) := by decide +kernel
theorem dX12_levelBegin_14 : decode cX12_levelBegin 14 = .ok (.isub, 1) := by decide +kernel
theorem dX12_levelBegin_15 : decode cX12_levelBegin 15 = .ok (.iaload, 1) := by decide +kernel
theorem dX12_levelBegin_16 : decode cX12_levelBegin 16 = .ok (.ireturn, 1) := by decide +kernel
def w_X12_levelBegin (a1 : Int32) (I : sI) (J : sJ) (post : Int32 → sI → sJ → Prop) : Prop :=
  ((¬ a1 = 0 → (vp_in (a1 - 1) 25 ∧ post (I 264 (Int32.toNatClampNeg (a1 - 1))) I J)) ∧ (a1 = 0 → post 0 I J))
set_option maxHeartbeats 4000000 in
set_option maxRecDepth 100000 in
theorem t_X12_levelBegin {X : sX} {a1 : Int32} {I : sI} {J : sJ} {post : Int32 → sI → sJ → Prop} (h : sOK X cX12_levelBegin RX12 2 0 0) (hr : sRt X (some .int) (sPi post)) (hw : w_X12_levelBegin a1 I J post) : sG X 2 0 [(0, .ref 248), (1, .int a1)] [] I J := by
  unfold w_X12_levelBegin at hw
  refine g_iload_n h rfl 1 rfl dX12_levelBegin_0 ?_
  refine g_if_ne (tgt := 8) h (by decide) dX12_levelBegin_1 (fun q1 => ?_) (fun q1 => ?_)
  · replace hw := hw.1 q1
    refine g_aload_n h rfl 0 rfl dX12_levelBegin_8 ?_
    refine g_get h is_248 fl_X12_169 fr_248_29 dX12_levelBegin_9 ?_
    refine g_iload_n h rfl 1 rfl dX12_levelBegin_12 ?_
    refine g_iconst (v := 1) h (by decide) dX12_levelBegin_13 ?_
    refine g_isub h dX12_levelBegin_14 ?_
    obtain ⟨hi15, hw⟩ := hw
    refine g_iald h ar_264 hi15 dX12_levelBegin_15 ?_
    exact g_iret h hr dX12_levelBegin_16 hw
  · replace hw := hw.2 q1
    refine g_iconst (v := 0) h (by decide) dX12_levelBegin_4 ?_
    refine g_goto (tgt := 16) h (by decide) dX12_levelBegin_5 ?_
    exact g_iret h hr dX12_levelBegin_16 hw
theorem c_X12_levelBegin (X : sX) {a1 : Int32} {I : sI} {J : sJ} {post : Int32 → sI → sJ → Prop} (hw : w_X12_levelBegin a1 I J post) : sCall X yX12_levelBegin cX12_levelBegin 2 (some .int) 0 0 [.ref 248, .int a1] I J (sPi post) := sCall_of (by decide +kernel) (Nat.le_of_ble_eq_true rfl) (fun X h hr => t_X12_levelBegin h hr hw)
theorem dX12_sinks_0 : decode cX12_sinks 0 = .ok (.iload_n 1, 1) := by decide +kernel
theorem dX12_sinks_1 : decode cX12_sinks 1 = .ok (.istore_n 3, 1) := by decide +kernel
theorem dX12_sinks_2 : decode cX12_sinks 2 = .ok (.iconst 2, 1) := by decide +kernel
theorem dX12_sinks_3 : decode cX12_sinks 3 = .ok (.iload_n 3, 1) := by decide +kernel
theorem dX12_sinks_4 : decode cX12_sinks 4 = .ok (.imul, 1) := by decide +kernel
theorem dX12_sinks_5 : decode cX12_sinks 5 = .ok (.iconst 1, 1) := by decide +kernel
theorem dX12_sinks_6 : decode cX12_sinks 6 = .ok (.iadd, 1) := by decide +kernel
theorem dX12_sinks_7 : decode cX12_sinks 7 = .ok (.iload_n 2, 1) := by decide +kernel
theorem dX12_sinks_8 : decode cX12_sinks 8 = .ok (.if_icmp .ge 105, 3) := by decide +kernel
theorem dX12_sinks_11 : decode cX12_sinks 11 = .ok (.iconst 2, 1) := by decide +kernel
theorem dX12_sinks_12 : decode cX12_sinks 12 = .ok (.iload_n 3, 1) := by decide +kernel
theorem dX12_sinks_13 : decode cX12_sinks 13 = .ok (.imul, 1) := by decide +kernel
theorem dX12_sinks_14 : decode cX12_sinks 14 = .ok (.iconst 1, 1) := by decide +kernel
theorem dX12_sinks_15 : decode cX12_sinks 15 = .ok (.iadd, 1) := by decide +kernel
theorem dX12_sinks_16 : decode cX12_sinks 16 = .ok (.istore 4, 2) := by decide +kernel
theorem dX12_sinks_18 : decode cX12_sinks 18 = .ok (.iload 4, 2) := by decide +kernel
theorem dX12_sinks_20 : decode cX12_sinks 20 = .ok (.iload 4, 2) := by decide +kernel
theorem dX12_sinks_22 : decode cX12_sinks 22 = .ok (.iconst 1, 1) := by decide +kernel
theorem dX12_sinks_23 : decode cX12_sinks 23 = .ok (.iadd, 1) := by decide +kernel
theorem dX12_sinks_24 : decode cX12_sinks 24 = .ok (.iload_n 2, 1) := by decide +kernel
theorem dX12_sinks_25 : decode cX12_sinks 25 = .ok (.if_icmp .ge 27, 3) := by decide +kernel
theorem dX12_sinks_28 : decode cX12_sinks 28 = .ok (.aload_n 0, 1) := by decide +kernel
theorem dX12_sinks_29 : decode cX12_sinks 29 = .ok (.getfield 178, 3) := by decide +kernel
theorem dX12_sinks_32 : decode cX12_sinks 32 = .ok (.iload 4, 2) := by decide +kernel
theorem dX12_sinks_34 : decode cX12_sinks 34 = .ok (.iconst 1, 1) := by decide +kernel
theorem dX12_sinks_35 : decode cX12_sinks 35 = .ok (.iadd, 1) := by decide +kernel
theorem dX12_sinks_36 : decode cX12_sinks 36 = .ok (.laload, 1) := by decide +kernel
theorem dX12_sinks_37 : decode cX12_sinks 37 = .ok (.aload_n 0, 1) := by decide +kernel
theorem dX12_sinks_38 : decode cX12_sinks 38 = .ok (.getfield 178, 3) := by decide +kernel
theorem dX12_sinks_41 : decode cX12_sinks 41 = .ok (.iload 4, 2) := by decide +kernel
theorem dX12_sinks_43 : decode cX12_sinks 43 = .ok (.laload, 1) := by decide +kernel
theorem dX12_sinks_44 : decode cX12_sinks 44 = .ok (.lcmp, 1) := by decide +kernel
theorem dX12_sinks_45 : decode cX12_sinks 45 = .ok (.ifCond .le 7, 3) := by decide +kernel
theorem dX12_sinks_48 : decode cX12_sinks 48 = .ok (.iconst 1, 1) := by decide +kernel
theorem dX12_sinks_49 : decode cX12_sinks 49 = .ok (.goto 4, 3) := by decide +kernel
theorem dX12_sinks_52 : decode cX12_sinks 52 = .ok (.iconst 0, 1) := by decide +kernel
theorem dX12_sinks_53 : decode cX12_sinks 53 = .ok (.invokestatic 65, 3) := by decide +kernel
theorem dX12_sinks_56 : decode cX12_sinks 56 = .ok (.iadd, 1) := by decide +kernel
theorem dX12_sinks_57 : decode cX12_sinks 57 = .ok (.istore 4, 2) := by decide +kernel
theorem dX12_sinks_59 : decode cX12_sinks 59 = .ok (.aload_n 0, 1) := by decide +kernel
theorem dX12_sinks_60 : decode cX12_sinks 60 = .ok (.getfield 178, 3) := by decide +kernel
theorem dX12_sinks_63 : decode cX12_sinks 63 = .ok (.iload_n 3, 1) := by decide +kernel
theorem dX12_sinks_64 : decode cX12_sinks 64 = .ok (.laload, 1) := by decide +kernel
theorem dX12_sinks_65 : decode cX12_sinks 65 = .ok (.aload_n 0, 1) := by decide +kernel
theorem dX12_sinks_66 : decode cX12_sinks 66 = .ok (.getfield 178, 3) := by decide +kernel
theorem dX12_sinks_69 : decode cX12_sinks 69 = .ok (.iload 4, 2) := by decide +kernel
theorem dX12_sinks_71 : decode cX12_sinks 71 = .ok (.laload, 1) := by decide +kernel
theorem dX12_sinks_72 : decode cX12_sinks 72 = .ok (.lcmp, 1) := by decide +kernel
theorem dX12_sinks_73 : decode cX12_sinks 73 = .ok (.ifCond .lt 4, 3) := by decide +kernel
theorem dX12_sinks_76 : decode cX12_sinks 76 = .ok (.return_, 1) := by decide +kernel
theorem dX12_sinks_77 : decode cX12_sinks 77 = .ok (.aload_n 0, 1) := by decide +kernel
theorem dX12_sinks_78 : decode cX12_sinks 78 = .ok (.getfield 178, 3) := by decide +kernel
theorem dX12_sinks_81 : decode cX12_sinks 81 = .ok (.iload_n 3, 1) := by decide +kernel
theorem dX12_sinks_82 : decode cX12_sinks 82 = .ok (.laload, 1) := by decide +kernel
theorem dX12_sinks_83 : decode cX12_sinks 83 = .ok (.lstore 5, 2) := by decide +kernel
theorem dX12_sinks_85 : decode cX12_sinks 85 = .ok (.aload_n 0, 1) := by decide +kernel
theorem dX12_sinks_86 : decode cX12_sinks 86 = .ok (.getfield 178, 3) := by decide +kernel
theorem dX12_sinks_89 : decode cX12_sinks 89 = .ok (.iload_n 3, 1) := by decide +kernel
theorem dX12_sinks_90 : decode cX12_sinks 90 = .ok (.aload_n 0, 1) := by decide +kernel
theorem dX12_sinks_91 : decode cX12_sinks 91 = .ok (.getfield 178, 3) := by decide +kernel
theorem dX12_sinks_94 : decode cX12_sinks 94 = .ok (.iload 4, 2) := by decide +kernel
theorem dX12_sinks_96 : decode cX12_sinks 96 = .ok (.laload, 1) := by decide +kernel
theorem dX12_sinks_97 : decode cX12_sinks 97 = .ok (.lastore, 1) := by decide +kernel
theorem dX12_sinks_98 : decode cX12_sinks 98 = .ok (.aload_n 0, 1) := by decide +kernel
theorem dX12_sinks_99 : decode cX12_sinks 99 = .ok (.getfield 178, 3) := by decide +kernel
theorem dX12_sinks_102 : decode cX12_sinks 102 = .ok (.iload 4, 2) := by decide +kernel
theorem dX12_sinks_104 : decode cX12_sinks 104 = .ok (.lload 5, 2) := by decide +kernel
theorem dX12_sinks_106 : decode cX12_sinks 106 = .ok (.lastore, 1) := by decide +kernel
theorem dX12_sinks_107 : decode cX12_sinks 107 = .ok (.iload 4, 2) := by decide +kernel
theorem dX12_sinks_109 : decode cX12_sinks 109 = .ok (.istore_n 3, 1) := by decide +kernel
theorem dX12_sinks_110 : decode cX12_sinks 110 = .ok (.goto (-108), 3) := by decide +kernel
theorem dX12_sinks_113 : decode cX12_sinks 113 = .ok (.return_, 1) := by decide +kernel
def w_X12_sinks_53 (post : sI → sJ → Prop) (k2 : Int32 → Int32 → sI → sJ → Prop) (x2 : Int32) (x3 : Int32) (s0 : Int32) (s1 : Int32) (I : sI) (J : sJ) : Prop :=
  w_X12_flag s0 I J (fun (r_53 : Int32) (I_53 : sI) (J_53 : sJ) => ((∀ v4_57 : Int32, v4_57 = s1 + r_53 → (vp_in x3 20000 ∧ (vp_in v4_57 20000 ∧ (((lg_cmp (J_53 265 (Int32.toNatClampNeg x3)) (J_53 265 (Int32.toNatClampNeg v4_57))) < 0 → (vp_in x3 20000 ∧ (∀ v5_83 : Int64, v5_83 = J_53 265 (Int32.toNatClampNeg x3) → (vp_in v4_57 20000 ∧ (vp_in x3 20000 ∧ (∀ J_97 : sJ, J_97 = sUJ J_53 265 (Int32.toNatClampNeg x3) (J_53 265 (Int32.toNatClampNeg v4_57)) → (vp_in v4_57 20000 ∧ (∀ J_106 : sJ, J_106 = sUJ J_97 265 (Int32.toNatClampNeg v4_57) v5_83 → k2 x2 v4_57 I_53 J_106)))))))) ∧ (¬ (lg_cmp (J_53 265 (Int32.toNatClampNeg x3)) (J_53 265 (Int32.toNatClampNeg v4_57))) < 0 → post I_53 J_53)))))))
set_option maxHeartbeats 4000000 in
set_option maxRecDepth 100000 in
theorem t_X12_sinks_53 {X : sX} {post : sI → sJ → Prop} (h : sOK X cX12_sinks RX12 7 1 20) (hr : sRt X none (sPv post)) {k2 : Int32 → Int32 → sI → sJ → Prop} (hk2 : ∀ (x2 : Int32) (x3 : Int32) (I : sI) (J : sJ), k2 x2 x3 I J → sG X 7 2 [(0, .ref 248), (2, .int x2), (3, .int x3)] [] I J) {x2 : Int32} {x3 : Int32} {s0 : Int32} {s1 : Int32} {I : sI} {J : sJ} (hw : w_X12_sinks_53 post k2 x2 x3 s0 s1 I J) : sG X 7 53 [(0, .ref 248), (2, .int x2), (3, .int x3)] [.int s0, .int s1] I J := by
  unfold w_X12_sinks_53 at hw
  refine g_callS [.int s0] h (c_X12_flag X hw) sPi_v mw_X12_flag lk_X12_65 rfl ⟨by decide, by decide⟩ (Nat.le_of_ble_eq_true rfl) dX12_sinks_53 (sPi_k (fun r_53 I_53 J_53 hw => ?_))
  refine g_iadd h dX12_sinks_56 ?_
  refine g_ni (fun v4_57 ev4_57 => ?_)
  replace hw := hw v4_57 ev4_57
  refine g_istore (lo2 := [(4, .int v4_57), (0, .ref 248), (2, .int x2), (3, .int x3)]) h (by decide) rfl dX12_sinks_57 ?_
  refine g_aload_n h rfl 1 rfl dX12_sinks_59 ?_
  refine g_get h is_248 fl_X12_178 fr_248_31 dX12_sinks_60 ?_
  refine g_iload_n h rfl 3 rfl dX12_sinks_63 ?_
  obtain ⟨hi64, hw⟩ := hw
  refine g_lald h ar_265 hi64 dX12_sinks_64 ?_
  refine g_aload_n h rfl 1 rfl dX12_sinks_65 ?_
  refine g_get h is_248 fl_X12_178 fr_248_31 dX12_sinks_66 ?_
  refine g_iload h 0 rfl dX12_sinks_69 ?_
  obtain ⟨hi71, hw⟩ := hw
  refine g_lald h ar_265 hi71 dX12_sinks_71 ?_
  refine g_lcmp h dX12_sinks_72 ?_
  refine g_if_lt (tgt := 77) h (by decide) dX12_sinks_73 (fun q73 => ?_) (fun q73 => ?_)
  · replace hw := hw.1 q73
    refine g_aload_n h rfl 1 rfl dX12_sinks_77 ?_
    refine g_get h is_248 fl_X12_178 fr_248_31 dX12_sinks_78 ?_
    refine g_iload_n h rfl 3 rfl dX12_sinks_81 ?_
    obtain ⟨hi82, hw⟩ := hw
    refine g_lald h ar_265 hi82 dX12_sinks_82 ?_
    refine g_nl (fun v5_83 ev5_83 => ?_)
    replace hw := hw v5_83 ev5_83
    refine g_lstore (lo2 := [(5, .long v5_83), (4, .int v4_57), (0, .ref 248), (2, .int x2), (3, .int x3)]) h (by decide) rfl dX12_sinks_83 ?_
    refine g_aload_n h rfl 2 rfl dX12_sinks_85 ?_
    refine g_get h is_248 fl_X12_178 fr_248_31 dX12_sinks_86 ?_
    refine g_iload_n h rfl 4 rfl dX12_sinks_89 ?_
    refine g_aload_n h rfl 2 rfl dX12_sinks_90 ?_
    refine g_get h is_248 fl_X12_178 fr_248_31 dX12_sinks_91 ?_
    refine g_iload h 1 rfl dX12_sinks_94 ?_
    obtain ⟨hi96, hw⟩ := hw
    refine g_lald h ar_265 hi96 dX12_sinks_96 ?_
    obtain ⟨hi97, hw⟩ := hw
    refine g_last h ar_265 hi97 dX12_sinks_97 ?_
    refine g_nJ (fun J_97 eJ_97 => ?_)
    replace hw := hw J_97 eJ_97
    refine g_aload_n h rfl 2 rfl dX12_sinks_98 ?_
    refine g_get h is_248 fl_X12_178 fr_248_31 dX12_sinks_99 ?_
    refine g_iload h 1 rfl dX12_sinks_102 ?_
    refine g_lload h 0 rfl dX12_sinks_104 ?_
    obtain ⟨hi106, hw⟩ := hw
    refine g_last h ar_265 hi106 dX12_sinks_106 ?_
    refine g_nJ (fun J_106 eJ_106 => ?_)
    replace hw := hw J_106 eJ_106
    refine g_iload h 1 rfl dX12_sinks_107 ?_
    refine g_istore_n (lo2 := [(3, .int v4_57), (5, .long v5_83), (4, .int v4_57), (0, .ref 248), (2, .int x2)]) h rfl (by decide) rfl dX12_sinks_109 ?_
    refine g_goto (tgt := 2) h (by decide) dX12_sinks_110 ?_
    exact g_sub [3, 4, 0] rfl (hk2 _ _ _ _ hw)
  · replace hw := hw.2 q73
    exact g_vret h hr dX12_sinks_76 hw
def w_X12_sinks_52 (post : sI → sJ → Prop) (k2 : Int32 → Int32 → sI → sJ → Prop) (x2 : Int32) (x3 : Int32) (s0 : Int32) (I : sI) (J : sJ) : Prop :=
  w_X12_sinks_53 post k2 x2 x3 0 s0 I J
set_option maxHeartbeats 4000000 in
set_option maxRecDepth 100000 in
theorem t_X12_sinks_52 {X : sX} {post : sI → sJ → Prop} (h : sOK X cX12_sinks RX12 7 1 20) (hr : sRt X none (sPv post)) {k2 : Int32 → Int32 → sI → sJ → Prop} (hk2 : ∀ (x2 : Int32) (x3 : Int32) (I : sI) (J : sJ), k2 x2 x3 I J → sG X 7 2 [(0, .ref 248), (2, .int x2), (3, .int x3)] [] I J) {x2 : Int32} {x3 : Int32} {s0 : Int32} {I : sI} {J : sJ} (hw : w_X12_sinks_52 post k2 x2 x3 s0 I J) : sG X 7 52 [(0, .ref 248), (2, .int x2), (3, .int x3)] [.int s0] I J := by
  unfold w_X12_sinks_52 at hw
  refine g_iconst (v := 0) h (by decide) dX12_sinks_52 ?_
  exact g_sub [0, 1, 2] rfl (t_X12_sinks_53 h hr hk2 hw)
def w_X12_sinks_2_s (post : sI → sJ → Prop) (k2 : Int32 → Int32 → sI → sJ → Prop) (x2 : Int32) (x3 : Int32) (I : sI) (J : sJ) : Prop :=
  ((x2 ≤ ((2 * x3) + 1) → post I J) ∧ (¬ x2 ≤ ((2 * x3) + 1) → (∀ v4_16 : Int32, v4_16 = (2 * x3) + 1 → ((x2 ≤ (v4_16 + 1) → w_X12_sinks_52 post k2 x2 x3 v4_16 I J) ∧ (¬ x2 ≤ (v4_16 + 1) → (vp_in (v4_16 + 1) 20000 ∧ (vp_in v4_16 20000 ∧ (((lg_cmp (J 265 (Int32.toNatClampNeg (v4_16 + 1))) (J 265 (Int32.toNatClampNeg v4_16))) ≤ 0 → w_X12_sinks_52 post k2 x2 x3 v4_16 I J) ∧ (¬ (lg_cmp (J 265 (Int32.toNatClampNeg (v4_16 + 1))) (J 265 (Int32.toNatClampNeg v4_16))) ≤ 0 → w_X12_sinks_53 post k2 x2 x3 1 v4_16 I J)))))))))
def w_X12_sinks_2_n (post : sI → sJ → Prop) : Nat → Int32 → Int32 → sI → sJ → Prop
  | 0 => fun _ _ _ _ => False
  | n + 1 => fun x2 x3 I J => w_X12_sinks_2_s post (w_X12_sinks_2_n post n) x2 x3 I J
def w_X12_sinks_2 (post : sI → sJ → Prop) (x2 : Int32) (x3 : Int32) (I : sI) (J : sJ) : Prop := ∃ n, w_X12_sinks_2_n post n x2 x3 I J
set_option maxHeartbeats 4000000 in
set_option maxRecDepth 100000 in
theorem t_X12_sinks_2_s {X : sX} {post : sI → sJ → Prop} (h : sOK X cX12_sinks RX12 7 1 20) (hr : sRt X none (sPv post)) {k2 : Int32 → Int32 → sI → sJ → Prop} (hk2 : ∀ (x2 : Int32) (x3 : Int32) (I : sI) (J : sJ), k2 x2 x3 I J → sG X 7 2 [(0, .ref 248), (2, .int x2), (3, .int x3)] [] I J) {x2 : Int32} {x3 : Int32} {I : sI} {J : sJ} (hw : w_X12_sinks_2_s post k2 x2 x3 I J) : sG X 7 2 [(0, .ref 248), (2, .int x2), (3, .int x3)] [] I J := by
  unfold w_X12_sinks_2_s at hw
  refine g_iconst (v := 2) h (by decide) dX12_sinks_2 ?_
  refine g_iload_n h rfl 2 rfl dX12_sinks_3 ?_
  refine g_imul h dX12_sinks_4 ?_
  refine g_iconst (v := 1) h (by decide) dX12_sinks_5 ?_
  refine g_iadd h dX12_sinks_6 ?_
  refine g_iload_n h rfl 1 rfl dX12_sinks_7 ?_
  refine g_icmp_ge (tgt := 113) h (by decide) dX12_sinks_8 (fun q8 => ?_) (fun q8 => ?_)
  · replace hw := hw.1 q8
    exact g_vret h hr dX12_sinks_113 hw
  · replace hw := hw.2 q8
    refine g_iconst (v := 2) h (by decide) dX12_sinks_11 ?_
    refine g_iload_n h rfl 2 rfl dX12_sinks_12 ?_
    refine g_imul h dX12_sinks_13 ?_
    refine g_iconst (v := 1) h (by decide) dX12_sinks_14 ?_
    refine g_iadd h dX12_sinks_15 ?_
    refine g_ni (fun v4_16 ev4_16 => ?_)
    replace hw := hw v4_16 ev4_16
    refine g_istore (lo2 := [(4, .int v4_16), (0, .ref 248), (2, .int x2), (3, .int x3)]) h (by decide) rfl dX12_sinks_16 ?_
    refine g_iload h 0 rfl dX12_sinks_18 ?_
    refine g_iload h 0 rfl dX12_sinks_20 ?_
    refine g_iconst (v := 1) h (by decide) dX12_sinks_22 ?_
    refine g_iadd h dX12_sinks_23 ?_
    refine g_iload_n h rfl 2 rfl dX12_sinks_24 ?_
    refine g_icmp_ge (tgt := 52) h (by decide) dX12_sinks_25 (fun q25 => ?_) (fun q25 => ?_)
    · replace hw := hw.1 q25
      exact g_sub [1, 2, 3] rfl (t_X12_sinks_52 h hr hk2 hw)
    · replace hw := hw.2 q25
      refine g_aload_n h rfl 1 rfl dX12_sinks_28 ?_
      refine g_get h is_248 fl_X12_178 fr_248_31 dX12_sinks_29 ?_
      refine g_iload h 0 rfl dX12_sinks_32 ?_
      refine g_iconst (v := 1) h (by decide) dX12_sinks_34 ?_
      refine g_iadd h dX12_sinks_35 ?_
      obtain ⟨hi36, hw⟩ := hw
      refine g_lald h ar_265 hi36 dX12_sinks_36 ?_
      refine g_aload_n h rfl 1 rfl dX12_sinks_37 ?_
      refine g_get h is_248 fl_X12_178 fr_248_31 dX12_sinks_38 ?_
      refine g_iload h 0 rfl dX12_sinks_41 ?_
      obtain ⟨hi43, hw⟩ := hw
      refine g_lald h ar_265 hi43 dX12_sinks_43 ?_
      refine g_lcmp h dX12_sinks_44 ?_
      refine g_if_le (tgt := 52) h (by decide) dX12_sinks_45 (fun q45 => ?_) (fun q45 => ?_)
      · replace hw := hw.1 q45
        exact g_sub [1, 2, 3] rfl (t_X12_sinks_52 h hr hk2 hw)
      · replace hw := hw.2 q45
        refine g_iconst (v := 1) h (by decide) dX12_sinks_48 ?_
        refine g_goto (tgt := 53) h (by decide) dX12_sinks_49 ?_
        exact g_sub [1, 2, 3] rfl (t_X12_sinks_53 h hr hk2 hw)
theorem t_X12_sinks_2 {X : sX} {post : sI → sJ → Prop} (h : sOK X cX12_sinks RX12 7 1 20) (hr : sRt X none (sPv post)) {x2 : Int32} {x3 : Int32} {I : sI} {J : sJ} (hw : w_X12_sinks_2 post x2 x3 I J) : sG X 7 2 [(0, .ref 248), (2, .int x2), (3, .int x3)] [] I J := by
  obtain ⟨n, hw⟩ := hw
  induction n generalizing x2 x3 I J with
  | zero => exact hw.elim
  | succ n ih => exact t_X12_sinks_2_s h hr (fun _ _ _ _ q => ih q) hw
def w_X12_sinks (a1 : Int32) (a2 : Int32) (I : sI) (J : sJ) (post : sI → sJ → Prop) : Prop :=
  w_X12_sinks_2 post a2 a1 I J
set_option maxHeartbeats 4000000 in
set_option maxRecDepth 100000 in
theorem t_X12_sinks {X : sX} {a1 : Int32} {a2 : Int32} {I : sI} {J : sJ} {post : sI → sJ → Prop} (h : sOK X cX12_sinks RX12 7 1 20) (hr : sRt X none (sPv post)) (hw : w_X12_sinks a1 a2 I J post) : sG X 7 0 [(0, .ref 248), (1, .int a1), (2, .int a2)] [] I J := by
  unfold w_X12_sinks at hw
  refine g_iload_n h rfl 1 rfl dX12_sinks_0 ?_
  refine g_istore_n (lo2 := [(3, .int a1), (0, .ref 248), (1, .int a1), (2, .int a2)]) h rfl (by decide) rfl dX12_sinks_1 ?_
  exact g_sub [1, 3, 0] rfl (t_X12_sinks_2 h hr hw)
theorem c_X12_sinks (X : sX) {a1 : Int32} {a2 : Int32} {I : sI} {J : sJ} {post : sI → sJ → Prop} (hw : w_X12_sinks a1 a2 I J post) : sCall X yX12_sinks cX12_sinks 7 none 1 20 [.ref 248, .int a1, .int a2] I J (sPv post) := sCall_of (by decide +kernel) (Nat.le_of_ble_eq_true rfl) (fun X h hr => t_X12_sinks h hr hw)
theorem dX12_sorts_0 : decode cX12_sorts 0 = .ok (.aload_n 0, 1) := by decide +kernel
theorem dX12_sorts_1 : decode cX12_sorts 1 = .ok (.getfield 129, 3) := by decide +kernel
theorem dX12_sorts_4 : decode cX12_sorts 4 = .ok (.iconst 1, 1) := by decide +kernel
theorem dX12_sorts_5 : decode cX12_sorts 5 = .ok (.isub, 1) := by decide +kernel
theorem dX12_sorts_6 : decode cX12_sorts 6 = .ok (.istore_n 1, 1) := by decide +kernel
theorem dX12_sorts_7 : decode cX12_sorts 7 = .ok (.aload_n 0, 1) := by decide +kernel
theorem dX12_sorts_8 : decode cX12_sorts 8 = .ok (.aload_n 0, 1) := by decide +kernel
theorem dX12_sorts_9 : decode cX12_sorts 9 = .ok (.getfield 169, 3) := by decide +kernel
theorem dX12_sorts_12 : decode cX12_sorts 12 = .ok (.iload_n 1, 1) := by decide +kernel
theorem dX12_sorts_13 : decode cX12_sorts 13 = .ok (.iaload, 1) := by decide +kernel
theorem dX12_sorts_14 : decode cX12_sorts 14 = .ok (.aload_n 0, 1) := by decide +kernel
theorem dX12_sorts_15 : decode cX12_sorts 15 = .ok (.iload_n 1, 1) := by decide +kernel
theorem dX12_sorts_16 : decode cX12_sorts 16 = .ok (.invokevirtual 172, 3) := by decide +kernel
theorem dX12_sorts_19 : decode cX12_sorts 19 = .ok (.isub, 1) := by decide +kernel
theorem dX12_sorts_20 : decode cX12_sorts 20 = .ok (.putfield 175, 3) := by decide +kernel
theorem dX12_sorts_23 : decode cX12_sorts 23 = .ok (.iconst 0, 1) := by decide +kernel
theorem dX12_sorts_24 : decode cX12_sorts 24 = .ok (.istore_n 2, 1) := by decide +kernel
theorem dX12_sorts_25 : decode cX12_sorts 25 = .ok (.iload_n 2, 1) := by decide +kernel
theorem dX12_sorts_26 : decode cX12_sorts 26 = .ok (.aload_n 0, 1) := by decide +kernel
theorem dX12_sorts_27 : decode cX12_sorts 27 = .ok (.getfield 175, 3) := by decide +kernel
theorem dX12_sorts_30 : decode cX12_sorts 30 = .ok (.if_icmp .ge 27, 3) := by decide +kernel
theorem dX12_sorts_33 : decode cX12_sorts 33 = .ok (.aload_n 0, 1) := by decide +kernel
theorem dX12_sorts_34 : decode cX12_sorts 34 = .ok (.getfield 178, 3) := by decide +kernel
theorem dX12_sorts_37 : decode cX12_sorts 37 = .ok (.iload_n 2, 1) := by decide +kernel
theorem dX12_sorts_38 : decode cX12_sorts 38 = .ok (.aload_n 0, 1) := by decide +kernel
theorem dX12_sorts_39 : decode cX12_sorts 39 = .ok (.getfield 155, 3) := by decide +kernel
theorem dX12_sorts_42 : decode cX12_sorts 42 = .ok (.aload_n 0, 1) := by decide +kernel
theorem dX12_sorts_43 : decode cX12_sorts 43 = .ok (.iload_n 1, 1) := by decide +kernel
theorem dX12_sorts_44 : decode cX12_sorts 44 = .ok (.invokevirtual 172, 3) := by decide +kernel
theorem dX12_sorts_47 : decode cX12_sorts 47 = .ok (.iload_n 2, 1) := by decide +kernel
theorem dX12_sorts_48 : decode cX12_sorts 48 = .ok (.iadd, 1) := by decide +kernel
theorem dX12_sorts_49 : decode cX12_sorts 49 = .ok (.laload, 1) := by decide +kernel
theorem dX12_sorts_50 : decode cX12_sorts 50 = .ok (.lastore, 1) := by decide +kernel
theorem dX12_sorts_51 : decode cX12_sorts 51 = .ok (.iinc 2 1, 3) := by decide +kernel
theorem dX12_sorts_54 : decode cX12_sorts 54 = .ok (.goto (-29), 3) := by decide +kernel
theorem dX12_sorts_57 : decode cX12_sorts 57 = .ok (.aload_n 0, 1) := by decide +kernel
theorem dX12_sorts_58 : decode cX12_sorts 58 = .ok (.getfield 175, 3) := by decide +kernel
theorem dX12_sorts_61 : decode cX12_sorts 61 = .ok (.iconst 2, 1) := by decide +kernel
theorem dX12_sorts_62 : decode cX12_sorts 62 = .ok (.idiv, 1) := by decide +kernel
theorem dX12_sorts_63 : decode cX12_sorts 63 = .ok (.iconst 1, 1) := by decide +kernel
theorem dX12_sorts_64 : decode cX12_sorts 64 = .ok (.isub, 1) := by decide +kernel
theorem dX12_sorts_65 : decode cX12_sorts 65 = .ok (.istore_n 2, 1) := by decide +kernel
theorem dX12_sorts_66 : decode cX12_sorts 66 = .ok (.iload_n 2, 1) := by decide +kernel
theorem dX12_sorts_67 : decode cX12_sorts 67 = .ok (.ifCond .lt 18, 3) := by decide +kernel
theorem dX12_sorts_70 : decode cX12_sorts 70 = .ok (.aload_n 0, 1) := by decide +kernel
theorem dX12_sorts_71 : decode cX12_sorts 71 = .ok (.iload_n 2, 1) := by decide +kernel
theorem dX12_sorts_72 : decode cX12_sorts 72 = .ok (.aload_n 0, 1) := by decide +kernel
theorem dX12_sorts_73 : decode cX12_sorts 73 = .ok (.getfield 175, 3) := by decide +kernel
theorem dX12_sorts_76 : decode cX12_sorts 76 = .ok (.invokevirtual 181, 3) := by decide +kernel
theorem dX12_sorts_79 : decode cX12_sorts 79 = .ok (.iinc 2 (-1), 3) := by decide +kernel
theorem dX12_sorts_82 : decode cX12_sorts 82 = .ok (.goto (-16), 3) := by decide +kernel
theorem dX12_sorts_85 : decode cX12_sorts 85 = .ok (.aload_n 0, 1) := by decide +kernel
theorem dX12_sorts_86 : decode cX12_sorts 86 = .ok (.getfield 175, 3) := by decide +kernel
theorem dX12_sorts_89 : decode cX12_sorts 89 = .ok (.iconst 1, 1) := by decide +kernel
theorem dX12_sorts_90 : decode cX12_sorts 90 = .ok (.isub, 1) := by decide +kernel
theorem dX12_sorts_91 : decode cX12_sorts 91 = .ok (.istore_n 2, 1) := by decide +kernel
theorem dX12_sorts_92 : decode cX12_sorts 92 = .ok (.iload_n 2, 1) := by decide +kernel
theorem dX12_sorts_93 : decode cX12_sorts 93 = .ok (.ifCond .le 41, 3) := by decide +kernel
theorem dX12_sorts_96 : decode cX12_sorts 96 = .ok (.aload_n 0, 1) := by decide +kernel
theorem dX12_sorts_97 : decode cX12_sorts 97 = .ok (.getfield 178, 3) := by decide +kernel
theorem dX12_sorts_100 : decode cX12_sorts 100 = .ok (.iconst 0, 1) := by decide +kernel
theorem dX12_sorts_101 : decode cX12_sorts 101 = .ok (.laload, 1) := by decide +kernel
theorem dX12_sorts_102 : decode cX12_sorts 102 = .ok (.lstore_n 3, 1) := by decide +kernel
theorem dX12_sorts_103 : decode cX12_sorts 103 = .ok (.aload_n 0, 1) := by decide +kernel
theorem dX12_sorts_104 : decode cX12_sorts 104 = .ok (.getfield 178, 3) := by decide +kernel
theorem dX12_sorts_107 : decode cX12_sorts 107 = .ok (.iconst 0, 1) := by decide +kernel
theorem dX12_sorts_108 : decode cX12_sorts 108 = .ok (.aload_n 0, 1) := by decide +kernel
theorem dX12_sorts_109 : decode cX12_sorts 109 = .ok (.getfield 178, 3) := by decide +kernel
theorem dX12_sorts_112 : decode cX12_sorts 112 = .ok (.iload_n 2, 1) := by decide +kernel
theorem dX12_sorts_113 : decode cX12_sorts 113 = .ok (.laload, 1) := by decide +kernel
theorem dX12_sorts_114 : decode cX12_sorts 114 = .ok (.lastore, 1) := by decide +kernel
theorem dX12_sorts_115 : decode cX12_sorts 115 = .ok (.aload_n 0, 1) := by decide +kernel
theorem dX12_sorts_116 : decode cX12_sorts 116 = .ok (.getfield 178, 3) := by decide +kernel
theorem dX12_sorts_119 : decode cX12_sorts 119 = .ok (.iload_n 2, 1) := by decide +kernel
theorem dX12_sorts_120 : decode cX12_sorts 120 = .ok (.lload_n 3, 1) := by decide +kernel
theorem dX12_sorts_121 : decode cX12_sorts 121 = .ok (.lastore, 1) := by decide +kernel
theorem dX12_sorts_122 : decode cX12_sorts 122 = .ok (.aload_n 0, 1) := by decide +kernel
theorem dX12_sorts_123 : decode cX12_sorts 123 = .ok (.iconst 0, 1) := by decide +kernel
theorem dX12_sorts_124 : decode cX12_sorts 124 = .ok (.iload_n 2, 1) := by decide +kernel
theorem dX12_sorts_125 : decode cX12_sorts 125 = .ok (.invokevirtual 181, 3) := by decide +kernel
theorem dX12_sorts_128 : decode cX12_sorts 128 = .ok (.iinc 2 (-1), 3) := by decide +kernel
theorem dX12_sorts_131 : decode cX12_sorts 131 = .ok (.goto (-39), 3) := by decide +kernel
theorem dX12_sorts_134 : decode cX12_sorts 134 = .ok (.return_, 1) := by decide +kernel
def w_X12_sorts_92_s (post : sI → sJ → Prop) (k92 : Int32 → sI → sJ → Prop) (x2 : Int32) (I : sI) (J : sJ) : Prop :=
  ((x2 ≤ 0 → post I J) ∧ (¬ x2 ≤ 0 → (vp_in 0 20000 ∧ (∀ v3_102 : Int64, v3_102 = J 265 (Int32.toNatClampNeg 0) → (vp_in x2 20000 ∧ (vp_in 0 20000 ∧ (∀ J_114 : sJ, J_114 = sUJ J 265 (Int32.toNatClampNeg 0) (J 265 (Int32.toNatClampNeg x2)) → (vp_in x2 20000 ∧ (∀ J_121 : sJ, J_121 = sUJ J_114 265 (Int32.toNatClampNeg x2) v3_102 → w_X12_sinks 0 x2 I J_121 (fun (I_125 : sI) (J_125 : sJ) => ((∀ v2_128 : Int32, v2_128 = x2 + (-1) → k92 v2_128 I_125 J_125))))))))))))
def w_X12_sorts_92_n (post : sI → sJ → Prop) : Nat → Int32 → sI → sJ → Prop
  | 0 => fun _ _ _ => False
  | n + 1 => fun x2 I J => w_X12_sorts_92_s post (w_X12_sorts_92_n post n) x2 I J
def w_X12_sorts_92 (post : sI → sJ → Prop) (x2 : Int32) (I : sI) (J : sJ) : Prop := ∃ n, w_X12_sorts_92_n post n x2 I J
set_option maxHeartbeats 4000000 in
set_option maxRecDepth 100000 in
theorem t_X12_sorts_92_s {X : sX} {post : sI → sJ → Prop} (h : sOK X cX12_sorts RX12 5 2 46) (hr : sRt X none (sPv post)) {k92 : Int32 → sI → sJ → Prop} (hk92 : ∀ (x2 : Int32) (I : sI) (J : sJ), k92 x2 I J → sG X 5 92 [(0, .ref 248), (2, .int x2)] [] I J) {x2 : Int32} {I : sI} {J : sJ} (hw : w_X12_sorts_92_s post k92 x2 I J) : sG X 5 92 [(0, .ref 248), (2, .int x2)] [] I J := by
  unfold w_X12_sorts_92_s at hw
  refine g_iload_n h rfl 1 rfl dX12_sorts_92 ?_
  refine g_if_le (tgt := 134) h (by decide) dX12_sorts_93 (fun q93 => ?_) (fun q93 => ?_)
  · replace hw := hw.1 q93
    exact g_vret h hr dX12_sorts_134 hw
  · replace hw := hw.2 q93
    refine g_aload_n h rfl 0 rfl dX12_sorts_96 ?_
    refine g_get h is_248 fl_X12_178 fr_248_31 dX12_sorts_97 ?_
    refine g_iconst (v := 0) h (by decide) dX12_sorts_100 ?_
    obtain ⟨hi101, hw⟩ := hw
    refine g_lald h ar_265 hi101 dX12_sorts_101 ?_
    refine g_nl (fun v3_102 ev3_102 => ?_)
    replace hw := hw v3_102 ev3_102
    refine g_lstore_n (lo2 := [(3, .long v3_102), (0, .ref 248), (2, .int x2)]) h rfl (by decide) rfl dX12_sorts_102 ?_
    refine g_aload_n h rfl 1 rfl dX12_sorts_103 ?_
    refine g_get h is_248 fl_X12_178 fr_248_31 dX12_sorts_104 ?_
    refine g_iconst (v := 0) h (by decide) dX12_sorts_107 ?_
    refine g_aload_n h rfl 1 rfl dX12_sorts_108 ?_
    refine g_get h is_248 fl_X12_178 fr_248_31 dX12_sorts_109 ?_
    refine g_iload_n h rfl 2 rfl dX12_sorts_112 ?_
    obtain ⟨hi113, hw⟩ := hw
    refine g_lald h ar_265 hi113 dX12_sorts_113 ?_
    obtain ⟨hi114, hw⟩ := hw
    refine g_last h ar_265 hi114 dX12_sorts_114 ?_
    refine g_nJ (fun J_114 eJ_114 => ?_)
    replace hw := hw J_114 eJ_114
    refine g_aload_n h rfl 1 rfl dX12_sorts_115 ?_
    refine g_get h is_248 fl_X12_178 fr_248_31 dX12_sorts_116 ?_
    refine g_iload_n h rfl 2 rfl dX12_sorts_119 ?_
    refine g_lload_n h rfl 0 rfl dX12_sorts_120 ?_
    obtain ⟨hi121, hw⟩ := hw
    refine g_last h ar_265 hi121 dX12_sorts_121 ?_
    refine g_nJ (fun J_121 eJ_121 => ?_)
    replace hw := hw J_121 eJ_121
    refine g_aload_n h rfl 1 rfl dX12_sorts_122 ?_
    refine g_iconst (v := 0) h (by decide) dX12_sorts_123 ?_
    refine g_iload_n h rfl 2 rfl dX12_sorts_124 ?_
    refine g_callV [.int 0, .int x2] h (c_X12_sinks X hw) sPv_v mw_X12_sinks lk_X12_181 is_248 rfl rfl ⟨by decide, by decide⟩ (Nat.le_of_ble_eq_true rfl) dX12_sorts_125 (sPv_k (fun I_125 J_125 hw => ?_))
    obtain ⟨v2_128, ev2_128⟩ : ∃ z : Int32, z = x2 + (-1) := ⟨_, rfl⟩
    replace hw := hw v2_128 ev2_128
    refine g_iinc (v := v2_128) (lo2 := [(2, .int v2_128), (3, .long v3_102), (0, .ref 248)]) h 2 rfl (by rw [ev2_128]; rfl) (by decide) rfl dX12_sorts_128 ?_
    refine g_goto (tgt := 92) h (by decide) dX12_sorts_131 ?_
    exact g_sub [2, 0] rfl (hk92 _ _ _ hw)
theorem t_X12_sorts_92 {X : sX} {post : sI → sJ → Prop} (h : sOK X cX12_sorts RX12 5 2 46) (hr : sRt X none (sPv post)) {x2 : Int32} {I : sI} {J : sJ} (hw : w_X12_sorts_92 post x2 I J) : sG X 5 92 [(0, .ref 248), (2, .int x2)] [] I J := by
  obtain ⟨n, hw⟩ := hw
  induction n generalizing x2 I J with
  | zero => exact hw.elim
  | succ n ih => exact t_X12_sorts_92_s h hr (fun _ _ _ q => ih q) hw
def w_X12_sorts_66_s (post : sI → sJ → Prop) (k66 : Int32 → sI → sJ → Prop) (x2 : Int32) (I : sI) (J : sJ) : Prop :=
  ((x2 < 0 → (∀ v2_91 : Int32, v2_91 = (I 248 32) - 1 → w_X12_sorts_92 post v2_91 I J)) ∧ (¬ x2 < 0 → w_X12_sinks x2 (I 248 32) I J (fun (I_76 : sI) (J_76 : sJ) => ((∀ v2_79 : Int32, v2_79 = x2 + (-1) → k66 v2_79 I_76 J_76)))))
def w_X12_sorts_66_n (post : sI → sJ → Prop) : Nat → Int32 → sI → sJ → Prop
  | 0 => fun _ _ _ => False
  | n + 1 => fun x2 I J => w_X12_sorts_66_s post (w_X12_sorts_66_n post n) x2 I J
def w_X12_sorts_66 (post : sI → sJ → Prop) (x2 : Int32) (I : sI) (J : sJ) : Prop := ∃ n, w_X12_sorts_66_n post n x2 I J
set_option maxHeartbeats 4000000 in
set_option maxRecDepth 100000 in
theorem t_X12_sorts_66_s {X : sX} {post : sI → sJ → Prop} (h : sOK X cX12_sorts RX12 5 2 46) (hr : sRt X none (sPv post)) {k66 : Int32 → sI → sJ → Prop} (hk66 : ∀ (x2 : Int32) (I : sI) (J : sJ), k66 x2 I J → sG X 5 66 [(0, .ref 248), (2, .int x2)] [] I J) {x2 : Int32} {I : sI} {J : sJ} (hw : w_X12_sorts_66_s post k66 x2 I J) : sG X 5 66 [(0, .ref 248), (2, .int x2)] [] I J := by
  unfold w_X12_sorts_66_s at hw
  refine g_iload_n h rfl 1 rfl dX12_sorts_66 ?_
  refine g_if_lt (tgt := 85) h (by decide) dX12_sorts_67 (fun q67 => ?_) (fun q67 => ?_)
  · replace hw := hw.1 q67
    refine g_aload_n h rfl 0 rfl dX12_sorts_85 ?_
    refine g_get h is_248 fl_X12_175 rfl dX12_sorts_86 ?_
    refine g_iconst (v := 1) h (by decide) dX12_sorts_89 ?_
    refine g_isub h dX12_sorts_90 ?_
    refine g_ni (fun v2_91 ev2_91 => ?_)
    replace hw := hw v2_91 ev2_91
    refine g_istore_n (lo2 := [(2, .int v2_91), (0, .ref 248)]) h rfl (by decide) rfl dX12_sorts_91 ?_
    exact g_sub [1, 0] rfl (t_X12_sorts_92 h hr hw)
  · replace hw := hw.2 q67
    refine g_aload_n h rfl 0 rfl dX12_sorts_70 ?_
    refine g_iload_n h rfl 1 rfl dX12_sorts_71 ?_
    refine g_aload_n h rfl 0 rfl dX12_sorts_72 ?_
    refine g_get h is_248 fl_X12_175 rfl dX12_sorts_73 ?_
    refine g_callV [.int x2, .int (I 248 32)] h (c_X12_sinks X hw) sPv_v mw_X12_sinks lk_X12_181 is_248 rfl rfl ⟨by decide, by decide⟩ (Nat.le_of_ble_eq_true rfl) dX12_sorts_76 (sPv_k (fun I_76 J_76 hw => ?_))
    obtain ⟨v2_79, ev2_79⟩ : ∃ z : Int32, z = x2 + (-1) := ⟨_, rfl⟩
    replace hw := hw v2_79 ev2_79
    refine g_iinc (v := v2_79) (lo2 := [(2, .int v2_79), (0, .ref 248)]) h 1 rfl (by rw [ev2_79]; rfl) (by decide) rfl dX12_sorts_79 ?_
    refine g_goto (tgt := 66) h (by decide) dX12_sorts_82 ?_
    exact g_sub [1, 0] rfl (hk66 _ _ _ hw)
theorem t_X12_sorts_66 {X : sX} {post : sI → sJ → Prop} (h : sOK X cX12_sorts RX12 5 2 46) (hr : sRt X none (sPv post)) {x2 : Int32} {I : sI} {J : sJ} (hw : w_X12_sorts_66 post x2 I J) : sG X 5 66 [(0, .ref 248), (2, .int x2)] [] I J := by
  obtain ⟨n, hw⟩ := hw
  induction n generalizing x2 I J with
  | zero => exact hw.elim
  | succ n ih => exact t_X12_sorts_66_s h hr (fun _ _ _ q => ih q) hw
def w_X12_sorts_25_s (post : sI → sJ → Prop) (k25 : Int32 → Int32 → sI → sJ → Prop) (x1 : Int32) (x2 : Int32) (I : sI) (J : sJ) : Prop :=
  (((I 248 32) ≤ x2 → (∀ v2_65 : Int32, v2_65 = ((I 248 32) / 2) - 1 → w_X12_sorts_66 post v2_65 I J)) ∧ (¬ (I 248 32) ≤ x2 → w_X12_levelBegin x1 I J (fun (r_44 : Int32) (I_44 : sI) (J_44 : sJ) => ((vp_in (r_44 + x2) 20002 ∧ (vp_in x2 20000 ∧ (∀ J_50 : sJ, J_50 = sUJ J_44 265 (Int32.toNatClampNeg x2) (J_44 262 (Int32.toNatClampNeg (r_44 + x2))) → (∀ v2_51 : Int32, v2_51 = x2 + 1 → k25 x1 v2_51 I_44 J_50))))))))
def w_X12_sorts_25_n (post : sI → sJ → Prop) : Nat → Int32 → Int32 → sI → sJ → Prop
  | 0 => fun _ _ _ _ => False
  | n + 1 => fun x1 x2 I J => w_X12_sorts_25_s post (w_X12_sorts_25_n post n) x1 x2 I J
def w_X12_sorts_25 (post : sI → sJ → Prop) (x1 : Int32) (x2 : Int32) (I : sI) (J : sJ) : Prop := ∃ n, w_X12_sorts_25_n post n x1 x2 I J
set_option maxHeartbeats 4000000 in
set_option maxRecDepth 100000 in
theorem t_X12_sorts_25_s {X : sX} {post : sI → sJ → Prop} (h : sOK X cX12_sorts RX12 5 2 46) (hr : sRt X none (sPv post)) {k25 : Int32 → Int32 → sI → sJ → Prop} (hk25 : ∀ (x1 : Int32) (x2 : Int32) (I : sI) (J : sJ), k25 x1 x2 I J → sG X 5 25 [(0, .ref 248), (1, .int x1), (2, .int x2)] [] I J) {x1 : Int32} {x2 : Int32} {I : sI} {J : sJ} (hw : w_X12_sorts_25_s post k25 x1 x2 I J) : sG X 5 25 [(0, .ref 248), (1, .int x1), (2, .int x2)] [] I J := by
  unfold w_X12_sorts_25_s at hw
  refine g_iload_n h rfl 2 rfl dX12_sorts_25 ?_
  refine g_aload_n h rfl 0 rfl dX12_sorts_26 ?_
  refine g_get h is_248 fl_X12_175 rfl dX12_sorts_27 ?_
  refine g_icmp_ge (tgt := 57) h (by decide) dX12_sorts_30 (fun q30 => ?_) (fun q30 => ?_)
  · replace hw := hw.1 q30
    refine g_aload_n h rfl 0 rfl dX12_sorts_57 ?_
    refine g_get h is_248 fl_X12_175 rfl dX12_sorts_58 ?_
    refine g_iconst (v := 2) h (by decide) dX12_sorts_61 ?_
    refine g_idiv h (by decide) dX12_sorts_62 ?_
    refine g_iconst (v := 1) h (by decide) dX12_sorts_63 ?_
    refine g_isub h dX12_sorts_64 ?_
    refine g_ni (fun v2_65 ev2_65 => ?_)
    replace hw := hw v2_65 ev2_65
    refine g_istore_n (lo2 := [(2, .int v2_65), (0, .ref 248), (1, .int x1)]) h rfl (by decide) rfl dX12_sorts_65 ?_
    exact g_sub [1, 0] rfl (t_X12_sorts_66 h hr hw)
  · replace hw := hw.2 q30
    refine g_aload_n h rfl 0 rfl dX12_sorts_33 ?_
    refine g_get h is_248 fl_X12_178 fr_248_31 dX12_sorts_34 ?_
    refine g_iload_n h rfl 2 rfl dX12_sorts_37 ?_
    refine g_aload_n h rfl 0 rfl dX12_sorts_38 ?_
    refine g_get h is_248 fl_X12_155 fr_248_27 dX12_sorts_39 ?_
    refine g_aload_n h rfl 0 rfl dX12_sorts_42 ?_
    refine g_iload_n h rfl 1 rfl dX12_sorts_43 ?_
    refine g_callV [.int x1] h (c_X12_levelBegin X hw) sPi_v mw_X12_levelBegin lk_X12_172 is_248 rfl rfl ⟨by decide, by decide⟩ (Nat.le_of_ble_eq_true rfl) dX12_sorts_44 (sPi_k (fun r_44 I_44 J_44 hw => ?_))
    refine g_iload_n h rfl 2 rfl dX12_sorts_47 ?_
    refine g_iadd h dX12_sorts_48 ?_
    obtain ⟨hi49, hw⟩ := hw
    refine g_lald h ar_262 hi49 dX12_sorts_49 ?_
    obtain ⟨hi50, hw⟩ := hw
    refine g_last h ar_265 hi50 dX12_sorts_50 ?_
    refine g_nJ (fun J_50 eJ_50 => ?_)
    replace hw := hw J_50 eJ_50
    obtain ⟨v2_51, ev2_51⟩ : ∃ z : Int32, z = x2 + 1 := ⟨_, rfl⟩
    replace hw := hw v2_51 ev2_51
    refine g_iinc (v := v2_51) (lo2 := [(2, .int v2_51), (0, .ref 248), (1, .int x1)]) h 2 rfl (by rw [ev2_51]; rfl) (by decide) rfl dX12_sorts_51 ?_
    refine g_goto (tgt := 25) h (by decide) dX12_sorts_54 ?_
    exact g_sub [1, 2, 0] rfl (hk25 _ _ _ _ hw)
theorem t_X12_sorts_25 {X : sX} {post : sI → sJ → Prop} (h : sOK X cX12_sorts RX12 5 2 46) (hr : sRt X none (sPv post)) {x1 : Int32} {x2 : Int32} {I : sI} {J : sJ} (hw : w_X12_sorts_25 post x1 x2 I J) : sG X 5 25 [(0, .ref 248), (1, .int x1), (2, .int x2)] [] I J := by
  obtain ⟨n, hw⟩ := hw
  induction n generalizing x1 x2 I J with
  | zero => exact hw.elim
  | succ n ih => exact t_X12_sorts_25_s h hr (fun _ _ _ _ q => ih q) hw
def w_X12_sorts (I : sI) (J : sJ) (post : sI → sJ → Prop) : Prop :=
  (∀ v1_6 : Int32, v1_6 = (I 248 24) - 1 → (vp_in v1_6 25 ∧ w_X12_levelBegin v1_6 I J (fun (r_16 : Int32) (I_16 : sI) (J_16 : sJ) => ((∀ I_20 : sI, I_20 = sUI I_16 248 32 ((I 264 (Int32.toNatClampNeg v1_6)) - r_16) → w_X12_sorts_25 post v1_6 0 I_20 J_16)))))
set_option maxHeartbeats 4000000 in
set_option maxRecDepth 100000 in
theorem t_X12_sorts {X : sX} {I : sI} {J : sJ} {post : sI → sJ → Prop} (h : sOK X cX12_sorts RX12 5 2 46) (hr : sRt X none (sPv post)) (hw : w_X12_sorts I J post) : sG X 5 0 [(0, .ref 248)] [] I J := by
  unfold w_X12_sorts at hw
  refine g_aload_n h rfl 0 rfl dX12_sorts_0 ?_
  refine g_get h is_248 fl_X12_129 rfl dX12_sorts_1 ?_
  refine g_iconst (v := 1) h (by decide) dX12_sorts_4 ?_
  refine g_isub h dX12_sorts_5 ?_
  refine g_ni (fun v1_6 ev1_6 => ?_)
  replace hw := hw v1_6 ev1_6
  refine g_istore_n (lo2 := [(1, .int v1_6), (0, .ref 248)]) h rfl (by decide) rfl dX12_sorts_6 ?_
  refine g_aload_n h rfl 1 rfl dX12_sorts_7 ?_
  refine g_aload_n h rfl 1 rfl dX12_sorts_8 ?_
  refine g_get h is_248 fl_X12_169 fr_248_29 dX12_sorts_9 ?_
  refine g_iload_n h rfl 0 rfl dX12_sorts_12 ?_
  obtain ⟨hi13, hw⟩ := hw
  refine g_iald h ar_264 hi13 dX12_sorts_13 ?_
  refine g_aload_n h rfl 1 rfl dX12_sorts_14 ?_
  refine g_iload_n h rfl 0 rfl dX12_sorts_15 ?_
  refine g_callV [.int v1_6] h (c_X12_levelBegin X hw) sPi_v mw_X12_levelBegin lk_X12_172 is_248 rfl rfl ⟨by decide, by decide⟩ (Nat.le_of_ble_eq_true rfl) dX12_sorts_16 (sPi_k (fun r_16 I_16 J_16 hw => ?_))
  refine g_isub h dX12_sorts_19 ?_
  refine g_putI h is_248 fl_X12_175 rfl rfl dX12_sorts_20 ?_
  refine g_nI (fun I_20 eI_20 => ?_)
  replace hw := hw I_20 eI_20
  refine g_iconst (v := 0) h (by decide) dX12_sorts_23 ?_
  refine g_istore_n (lo2 := [(2, .int 0), (1, .int v1_6), (0, .ref 248)]) h rfl (by decide) rfl dX12_sorts_24 ?_
  exact g_sub [2, 1, 0] rfl (t_X12_sorts_25 h hr hw)
theorem c_X12_sorts (X : sX) {I : sI} {J : sJ} {post : sI → sJ → Prop} (hw : w_X12_sorts I J post) : sCall X yX12_sorts cX12_sorts 5 none 2 46 [.ref 248] I J (sPv post) := sCall_of (by decide +kernel) (Nat.le_of_ble_eq_true rfl) (fun X h hr => t_X12_sorts h hr hw)
theorem dX12_isAsked_0 : decode cX12_isAsked 0 = .ok (.iload_n 1, 1) := by decide +kernel
theorem dX12_isAsked_1 : decode cX12_isAsked 1 = .ok (.invokestatic 96, 3) := by decide +kernel
theorem dX12_isAsked_4 : decode cX12_isAsked 4 = .ok (.ifCond .eq 14, 3) := by decide +kernel
theorem dX12_isAsked_7 : decode cX12_isAsked 7 = .ok (.aload_n 0, 1) := by decide +kernel
theorem dX12_isAsked_8 : decode cX12_isAsked 8 = .ok (.getfield 76, 3) := by decide +kernel
theorem dX12_isAsked_11 : decode cX12_isAsked 11 = .ok (.ifCond .le 7, 3) := by decide +kernel
theorem dX12_isAsked_14 : decode cX12_isAsked 14 = .ok (.iconst 1, 1) := by decide +kernel
theorem dX12_isAsked_15 : decode cX12_isAsked 15 = .ok (.goto 4, 3) := by decide +kernel
theorem dX12_isAsked_18 : decode cX12_isAsked 18 = .ok (.iconst 0, 1) := by decide +kernel
theorem dX12_isAsked_19 : decode cX12_isAsked 19 = .ok (.ireturn, 1) := by decide +kernel
def w_X12_isAsked (a1 : Int32) (I : sI) (J : sJ) (post : Int32 → sI → sJ → Prop) : Prop :=
  w_X12_isTongue a1 I J (fun (r_1 : Int32) (I_1 : sI) (J_1 : sJ) => (((r_1 = 0 → post 0 I_1 J_1) ∧ (¬ r_1 = 0 → (((I_1 248 11) ≤ 0 → post 0 I_1 J_1) ∧ (¬ (I_1 248 11) ≤ 0 → post 1 I_1 J_1))))))
set_option maxHeartbeats 4000000 in
set_option maxRecDepth 100000 in
theorem t_X12_isAsked {X : sX} {a1 : Int32} {I : sI} {J : sJ} {post : Int32 → sI → sJ → Prop} (h : sOK X cX12_isAsked RX12 2 2 45) (hr : sRt X (some .boolean) (sPi post)) (hw : w_X12_isAsked a1 I J post) : sG X 2 0 [(0, .ref 248), (1, .int a1)] [] I J := by
  unfold w_X12_isAsked at hw
  refine g_iload_n h rfl 1 rfl dX12_isAsked_0 ?_
  refine g_callS [.int a1] h (c_X12_isTongue X hw) sPi_v mw_X12_isTongue lk_X12_96 rfl ⟨by decide, by decide⟩ (Nat.le_of_ble_eq_true rfl) dX12_isAsked_1 (sPi_k (fun r_1 I_1 J_1 hw => ?_))
  refine g_if_eq (tgt := 18) h (by decide) dX12_isAsked_4 (fun q4 => ?_) (fun q4 => ?_)
  · replace hw := hw.1 q4
    refine g_iconst (v := 0) h (by decide) dX12_isAsked_18 ?_
    exact g_zret h hr (Or.inl rfl) dX12_isAsked_19 hw
  · replace hw := hw.2 q4
    refine g_aload_n h rfl 0 rfl dX12_isAsked_7 ?_
    refine g_get h is_248 fl_X12_76 rfl dX12_isAsked_8 ?_
    refine g_if_le (tgt := 18) h (by decide) dX12_isAsked_11 (fun q11 => ?_) (fun q11 => ?_)
    · replace hw := hw.1 q11
      refine g_iconst (v := 0) h (by decide) dX12_isAsked_18 ?_
      exact g_zret h hr (Or.inl rfl) dX12_isAsked_19 hw
    · replace hw := hw.2 q11
      refine g_iconst (v := 1) h (by decide) dX12_isAsked_14 ?_
      refine g_goto (tgt := 19) h (by decide) dX12_isAsked_15 ?_
      exact g_zret h hr (Or.inr rfl) dX12_isAsked_19 hw
theorem c_X12_isAsked (X : sX) {a1 : Int32} {I : sI} {J : sJ} {post : Int32 → sI → sJ → Prop} (hw : w_X12_isAsked a1 I J post) : sCall X yX12_isAsked cX12_isAsked 2 (some .boolean) 2 45 [.ref 248, .int a1] I J (sPi post) := sCall_of (by decide +kernel) (Nat.le_of_ble_eq_true rfl) (fun X h hr => t_X12_isAsked h hr hw)
theorem dX12_all_0 : decode cX12_all 0 = .ok (.aload_n 0, 1) := by decide +kernel
theorem dX12_all_1 : decode cX12_all 1 = .ok (.aload_n 0, 1) := by decide +kernel
theorem dX12_all_2 : decode cX12_all 2 = .ok (.getfield 76, 3) := by decide +kernel
theorem dX12_all_5 : decode cX12_all 5 = .ok (.invokevirtual 185, 3) := by decide +kernel
theorem dX12_all_8 : decode cX12_all 8 = .ok (.aload_n 0, 1) := by decide +kernel
theorem dX12_all_9 : decode cX12_all 9 = .ok (.iload_n 1, 1) := by decide +kernel
theorem dX12_all_10 : decode cX12_all 10 = .ok (.invokevirtual 189, 3) := by decide +kernel
theorem dX12_all_13 : decode cX12_all 13 = .ok (.istore_n 2, 1) := by decide +kernel
theorem dX12_all_14 : decode cX12_all 14 = .ok (.iload_n 2, 1) := by decide +kernel
theorem dX12_all_15 : decode cX12_all 15 = .ok (.ifCond .eq 7, 3) := by decide +kernel
theorem dX12_all_18 : decode cX12_all 18 = .ok (.aload_n 0, 1) := by decide +kernel
theorem dX12_all_19 : decode cX12_all 19 = .ok (.invokevirtual 192, 3) := by decide +kernel
theorem dX12_all_22 : decode cX12_all 22 = .ok (.iload_n 2, 1) := by decide +kernel
theorem dX12_all_23 : decode cX12_all 23 = .ok (.ireturn, 1) := by decide +kernel
def w_X12_all (a1 : Int32) (I : sI) (J : sJ) (post : Int32 → sI → sJ → Prop) : Prop :=
  w_X12_takesDisc (I 248 11) I J (fun (I_5 : sI) (J_5 : sJ) => (w_X12_searches a1 I_5 J_5 (fun (r_10 : Int32) (I_10 : sI) (J_10 : sJ) => (((r_10 = 0 → (sZ r_10 ∧ post r_10 I_10 J_10)) ∧ (¬ r_10 = 0 → w_X12_sorts I_10 J_10 (fun (I_19 : sI) (J_19 : sJ) => ((sZ r_10 ∧ post r_10 I_19 J_19)))))))))
set_option maxHeartbeats 4000000 in
set_option maxRecDepth 100000 in
theorem t_X12_all {X : sX} {a1 : Int32} {I : sI} {J : sJ} {post : Int32 → sI → sJ → Prop} (h : sOK X cX12_all RX12 3 4 114) (hr : sRt X (some .boolean) (sPi post)) (hw : w_X12_all a1 I J post) : sG X 3 0 [(0, .ref 248), (1, .int a1)] [] I J := by
  unfold w_X12_all at hw
  refine g_aload_n h rfl 0 rfl dX12_all_0 ?_
  refine g_aload_n h rfl 0 rfl dX12_all_1 ?_
  refine g_get h is_248 fl_X12_76 rfl dX12_all_2 ?_
  refine g_callV [.int (I 248 11)] h (c_X12_takesDisc X hw) sPv_v mw_X12_takesDisc lk_X12_185 is_248 rfl rfl ⟨by decide, by decide⟩ (Nat.le_of_ble_eq_true rfl) dX12_all_5 (sPv_k (fun I_5 J_5 hw => ?_))
  refine g_aload_n h rfl 0 rfl dX12_all_8 ?_
  refine g_iload_n h rfl 1 rfl dX12_all_9 ?_
  refine g_callV [.int a1] h (c_X12_searches X hw) sPi_v mw_X12_searches lk_X12_189 is_248 rfl rfl ⟨by decide, by decide⟩ (Nat.le_of_ble_eq_true rfl) dX12_all_10 (sPi_k (fun r_10 I_10 J_10 hw => ?_))
  refine g_istore_n (lo2 := [(2, .int r_10), (0, .ref 248), (1, .int a1)]) h rfl (by decide) rfl dX12_all_13 ?_
  refine g_iload_n h rfl 0 rfl dX12_all_14 ?_
  refine g_if_eq (tgt := 22) h (by decide) dX12_all_15 (fun q15 => ?_) (fun q15 => ?_)
  · replace hw := hw.1 q15
    refine g_iload_n h rfl 0 rfl dX12_all_22 ?_
    exact g_zret h hr hw.1 dX12_all_23 hw.2
  · replace hw := hw.2 q15
    refine g_aload_n h rfl 1 rfl dX12_all_18 ?_
    refine g_callV [] h (c_X12_sorts X hw) sPv_v mw_X12_sorts lk_X12_192 is_248 rfl rfl ⟨by decide, by decide⟩ (Nat.le_of_ble_eq_true rfl) dX12_all_19 (sPv_k (fun I_19 J_19 hw => ?_))
    refine g_iload_n h rfl 0 rfl dX12_all_22 ?_
    exact g_zret h hr hw.1 dX12_all_23 hw.2
theorem c_X12_all (X : sX) {a1 : Int32} {I : sI} {J : sJ} {post : Int32 → sI → sJ → Prop} (hw : w_X12_all a1 I J post) : sCall X yX12_all cX12_all 3 (some .boolean) 4 114 [.ref 248, .int a1] I J (sPi post) := sCall_of (by decide +kernel) (Nat.le_of_ble_eq_true rfl) (fun X h hr => t_X12_all h hr hw)
theorem dX12_entersReading_0 : decode cX12_entersReading 0 = .ok (.iconst 0, 1) := by decide +kernel
theorem dX12_entersReading_1 : decode cX12_entersReading 1 = .ok (.istore_n 3, 1) := by decide +kernel
theorem dX12_entersReading_2 : decode cX12_entersReading 2 = .ok (.iload_n 3, 1) := by decide +kernel
theorem dX12_entersReading_3 : decode cX12_entersReading 3 = .ok (.bipush 12, 2) := by decide +kernel
theorem dX12_entersReading_5 : decode cX12_entersReading 5 = .ok (.if_icmp .ge 19, 3) := by decide +kernel
theorem dX12_entersReading_8 : decode cX12_entersReading 8 = .ok (.aload_n 0, 1) := by decide +kernel
theorem dX12_entersReading_9 : decode cX12_entersReading 9 = .ok (.lload_n 1, 1) := by decide +kernel
theorem dX12_entersReading_10 : decode cX12_entersReading 10 = .ok (.iload_n 3, 1) := by decide +kernel
theorem dX12_entersReading_11 : decode cX12_entersReading 11 = .ok (.invokestatic 138, 3) := by decide +kernel
theorem dX12_entersReading_14 : decode cX12_entersReading 14 = .ok (.i2l, 1) := by decide +kernel
theorem dX12_entersReading_15 : decode cX12_entersReading 15 = .ok (.invokevirtual 18, 3) := by decide +kernel
theorem dX12_entersReading_18 : decode cX12_entersReading 18 = .ok (.iinc 3 1, 3) := by decide +kernel
theorem dX12_entersReading_21 : decode cX12_entersReading 21 = .ok (.goto (-19), 3) := by decide +kernel
theorem dX12_entersReading_24 : decode cX12_entersReading 24 = .ok (.return_, 1) := by decide +kernel
def w_X12_entersReading_2_s (post : sI → sJ → Prop) (k2 : Int64 → Int32 → sI → sJ → Prop) (x1 : Int64) (x3 : Int32) (I : sI) (J : sJ) : Prop :=
  ((12 ≤ x3 → post I J) ∧ (¬ 12 ≤ x3 → w_X12_letterOf x1 x3 I J (fun (r_11 : Int32) (I_11 : sI) (J_11 : sJ) => (w_X12_enters (Int32.toInt64 r_11) I_11 J_11 (fun (I_15 : sI) (J_15 : sJ) => ((∀ v3_18 : Int32, v3_18 = x3 + 1 → k2 x1 v3_18 I_15 J_15)))))))
def w_X12_entersReading_2_n (post : sI → sJ → Prop) : Nat → Int64 → Int32 → sI → sJ → Prop
  | 0 => fun _ _ _ _ => False
  | n + 1 => fun x1 x3 I J => w_X12_entersReading_2_s post (w_X12_entersReading_2_n post n) x1 x3 I J
def w_X12_entersReading_2 (post : sI → sJ → Prop) (x1 : Int64) (x3 : Int32) (I : sI) (J : sJ) : Prop := ∃ n, w_X12_entersReading_2_n post n x1 x3 I J
set_option maxHeartbeats 4000000 in
set_option maxRecDepth 100000 in
theorem t_X12_entersReading_2_s {X : sX} {post : sI → sJ → Prop} (h : sOK X cX12_entersReading RX12 4 1 22) (hr : sRt X none (sPv post)) {k2 : Int64 → Int32 → sI → sJ → Prop} (hk2 : ∀ (x1 : Int64) (x3 : Int32) (I : sI) (J : sJ), k2 x1 x3 I J → sG X 4 2 [(0, .ref 248), (1, .long x1), (3, .int x3)] [] I J) {x1 : Int64} {x3 : Int32} {I : sI} {J : sJ} (hw : w_X12_entersReading_2_s post k2 x1 x3 I J) : sG X 4 2 [(0, .ref 248), (1, .long x1), (3, .int x3)] [] I J := by
  unfold w_X12_entersReading_2_s at hw
  refine g_iload_n h rfl 2 rfl dX12_entersReading_2 ?_
  refine g_bipush (v := 12) h (by decide) dX12_entersReading_3 ?_
  refine g_icmp_ge (tgt := 24) h (by decide) dX12_entersReading_5 (fun q5 => ?_) (fun q5 => ?_)
  · replace hw := hw.1 q5
    exact g_vret h hr dX12_entersReading_24 hw
  · replace hw := hw.2 q5
    refine g_aload_n h rfl 0 rfl dX12_entersReading_8 ?_
    refine g_lload_n h rfl 1 rfl dX12_entersReading_9 ?_
    refine g_iload_n h rfl 2 rfl dX12_entersReading_10 ?_
    refine g_callS [.long x1, .int x3] h (c_X12_letterOf X hw) sPi_v mw_X12_letterOf lk_X12_138 rfl ⟨by decide, by decide⟩ (Nat.le_of_ble_eq_true rfl) dX12_entersReading_11 (sPi_k (fun r_11 I_11 J_11 hw => ?_))
    refine g_i2l h dX12_entersReading_14 ?_
    refine g_callV [.long (Int32.toInt64 r_11)] h (c_X12_enters X hw) sPv_v mw_X12_enters lk_X12_18 is_248 rfl rfl ⟨by decide, by decide⟩ (Nat.le_of_ble_eq_true rfl) dX12_entersReading_15 (sPv_k (fun I_15 J_15 hw => ?_))
    obtain ⟨v3_18, ev3_18⟩ : ∃ z : Int32, z = x3 + 1 := ⟨_, rfl⟩
    replace hw := hw v3_18 ev3_18
    refine g_iinc (v := v3_18) (lo2 := [(3, .int v3_18), (0, .ref 248), (1, .long x1)]) h 2 rfl (by rw [ev3_18]; rfl) (by decide) rfl dX12_entersReading_18 ?_
    refine g_goto (tgt := 2) h (by decide) dX12_entersReading_21 ?_
    exact g_sub [1, 2, 0] rfl (hk2 _ _ _ _ hw)
theorem t_X12_entersReading_2 {X : sX} {post : sI → sJ → Prop} (h : sOK X cX12_entersReading RX12 4 1 22) (hr : sRt X none (sPv post)) {x1 : Int64} {x3 : Int32} {I : sI} {J : sJ} (hw : w_X12_entersReading_2 post x1 x3 I J) : sG X 4 2 [(0, .ref 248), (1, .long x1), (3, .int x3)] [] I J := by
  obtain ⟨n, hw⟩ := hw
  induction n generalizing x1 x3 I J with
  | zero => exact hw.elim
  | succ n ih => exact t_X12_entersReading_2_s h hr (fun _ _ _ _ q => ih q) hw
def w_X12_entersReading (a1 : Int64) (I : sI) (J : sJ) (post : sI → sJ → Prop) : Prop :=
  w_X12_entersReading_2 post a1 0 I J
set_option maxHeartbeats 4000000 in
set_option maxRecDepth 100000 in
theorem t_X12_entersReading {X : sX} {a1 : Int64} {I : sI} {J : sJ} {post : sI → sJ → Prop} (h : sOK X cX12_entersReading RX12 4 1 22) (hr : sRt X none (sPv post)) (hw : w_X12_entersReading a1 I J post) : sG X 4 0 [(0, .ref 248), (1, .long a1)] [] I J := by
  unfold w_X12_entersReading at hw
  refine g_iconst (v := 0) h (by decide) dX12_entersReading_0 ?_
  refine g_istore_n (lo2 := [(3, .int 0), (0, .ref 248), (1, .long a1)]) h rfl (by decide) rfl dX12_entersReading_1 ?_
  exact g_sub [1, 2, 0] rfl (t_X12_entersReading_2 h hr hw)
theorem c_X12_entersReading (X : sX) {a1 : Int64} {I : sI} {J : sJ} {post : sI → sJ → Prop} (hw : w_X12_entersReading a1 I J post) : sCall X yX12_entersReading cX12_entersReading 4 none 1 22 [.ref 248, .long a1] I J (sPv post) := sCall_of (by decide +kernel) (Nat.le_of_ble_eq_true rfl) (fun X h hr => t_X12_entersReading h hr hw)
theorem dX12_readings_0 : decode cX12_readings 0 = .ok (.aload_n 0, 1) := by decide +kernel
theorem dX12_readings_1 : decode cX12_readings 1 = .ok (.iconst 0, 1) := by decide +kernel
theorem dX12_readings_2 : decode cX12_readings 2 = .ok (.putfield 1, 3) := by decide +kernel
theorem dX12_readings_5 : decode cX12_readings 5 = .ok (.aload_n 0, 1) := by decide +kernel
theorem dX12_readings_6 : decode cX12_readings 6 = .ok (.iload_n 1, 1) := by decide +kernel
theorem dX12_readings_7 : decode cX12_readings 7 = .ok (.invokevirtual 196, 3) := by decide +kernel
theorem dX12_readings_10 : decode cX12_readings 10 = .ok (.ifCond .ne 5, 3) := by decide +kernel
theorem dX12_readings_13 : decode cX12_readings 13 = .ok (.iconst (-1), 1) := by decide +kernel
theorem dX12_readings_14 : decode cX12_readings 14 = .ok (.ireturn, 1) := by decide +kernel
theorem dX12_readings_15 : decode cX12_readings 15 = .ok (.aload_n 0, 1) := by decide +kernel
theorem dX12_readings_16 : decode cX12_readings 16 = .ok (.iload_n 1, 1) := by decide +kernel
theorem dX12_readings_17 : decode cX12_readings 17 = .ok (.invokevirtual 199, 3) := by decide +kernel
theorem dX12_readings_20 : decode cX12_readings 20 = .ok (.istore_n 2, 1) := by decide +kernel
theorem dX12_readings_21 : decode cX12_readings 21 = .ok (.aload_n 0, 1) := by decide +kernel
theorem dX12_readings_22 : decode cX12_readings 22 = .ok (.aload_n 0, 1) := by decide +kernel
theorem dX12_readings_23 : decode cX12_readings 23 = .ok (.getfield 148, 3) := by decide +kernel
theorem dX12_readings_26 : decode cX12_readings 26 = .ok (.putfield 202, 3) := by decide +kernel
theorem dX12_readings_29 : decode cX12_readings 29 = .ok (.iload_n 2, 1) := by decide +kernel
theorem dX12_readings_30 : decode cX12_readings 30 = .ok (.ifCond .ne 6, 3) := by decide +kernel
theorem dX12_readings_33 : decode cX12_readings 33 = .ok (.bipush (-3), 2) := by decide +kernel
theorem dX12_readings_35 : decode cX12_readings 35 = .ok (.ireturn, 1) := by decide +kernel
theorem dX12_readings_36 : decode cX12_readings 36 = .ok (.aload_n 0, 1) := by decide +kernel
theorem dX12_readings_37 : decode cX12_readings 37 = .ok (.iconst 0, 1) := by decide +kernel
theorem dX12_readings_38 : decode cX12_readings 38 = .ok (.putfield 11, 3) := by decide +kernel
theorem dX12_readings_41 : decode cX12_readings 41 = .ok (.aload_n 0, 1) := by decide +kernel
theorem dX12_readings_42 : decode cX12_readings 42 = .ok (.getfield 175, 3) := by decide +kernel
theorem dX12_readings_45 : decode cX12_readings 45 = .ok (.ifCond .le 13, 3) := by decide +kernel
theorem dX12_readings_48 : decode cX12_readings 48 = .ok (.aload_n 0, 1) := by decide +kernel
theorem dX12_readings_49 : decode cX12_readings 49 = .ok (.aload_n 0, 1) := by decide +kernel
theorem dX12_readings_50 : decode cX12_readings 50 = .ok (.getfield 178, 3) := by decide +kernel
theorem dX12_readings_53 : decode cX12_readings 53 = .ok (.iconst 0, 1) := by decide +kernel
theorem dX12_readings_54 : decode cX12_readings 54 = .ok (.laload, 1) := by decide +kernel
theorem dX12_readings_55 : decode cX12_readings 55 = .ok (.invokevirtual 205, 3) := by decide +kernel
theorem dX12_readings_58 : decode cX12_readings 58 = .ok (.aload_n 0, 1) := by decide +kernel
theorem dX12_readings_59 : decode cX12_readings 59 = .ok (.getfield 175, 3) := by decide +kernel
theorem dX12_readings_62 : decode cX12_readings 62 = .ok (.ireturn, 1) := by decide +kernel
def w_X12_readings_58 (post : Int32 → sI → sJ → Prop) (I : sI) (J : sJ) : Prop :=
  post (I 248 32) I J
set_option maxHeartbeats 4000000 in
set_option maxRecDepth 100000 in
theorem t_X12_readings_58 {X : sX} {post : Int32 → sI → sJ → Prop} (h : sOK X cX12_readings RX12 3 5 136) (hr : sRt X (some .int) (sPi post)) {I : sI} {J : sJ} (hw : w_X12_readings_58 post I J) : sG X 3 58 [(0, .ref 248)] [] I J := by
  unfold w_X12_readings_58 at hw
  refine g_aload_n h rfl 0 rfl dX12_readings_58 ?_
  refine g_get h is_248 fl_X12_175 rfl dX12_readings_59 ?_
  exact g_iret h hr dX12_readings_62 hw
def w_X12_readings (a1 : Int32) (I : sI) (J : sJ) (post : Int32 → sI → sJ → Prop) : Prop :=
  (∀ I_2 : sI, I_2 = sUI I 248 0 0 → w_X12_isAsked a1 I_2 J (fun (r_7 : Int32) (I_7 : sI) (J_7 : sJ) => (((¬ r_7 = 0 → w_X12_all a1 I_7 J_7 (fun (r_17 : Int32) (I_17 : sI) (J_17 : sJ) => ((∀ I_26 : sI, I_26 = sUI I_17 248 33 (I_17 248 30) → ((¬ r_17 = 0 → (∀ I_38 : sI, I_38 = sUI I_26 248 1 0 → (((I_38 248 32) ≤ 0 → w_X12_readings_58 post I_38 J_17) ∧ (¬ (I_38 248 32) ≤ 0 → (vp_in 0 20000 ∧ w_X12_entersReading (J_17 265 (Int32.toNatClampNeg 0)) I_38 J_17 (fun (I_55 : sI) (J_55 : sJ) => (w_X12_readings_58 post I_55 J_55))))))) ∧ (r_17 = 0 → post (-3) I_26 J_17)))))) ∧ (r_7 = 0 → post (-1) I_7 J_7)))))
set_option maxHeartbeats 4000000 in
set_option maxRecDepth 100000 in
theorem t_X12_readings {X : sX} {a1 : Int32} {I : sI} {J : sJ} {post : Int32 → sI → sJ → Prop} (h : sOK X cX12_readings RX12 3 5 136) (hr : sRt X (some .int) (sPi post)) (hw : w_X12_readings a1 I J post) : sG X 3 0 [(0, .ref 248), (1, .int a1)] [] I J := by
  unfold w_X12_readings at hw
  refine g_aload_n h rfl 0 rfl dX12_readings_0 ?_
  refine g_iconst (v := 0) h (by decide) dX12_readings_1 ?_
  refine g_putI h is_248 fl_X12_1 rfl rfl dX12_readings_2 ?_
  refine g_nI (fun I_2 eI_2 => ?_)
  replace hw := hw I_2 eI_2
  refine g_aload_n h rfl 0 rfl dX12_readings_5 ?_
  refine g_iload_n h rfl 1 rfl dX12_readings_6 ?_
  refine g_callV [.int a1] h (c_X12_isAsked X hw) sPi_v mw_X12_isAsked lk_X12_196 is_248 rfl rfl ⟨by decide, by decide⟩ (Nat.le_of_ble_eq_true rfl) dX12_readings_7 (sPi_k (fun r_7 I_7 J_7 hw => ?_))
  refine g_if_ne (tgt := 15) h (by decide) dX12_readings_10 (fun q10 => ?_) (fun q10 => ?_)
  · replace hw := hw.1 q10
    refine g_aload_n h rfl 0 rfl dX12_readings_15 ?_
    refine g_iload_n h rfl 1 rfl dX12_readings_16 ?_
    refine g_callV [.int a1] h (c_X12_all X hw) sPi_v mw_X12_all lk_X12_199 is_248 rfl rfl ⟨by decide, by decide⟩ (Nat.le_of_ble_eq_true rfl) dX12_readings_17 (sPi_k (fun r_17 I_17 J_17 hw => ?_))
    refine g_istore_n (lo2 := [(2, .int r_17), (0, .ref 248), (1, .int a1)]) h rfl (by decide) rfl dX12_readings_20 ?_
    refine g_aload_n h rfl 1 rfl dX12_readings_21 ?_
    refine g_aload_n h rfl 1 rfl dX12_readings_22 ?_
    refine g_get h is_248 fl_X12_148 rfl dX12_readings_23 ?_
    refine g_putI h is_248 fl_X12_202 rfl rfl dX12_readings_26 ?_
    refine g_nI (fun I_26 eI_26 => ?_)
    replace hw := hw I_26 eI_26
    refine g_iload_n h rfl 0 rfl dX12_readings_29 ?_
    refine g_if_ne (tgt := 36) h (by decide) dX12_readings_30 (fun q30 => ?_) (fun q30 => ?_)
    · replace hw := hw.1 q30
      refine g_aload_n h rfl 1 rfl dX12_readings_36 ?_
      refine g_iconst (v := 0) h (by decide) dX12_readings_37 ?_
      refine g_putI h is_248 fl_X12_11 rfl rfl dX12_readings_38 ?_
      refine g_nI (fun I_38 eI_38 => ?_)
      replace hw := hw I_38 eI_38
      refine g_aload_n h rfl 1 rfl dX12_readings_41 ?_
      refine g_get h is_248 fl_X12_175 rfl dX12_readings_42 ?_
      refine g_if_le (tgt := 58) h (by decide) dX12_readings_45 (fun q45 => ?_) (fun q45 => ?_)
      · replace hw := hw.1 q45
        exact g_sub [1] rfl (t_X12_readings_58 h hr hw)
      · replace hw := hw.2 q45
        refine g_aload_n h rfl 1 rfl dX12_readings_48 ?_
        refine g_aload_n h rfl 1 rfl dX12_readings_49 ?_
        refine g_get h is_248 fl_X12_178 fr_248_31 dX12_readings_50 ?_
        refine g_iconst (v := 0) h (by decide) dX12_readings_53 ?_
        obtain ⟨hi54, hw⟩ := hw
        refine g_lald h ar_265 hi54 dX12_readings_54 ?_
        refine g_callV [.long (J_17 265 (Int32.toNatClampNeg 0))] h (c_X12_entersReading X hw) sPv_v mw_X12_entersReading lk_X12_205 is_248 rfl rfl ⟨by decide, by decide⟩ (Nat.le_of_ble_eq_true rfl) dX12_readings_55 (sPv_k (fun I_55 J_55 hw => ?_))
        exact g_sub [1] rfl (t_X12_readings_58 h hr hw)
    · replace hw := hw.2 q30
      refine g_bipush (v := (-3)) h (by decide) dX12_readings_33 ?_
      exact g_iret h hr dX12_readings_35 hw
  · replace hw := hw.2 q10
    refine g_iconst (v := (-1)) h (by decide) dX12_readings_13 ?_
    exact g_iret h hr dX12_readings_14 hw
theorem c_X12_readings (X : sX) {a1 : Int32} {I : sI} {J : sJ} {post : Int32 → sI → sJ → Prop} (hw : w_X12_readings a1 I J post) : sCall X yX12_readings cX12_readings 3 (some .int) 5 136 [.ref 248, .int a1] I J (sPi post) := sCall_of (by decide +kernel) (Nat.le_of_ble_eq_true rfl) (fun X h hr => t_X12_readings h hr hw)
theorem dX12_reading_0 : decode cX12_reading 0 = .ok (.aload_n 0, 1) := by decide +kernel
theorem dX12_reading_1 : decode cX12_reading 1 = .ok (.iconst 0, 1) := by decide +kernel
theorem dX12_reading_2 : decode cX12_reading 2 = .ok (.putfield 1, 3) := by decide +kernel
theorem dX12_reading_5 : decode cX12_reading 5 = .ok (.aload_n 0, 1) := by decide +kernel
theorem dX12_reading_6 : decode cX12_reading 6 = .ok (.iload_n 1, 1) := by decide +kernel
theorem dX12_reading_7 : decode cX12_reading 7 = .ok (.invokevirtual 196, 3) := by decide +kernel
theorem dX12_reading_10 : decode cX12_reading 10 = .ok (.ifCond .eq 15, 3) := by decide +kernel
theorem dX12_reading_13 : decode cX12_reading 13 = .ok (.iload_n 2, 1) := by decide +kernel
theorem dX12_reading_14 : decode cX12_reading 14 = .ok (.i2l, 1) := by decide +kernel
theorem dX12_reading_15 : decode cX12_reading 15 = .ok (.lconst 0, 1) := by decide +kernel
theorem dX12_reading_16 : decode cX12_reading 16 = .ok (.ldc2_w 208, 3) := by decide +kernel
theorem dX12_reading_19 : decode cX12_reading 19 = .ok (.invokestatic 29, 3) := by decide +kernel
theorem dX12_reading_22 : decode cX12_reading 22 = .ok (.ifCond .ne 5, 3) := by decide +kernel
theorem dX12_reading_25 : decode cX12_reading 25 = .ok (.iconst (-1), 1) := by decide +kernel
theorem dX12_reading_26 : decode cX12_reading 26 = .ok (.ireturn, 1) := by decide +kernel
theorem dX12_reading_27 : decode cX12_reading 27 = .ok (.aload_n 0, 1) := by decide +kernel
theorem dX12_reading_28 : decode cX12_reading 28 = .ok (.iload_n 1, 1) := by decide +kernel
theorem dX12_reading_29 : decode cX12_reading 29 = .ok (.invokevirtual 199, 3) := by decide +kernel
theorem dX12_reading_32 : decode cX12_reading 32 = .ok (.ifCond .ne 6, 3) := by decide +kernel
theorem dX12_reading_35 : decode cX12_reading 35 = .ok (.bipush (-3), 2) := by decide +kernel
theorem dX12_reading_37 : decode cX12_reading 37 = .ok (.ireturn, 1) := by decide +kernel
theorem dX12_reading_38 : decode cX12_reading 38 = .ok (.iload_n 2, 1) := by decide +kernel
theorem dX12_reading_39 : decode cX12_reading 39 = .ok (.aload_n 0, 1) := by decide +kernel
theorem dX12_reading_40 : decode cX12_reading 40 = .ok (.getfield 175, 3) := by decide +kernel
theorem dX12_reading_43 : decode cX12_reading 43 = .ok (.if_icmp .lt 6, 3) := by decide +kernel
theorem dX12_reading_46 : decode cX12_reading 46 = .ok (.bipush (-2), 2) := by decide +kernel
theorem dX12_reading_48 : decode cX12_reading 48 = .ok (.ireturn, 1) := by decide +kernel
theorem dX12_reading_49 : decode cX12_reading 49 = .ok (.aload_n 0, 1) := by decide +kernel
theorem dX12_reading_50 : decode cX12_reading 50 = .ok (.iconst 0, 1) := by decide +kernel
theorem dX12_reading_51 : decode cX12_reading 51 = .ok (.putfield 11, 3) := by decide +kernel
theorem dX12_reading_54 : decode cX12_reading 54 = .ok (.aload_n 0, 1) := by decide +kernel
theorem dX12_reading_55 : decode cX12_reading 55 = .ok (.aload_n 0, 1) := by decide +kernel
theorem dX12_reading_56 : decode cX12_reading 56 = .ok (.getfield 178, 3) := by decide +kernel
theorem dX12_reading_59 : decode cX12_reading 59 = .ok (.iload_n 2, 1) := by decide +kernel
theorem dX12_reading_60 : decode cX12_reading 60 = .ok (.laload, 1) := by decide +kernel
theorem dX12_reading_61 : decode cX12_reading 61 = .ok (.invokevirtual 205, 3) := by decide +kernel
theorem dX12_reading_64 : decode cX12_reading 64 = .ok (.iconst 0, 1) := by decide +kernel
theorem dX12_reading_65 : decode cX12_reading 65 = .ok (.ireturn, 1) := by decide +kernel
def w_X12_reading (a1 : Int32) (a2 : Int32) (I : sI) (J : sJ) (post : Int32 → sI → sJ → Prop) : Prop :=
  (∀ I_2 : sI, I_2 = sUI I 248 0 0 → w_X12_isAsked a1 I_2 J (fun (r_7 : Int32) (I_7 : sI) (J_7 : sJ) => (((r_7 = 0 → post (-1) I_7 J_7) ∧ (¬ r_7 = 0 → w_X12_in (Int32.toInt64 a2) 0 199 I_7 J_7 (fun (r_19 : Int32) (I_19 : sI) (J_19 : sJ) => (((¬ r_19 = 0 → w_X12_all a1 I_19 J_19 (fun (r_29 : Int32) (I_29 : sI) (J_29 : sJ) => (((¬ r_29 = 0 → ((a2 < (I_29 248 32) → (∀ I_51 : sI, I_51 = sUI I_29 248 1 0 → (vp_in a2 20000 ∧ w_X12_entersReading (J_29 265 (Int32.toNatClampNeg a2)) I_51 J_29 (fun (I_61 : sI) (J_61 : sJ) => (post 0 I_61 J_61))))) ∧ (¬ a2 < (I_29 248 32) → post (-2) I_29 J_29))) ∧ (r_29 = 0 → post (-3) I_29 J_29))))) ∧ (r_19 = 0 → post (-1) I_19 J_19)))))))))
set_option maxHeartbeats 4000000 in
set_option maxRecDepth 100000 in
theorem t_X12_reading {X : sX} {a1 : Int32} {a2 : Int32} {I : sI} {J : sJ} {post : Int32 → sI → sJ → Prop} (h : sOK X cX12_reading RX12 3 5 136) (hr : sRt X (some .int) (sPi post)) (hw : w_X12_reading a1 a2 I J post) : sG X 3 0 [(0, .ref 248), (1, .int a1), (2, .int a2)] [] I J := by
  unfold w_X12_reading at hw
  refine g_aload_n h rfl 0 rfl dX12_reading_0 ?_
  refine g_iconst (v := 0) h (by decide) dX12_reading_1 ?_
  refine g_putI h is_248 fl_X12_1 rfl rfl dX12_reading_2 ?_
  refine g_nI (fun I_2 eI_2 => ?_)
  replace hw := hw I_2 eI_2
  refine g_aload_n h rfl 0 rfl dX12_reading_5 ?_
  refine g_iload_n h rfl 1 rfl dX12_reading_6 ?_
  refine g_callV [.int a1] h (c_X12_isAsked X hw) sPi_v mw_X12_isAsked lk_X12_196 is_248 rfl rfl ⟨by decide, by decide⟩ (Nat.le_of_ble_eq_true rfl) dX12_reading_7 (sPi_k (fun r_7 I_7 J_7 hw => ?_))
  refine g_if_eq (tgt := 25) h (by decide) dX12_reading_10 (fun q10 => ?_) (fun q10 => ?_)
  · replace hw := hw.1 q10
    refine g_iconst (v := (-1)) h (by decide) dX12_reading_25 ?_
    exact g_iret h hr dX12_reading_26 hw
  · replace hw := hw.2 q10
    refine g_iload_n h rfl 2 rfl dX12_reading_13 ?_
    refine g_i2l h dX12_reading_14 ?_
    refine g_lconst (v := 0) h (by decide) dX12_reading_15 ?_
    refine g_ldc2 h lc_X12_208 dX12_reading_16 ?_
    refine g_callS [.long (Int32.toInt64 a2), .long 0, .long 199] h (c_X12_in X hw) sPi_v mw_X12_in lk_X12_29 rfl ⟨by decide, by decide⟩ (Nat.le_of_ble_eq_true rfl) dX12_reading_19 (sPi_k (fun r_19 I_19 J_19 hw => ?_))
    refine g_if_ne (tgt := 27) h (by decide) dX12_reading_22 (fun q22 => ?_) (fun q22 => ?_)
    · replace hw := hw.1 q22
      refine g_aload_n h rfl 0 rfl dX12_reading_27 ?_
      refine g_iload_n h rfl 1 rfl dX12_reading_28 ?_
      refine g_callV [.int a1] h (c_X12_all X hw) sPi_v mw_X12_all lk_X12_199 is_248 rfl rfl ⟨by decide, by decide⟩ (Nat.le_of_ble_eq_true rfl) dX12_reading_29 (sPi_k (fun r_29 I_29 J_29 hw => ?_))
      refine g_if_ne (tgt := 38) h (by decide) dX12_reading_32 (fun q32 => ?_) (fun q32 => ?_)
      · replace hw := hw.1 q32
        refine g_iload_n h rfl 2 rfl dX12_reading_38 ?_
        refine g_aload_n h rfl 0 rfl dX12_reading_39 ?_
        refine g_get h is_248 fl_X12_175 rfl dX12_reading_40 ?_
        refine g_icmp_lt (tgt := 49) h (by decide) dX12_reading_43 (fun q43 => ?_) (fun q43 => ?_)
        · replace hw := hw.1 q43
          refine g_aload_n h rfl 0 rfl dX12_reading_49 ?_
          refine g_iconst (v := 0) h (by decide) dX12_reading_50 ?_
          refine g_putI h is_248 fl_X12_11 rfl rfl dX12_reading_51 ?_
          refine g_nI (fun I_51 eI_51 => ?_)
          replace hw := hw I_51 eI_51
          refine g_aload_n h rfl 0 rfl dX12_reading_54 ?_
          refine g_aload_n h rfl 0 rfl dX12_reading_55 ?_
          refine g_get h is_248 fl_X12_178 fr_248_31 dX12_reading_56 ?_
          refine g_iload_n h rfl 2 rfl dX12_reading_59 ?_
          obtain ⟨hi60, hw⟩ := hw
          refine g_lald h ar_265 hi60 dX12_reading_60 ?_
          refine g_callV [.long (J_29 265 (Int32.toNatClampNeg a2))] h (c_X12_entersReading X hw) sPv_v mw_X12_entersReading lk_X12_205 is_248 rfl rfl ⟨by decide, by decide⟩ (Nat.le_of_ble_eq_true rfl) dX12_reading_61 (sPv_k (fun I_61 J_61 hw => ?_))
          refine g_iconst (v := 0) h (by decide) dX12_reading_64 ?_
          exact g_iret h hr dX12_reading_65 hw
        · replace hw := hw.2 q43
          refine g_bipush (v := (-2)) h (by decide) dX12_reading_46 ?_
          exact g_iret h hr dX12_reading_48 hw
      · replace hw := hw.2 q32
        refine g_bipush (v := (-3)) h (by decide) dX12_reading_35 ?_
        exact g_iret h hr dX12_reading_37 hw
    · replace hw := hw.2 q22
      refine g_iconst (v := (-1)) h (by decide) dX12_reading_25 ?_
      exact g_iret h hr dX12_reading_26 hw
theorem c_X12_reading (X : sX) {a1 : Int32} {a2 : Int32} {I : sI} {J : sJ} {post : Int32 → sI → sJ → Prop} (hw : w_X12_reading a1 a2 I J post) : sCall X yX12_reading cX12_reading 3 (some .int) 5 136 [.ref 248, .int a1, .int a2] I J (sPi post) := sCall_of (by decide +kernel) (Nat.le_of_ble_eq_true rfl) (fun X h hr => t_X12_reading h hr hw)
theorem dX12_hasKind_0 : decode cX12_hasKind 0 = .ok (.iconst 0, 1) := by decide +kernel
theorem dX12_hasKind_1 : decode cX12_hasKind 1 = .ok (.istore_n 2, 1) := by decide +kernel
theorem dX12_hasKind_2 : decode cX12_hasKind 2 = .ok (.iconst 0, 1) := by decide +kernel
theorem dX12_hasKind_3 : decode cX12_hasKind 3 = .ok (.istore_n 3, 1) := by decide +kernel
theorem dX12_hasKind_4 : decode cX12_hasKind 4 = .ok (.iload_n 3, 1) := by decide +kernel
theorem dX12_hasKind_5 : decode cX12_hasKind 5 = .ok (.aload_n 0, 1) := by decide +kernel
theorem dX12_hasKind_6 : decode cX12_hasKind 6 = .ok (.getfield 79, 3) := by decide +kernel
theorem dX12_hasKind_9 : decode cX12_hasKind 9 = .ok (.if_icmp .ge 29, 3) := by decide +kernel
theorem dX12_hasKind_12 : decode cX12_hasKind 12 = .ok (.iload_n 2, 1) := by decide +kernel
theorem dX12_hasKind_13 : decode cX12_hasKind 13 = .ok (.ifCond .ne 13, 3) := by decide +kernel
theorem dX12_hasKind_16 : decode cX12_hasKind 16 = .ok (.aload_n 0, 1) := by decide +kernel
theorem dX12_hasKind_17 : decode cX12_hasKind 17 = .ok (.getfield 85, 3) := by decide +kernel
theorem dX12_hasKind_20 : decode cX12_hasKind 20 = .ok (.iload_n 3, 1) := by decide +kernel
theorem dX12_hasKind_21 : decode cX12_hasKind 21 = .ok (.iaload, 1) := by decide +kernel
theorem dX12_hasKind_22 : decode cX12_hasKind 22 = .ok (.iload_n 1, 1) := by decide +kernel
theorem dX12_hasKind_23 : decode cX12_hasKind 23 = .ok (.if_icmp .ne 7, 3) := by decide +kernel
theorem dX12_hasKind_26 : decode cX12_hasKind 26 = .ok (.iconst 1, 1) := by decide +kernel
theorem dX12_hasKind_27 : decode cX12_hasKind 27 = .ok (.goto 4, 3) := by decide +kernel
theorem dX12_hasKind_30 : decode cX12_hasKind 30 = .ok (.iconst 0, 1) := by decide +kernel
theorem dX12_hasKind_31 : decode cX12_hasKind 31 = .ok (.istore_n 2, 1) := by decide +kernel
theorem dX12_hasKind_32 : decode cX12_hasKind 32 = .ok (.iinc 3 1, 3) := by decide +kernel
theorem dX12_hasKind_35 : decode cX12_hasKind 35 = .ok (.goto (-31), 3) := by decide +kernel
theorem dX12_hasKind_38 : decode cX12_hasKind 38 = .ok (.iload_n 2, 1) := by decide +kernel
theorem dX12_hasKind_39 : decode cX12_hasKind 39 = .ok (.ireturn, 1) := by decide +kernel
def w_X12_hasKind_31 (post : Int32 → sI → sJ → Prop) (k4 : Int32 → Int32 → Int32 → sI → sJ → Prop) (x1 : Int32) (x3 : Int32) (s0 : Int32) (I : sI) (J : sJ) : Prop :=
  (∀ v3_32 : Int32, v3_32 = x3 + 1 → k4 x1 s0 v3_32 I J)
set_option maxHeartbeats 4000000 in
set_option maxRecDepth 100000 in
theorem t_X12_hasKind_31 {X : sX} {post : Int32 → sI → sJ → Prop} (h : sOK X cX12_hasKind RX12 4 0 0) (hr : sRt X (some .boolean) (sPi post)) {k4 : Int32 → Int32 → Int32 → sI → sJ → Prop} (hk4 : ∀ (x1 : Int32) (x2 : Int32) (x3 : Int32) (I : sI) (J : sJ), k4 x1 x2 x3 I J → sG X 4 4 [(0, .ref 248), (1, .int x1), (2, .int x2), (3, .int x3)] [] I J) {x1 : Int32} {x3 : Int32} {s0 : Int32} {I : sI} {J : sJ} (hw : w_X12_hasKind_31 post k4 x1 x3 s0 I J) : sG X 4 31 [(0, .ref 248), (1, .int x1), (3, .int x3)] [.int s0] I J := by
  unfold w_X12_hasKind_31 at hw
  refine g_istore_n (lo2 := [(2, .int s0), (0, .ref 248), (1, .int x1), (3, .int x3)]) h rfl (by decide) rfl dX12_hasKind_31 ?_
  obtain ⟨v3_32, ev3_32⟩ : ∃ z : Int32, z = x3 + 1 := ⟨_, rfl⟩
  replace hw := hw v3_32 ev3_32
  refine g_iinc (v := v3_32) (lo2 := [(3, .int v3_32), (2, .int s0), (0, .ref 248), (1, .int x1)]) h 3 rfl (by rw [ev3_32]; rfl) (by decide) rfl dX12_hasKind_32 ?_
  refine g_goto (tgt := 4) h (by decide) dX12_hasKind_35 ?_
  exact g_sub [2, 3, 1, 0] rfl (hk4 _ _ _ _ _ hw)
def w_X12_hasKind_26 (post : Int32 → sI → sJ → Prop) (k4 : Int32 → Int32 → Int32 → sI → sJ → Prop) (x1 : Int32) (x3 : Int32) (I : sI) (J : sJ) : Prop :=
  w_X12_hasKind_31 post k4 x1 x3 1 I J
set_option maxHeartbeats 4000000 in
set_option maxRecDepth 100000 in
theorem t_X12_hasKind_26 {X : sX} {post : Int32 → sI → sJ → Prop} (h : sOK X cX12_hasKind RX12 4 0 0) (hr : sRt X (some .boolean) (sPi post)) {k4 : Int32 → Int32 → Int32 → sI → sJ → Prop} (hk4 : ∀ (x1 : Int32) (x2 : Int32) (x3 : Int32) (I : sI) (J : sJ), k4 x1 x2 x3 I J → sG X 4 4 [(0, .ref 248), (1, .int x1), (2, .int x2), (3, .int x3)] [] I J) {x1 : Int32} {x3 : Int32} {I : sI} {J : sJ} (hw : w_X12_hasKind_26 post k4 x1 x3 I J) : sG X 4 26 [(0, .ref 248), (1, .int x1), (3, .int x3)] [] I J := by
  unfold w_X12_hasKind_26 at hw
  refine g_iconst (v := 1) h (by decide) dX12_hasKind_26 ?_
  refine g_goto (tgt := 31) h (by decide) dX12_hasKind_27 ?_
  exact g_sub [0, 1, 2] rfl (t_X12_hasKind_31 h hr hk4 hw)
def w_X12_hasKind_4_s (post : Int32 → sI → sJ → Prop) (k4 : Int32 → Int32 → Int32 → sI → sJ → Prop) (x1 : Int32) (x2 : Int32) (x3 : Int32) (I : sI) (J : sJ) : Prop :=
  (((I 248 12) ≤ x3 → (sZ x2 ∧ post x2 I J)) ∧ (¬ (I 248 12) ≤ x3 → ((¬ x2 = 0 → w_X12_hasKind_26 post k4 x1 x3 I J) ∧ (x2 = 0 → (vp_in x3 80 ∧ ((¬ (I 254 (Int32.toNatClampNeg x3)) = x1 → w_X12_hasKind_31 post k4 x1 x3 0 I J) ∧ ((I 254 (Int32.toNatClampNeg x3)) = x1 → w_X12_hasKind_26 post k4 x1 x3 I J)))))))
def w_X12_hasKind_4_n (post : Int32 → sI → sJ → Prop) : Nat → Int32 → Int32 → Int32 → sI → sJ → Prop
  | 0 => fun _ _ _ _ _ => False
  | n + 1 => fun x1 x2 x3 I J => w_X12_hasKind_4_s post (w_X12_hasKind_4_n post n) x1 x2 x3 I J
def w_X12_hasKind_4 (post : Int32 → sI → sJ → Prop) (x1 : Int32) (x2 : Int32) (x3 : Int32) (I : sI) (J : sJ) : Prop := ∃ n, w_X12_hasKind_4_n post n x1 x2 x3 I J
set_option maxHeartbeats 4000000 in
set_option maxRecDepth 100000 in
theorem t_X12_hasKind_4_s {X : sX} {post : Int32 → sI → sJ → Prop} (h : sOK X cX12_hasKind RX12 4 0 0) (hr : sRt X (some .boolean) (sPi post)) {k4 : Int32 → Int32 → Int32 → sI → sJ → Prop} (hk4 : ∀ (x1 : Int32) (x2 : Int32) (x3 : Int32) (I : sI) (J : sJ), k4 x1 x2 x3 I J → sG X 4 4 [(0, .ref 248), (1, .int x1), (2, .int x2), (3, .int x3)] [] I J) {x1 : Int32} {x2 : Int32} {x3 : Int32} {I : sI} {J : sJ} (hw : w_X12_hasKind_4_s post k4 x1 x2 x3 I J) : sG X 4 4 [(0, .ref 248), (1, .int x1), (2, .int x2), (3, .int x3)] [] I J := by
  unfold w_X12_hasKind_4_s at hw
  refine g_iload_n h rfl 3 rfl dX12_hasKind_4 ?_
  refine g_aload_n h rfl 0 rfl dX12_hasKind_5 ?_
  refine g_get h is_248 fl_X12_79 rfl dX12_hasKind_6 ?_
  refine g_icmp_ge (tgt := 38) h (by decide) dX12_hasKind_9 (fun q9 => ?_) (fun q9 => ?_)
  · replace hw := hw.1 q9
    refine g_iload_n h rfl 2 rfl dX12_hasKind_38 ?_
    exact g_zret h hr hw.1 dX12_hasKind_39 hw.2
  · replace hw := hw.2 q9
    refine g_iload_n h rfl 2 rfl dX12_hasKind_12 ?_
    refine g_if_ne (tgt := 26) h (by decide) dX12_hasKind_13 (fun q13 => ?_) (fun q13 => ?_)
    · replace hw := hw.1 q13
      exact g_sub [0, 1, 3] rfl (t_X12_hasKind_26 h hr hk4 hw)
    · replace hw := hw.2 q13
      refine g_aload_n h rfl 0 rfl dX12_hasKind_16 ?_
      refine g_get h is_248 fl_X12_85 fr_248_14 dX12_hasKind_17 ?_
      refine g_iload_n h rfl 3 rfl dX12_hasKind_20 ?_
      obtain ⟨hi21, hw⟩ := hw
      refine g_iald h ar_254 hi21 dX12_hasKind_21 ?_
      refine g_iload_n h rfl 1 rfl dX12_hasKind_22 ?_
      refine g_icmp_ne (tgt := 30) h (by decide) dX12_hasKind_23 (fun q23 => ?_) (fun q23 => ?_)
      · replace hw := hw.1 q23
        refine g_iconst (v := 0) h (by decide) dX12_hasKind_30 ?_
        exact g_sub [0, 1, 3] rfl (t_X12_hasKind_31 h hr hk4 hw)
      · replace hw := hw.2 q23
        exact g_sub [0, 1, 3] rfl (t_X12_hasKind_26 h hr hk4 hw)
theorem t_X12_hasKind_4 {X : sX} {post : Int32 → sI → sJ → Prop} (h : sOK X cX12_hasKind RX12 4 0 0) (hr : sRt X (some .boolean) (sPi post)) {x1 : Int32} {x2 : Int32} {x3 : Int32} {I : sI} {J : sJ} (hw : w_X12_hasKind_4 post x1 x2 x3 I J) : sG X 4 4 [(0, .ref 248), (1, .int x1), (2, .int x2), (3, .int x3)] [] I J := by
  obtain ⟨n, hw⟩ := hw
  induction n generalizing x1 x2 x3 I J with
  | zero => exact hw.elim
  | succ n ih => exact t_X12_hasKind_4_s h hr (fun _ _ _ _ _ q => ih q) hw
def w_X12_hasKind (a1 : Int32) (I : sI) (J : sJ) (post : Int32 → sI → sJ → Prop) : Prop :=
  w_X12_hasKind_4 post a1 0 0 I J
set_option maxHeartbeats 4000000 in
set_option maxRecDepth 100000 in
theorem t_X12_hasKind {X : sX} {a1 : Int32} {I : sI} {J : sJ} {post : Int32 → sI → sJ → Prop} (h : sOK X cX12_hasKind RX12 4 0 0) (hr : sRt X (some .boolean) (sPi post)) (hw : w_X12_hasKind a1 I J post) : sG X 4 0 [(0, .ref 248), (1, .int a1)] [] I J := by
  unfold w_X12_hasKind at hw
  refine g_iconst (v := 0) h (by decide) dX12_hasKind_0 ?_
  refine g_istore_n (lo2 := [(2, .int 0), (0, .ref 248), (1, .int a1)]) h rfl (by decide) rfl dX12_hasKind_1 ?_
  refine g_iconst (v := 0) h (by decide) dX12_hasKind_2 ?_
  refine g_istore_n (lo2 := [(3, .int 0), (2, .int 0), (0, .ref 248), (1, .int a1)]) h rfl (by decide) rfl dX12_hasKind_3 ?_
  exact g_sub [2, 3, 1, 0] rfl (t_X12_hasKind_4 h hr hw)
theorem c_X12_hasKind (X : sX) {a1 : Int32} {I : sI} {J : sJ} {post : Int32 → sI → sJ → Prop} (hw : w_X12_hasKind a1 I J post) : sCall X yX12_hasKind cX12_hasKind 4 (some .boolean) 0 0 [.ref 248, .int a1] I J (sPi post) := sCall_of (by decide +kernel) (Nat.le_of_ble_eq_true rfl) (fun X h hr => t_X12_hasKind h hr hw)
theorem dX12_sure_0 : decode cX12_sure 0 = .ok (.aload_n 0, 1) := by decide +kernel
theorem dX12_sure_1 : decode cX12_sure 1 = .ok (.iconst 0, 1) := by decide +kernel
theorem dX12_sure_2 : decode cX12_sure 2 = .ok (.putfield 1, 3) := by decide +kernel
theorem dX12_sure_5 : decode cX12_sure 5 = .ok (.aload_n 0, 1) := by decide +kernel
theorem dX12_sure_6 : decode cX12_sure 6 = .ok (.iload_n 1, 1) := by decide +kernel
theorem dX12_sure_7 : decode cX12_sure 7 = .ok (.invokevirtual 196, 3) := by decide +kernel
theorem dX12_sure_10 : decode cX12_sure 10 = .ok (.ifCond .ne 5, 3) := by decide +kernel
theorem dX12_sure_13 : decode cX12_sure 13 = .ok (.iconst (-1), 1) := by decide +kernel
theorem dX12_sure_14 : decode cX12_sure 14 = .ok (.ireturn, 1) := by decide +kernel
theorem dX12_sure_15 : decode cX12_sure 15 = .ok (.aload_n 0, 1) := by decide +kernel
theorem dX12_sure_16 : decode cX12_sure 16 = .ok (.iload_n 1, 1) := by decide +kernel
theorem dX12_sure_17 : decode cX12_sure 17 = .ok (.invokevirtual 199, 3) := by decide +kernel
theorem dX12_sure_20 : decode cX12_sure 20 = .ok (.ifCond .ne 6, 3) := by decide +kernel
theorem dX12_sure_23 : decode cX12_sure 23 = .ok (.bipush (-3), 2) := by decide +kernel
theorem dX12_sure_25 : decode cX12_sure 25 = .ok (.ireturn, 1) := by decide +kernel
theorem dX12_sure_26 : decode cX12_sure 26 = .ok (.aload_n 0, 1) := by decide +kernel
theorem dX12_sure_27 : decode cX12_sure 27 = .ok (.getfield 175, 3) := by decide +kernel
theorem dX12_sure_30 : decode cX12_sure 30 = .ok (.ifCond .ne 6, 3) := by decide +kernel
theorem dX12_sure_33 : decode cX12_sure 33 = .ok (.bipush (-2), 2) := by decide +kernel
theorem dX12_sure_35 : decode cX12_sure 35 = .ok (.ireturn, 1) := by decide +kernel
theorem dX12_sure_36 : decode cX12_sure 36 = .ok (.aload_n 0, 1) := by decide +kernel
theorem dX12_sure_37 : decode cX12_sure 37 = .ok (.iconst 0, 1) := by decide +kernel
theorem dX12_sure_38 : decode cX12_sure 38 = .ok (.putfield 11, 3) := by decide +kernel
theorem dX12_sure_41 : decode cX12_sure 41 = .ok (.iconst 0, 1) := by decide +kernel
theorem dX12_sure_42 : decode cX12_sure 42 = .ok (.istore_n 2, 1) := by decide +kernel
theorem dX12_sure_43 : decode cX12_sure 43 = .ok (.iconst 0, 1) := by decide +kernel
theorem dX12_sure_44 : decode cX12_sure 44 = .ok (.istore_n 3, 1) := by decide +kernel
theorem dX12_sure_45 : decode cX12_sure 45 = .ok (.iload_n 3, 1) := by decide +kernel
theorem dX12_sure_46 : decode cX12_sure 46 = .ok (.bipush 12, 2) := by decide +kernel
theorem dX12_sure_48 : decode cX12_sure 48 = .ok (.if_icmp .ge 124, 3) := by decide +kernel
theorem dX12_sure_51 : decode cX12_sure 51 = .ok (.aload_n 0, 1) := by decide +kernel
theorem dX12_sure_52 : decode cX12_sure 52 = .ok (.getfield 178, 3) := by decide +kernel
theorem dX12_sure_55 : decode cX12_sure 55 = .ok (.iconst 0, 1) := by decide +kernel
theorem dX12_sure_56 : decode cX12_sure 56 = .ok (.laload, 1) := by decide +kernel
theorem dX12_sure_57 : decode cX12_sure 57 = .ok (.iload_n 3, 1) := by decide +kernel
theorem dX12_sure_58 : decode cX12_sure 58 = .ok (.invokestatic 138, 3) := by decide +kernel
theorem dX12_sure_61 : decode cX12_sure 61 = .ok (.ifCond .lt 7, 3) := by decide +kernel
theorem dX12_sure_64 : decode cX12_sure 64 = .ok (.iconst 1, 1) := by decide +kernel
theorem dX12_sure_65 : decode cX12_sure 65 = .ok (.goto 4, 3) := by decide +kernel
theorem dX12_sure_68 : decode cX12_sure 68 = .ok (.iconst 0, 1) := by decide +kernel
theorem dX12_sure_69 : decode cX12_sure 69 = .ok (.istore 4, 2) := by decide +kernel
theorem dX12_sure_71 : decode cX12_sure 71 = .ok (.iconst 1, 1) := by decide +kernel
theorem dX12_sure_72 : decode cX12_sure 72 = .ok (.istore 5, 2) := by decide +kernel
theorem dX12_sure_74 : decode cX12_sure 74 = .ok (.iload 5, 2) := by decide +kernel
theorem dX12_sure_76 : decode cX12_sure 76 = .ok (.aload_n 0, 1) := by decide +kernel
theorem dX12_sure_77 : decode cX12_sure 77 = .ok (.getfield 175, 3) := by decide +kernel
theorem dX12_sure_80 : decode cX12_sure 80 = .ok (.if_icmp .ge 45, 3) := by decide +kernel
theorem dX12_sure_83 : decode cX12_sure 83 = .ok (.iload 4, 2) := by decide +kernel
theorem dX12_sure_85 : decode cX12_sure 85 = .ok (.ifCond .eq 40, 3) := by decide +kernel
theorem dX12_sure_88 : decode cX12_sure 88 = .ok (.aload_n 0, 1) := by decide +kernel
theorem dX12_sure_89 : decode cX12_sure 89 = .ok (.getfield 178, 3) := by decide +kernel
theorem dX12_sure_92 : decode cX12_sure 92 = .ok (.iload 5, 2) := by decide +kernel
theorem dX12_sure_94 : decode cX12_sure 94 = .ok (.laload, 1) := by decide +kernel
theorem dX12_sure_95 : decode cX12_sure 95 = .ok (.iload_n 3, 1) := by decide +kernel
theorem dX12_sure_96 : decode cX12_sure 96 = .ok (.invokestatic 138, 3) := by decide +kernel
theorem dX12_sure_99 : decode cX12_sure 99 = .ok (.aload_n 0, 1) := by decide +kernel
theorem dX12_sure_100 : decode cX12_sure 100 = .ok (.getfield 178, 3) := by decide +kernel
theorem dX12_sure_103 : decode cX12_sure 103 = .ok (.iconst 0, 1) := by decide +kernel
theorem dX12_sure_104 : decode cX12_sure 104 = .ok (.laload, 1) := by decide +kernel
theorem dX12_sure_105 : decode cX12_sure 105 = .ok (.iload_n 3, 1) := by decide +kernel
theorem dX12_sure_106 : decode cX12_sure 106 = .ok (.invokestatic 138, 3) := by decide +kernel
theorem dX12_sure_109 : decode cX12_sure 109 = .ok (.if_icmp .ne 7, 3) := by decide +kernel
theorem dX12_sure_112 : decode cX12_sure 112 = .ok (.iconst 1, 1) := by decide +kernel
theorem dX12_sure_113 : decode cX12_sure 113 = .ok (.goto 4, 3) := by decide +kernel
theorem dX12_sure_116 : decode cX12_sure 116 = .ok (.iconst 0, 1) := by decide +kernel
theorem dX12_sure_117 : decode cX12_sure 117 = .ok (.istore 4, 2) := by decide +kernel
theorem dX12_sure_119 : decode cX12_sure 119 = .ok (.iinc 5 1, 3) := by decide +kernel
theorem dX12_sure_122 : decode cX12_sure 122 = .ok (.goto (-48), 3) := by decide +kernel
theorem dX12_sure_125 : decode cX12_sure 125 = .ok (.aload_n 0, 1) := by decide +kernel
theorem dX12_sure_126 : decode cX12_sure 126 = .ok (.iload 4, 2) := by decide +kernel
theorem dX12_sure_128 : decode cX12_sure 128 = .ok (.ifCond .eq 17, 3) := by decide +kernel
theorem dX12_sure_131 : decode cX12_sure 131 = .ok (.aload_n 0, 1) := by decide +kernel
theorem dX12_sure_132 : decode cX12_sure 132 = .ok (.getfield 178, 3) := by decide +kernel
theorem dX12_sure_135 : decode cX12_sure 135 = .ok (.iconst 0, 1) := by decide +kernel
theorem dX12_sure_136 : decode cX12_sure 136 = .ok (.laload, 1) := by decide +kernel
theorem dX12_sure_137 : decode cX12_sure 137 = .ok (.iload_n 3, 1) := by decide +kernel
theorem dX12_sure_138 : decode cX12_sure 138 = .ok (.invokestatic 138, 3) := by decide +kernel
theorem dX12_sure_141 : decode cX12_sure 141 = .ok (.i2l, 1) := by decide +kernel
theorem dX12_sure_142 : decode cX12_sure 142 = .ok (.goto 6, 3) := by decide +kernel
theorem dX12_sure_145 : decode cX12_sure 145 = .ok (.ldc2_w 142, 3) := by decide +kernel
theorem dX12_sure_148 : decode cX12_sure 148 = .ok (.invokevirtual 18, 3) := by decide +kernel
theorem dX12_sure_151 : decode cX12_sure 151 = .ok (.iload_n 2, 1) := by decide +kernel
theorem dX12_sure_152 : decode cX12_sure 152 = .ok (.iload 4, 2) := by decide +kernel
theorem dX12_sure_154 : decode cX12_sure 154 = .ok (.ifCond .eq 9, 3) := by decide +kernel
theorem dX12_sure_157 : decode cX12_sure 157 = .ok (.iconst 1, 1) := by decide +kernel
theorem dX12_sure_158 : decode cX12_sure 158 = .ok (.iload_n 3, 1) := by decide +kernel
theorem dX12_sure_159 : decode cX12_sure 159 = .ok (.ishl, 1) := by decide +kernel
theorem dX12_sure_160 : decode cX12_sure 160 = .ok (.goto 4, 3) := by decide +kernel
theorem dX12_sure_163 : decode cX12_sure 163 = .ok (.iconst 0, 1) := by decide +kernel
theorem dX12_sure_164 : decode cX12_sure 164 = .ok (.ior, 1) := by decide +kernel
theorem dX12_sure_165 : decode cX12_sure 165 = .ok (.istore_n 2, 1) := by decide +kernel
theorem dX12_sure_166 : decode cX12_sure 166 = .ok (.iinc 3 1, 3) := by decide +kernel
theorem dX12_sure_169 : decode cX12_sure 169 = .ok (.goto (-124), 3) := by decide +kernel
theorem dX12_sure_172 : decode cX12_sure 172 = .ok (.iload_n 2, 1) := by decide +kernel
theorem dX12_sure_173 : decode cX12_sure 173 = .ok (.ireturn, 1) := by decide +kernel
def w_X12_sure_164 (post : Int32 → sI → sJ → Prop) (k45 : Int32 → Int32 → sI → sJ → Prop) (x3 : Int32) (s0 : Int32) (s1 : Int32) (I : sI) (J : sJ) : Prop :=
  (∀ v2_165 : Int32, v2_165 = s1 ||| s0 → (∀ v3_166 : Int32, v3_166 = x3 + 1 → k45 v2_165 v3_166 I J))
set_option maxHeartbeats 4000000 in
set_option maxRecDepth 100000 in
theorem t_X12_sure_164 {X : sX} {post : Int32 → sI → sJ → Prop} (h : sOK X cX12_sure RX12 6 5 136) (hr : sRt X (some .int) (sPi post)) {k45 : Int32 → Int32 → sI → sJ → Prop} (hk45 : ∀ (x2 : Int32) (x3 : Int32) (I : sI) (J : sJ), k45 x2 x3 I J → sG X 6 45 [(0, .ref 248), (2, .int x2), (3, .int x3)] [] I J) {x3 : Int32} {s0 : Int32} {s1 : Int32} {I : sI} {J : sJ} (hw : w_X12_sure_164 post k45 x3 s0 s1 I J) : sG X 6 164 [(0, .ref 248), (3, .int x3)] [.int s0, .int s1] I J := by
  unfold w_X12_sure_164 at hw
  refine g_ior h dX12_sure_164 ?_
  refine g_ni (fun v2_165 ev2_165 => ?_)
  replace hw := hw v2_165 ev2_165
  refine g_istore_n (lo2 := [(2, .int v2_165), (0, .ref 248), (3, .int x3)]) h rfl (by decide) rfl dX12_sure_165 ?_
  obtain ⟨v3_166, ev3_166⟩ : ∃ z : Int32, z = x3 + 1 := ⟨_, rfl⟩
  replace hw := hw v3_166 ev3_166
  refine g_iinc (v := v3_166) (lo2 := [(3, .int v3_166), (2, .int v2_165), (0, .ref 248)]) h 2 rfl (by rw [ev3_166]; rfl) (by decide) rfl dX12_sure_166 ?_
  refine g_goto (tgt := 45) h (by decide) dX12_sure_169 ?_
  exact g_sub [2, 1, 0] rfl (hk45 _ _ _ _ hw)
def w_X12_sure_148 (post : Int32 → sI → sJ → Prop) (k45 : Int32 → Int32 → sI → sJ → Prop) (x2 : Int32) (x3 : Int32) (x4 : Int32) (s0 : Int64) (I : sI) (J : sJ) : Prop :=
  w_X12_enters s0 I J (fun (I_148 : sI) (J_148 : sJ) => (((x4 = 0 → w_X12_sure_164 post k45 x3 0 x2 I_148 J_148) ∧ (¬ x4 = 0 → w_X12_sure_164 post k45 x3 (1 <<< (x3 &&& 31)) x2 I_148 J_148))))
set_option maxHeartbeats 4000000 in
set_option maxRecDepth 100000 in
theorem t_X12_sure_148 {X : sX} {post : Int32 → sI → sJ → Prop} (h : sOK X cX12_sure RX12 6 5 136) (hr : sRt X (some .int) (sPi post)) {k45 : Int32 → Int32 → sI → sJ → Prop} (hk45 : ∀ (x2 : Int32) (x3 : Int32) (I : sI) (J : sJ), k45 x2 x3 I J → sG X 6 45 [(0, .ref 248), (2, .int x2), (3, .int x3)] [] I J) {x2 : Int32} {x3 : Int32} {x4 : Int32} {s0 : Int64} {I : sI} {J : sJ} (hw : w_X12_sure_148 post k45 x2 x3 x4 s0 I J) : sG X 6 148 [(0, .ref 248), (2, .int x2), (3, .int x3), (4, .int x4)] [.long s0, .ref 248] I J := by
  unfold w_X12_sure_148 at hw
  refine g_callV [.long s0] h (c_X12_enters X hw) sPv_v mw_X12_enters lk_X12_18 is_248 rfl rfl ⟨by decide, by decide⟩ (Nat.le_of_ble_eq_true rfl) dX12_sure_148 (sPv_k (fun I_148 J_148 hw => ?_))
  refine g_iload_n h rfl 1 rfl dX12_sure_151 ?_
  refine g_iload h 3 rfl dX12_sure_152 ?_
  refine g_if_eq (tgt := 163) h (by decide) dX12_sure_154 (fun q154 => ?_) (fun q154 => ?_)
  · replace hw := hw.1 q154
    refine g_iconst (v := 0) h (by decide) dX12_sure_163 ?_
    exact g_sub [0, 2] rfl (t_X12_sure_164 h hr hk45 hw)
  · replace hw := hw.2 q154
    refine g_iconst (v := 1) h (by decide) dX12_sure_157 ?_
    refine g_iload_n h rfl 2 rfl dX12_sure_158 ?_
    refine g_ishl h dX12_sure_159 ?_
    refine g_goto (tgt := 164) h (by decide) dX12_sure_160 ?_
    exact g_sub [0, 2] rfl (t_X12_sure_164 h hr hk45 hw)
def w_X12_sure_125 (post : Int32 → sI → sJ → Prop) (k45 : Int32 → Int32 → sI → sJ → Prop) (x2 : Int32) (x3 : Int32) (x4 : Int32) (I : sI) (J : sJ) : Prop :=
  ((x4 = 0 → w_X12_sure_148 post k45 x2 x3 x4 (-1) I J) ∧ (¬ x4 = 0 → (vp_in 0 20000 ∧ w_X12_letterOf (J 265 (Int32.toNatClampNeg 0)) x3 I J (fun (r_138 : Int32) (I_138 : sI) (J_138 : sJ) => (w_X12_sure_148 post k45 x2 x3 x4 (Int32.toInt64 r_138) I_138 J_138)))))
set_option maxHeartbeats 4000000 in
set_option maxRecDepth 100000 in
theorem t_X12_sure_125 {X : sX} {post : Int32 → sI → sJ → Prop} (h : sOK X cX12_sure RX12 6 5 136) (hr : sRt X (some .int) (sPi post)) {k45 : Int32 → Int32 → sI → sJ → Prop} (hk45 : ∀ (x2 : Int32) (x3 : Int32) (I : sI) (J : sJ), k45 x2 x3 I J → sG X 6 45 [(0, .ref 248), (2, .int x2), (3, .int x3)] [] I J) {x2 : Int32} {x3 : Int32} {x4 : Int32} {I : sI} {J : sJ} (hw : w_X12_sure_125 post k45 x2 x3 x4 I J) : sG X 6 125 [(0, .ref 248), (2, .int x2), (3, .int x3), (4, .int x4)] [] I J := by
  unfold w_X12_sure_125 at hw
  refine g_aload_n h rfl 0 rfl dX12_sure_125 ?_
  refine g_iload h 3 rfl dX12_sure_126 ?_
  refine g_if_eq (tgt := 145) h (by decide) dX12_sure_128 (fun q128 => ?_) (fun q128 => ?_)
  · replace hw := hw.1 q128
    refine g_ldc2 h lc_X12_142 dX12_sure_145 ?_
    exact g_sub [0, 1, 2, 3] rfl (t_X12_sure_148 h hr hk45 hw)
  · replace hw := hw.2 q128
    refine g_aload_n h rfl 0 rfl dX12_sure_131 ?_
    refine g_get h is_248 fl_X12_178 fr_248_31 dX12_sure_132 ?_
    refine g_iconst (v := 0) h (by decide) dX12_sure_135 ?_
    obtain ⟨hi136, hw⟩ := hw
    refine g_lald h ar_265 hi136 dX12_sure_136 ?_
    refine g_iload_n h rfl 2 rfl dX12_sure_137 ?_
    refine g_callS [.long (J 265 (Int32.toNatClampNeg 0)), .int x3] h (c_X12_letterOf X hw) sPi_v mw_X12_letterOf lk_X12_138 rfl ⟨by decide, by decide⟩ (Nat.le_of_ble_eq_true rfl) dX12_sure_138 (sPi_k (fun r_138 I_138 J_138 hw => ?_))
    refine g_i2l h dX12_sure_141 ?_
    refine g_goto (tgt := 148) h (by decide) dX12_sure_142 ?_
    exact g_sub [0, 1, 2, 3] rfl (t_X12_sure_148 h hr hk45 hw)
def w_X12_sure_117 (post : Int32 → sI → sJ → Prop) (k45 : Int32 → Int32 → sI → sJ → Prop) (k74 : Int32 → Int32 → Int32 → Int32 → sI → sJ → Prop) (x2 : Int32) (x3 : Int32) (x5 : Int32) (s0 : Int32) (I : sI) (J : sJ) : Prop :=
  (∀ v5_119 : Int32, v5_119 = x5 + 1 → k74 x2 x3 s0 v5_119 I J)
set_option maxHeartbeats 4000000 in
set_option maxRecDepth 100000 in
theorem t_X12_sure_117 {X : sX} {post : Int32 → sI → sJ → Prop} (h : sOK X cX12_sure RX12 6 5 136) (hr : sRt X (some .int) (sPi post)) {k45 : Int32 → Int32 → sI → sJ → Prop} (hk45 : ∀ (x2 : Int32) (x3 : Int32) (I : sI) (J : sJ), k45 x2 x3 I J → sG X 6 45 [(0, .ref 248), (2, .int x2), (3, .int x3)] [] I J) {k74 : Int32 → Int32 → Int32 → Int32 → sI → sJ → Prop} (hk74 : ∀ (x2 : Int32) (x3 : Int32) (x4 : Int32) (x5 : Int32) (I : sI) (J : sJ), k74 x2 x3 x4 x5 I J → sG X 6 74 [(0, .ref 248), (2, .int x2), (3, .int x3), (4, .int x4), (5, .int x5)] [] I J) {x2 : Int32} {x3 : Int32} {x5 : Int32} {s0 : Int32} {I : sI} {J : sJ} (hw : w_X12_sure_117 post k45 k74 x2 x3 x5 s0 I J) : sG X 6 117 [(0, .ref 248), (2, .int x2), (3, .int x3), (5, .int x5)] [.int s0] I J := by
  unfold w_X12_sure_117 at hw
  refine g_istore (lo2 := [(4, .int s0), (0, .ref 248), (2, .int x2), (3, .int x3), (5, .int x5)]) h (by decide) rfl dX12_sure_117 ?_
  obtain ⟨v5_119, ev5_119⟩ : ∃ z : Int32, z = x5 + 1 := ⟨_, rfl⟩
  replace hw := hw v5_119 ev5_119
  refine g_iinc (v := v5_119) (lo2 := [(5, .int v5_119), (4, .int s0), (0, .ref 248), (2, .int x2), (3, .int x3)]) h 4 rfl (by rw [ev5_119]; rfl) (by decide) rfl dX12_sure_119 ?_
  refine g_goto (tgt := 74) h (by decide) dX12_sure_122 ?_
  exact g_sub [2, 3, 4, 1, 0] rfl (hk74 _ _ _ _ _ _ hw)
def w_X12_sure_74_s (post : Int32 → sI → sJ → Prop) (k45 : Int32 → Int32 → sI → sJ → Prop) (k74 : Int32 → Int32 → Int32 → Int32 → sI → sJ → Prop) (x2 : Int32) (x3 : Int32) (x4 : Int32) (x5 : Int32) (I : sI) (J : sJ) : Prop :=
  (((I 248 32) ≤ x5 → w_X12_sure_125 post k45 x2 x3 x4 I J) ∧ (¬ (I 248 32) ≤ x5 → ((x4 = 0 → w_X12_sure_125 post k45 x2 x3 x4 I J) ∧ (¬ x4 = 0 → (vp_in x5 20000 ∧ w_X12_letterOf (J 265 (Int32.toNatClampNeg x5)) x3 I J (fun (r_96 : Int32) (I_96 : sI) (J_96 : sJ) => ((vp_in 0 20000 ∧ w_X12_letterOf (J_96 265 (Int32.toNatClampNeg 0)) x3 I_96 J_96 (fun (r_106 : Int32) (I_106 : sI) (J_106 : sJ) => (((¬ r_96 = r_106 → w_X12_sure_117 post k45 k74 x2 x3 x5 0 I_106 J_106) ∧ (r_96 = r_106 → w_X12_sure_117 post k45 k74 x2 x3 x5 1 I_106 J_106))))))))))))
def w_X12_sure_74_n (post : Int32 → sI → sJ → Prop) (k45 : Int32 → Int32 → sI → sJ → Prop) : Nat → Int32 → Int32 → Int32 → Int32 → sI → sJ → Prop
  | 0 => fun _ _ _ _ _ _ => False
  | n + 1 => fun x2 x3 x4 x5 I J => w_X12_sure_74_s post k45 (w_X12_sure_74_n post k45 n) x2 x3 x4 x5 I J
def w_X12_sure_74 (post : Int32 → sI → sJ → Prop) (k45 : Int32 → Int32 → sI → sJ → Prop) (x2 : Int32) (x3 : Int32) (x4 : Int32) (x5 : Int32) (I : sI) (J : sJ) : Prop := ∃ n, w_X12_sure_74_n post k45 n x2 x3 x4 x5 I J
set_option maxHeartbeats 4000000 in
set_option maxRecDepth 100000 in
theorem t_X12_sure_74_s {X : sX} {post : Int32 → sI → sJ → Prop} (h : sOK X cX12_sure RX12 6 5 136) (hr : sRt X (some .int) (sPi post)) {k45 : Int32 → Int32 → sI → sJ → Prop} (hk45 : ∀ (x2 : Int32) (x3 : Int32) (I : sI) (J : sJ), k45 x2 x3 I J → sG X 6 45 [(0, .ref 248), (2, .int x2), (3, .int x3)] [] I J) {k74 : Int32 → Int32 → Int32 → Int32 → sI → sJ → Prop} (hk74 : ∀ (x2 : Int32) (x3 : Int32) (x4 : Int32) (x5 : Int32) (I : sI) (J : sJ), k74 x2 x3 x4 x5 I J → sG X 6 74 [(0, .ref 248), (2, .int x2), (3, .int x3), (4, .int x4), (5, .int x5)] [] I J) {x2 : Int32} {x3 : Int32} {x4 : Int32} {x5 : Int32} {I : sI} {J : sJ} (hw : w_X12_sure_74_s post k45 k74 x2 x3 x4 x5 I J) : sG X 6 74 [(0, .ref 248), (2, .int x2), (3, .int x3), (4, .int x4), (5, .int x5)] [] I J := by
  unfold w_X12_sure_74_s at hw
  refine g_iload h 4 rfl dX12_sure_74 ?_
  refine g_aload_n h rfl 0 rfl dX12_sure_76 ?_
  refine g_get h is_248 fl_X12_175 rfl dX12_sure_77 ?_
  refine g_icmp_ge (tgt := 125) h (by decide) dX12_sure_80 (fun q80 => ?_) (fun q80 => ?_)
  · replace hw := hw.1 q80
    exact g_sub [0, 1, 2, 3] rfl (t_X12_sure_125 h hr hk45 hw)
  · replace hw := hw.2 q80
    refine g_iload h 3 rfl dX12_sure_83 ?_
    refine g_if_eq (tgt := 125) h (by decide) dX12_sure_85 (fun q85 => ?_) (fun q85 => ?_)
    · replace hw := hw.1 q85
      exact g_sub [0, 1, 2, 3] rfl (t_X12_sure_125 h hr hk45 hw)
    · replace hw := hw.2 q85
      refine g_aload_n h rfl 0 rfl dX12_sure_88 ?_
      refine g_get h is_248 fl_X12_178 fr_248_31 dX12_sure_89 ?_
      refine g_iload h 4 rfl dX12_sure_92 ?_
      obtain ⟨hi94, hw⟩ := hw
      refine g_lald h ar_265 hi94 dX12_sure_94 ?_
      refine g_iload_n h rfl 2 rfl dX12_sure_95 ?_
      refine g_callS [.long (J 265 (Int32.toNatClampNeg x5)), .int x3] h (c_X12_letterOf X hw) sPi_v mw_X12_letterOf lk_X12_138 rfl ⟨by decide, by decide⟩ (Nat.le_of_ble_eq_true rfl) dX12_sure_96 (sPi_k (fun r_96 I_96 J_96 hw => ?_))
      refine g_aload_n h rfl 0 rfl dX12_sure_99 ?_
      refine g_get h is_248 fl_X12_178 fr_248_31 dX12_sure_100 ?_
      refine g_iconst (v := 0) h (by decide) dX12_sure_103 ?_
      obtain ⟨hi104, hw⟩ := hw
      refine g_lald h ar_265 hi104 dX12_sure_104 ?_
      refine g_iload_n h rfl 2 rfl dX12_sure_105 ?_
      refine g_callS [.long (J_96 265 (Int32.toNatClampNeg 0)), .int x3] h (c_X12_letterOf X hw) sPi_v mw_X12_letterOf lk_X12_138 rfl ⟨by decide, by decide⟩ (Nat.le_of_ble_eq_true rfl) dX12_sure_106 (sPi_k (fun r_106 I_106 J_106 hw => ?_))
      refine g_icmp_ne (tgt := 116) h (by decide) dX12_sure_109 (fun q109 => ?_) (fun q109 => ?_)
      · replace hw := hw.1 q109
        refine g_iconst (v := 0) h (by decide) dX12_sure_116 ?_
        exact g_sub [0, 1, 2, 4] rfl (t_X12_sure_117 h hr hk45 hk74 hw)
      · replace hw := hw.2 q109
        refine g_iconst (v := 1) h (by decide) dX12_sure_112 ?_
        refine g_goto (tgt := 117) h (by decide) dX12_sure_113 ?_
        exact g_sub [0, 1, 2, 4] rfl (t_X12_sure_117 h hr hk45 hk74 hw)
theorem t_X12_sure_74 {X : sX} {post : Int32 → sI → sJ → Prop} (h : sOK X cX12_sure RX12 6 5 136) (hr : sRt X (some .int) (sPi post)) {k45 : Int32 → Int32 → sI → sJ → Prop} (hk45 : ∀ (x2 : Int32) (x3 : Int32) (I : sI) (J : sJ), k45 x2 x3 I J → sG X 6 45 [(0, .ref 248), (2, .int x2), (3, .int x3)] [] I J) {x2 : Int32} {x3 : Int32} {x4 : Int32} {x5 : Int32} {I : sI} {J : sJ} (hw : w_X12_sure_74 post k45 x2 x3 x4 x5 I J) : sG X 6 74 [(0, .ref 248), (2, .int x2), (3, .int x3), (4, .int x4), (5, .int x5)] [] I J := by
  obtain ⟨n, hw⟩ := hw
  induction n generalizing x2 x3 x4 x5 I J with
  | zero => exact hw.elim
  | succ n ih => exact t_X12_sure_74_s h hr hk45 (fun _ _ _ _ _ _ q => ih q) hw
def w_X12_sure_69 (post : Int32 → sI → sJ → Prop) (k45 : Int32 → Int32 → sI → sJ → Prop) (x2 : Int32) (x3 : Int32) (s0 : Int32) (I : sI) (J : sJ) : Prop :=
  w_X12_sure_74 post k45 x2 x3 s0 1 I J
set_option maxHeartbeats 4000000 in
set_option maxRecDepth 100000 in
theorem t_X12_sure_69 {X : sX} {post : Int32 → sI → sJ → Prop} (h : sOK X cX12_sure RX12 6 5 136) (hr : sRt X (some .int) (sPi post)) {k45 : Int32 → Int32 → sI → sJ → Prop} (hk45 : ∀ (x2 : Int32) (x3 : Int32) (I : sI) (J : sJ), k45 x2 x3 I J → sG X 6 45 [(0, .ref 248), (2, .int x2), (3, .int x3)] [] I J) {x2 : Int32} {x3 : Int32} {s0 : Int32} {I : sI} {J : sJ} (hw : w_X12_sure_69 post k45 x2 x3 s0 I J) : sG X 6 69 [(0, .ref 248), (2, .int x2), (3, .int x3)] [.int s0] I J := by
  unfold w_X12_sure_69 at hw
  refine g_istore (lo2 := [(4, .int s0), (0, .ref 248), (2, .int x2), (3, .int x3)]) h (by decide) rfl dX12_sure_69 ?_
  refine g_iconst (v := 1) h (by decide) dX12_sure_71 ?_
  refine g_istore (lo2 := [(5, .int 1), (4, .int s0), (0, .ref 248), (2, .int x2), (3, .int x3)]) h (by decide) rfl dX12_sure_72 ?_
  exact g_sub [2, 3, 4, 1, 0] rfl (t_X12_sure_74 h hr hk45 hw)
def w_X12_sure_45_s (post : Int32 → sI → sJ → Prop) (k45 : Int32 → Int32 → sI → sJ → Prop) (x2 : Int32) (x3 : Int32) (I : sI) (J : sJ) : Prop :=
  ((12 ≤ x3 → post x2 I J) ∧ (¬ 12 ≤ x3 → (vp_in 0 20000 ∧ w_X12_letterOf (J 265 (Int32.toNatClampNeg 0)) x3 I J (fun (r_58 : Int32) (I_58 : sI) (J_58 : sJ) => (((r_58 < 0 → w_X12_sure_69 post k45 x2 x3 0 I_58 J_58) ∧ (¬ r_58 < 0 → w_X12_sure_69 post k45 x2 x3 1 I_58 J_58)))))))
def w_X12_sure_45_n (post : Int32 → sI → sJ → Prop) : Nat → Int32 → Int32 → sI → sJ → Prop
  | 0 => fun _ _ _ _ => False
  | n + 1 => fun x2 x3 I J => w_X12_sure_45_s post (w_X12_sure_45_n post n) x2 x3 I J
def w_X12_sure_45 (post : Int32 → sI → sJ → Prop) (x2 : Int32) (x3 : Int32) (I : sI) (J : sJ) : Prop := ∃ n, w_X12_sure_45_n post n x2 x3 I J
set_option maxHeartbeats 4000000 in
set_option maxRecDepth 100000 in
theorem t_X12_sure_45_s {X : sX} {post : Int32 → sI → sJ → Prop} (h : sOK X cX12_sure RX12 6 5 136) (hr : sRt X (some .int) (sPi post)) {k45 : Int32 → Int32 → sI → sJ → Prop} (hk45 : ∀ (x2 : Int32) (x3 : Int32) (I : sI) (J : sJ), k45 x2 x3 I J → sG X 6 45 [(0, .ref 248), (2, .int x2), (3, .int x3)] [] I J) {x2 : Int32} {x3 : Int32} {I : sI} {J : sJ} (hw : w_X12_sure_45_s post k45 x2 x3 I J) : sG X 6 45 [(0, .ref 248), (2, .int x2), (3, .int x3)] [] I J := by
  unfold w_X12_sure_45_s at hw
  refine g_iload_n h rfl 2 rfl dX12_sure_45 ?_
  refine g_bipush (v := 12) h (by decide) dX12_sure_46 ?_
  refine g_icmp_ge (tgt := 172) h (by decide) dX12_sure_48 (fun q48 => ?_) (fun q48 => ?_)
  · replace hw := hw.1 q48
    refine g_iload_n h rfl 1 rfl dX12_sure_172 ?_
    exact g_iret h hr dX12_sure_173 hw
  · replace hw := hw.2 q48
    refine g_aload_n h rfl 0 rfl dX12_sure_51 ?_
    refine g_get h is_248 fl_X12_178 fr_248_31 dX12_sure_52 ?_
    refine g_iconst (v := 0) h (by decide) dX12_sure_55 ?_
    obtain ⟨hi56, hw⟩ := hw
    refine g_lald h ar_265 hi56 dX12_sure_56 ?_
    refine g_iload_n h rfl 2 rfl dX12_sure_57 ?_
    refine g_callS [.long (J 265 (Int32.toNatClampNeg 0)), .int x3] h (c_X12_letterOf X hw) sPi_v mw_X12_letterOf lk_X12_138 rfl ⟨by decide, by decide⟩ (Nat.le_of_ble_eq_true rfl) dX12_sure_58 (sPi_k (fun r_58 I_58 J_58 hw => ?_))
    refine g_if_lt (tgt := 68) h (by decide) dX12_sure_61 (fun q61 => ?_) (fun q61 => ?_)
    · replace hw := hw.1 q61
      refine g_iconst (v := 0) h (by decide) dX12_sure_68 ?_
      exact g_sub [0, 1, 2] rfl (t_X12_sure_69 h hr hk45 hw)
    · replace hw := hw.2 q61
      refine g_iconst (v := 1) h (by decide) dX12_sure_64 ?_
      refine g_goto (tgt := 69) h (by decide) dX12_sure_65 ?_
      exact g_sub [0, 1, 2] rfl (t_X12_sure_69 h hr hk45 hw)
theorem t_X12_sure_45 {X : sX} {post : Int32 → sI → sJ → Prop} (h : sOK X cX12_sure RX12 6 5 136) (hr : sRt X (some .int) (sPi post)) {x2 : Int32} {x3 : Int32} {I : sI} {J : sJ} (hw : w_X12_sure_45 post x2 x3 I J) : sG X 6 45 [(0, .ref 248), (2, .int x2), (3, .int x3)] [] I J := by
  obtain ⟨n, hw⟩ := hw
  induction n generalizing x2 x3 I J with
  | zero => exact hw.elim
  | succ n ih => exact t_X12_sure_45_s h hr (fun _ _ _ _ q => ih q) hw
def w_X12_sure (a1 : Int32) (I : sI) (J : sJ) (post : Int32 → sI → sJ → Prop) : Prop :=
  (∀ I_2 : sI, I_2 = sUI I 248 0 0 → w_X12_isAsked a1 I_2 J (fun (r_7 : Int32) (I_7 : sI) (J_7 : sJ) => (((¬ r_7 = 0 → w_X12_all a1 I_7 J_7 (fun (r_17 : Int32) (I_17 : sI) (J_17 : sJ) => (((¬ r_17 = 0 → ((¬ (I_17 248 32) = 0 → (∀ I_38 : sI, I_38 = sUI I_17 248 1 0 → w_X12_sure_45 post 0 0 I_38 J_17)) ∧ ((I_17 248 32) = 0 → post (-2) I_17 J_17))) ∧ (r_17 = 0 → post (-3) I_17 J_17))))) ∧ (r_7 = 0 → post (-1) I_7 J_7)))))
set_option maxHeartbeats 4000000 in
set_option maxRecDepth 100000 in
theorem t_X12_sure {X : sX} {a1 : Int32} {I : sI} {J : sJ} {post : Int32 → sI → sJ → Prop} (h : sOK X cX12_sure RX12 6 5 136) (hr : sRt X (some .int) (sPi post)) (hw : w_X12_sure a1 I J post) : sG X 6 0 [(0, .ref 248), (1, .int a1)] [] I J := by
  unfold w_X12_sure at hw
  refine g_aload_n h rfl 0 rfl dX12_sure_0 ?_
  refine g_iconst (v := 0) h (by decide) dX12_sure_1 ?_
  refine g_putI h is_248 fl_X12_1 rfl rfl dX12_sure_2 ?_
  refine g_nI (fun I_2 eI_2 => ?_)
  replace hw := hw I_2 eI_2
  refine g_aload_n h rfl 0 rfl dX12_sure_5 ?_
  refine g_iload_n h rfl 1 rfl dX12_sure_6 ?_
  refine g_callV [.int a1] h (c_X12_isAsked X hw) sPi_v mw_X12_isAsked lk_X12_196 is_248 rfl rfl ⟨by decide, by decide⟩ (Nat.le_of_ble_eq_true rfl) dX12_sure_7 (sPi_k (fun r_7 I_7 J_7 hw => ?_))
  refine g_if_ne (tgt := 15) h (by decide) dX12_sure_10 (fun q10 => ?_) (fun q10 => ?_)
  · replace hw := hw.1 q10
    refine g_aload_n h rfl 0 rfl dX12_sure_15 ?_
    refine g_iload_n h rfl 1 rfl dX12_sure_16 ?_
    refine g_callV [.int a1] h (c_X12_all X hw) sPi_v mw_X12_all lk_X12_199 is_248 rfl rfl ⟨by decide, by decide⟩ (Nat.le_of_ble_eq_true rfl) dX12_sure_17 (sPi_k (fun r_17 I_17 J_17 hw => ?_))
    refine g_if_ne (tgt := 26) h (by decide) dX12_sure_20 (fun q20 => ?_) (fun q20 => ?_)
    · replace hw := hw.1 q20
      refine g_aload_n h rfl 0 rfl dX12_sure_26 ?_
      refine g_get h is_248 fl_X12_175 rfl dX12_sure_27 ?_
      refine g_if_ne (tgt := 36) h (by decide) dX12_sure_30 (fun q30 => ?_) (fun q30 => ?_)
      · replace hw := hw.1 q30
        refine g_aload_n h rfl 0 rfl dX12_sure_36 ?_
        refine g_iconst (v := 0) h (by decide) dX12_sure_37 ?_
        refine g_putI h is_248 fl_X12_11 rfl rfl dX12_sure_38 ?_
        refine g_nI (fun I_38 eI_38 => ?_)
        replace hw := hw I_38 eI_38
        refine g_iconst (v := 0) h (by decide) dX12_sure_41 ?_
        refine g_istore_n (lo2 := [(2, .int 0), (0, .ref 248), (1, .int a1)]) h rfl (by decide) rfl dX12_sure_42 ?_
        refine g_iconst (v := 0) h (by decide) dX12_sure_43 ?_
        refine g_istore_n (lo2 := [(3, .int 0), (2, .int 0), (0, .ref 248), (1, .int a1)]) h rfl (by decide) rfl dX12_sure_44 ?_
        exact g_sub [2, 1, 0] rfl (t_X12_sure_45 h hr hw)
      · replace hw := hw.2 q30
        refine g_bipush (v := (-2)) h (by decide) dX12_sure_33 ?_
        exact g_iret h hr dX12_sure_35 hw
    · replace hw := hw.2 q20
      refine g_bipush (v := (-3)) h (by decide) dX12_sure_23 ?_
      exact g_iret h hr dX12_sure_25 hw
  · replace hw := hw.2 q10
    refine g_iconst (v := (-1)) h (by decide) dX12_sure_13 ?_
    exact g_iret h hr dX12_sure_14 hw
theorem c_X12_sure (X : sX) {a1 : Int32} {I : sI} {J : sJ} {post : Int32 → sI → sJ → Prop} (hw : w_X12_sure a1 I J post) : sCall X yX12_sure cX12_sure 6 (some .int) 5 136 [.ref 248, .int a1] I J (sPi post) := sCall_of (by decide +kernel) (Nat.le_of_ble_eq_true rfl) (fun X h hr => t_X12_sure h hr hw)
theorem dX12_letters_0 : decode cX12_letters 0 = .ok (.aload_n 0, 1) := by decide +kernel
theorem dX12_letters_1 : decode cX12_letters 1 = .ok (.iconst 0, 1) := by decide +kernel
theorem dX12_letters_2 : decode cX12_letters 2 = .ok (.putfield 1, 3) := by decide +kernel
theorem dX12_letters_5 : decode cX12_letters 5 = .ok (.aload_n 0, 1) := by decide +kernel
theorem dX12_letters_6 : decode cX12_letters 6 = .ok (.iload_n 1, 1) := by decide +kernel
theorem dX12_letters_7 : decode cX12_letters 7 = .ok (.invokevirtual 196, 3) := by decide +kernel
theorem dX12_letters_10 : decode cX12_letters 10 = .ok (.ifCond .eq 23, 3) := by decide +kernel
theorem dX12_letters_13 : decode cX12_letters 13 = .ok (.iload_n 2, 1) := by decide +kernel
theorem dX12_letters_14 : decode cX12_letters 14 = .ok (.i2l, 1) := by decide +kernel
theorem dX12_letters_15 : decode cX12_letters 15 = .ok (.lconst 0, 1) := by decide +kernel
theorem dX12_letters_16 : decode cX12_letters 16 = .ok (.ldc2_w 210, 3) := by decide +kernel
theorem dX12_letters_19 : decode cX12_letters 19 = .ok (.invokestatic 29, 3) := by decide +kernel
theorem dX12_letters_22 : decode cX12_letters 22 = .ok (.ifCond .eq 11, 3) := by decide +kernel
theorem dX12_letters_25 : decode cX12_letters 25 = .ok (.aload_n 0, 1) := by decide +kernel
theorem dX12_letters_26 : decode cX12_letters 26 = .ok (.iload_n 2, 1) := by decide +kernel
theorem dX12_letters_27 : decode cX12_letters 27 = .ok (.invokevirtual 212, 3) := by decide +kernel
theorem dX12_letters_30 : decode cX12_letters 30 = .ok (.ifCond .ne 5, 3) := by decide +kernel
theorem dX12_letters_33 : decode cX12_letters 33 = .ok (.iconst (-1), 1) := by decide +kernel
theorem dX12_letters_34 : decode cX12_letters 34 = .ok (.ireturn, 1) := by decide +kernel
theorem dX12_letters_35 : decode cX12_letters 35 = .ok (.aload_n 0, 1) := by decide +kernel
theorem dX12_letters_36 : decode cX12_letters 36 = .ok (.iload_n 1, 1) := by decide +kernel
theorem dX12_letters_37 : decode cX12_letters 37 = .ok (.invokevirtual 199, 3) := by decide +kernel
theorem dX12_letters_40 : decode cX12_letters 40 = .ok (.ifCond .ne 6, 3) := by decide +kernel
theorem dX12_letters_43 : decode cX12_letters 43 = .ok (.bipush (-3), 2) := by decide +kernel
theorem dX12_letters_45 : decode cX12_letters 45 = .ok (.ireturn, 1) := by decide +kernel
theorem dX12_letters_46 : decode cX12_letters 46 = .ok (.iconst 0, 1) := by decide +kernel
theorem dX12_letters_47 : decode cX12_letters 47 = .ok (.istore_n 3, 1) := by decide +kernel
theorem dX12_letters_48 : decode cX12_letters 48 = .ok (.iconst 0, 1) := by decide +kernel
theorem dX12_letters_49 : decode cX12_letters 49 = .ok (.istore 4, 2) := by decide +kernel
theorem dX12_letters_51 : decode cX12_letters 51 = .ok (.iload 4, 2) := by decide +kernel
theorem dX12_letters_53 : decode cX12_letters 53 = .ok (.aload_n 0, 1) := by decide +kernel
theorem dX12_letters_54 : decode cX12_letters 54 = .ok (.getfield 175, 3) := by decide +kernel
theorem dX12_letters_57 : decode cX12_letters 57 = .ok (.if_icmp .ge 25, 3) := by decide +kernel
theorem dX12_letters_60 : decode cX12_letters 60 = .ok (.iload_n 3, 1) := by decide +kernel
theorem dX12_letters_61 : decode cX12_letters 61 = .ok (.iconst 1, 1) := by decide +kernel
theorem dX12_letters_62 : decode cX12_letters 62 = .ok (.aload_n 0, 1) := by decide +kernel
theorem dX12_letters_63 : decode cX12_letters 63 = .ok (.getfield 178, 3) := by decide +kernel
theorem dX12_letters_66 : decode cX12_letters 66 = .ok (.iload 4, 2) := by decide +kernel
theorem dX12_letters_68 : decode cX12_letters 68 = .ok (.laload, 1) := by decide +kernel
theorem dX12_letters_69 : decode cX12_letters 69 = .ok (.iload_n 2, 1) := by decide +kernel
theorem dX12_letters_70 : decode cX12_letters 70 = .ok (.invokestatic 138, 3) := by decide +kernel
theorem dX12_letters_73 : decode cX12_letters 73 = .ok (.ishl, 1) := by decide +kernel
theorem dX12_letters_74 : decode cX12_letters 74 = .ok (.ior, 1) := by decide +kernel
theorem dX12_letters_75 : decode cX12_letters 75 = .ok (.istore_n 3, 1) := by decide +kernel
theorem dX12_letters_76 : decode cX12_letters 76 = .ok (.iinc 4 1, 3) := by decide +kernel
theorem dX12_letters_79 : decode cX12_letters 79 = .ok (.goto (-28), 3) := by decide +kernel
theorem dX12_letters_82 : decode cX12_letters 82 = .ok (.iload_n 3, 1) := by decide +kernel
theorem dX12_letters_83 : decode cX12_letters 83 = .ok (.ireturn, 1) := by decide +kernel
def w_X12_letters_51_s (post : Int32 → sI → sJ → Prop) (k51 : Int32 → Int32 → Int32 → sI → sJ → Prop) (x2 : Int32) (x3 : Int32) (x4 : Int32) (I : sI) (J : sJ) : Prop :=
  (((I 248 32) ≤ x4 → post x3 I J) ∧ (¬ (I 248 32) ≤ x4 → (vp_in x4 20000 ∧ w_X12_letterOf (J 265 (Int32.toNatClampNeg x4)) x2 I J (fun (r_70 : Int32) (I_70 : sI) (J_70 : sJ) => ((∀ v3_75 : Int32, v3_75 = x3 ||| (1 <<< (r_70 &&& 31)) → (∀ v4_76 : Int32, v4_76 = x4 + 1 → k51 x2 v3_75 v4_76 I_70 J_70)))))))
def w_X12_letters_51_n (post : Int32 → sI → sJ → Prop) : Nat → Int32 → Int32 → Int32 → sI → sJ → Prop
  | 0 => fun _ _ _ _ _ => False
  | n + 1 => fun x2 x3 x4 I J => w_X12_letters_51_s post (w_X12_letters_51_n post n) x2 x3 x4 I J
def w_X12_letters_51 (post : Int32 → sI → sJ → Prop) (x2 : Int32) (x3 : Int32) (x4 : Int32) (I : sI) (J : sJ) : Prop := ∃ n, w_X12_letters_51_n post n x2 x3 x4 I J
set_option maxHeartbeats 4000000 in
set_option maxRecDepth 100000 in
theorem t_X12_letters_51_s {X : sX} {post : Int32 → sI → sJ → Prop} (h : sOK X cX12_letters RX12 5 5 136) (hr : sRt X (some .int) (sPi post)) {k51 : Int32 → Int32 → Int32 → sI → sJ → Prop} (hk51 : ∀ (x2 : Int32) (x3 : Int32) (x4 : Int32) (I : sI) (J : sJ), k51 x2 x3 x4 I J → sG X 5 51 [(0, .ref 248), (2, .int x2), (3, .int x3), (4, .int x4)] [] I J) {x2 : Int32} {x3 : Int32} {x4 : Int32} {I : sI} {J : sJ} (hw : w_X12_letters_51_s post k51 x2 x3 x4 I J) : sG X 5 51 [(0, .ref 248), (2, .int x2), (3, .int x3), (4, .int x4)] [] I J := by
  unfold w_X12_letters_51_s at hw
  refine g_iload h 3 rfl dX12_letters_51 ?_
  refine g_aload_n h rfl 0 rfl dX12_letters_53 ?_
  refine g_get h is_248 fl_X12_175 rfl dX12_letters_54 ?_
  refine g_icmp_ge (tgt := 82) h (by decide) dX12_letters_57 (fun q57 => ?_) (fun q57 => ?_)
  · replace hw := hw.1 q57
    refine g_iload_n h rfl 2 rfl dX12_letters_82 ?_
    exact g_iret h hr dX12_letters_83 hw
  · replace hw := hw.2 q57
    refine g_iload_n h rfl 2 rfl dX12_letters_60 ?_
    refine g_iconst (v := 1) h (by decide) dX12_letters_61 ?_
    refine g_aload_n h rfl 0 rfl dX12_letters_62 ?_
    refine g_get h is_248 fl_X12_178 fr_248_31 dX12_letters_63 ?_
    refine g_iload h 3 rfl dX12_letters_66 ?_
    obtain ⟨hi68, hw⟩ := hw
    refine g_lald h ar_265 hi68 dX12_letters_68 ?_
    refine g_iload_n h rfl 1 rfl dX12_letters_69 ?_
    refine g_callS [.long (J 265 (Int32.toNatClampNeg x4)), .int x2] h (c_X12_letterOf X hw) sPi_v mw_X12_letterOf lk_X12_138 rfl ⟨by decide, by decide⟩ (Nat.le_of_ble_eq_true rfl) dX12_letters_70 (sPi_k (fun r_70 I_70 J_70 hw => ?_))
    refine g_ishl h dX12_letters_73 ?_
    refine g_ior h dX12_letters_74 ?_
    refine g_ni (fun v3_75 ev3_75 => ?_)
    replace hw := hw v3_75 ev3_75
    refine g_istore_n (lo2 := [(3, .int v3_75), (0, .ref 248), (2, .int x2), (4, .int x4)]) h rfl (by decide) rfl dX12_letters_75 ?_
    obtain ⟨v4_76, ev4_76⟩ : ∃ z : Int32, z = x4 + 1 := ⟨_, rfl⟩
    replace hw := hw v4_76 ev4_76
    refine g_iinc (v := v4_76) (lo2 := [(4, .int v4_76), (3, .int v3_75), (0, .ref 248), (2, .int x2)]) h 3 rfl (by rw [ev4_76]; rfl) (by decide) rfl dX12_letters_76 ?_
    refine g_goto (tgt := 51) h (by decide) dX12_letters_79 ?_
    exact g_sub [2, 3, 1, 0] rfl (hk51 _ _ _ _ _ hw)
theorem t_X12_letters_51 {X : sX} {post : Int32 → sI → sJ → Prop} (h : sOK X cX12_letters RX12 5 5 136) (hr : sRt X (some .int) (sPi post)) {x2 : Int32} {x3 : Int32} {x4 : Int32} {I : sI} {J : sJ} (hw : w_X12_letters_51 post x2 x3 x4 I J) : sG X 5 51 [(0, .ref 248), (2, .int x2), (3, .int x3), (4, .int x4)] [] I J := by
  obtain ⟨n, hw⟩ := hw
  induction n generalizing x2 x3 x4 I J with
  | zero => exact hw.elim
  | succ n ih => exact t_X12_letters_51_s h hr (fun _ _ _ _ _ q => ih q) hw
def w_X12_letters (a1 : Int32) (a2 : Int32) (I : sI) (J : sJ) (post : Int32 → sI → sJ → Prop) : Prop :=
  (∀ I_2 : sI, I_2 = sUI I 248 0 0 → w_X12_isAsked a1 I_2 J (fun (r_7 : Int32) (I_7 : sI) (J_7 : sJ) => (((r_7 = 0 → post (-1) I_7 J_7) ∧ (¬ r_7 = 0 → w_X12_in (Int32.toInt64 a2) 0 11 I_7 J_7 (fun (r_19 : Int32) (I_19 : sI) (J_19 : sJ) => (((r_19 = 0 → post (-1) I_19 J_19) ∧ (¬ r_19 = 0 → w_X12_hasKind a2 I_19 J_19 (fun (r_27 : Int32) (I_27 : sI) (J_27 : sJ) => (((¬ r_27 = 0 → w_X12_all a1 I_27 J_27 (fun (r_37 : Int32) (I_37 : sI) (J_37 : sJ) => (((¬ r_37 = 0 → w_X12_letters_51 post a2 0 0 I_37 J_37) ∧ (r_37 = 0 → post (-3) I_37 J_37))))) ∧ (r_27 = 0 → post (-1) I_27 J_27)))))))))))))
set_option maxHeartbeats 4000000 in
set_option maxRecDepth 100000 in
theorem t_X12_letters {X : sX} {a1 : Int32} {a2 : Int32} {I : sI} {J : sJ} {post : Int32 → sI → sJ → Prop} (h : sOK X cX12_letters RX12 5 5 136) (hr : sRt X (some .int) (sPi post)) (hw : w_X12_letters a1 a2 I J post) : sG X 5 0 [(0, .ref 248), (1, .int a1), (2, .int a2)] [] I J := by
  unfold w_X12_letters at hw
  refine g_aload_n h rfl 0 rfl dX12_letters_0 ?_
  refine g_iconst (v := 0) h (by decide) dX12_letters_1 ?_
  refine g_putI h is_248 fl_X12_1 rfl rfl dX12_letters_2 ?_
  refine g_nI (fun I_2 eI_2 => ?_)
  replace hw := hw I_2 eI_2
  refine g_aload_n h rfl 0 rfl dX12_letters_5 ?_
  refine g_iload_n h rfl 1 rfl dX12_letters_6 ?_
  refine g_callV [.int a1] h (c_X12_isAsked X hw) sPi_v mw_X12_isAsked lk_X12_196 is_248 rfl rfl ⟨by decide, by decide⟩ (Nat.le_of_ble_eq_true rfl) dX12_letters_7 (sPi_k (fun r_7 I_7 J_7 hw => ?_))
  refine g_if_eq (tgt := 33) h (by decide) dX12_letters_10 (fun q10 => ?_) (fun q10 => ?_)
  · replace hw := hw.1 q10
    refine g_iconst (v := (-1)) h (by decide) dX12_letters_33 ?_
    exact g_iret h hr dX12_letters_34 hw
  · replace hw := hw.2 q10
    refine g_iload_n h rfl 2 rfl dX12_letters_13 ?_
    refine g_i2l h dX12_letters_14 ?_
    refine g_lconst (v := 0) h (by decide) dX12_letters_15 ?_
    refine g_ldc2 h lc_X12_210 dX12_letters_16 ?_
    refine g_callS [.long (Int32.toInt64 a2), .long 0, .long 11] h (c_X12_in X hw) sPi_v mw_X12_in lk_X12_29 rfl ⟨by decide, by decide⟩ (Nat.le_of_ble_eq_true rfl) dX12_letters_19 (sPi_k (fun r_19 I_19 J_19 hw => ?_))
    refine g_if_eq (tgt := 33) h (by decide) dX12_letters_22 (fun q22 => ?_) (fun q22 => ?_)
    · replace hw := hw.1 q22
      refine g_iconst (v := (-1)) h (by decide) dX12_letters_33 ?_
      exact g_iret h hr dX12_letters_34 hw
    · replace hw := hw.2 q22
      refine g_aload_n h rfl 0 rfl dX12_letters_25 ?_
      refine g_iload_n h rfl 2 rfl dX12_letters_26 ?_
      refine g_callV [.int a2] h (c_X12_hasKind X hw) sPi_v mw_X12_hasKind lk_X12_212 is_248 rfl rfl ⟨by decide, by decide⟩ (Nat.le_of_ble_eq_true rfl) dX12_letters_27 (sPi_k (fun r_27 I_27 J_27 hw => ?_))
      refine g_if_ne (tgt := 35) h (by decide) dX12_letters_30 (fun q30 => ?_) (fun q30 => ?_)
      · replace hw := hw.1 q30
        refine g_aload_n h rfl 0 rfl dX12_letters_35 ?_
        refine g_iload_n h rfl 1 rfl dX12_letters_36 ?_
        refine g_callV [.int a1] h (c_X12_all X hw) sPi_v mw_X12_all lk_X12_199 is_248 rfl rfl ⟨by decide, by decide⟩ (Nat.le_of_ble_eq_true rfl) dX12_letters_37 (sPi_k (fun r_37 I_37 J_37 hw => ?_))
        refine g_if_ne (tgt := 46) h (by decide) dX12_letters_40 (fun q40 => ?_) (fun q40 => ?_)
        · replace hw := hw.1 q40
          refine g_iconst (v := 0) h (by decide) dX12_letters_46 ?_
          refine g_istore_n (lo2 := [(3, .int 0), (0, .ref 248), (1, .int a1), (2, .int a2)]) h rfl (by decide) rfl dX12_letters_47 ?_
          refine g_iconst (v := 0) h (by decide) dX12_letters_48 ?_
          refine g_istore (lo2 := [(4, .int 0), (3, .int 0), (0, .ref 248), (1, .int a1), (2, .int a2)]) h (by decide) rfl dX12_letters_49 ?_
          exact g_sub [2, 4, 1, 0] rfl (t_X12_letters_51 h hr hw)
        · replace hw := hw.2 q40
          refine g_bipush (v := (-3)) h (by decide) dX12_letters_43 ?_
          exact g_iret h hr dX12_letters_45 hw
      · replace hw := hw.2 q30
        refine g_iconst (v := (-1)) h (by decide) dX12_letters_33 ?_
        exact g_iret h hr dX12_letters_34 hw
theorem c_X12_letters (X : sX) {a1 : Int32} {a2 : Int32} {I : sI} {J : sJ} {post : Int32 → sI → sJ → Prop} (hw : w_X12_letters a1 a2 I J post) : sCall X yX12_letters cX12_letters 5 (some .int) 5 136 [.ref 248, .int a1, .int a2] I J (sPi post) := sCall_of (by decide +kernel) (Nat.le_of_ble_eq_true rfl) (fun X h hr => t_X12_letters h hr hw)
theorem dX12_means_0 : decode cX12_means 0 = .ok (.aload_n 0, 1) := by decide +kernel
theorem dX12_means_1 : decode cX12_means 1 = .ok (.iconst 0, 1) := by decide +kernel
theorem dX12_means_2 : decode cX12_means 2 = .ok (.putfield 1, 3) := by decide +kernel
theorem dX12_means_5 : decode cX12_means 5 = .ok (.aload_n 0, 1) := by decide +kernel
theorem dX12_means_6 : decode cX12_means 6 = .ok (.iload_n 1, 1) := by decide +kernel
theorem dX12_means_7 : decode cX12_means 7 = .ok (.invokevirtual 196, 3) := by decide +kernel
theorem dX12_means_10 : decode cX12_means 10 = .ok (.ifCond .eq 19, 3) := by decide +kernel
theorem dX12_means_13 : decode cX12_means 13 = .ok (.iload_n 2, 1) := by decide +kernel
theorem dX12_means_14 : decode cX12_means 14 = .ok (.i2l, 1) := by decide +kernel
theorem dX12_means_15 : decode cX12_means 15 = .ok (.lconst 0, 1) := by decide +kernel
theorem dX12_means_16 : decode cX12_means 16 = .ok (.aload_n 0, 1) := by decide +kernel
theorem dX12_means_17 : decode cX12_means 17 = .ok (.getfield 76, 3) := by decide +kernel
theorem dX12_means_20 : decode cX12_means 20 = .ok (.iconst 1, 1) := by decide +kernel
theorem dX12_means_21 : decode cX12_means 21 = .ok (.isub, 1) := by decide +kernel
theorem dX12_means_22 : decode cX12_means 22 = .ok (.i2l, 1) := by decide +kernel
theorem dX12_means_23 : decode cX12_means 23 = .ok (.invokestatic 29, 3) := by decide +kernel
theorem dX12_means_26 : decode cX12_means 26 = .ok (.ifCond .ne 5, 3) := by decide +kernel
theorem dX12_means_29 : decode cX12_means 29 = .ok (.iconst (-1), 1) := by decide +kernel
theorem dX12_means_30 : decode cX12_means 30 = .ok (.ireturn, 1) := by decide +kernel
theorem dX12_means_31 : decode cX12_means 31 = .ok (.aload_n 0, 1) := by decide +kernel
theorem dX12_means_32 : decode cX12_means 32 = .ok (.iload_n 1, 1) := by decide +kernel
theorem dX12_means_33 : decode cX12_means 33 = .ok (.invokevirtual 199, 3) := by decide +kernel
theorem dX12_means_36 : decode cX12_means 36 = .ok (.ifCond .ne 6, 3) := by decide +kernel
theorem dX12_means_39 : decode cX12_means 39 = .ok (.bipush (-3), 2) := by decide +kernel
theorem dX12_means_41 : decode cX12_means 41 = .ok (.ireturn, 1) := by decide +kernel
theorem dX12_means_42 : decode cX12_means 42 = .ok (.iconst 0, 1) := by decide +kernel
theorem dX12_means_43 : decode cX12_means 43 = .ok (.istore_n 3, 1) := by decide +kernel
theorem dX12_means_44 : decode cX12_means 44 = .ok (.iconst 0, 1) := by decide +kernel
theorem dX12_means_45 : decode cX12_means 45 = .ok (.istore 4, 2) := by decide +kernel
theorem dX12_means_47 : decode cX12_means 47 = .ok (.iload 4, 2) := by decide +kernel
theorem dX12_means_49 : decode cX12_means 49 = .ok (.iload_n 2, 1) := by decide +kernel
theorem dX12_means_50 : decode cX12_means 50 = .ok (.if_icmp .ge 19, 3) := by decide +kernel
theorem dX12_means_53 : decode cX12_means 53 = .ok (.iload_n 3, 1) := by decide +kernel
theorem dX12_means_54 : decode cX12_means 54 = .ok (.aload_n 0, 1) := by decide +kernel
theorem dX12_means_55 : decode cX12_means 55 = .ok (.getfield 82, 3) := by decide +kernel
theorem dX12_means_58 : decode cX12_means 58 = .ok (.iload 4, 2) := by decide +kernel
theorem dX12_means_60 : decode cX12_means 60 = .ok (.iaload, 1) := by decide +kernel
theorem dX12_means_61 : decode cX12_means 61 = .ok (.iadd, 1) := by decide +kernel
theorem dX12_means_62 : decode cX12_means 62 = .ok (.istore_n 3, 1) := by decide +kernel
theorem dX12_means_63 : decode cX12_means 63 = .ok (.iinc 4 1, 3) := by decide +kernel
theorem dX12_means_66 : decode cX12_means 66 = .ok (.goto (-19), 3) := by decide +kernel
theorem dX12_means_69 : decode cX12_means 69 = .ok (.iconst 0, 1) := by decide +kernel
theorem dX12_means_70 : decode cX12_means 70 = .ok (.istore 4, 2) := by decide +kernel
theorem dX12_means_72 : decode cX12_means 72 = .ok (.iconst 0, 1) := by decide +kernel
theorem dX12_means_73 : decode cX12_means 73 = .ok (.istore 5, 2) := by decide +kernel
theorem dX12_means_75 : decode cX12_means 75 = .ok (.iload 5, 2) := by decide +kernel
theorem dX12_means_77 : decode cX12_means 77 = .ok (.aload_n 0, 1) := by decide +kernel
theorem dX12_means_78 : decode cX12_means 78 = .ok (.getfield 100, 3) := by decide +kernel
theorem dX12_means_81 : decode cX12_means 81 = .ok (.iload_n 1, 1) := by decide +kernel
theorem dX12_means_82 : decode cX12_means 82 = .ok (.iaload, 1) := by decide +kernel
theorem dX12_means_83 : decode cX12_means 83 = .ok (.if_icmp .ge 109, 3) := by decide +kernel
theorem dX12_means_86 : decode cX12_means 86 = .ok (.bipush 20, 2) := by decide +kernel
theorem dX12_means_88 : decode cX12_means 88 = .ok (.iload_n 1, 1) := by decide +kernel
theorem dX12_means_89 : decode cX12_means 89 = .ok (.imul, 1) := by decide +kernel
theorem dX12_means_90 : decode cX12_means 90 = .ok (.iload 5, 2) := by decide +kernel
theorem dX12_means_92 : decode cX12_means 92 = .ok (.iadd, 1) := by decide +kernel
theorem dX12_means_93 : decode cX12_means 93 = .ok (.istore 6, 2) := by decide +kernel
theorem dX12_means_95 : decode cX12_means 95 = .ok (.iconst 0, 1) := by decide +kernel
theorem dX12_means_96 : decode cX12_means 96 = .ok (.istore 7, 2) := by decide +kernel
theorem dX12_means_98 : decode cX12_means 98 = .ok (.iconst 0, 1) := by decide +kernel
theorem dX12_means_99 : decode cX12_means 99 = .ok (.istore 8, 2) := by decide +kernel
theorem dX12_means_101 : decode cX12_means 101 = .ok (.iload 8, 2) := by decide +kernel
theorem dX12_means_103 : decode cX12_means 103 = .ok (.aload_n 0, 1) := by decide +kernel
theorem dX12_means_104 : decode cX12_means 104 = .ok (.getfield 175, 3) := by decide +kernel
theorem dX12_means_107 : decode cX12_means 107 = .ok (.if_icmp .ge 61, 3) := by decide +kernel
theorem dX12_means_110 : decode cX12_means 110 = .ok (.iload 7, 2) := by decide +kernel
theorem dX12_means_112 : decode cX12_means 112 = .ok (.ifCond .ne 56, 3) := by decide +kernel
theorem dX12_means_115 : decode cX12_means 115 = .ok (.aload_n 0, 1) := by decide +kernel
theorem dX12_means_116 : decode cX12_means 116 = .ok (.iload 6, 2) := by decide +kernel
theorem dX12_means_118 : decode cX12_means 118 = .ok (.aload_n 0, 1) := by decide +kernel
theorem dX12_means_119 : decode cX12_means 119 = .ok (.getfield 82, 3) := by decide +kernel
theorem dX12_means_122 : decode cX12_means 122 = .ok (.iload_n 2, 1) := by decide +kernel
theorem dX12_means_123 : decode cX12_means 123 = .ok (.iaload, 1) := by decide +kernel
theorem dX12_means_124 : decode cX12_means 124 = .ok (.invokevirtual 151, 3) := by decide +kernel
theorem dX12_means_127 : decode cX12_means 127 = .ok (.ifCond .eq 41, 3) := by decide +kernel
theorem dX12_means_130 : decode cX12_means 130 = .ok (.aload_n 0, 1) := by decide +kernel
theorem dX12_means_131 : decode cX12_means 131 = .ok (.aload_n 0, 1) := by decide +kernel
theorem dX12_means_132 : decode cX12_means 132 = .ok (.getfield 178, 3) := by decide +kernel
theorem dX12_means_135 : decode cX12_means 135 = .ok (.iload 8, 2) := by decide +kernel
theorem dX12_means_137 : decode cX12_means 137 = .ok (.laload, 1) := by decide +kernel
theorem dX12_means_138 : decode cX12_means 138 = .ok (.iload_n 3, 1) := by decide +kernel
theorem dX12_means_139 : decode cX12_means 139 = .ok (.aload_n 0, 1) := by decide +kernel
theorem dX12_means_140 : decode cX12_means 140 = .ok (.getfield 82, 3) := by decide +kernel
theorem dX12_means_143 : decode cX12_means 143 = .ok (.iload_n 2, 1) := by decide +kernel
theorem dX12_means_144 : decode cX12_means 144 = .ok (.iaload, 1) := by decide +kernel
theorem dX12_means_145 : decode cX12_means 145 = .ok (.iload 6, 2) := by decide +kernel
theorem dX12_means_147 : decode cX12_means 147 = .ok (.invokevirtual 158, 3) := by decide +kernel
theorem dX12_means_150 : decode cX12_means 150 = .ok (.lconst 0, 1) := by decide +kernel
theorem dX12_means_151 : decode cX12_means 151 = .ok (.lcmp, 1) := by decide +kernel
theorem dX12_means_152 : decode cX12_means 152 = .ok (.ifCond .lt 7, 3) := by decide +kernel
theorem dX12_means_155 : decode cX12_means 155 = .ok (.iconst 1, 1) := by decide +kernel
theorem dX12_means_156 : decode cX12_means 156 = .ok (.goto 4, 3) := by decide +kernel
theorem dX12_means_159 : decode cX12_means 159 = .ok (.iconst 0, 1) := by decide +kernel
theorem dX12_means_160 : decode cX12_means 160 = .ok (.istore 7, 2) := by decide +kernel
theorem dX12_means_162 : decode cX12_means 162 = .ok (.iinc 8 1, 3) := by decide +kernel
theorem dX12_means_165 : decode cX12_means 165 = .ok (.goto (-64), 3) := by decide +kernel
theorem dX12_means_168 : decode cX12_means 168 = .ok (.iload 4, 2) := by decide +kernel
theorem dX12_means_170 : decode cX12_means 170 = .ok (.iload 7, 2) := by decide +kernel
theorem dX12_means_172 : decode cX12_means 172 = .ok (.ifCond .eq 10, 3) := by decide +kernel
theorem dX12_means_175 : decode cX12_means 175 = .ok (.iconst 1, 1) := by decide +kernel
theorem dX12_means_176 : decode cX12_means 176 = .ok (.iload 5, 2) := by decide +kernel
theorem dX12_means_178 : decode cX12_means 178 = .ok (.ishl, 1) := by decide +kernel
theorem dX12_means_179 : decode cX12_means 179 = .ok (.goto 4, 3) := by decide +kernel
theorem dX12_means_182 : decode cX12_means 182 = .ok (.iconst 0, 1) := by decide +kernel
theorem dX12_means_183 : decode cX12_means 183 = .ok (.ior, 1) := by decide +kernel
theorem dX12_means_184 : decode cX12_means 184 = .ok (.istore 4, 2) := by decide +kernel
theorem dX12_means_186 : decode cX12_means 186 = .ok (.iinc 5 1, 3) := by decide +kernel
theorem dX12_means_189 : decode cX12_means 189 = .ok (.goto (-114), 3) := by decide +kernel
theorem dX12_means_192 : decode cX12_means 192 = .ok (.iload 4, 2) := by decide +kernel
theorem dX12_means_194 : decode cX12_means 194 = .ok (.ireturn, 1) := by decide +kernel
def w_X12_means_183 (post : Int32 → sI → sJ → Prop) (k75 : Int32 → Int32 → Int32 → Int32 → Int32 → sI → sJ → Prop) (x1 : Int32) (x2 : Int32) (x3 : Int32) (x5 : Int32) (s0 : Int32) (s1 : Int32) (I : sI) (J : sJ) : Prop :=
  (∀ v4_184 : Int32, v4_184 = s1 ||| s0 → (∀ v5_186 : Int32, v5_186 = x5 + 1 → k75 x1 x2 x3 v4_184 v5_186 I J))
set_option maxHeartbeats 4000000 in
set_option maxRecDepth 100000 in
theorem t_X12_means_183 {X : sX} {post : Int32 → sI → sJ → Prop} (h : sOK X cX12_means RX12 9 5 136) (hr : sRt X (some .int) (sPi post)) {k75 : Int32 → Int32 → Int32 → Int32 → Int32 → sI → sJ → Prop} (hk75 : ∀ (x1 : Int32) (x2 : Int32) (x3 : Int32) (x4 : Int32) (x5 : Int32) (I : sI) (J : sJ), k75 x1 x2 x3 x4 x5 I J → sG X 9 75 [(0, .ref 248), (1, .int x1), (2, .int x2), (3, .int x3), (4, .int x4), (5, .int x5)] [] I J) {x1 : Int32} {x2 : Int32} {x3 : Int32} {x5 : Int32} {s0 : Int32} {s1 : Int32} {I : sI} {J : sJ} (hw : w_X12_means_183 post k75 x1 x2 x3 x5 s0 s1 I J) : sG X 9 183 [(0, .ref 248), (1, .int x1), (2, .int x2), (3, .int x3), (5, .int x5)] [.int s0, .int s1] I J := by
  unfold w_X12_means_183 at hw
  refine g_ior h dX12_means_183 ?_
  refine g_ni (fun v4_184 ev4_184 => ?_)
  replace hw := hw v4_184 ev4_184
  refine g_istore (lo2 := [(4, .int v4_184), (0, .ref 248), (1, .int x1), (2, .int x2), (3, .int x3), (5, .int x5)]) h (by decide) rfl dX12_means_184 ?_
  obtain ⟨v5_186, ev5_186⟩ : ∃ z : Int32, z = x5 + 1 := ⟨_, rfl⟩
  replace hw := hw v5_186 ev5_186
  refine g_iinc (v := v5_186) (lo2 := [(5, .int v5_186), (4, .int v4_184), (0, .ref 248), (1, .int x1), (2, .int x2), (3, .int x3)]) h 5 rfl (by rw [ev5_186]; rfl) (by decide) rfl dX12_means_186 ?_
  refine g_goto (tgt := 75) h (by decide) dX12_means_189 ?_
  exact g_sub [2, 3, 4, 5, 1, 0] rfl (hk75 _ _ _ _ _ _ _ hw)
def w_X12_means_168 (post : Int32 → sI → sJ → Prop) (k75 : Int32 → Int32 → Int32 → Int32 → Int32 → sI → sJ → Prop) (x1 : Int32) (x2 : Int32) (x3 : Int32) (x4 : Int32) (x5 : Int32) (x7 : Int32) (I : sI) (J : sJ) : Prop :=
  ((x7 = 0 → w_X12_means_183 post k75 x1 x2 x3 x5 0 x4 I J) ∧ (¬ x7 = 0 → w_X12_means_183 post k75 x1 x2 x3 x5 (1 <<< (x5 &&& 31)) x4 I J))
set_option maxHeartbeats 4000000 in
set_option maxRecDepth 100000 in
theorem t_X12_means_168 {X : sX} {post : Int32 → sI → sJ → Prop} (h : sOK X cX12_means RX12 9 5 136) (hr : sRt X (some .int) (sPi post)) {k75 : Int32 → Int32 → Int32 → Int32 → Int32 → sI → sJ → Prop} (hk75 : ∀ (x1 : Int32) (x2 : Int32) (x3 : Int32) (x4 : Int32) (x5 : Int32) (I : sI) (J : sJ), k75 x1 x2 x3 x4 x5 I J → sG X 9 75 [(0, .ref 248), (1, .int x1), (2, .int x2), (3, .int x3), (4, .int x4), (5, .int x5)] [] I J) {x1 : Int32} {x2 : Int32} {x3 : Int32} {x4 : Int32} {x5 : Int32} {x7 : Int32} {I : sI} {J : sJ} (hw : w_X12_means_168 post k75 x1 x2 x3 x4 x5 x7 I J) : sG X 9 168 [(0, .ref 248), (1, .int x1), (2, .int x2), (3, .int x3), (4, .int x4), (5, .int x5), (7, .int x7)] [] I J := by
  unfold w_X12_means_168 at hw
  refine g_iload h 4 rfl dX12_means_168 ?_
  refine g_iload h 6 rfl dX12_means_170 ?_
  refine g_if_eq (tgt := 182) h (by decide) dX12_means_172 (fun q172 => ?_) (fun q172 => ?_)
  · replace hw := hw.1 q172
    refine g_iconst (v := 0) h (by decide) dX12_means_182 ?_
    exact g_sub [0, 1, 2, 3, 5] rfl (t_X12_means_183 h hr hk75 hw)
  · replace hw := hw.2 q172
    refine g_iconst (v := 1) h (by decide) dX12_means_175 ?_
    refine g_iload h 5 rfl dX12_means_176 ?_
    refine g_ishl h dX12_means_178 ?_
    refine g_goto (tgt := 183) h (by decide) dX12_means_179 ?_
    exact g_sub [0, 1, 2, 3, 5] rfl (t_X12_means_183 h hr hk75 hw)
def w_X12_means_160 (post : Int32 → sI → sJ → Prop) (k75 : Int32 → Int32 → Int32 → Int32 → Int32 → sI → sJ → Prop) (k101 : Int32 → Int32 → Int32 → Int32 → Int32 → Int32 → Int32 → Int32 → sI → sJ → Prop) (x1 : Int32) (x2 : Int32) (x3 : Int32) (x4 : Int32) (x5 : Int32) (x6 : Int32) (x8 : Int32) (s0 : Int32) (I : sI) (J : sJ) : Prop :=
  (∀ v8_162 : Int32, v8_162 = x8 + 1 → k101 x1 x2 x3 x4 x5 x6 s0 v8_162 I J)
set_option maxHeartbeats 4000000 in
set_option maxRecDepth 100000 in
theorem t_X12_means_160 {X : sX} {post : Int32 → sI → sJ → Prop} (h : sOK X cX12_means RX12 9 5 136) (hr : sRt X (some .int) (sPi post)) {k75 : Int32 → Int32 → Int32 → Int32 → Int32 → sI → sJ → Prop} (hk75 : ∀ (x1 : Int32) (x2 : Int32) (x3 : Int32) (x4 : Int32) (x5 : Int32) (I : sI) (J : sJ), k75 x1 x2 x3 x4 x5 I J → sG X 9 75 [(0, .ref 248), (1, .int x1), (2, .int x2), (3, .int x3), (4, .int x4), (5, .int x5)] [] I J) {k101 : Int32 → Int32 → Int32 → Int32 → Int32 → Int32 → Int32 → Int32 → sI → sJ → Prop} (hk101 : ∀ (x1 : Int32) (x2 : Int32) (x3 : Int32) (x4 : Int32) (x5 : Int32) (x6 : Int32) (x7 : Int32) (x8 : Int32) (I : sI) (J : sJ), k101 x1 x2 x3 x4 x5 x6 x7 x8 I J → sG X 9 101 [(0, .ref 248), (1, .int x1), (2, .int x2), (3, .int x3), (4, .int x4), (5, .int x5), (6, .int x6), (7, .int x7), (8, .int x8)] [] I J) {x1 : Int32} {x2 : Int32} {x3 : Int32} {x4 : Int32} {x5 : Int32} {x6 : Int32} {x8 : Int32} {s0 : Int32} {I : sI} {J : sJ} (hw : w_X12_means_160 post k75 k101 x1 x2 x3 x4 x5 x6 x8 s0 I J) : sG X 9 160 [(0, .ref 248), (1, .int x1), (2, .int x2), (3, .int x3), (4, .int x4), (5, .int x5), (6, .int x6), (8, .int x8)] [.int s0] I J := by
  unfold w_X12_means_160 at hw
  refine g_istore (lo2 := [(7, .int s0), (0, .ref 248), (1, .int x1), (2, .int x2), (3, .int x3), (4, .int x4), (5, .int x5), (6, .int x6), (8, .int x8)]) h (by decide) rfl dX12_means_160 ?_
  obtain ⟨v8_162, ev8_162⟩ : ∃ z : Int32, z = x8 + 1 := ⟨_, rfl⟩
  replace hw := hw v8_162 ev8_162
  refine g_iinc (v := v8_162) (lo2 := [(8, .int v8_162), (7, .int s0), (0, .ref 248), (1, .int x1), (2, .int x2), (3, .int x3), (4, .int x4), (5, .int x5), (6, .int x6)]) h 8 rfl (by rw [ev8_162]; rfl) (by decide) rfl dX12_means_162 ?_
  refine g_goto (tgt := 101) h (by decide) dX12_means_165 ?_
  exact g_sub [2, 3, 4, 5, 6, 7, 8, 1, 0] rfl (hk101 _ _ _ _ _ _ _ _ _ _ hw)
def w_X12_means_101_s (post : Int32 → sI → sJ → Prop) (k75 : Int32 → Int32 → Int32 → Int32 → Int32 → sI → sJ → Prop) (k101 : Int32 → Int32 → Int32 → Int32 → Int32 → Int32 → Int32 → Int32 → sI → sJ → Prop) (x1 : Int32) (x2 : Int32) (x3 : Int32) (x4 : Int32) (x5 : Int32) (x6 : Int32) (x7 : Int32) (x8 : Int32) (I : sI) (J : sJ) : Prop :=
  (((I 248 32) ≤ x8 → w_X12_means_168 post k75 x1 x2 x3 x4 x5 x7 I J) ∧ (¬ (I 248 32) ≤ x8 → ((¬ x7 = 0 → w_X12_means_168 post k75 x1 x2 x3 x4 x5 x7 I J) ∧ (x7 = 0 → (vp_in x2 24 ∧ w_X12_mayBe x6 (I 253 (Int32.toNatClampNeg x2)) I J (fun (r_124 : Int32) (I_124 : sI) (J_124 : sJ) => (((r_124 = 0 → w_X12_means_168 post k75 x1 x2 x3 x4 x5 x7 I_124 J_124) ∧ (¬ r_124 = 0 → (vp_in x8 20000 ∧ (vp_in x2 24 ∧ w_X12_fits (J_124 265 (Int32.toNatClampNeg x8)) x3 (I_124 253 (Int32.toNatClampNeg x2)) x6 I_124 J_124 (fun (r_147 : Int64) (I_147 : sI) (J_147 : sJ) => ((((lg_cmp r_147 0) < 0 → w_X12_means_160 post k75 k101 x1 x2 x3 x4 x5 x6 x8 0 I_147 J_147) ∧ (¬ (lg_cmp r_147 0) < 0 → w_X12_means_160 post k75 k101 x1 x2 x3 x4 x5 x6 x8 1 I_147 J_147)))))))))))))))
def w_X12_means_101_n (post : Int32 → sI → sJ → Prop) (k75 : Int32 → Int32 → Int32 → Int32 → Int32 → sI → sJ → Prop) : Nat → Int32 → Int32 → Int32 → Int32 → Int32 → Int32 → Int32 → Int32 → sI → sJ → Prop
  | 0 => fun _ _ _ _ _ _ _ _ _ _ => False
  | n + 1 => fun x1 x2 x3 x4 x5 x6 x7 x8 I J => w_X12_means_101_s post k75 (w_X12_means_101_n post k75 n) x1 x2 x3 x4 x5 x6 x7 x8 I J
def w_X12_means_101 (post : Int32 → sI → sJ → Prop) (k75 : Int32 → Int32 → Int32 → Int32 → Int32 → sI → sJ → Prop) (x1 : Int32) (x2 : Int32) (x3 : Int32) (x4 : Int32) (x5 : Int32) (x6 : Int32) (x7 : Int32) (x8 : Int32) (I : sI) (J : sJ) : Prop := ∃ n, w_X12_means_101_n post k75 n x1 x2 x3 x4 x5 x6 x7 x8 I J
set_option maxHeartbeats 4000000 in
set_option maxRecDepth 100000 in
theorem t_X12_means_101_s {X : sX} {post : Int32 → sI → sJ → Prop} (h : sOK X cX12_means RX12 9 5 136) (hr : sRt X (some .int) (sPi post)) {k75 : Int32 → Int32 → Int32 → Int32 → Int32 → sI → sJ → Prop} (hk75 : ∀ (x1 : Int32) (x2 : Int32) (x3 : Int32) (x4 : Int32) (x5 : Int32) (I : sI) (J : sJ), k75 x1 x2 x3 x4 x5 I J → sG X 9 75 [(0, .ref 248), (1, .int x1), (2, .int x2), (3, .int x3), (4, .int x4), (5, .int x5)] [] I J) {k101 : Int32 → Int32 → Int32 → Int32 → Int32 → Int32 → Int32 → Int32 → sI → sJ → Prop} (hk101 : ∀ (x1 : Int32) (x2 : Int32) (x3 : Int32) (x4 : Int32) (x5 : Int32) (x6 : Int32) (x7 : Int32) (x8 : Int32) (I : sI) (J : sJ), k101 x1 x2 x3 x4 x5 x6 x7 x8 I J → sG X 9 101 [(0, .ref 248), (1, .int x1), (2, .int x2), (3, .int x3), (4, .int x4), (5, .int x5), (6, .int x6), (7, .int x7), (8, .int x8)] [] I J) {x1 : Int32} {x2 : Int32} {x3 : Int32} {x4 : Int32} {x5 : Int32} {x6 : Int32} {x7 : Int32} {x8 : Int32} {I : sI} {J : sJ} (hw : w_X12_means_101_s post k75 k101 x1 x2 x3 x4 x5 x6 x7 x8 I J) : sG X 9 101 [(0, .ref 248), (1, .int x1), (2, .int x2), (3, .int x3), (4, .int x4), (5, .int x5), (6, .int x6), (7, .int x7), (8, .int x8)] [] I J := by
  unfold w_X12_means_101_s at hw
  refine g_iload h 8 rfl dX12_means_101 ?_
  refine g_aload_n h rfl 0 rfl dX12_means_103 ?_
  refine g_get h is_248 fl_X12_175 rfl dX12_means_104 ?_
  refine g_icmp_ge (tgt := 168) h (by decide) dX12_means_107 (fun q107 => ?_) (fun q107 => ?_)
  · replace hw := hw.1 q107
    exact g_sub [0, 1, 2, 3, 4, 5, 7] rfl (t_X12_means_168 h hr hk75 hw)
  · replace hw := hw.2 q107
    refine g_iload h 7 rfl dX12_means_110 ?_
    refine g_if_ne (tgt := 168) h (by decide) dX12_means_112 (fun q112 => ?_) (fun q112 => ?_)
    · replace hw := hw.1 q112
      exact g_sub [0, 1, 2, 3, 4, 5, 7] rfl (t_X12_means_168 h hr hk75 hw)
    · replace hw := hw.2 q112
      refine g_aload_n h rfl 0 rfl dX12_means_115 ?_
      refine g_iload h 6 rfl dX12_means_116 ?_
      refine g_aload_n h rfl 0 rfl dX12_means_118 ?_
      refine g_get h is_248 fl_X12_82 fr_248_13 dX12_means_119 ?_
      refine g_iload_n h rfl 2 rfl dX12_means_122 ?_
      obtain ⟨hi123, hw⟩ := hw
      refine g_iald h ar_253 hi123 dX12_means_123 ?_
      refine g_callV [.int x6, .int (I 253 (Int32.toNatClampNeg x2))] h (c_X12_mayBe X hw) sPi_v mw_X12_mayBe lk_X12_151 is_248 rfl rfl ⟨by decide, by decide⟩ (Nat.le_of_ble_eq_true rfl) dX12_means_124 (sPi_k (fun r_124 I_124 J_124 hw => ?_))
      refine g_if_eq (tgt := 168) h (by decide) dX12_means_127 (fun q127 => ?_) (fun q127 => ?_)
      · replace hw := hw.1 q127
        exact g_sub [0, 1, 2, 3, 4, 5, 7] rfl (t_X12_means_168 h hr hk75 hw)
      · replace hw := hw.2 q127
        refine g_aload_n h rfl 0 rfl dX12_means_130 ?_
        refine g_aload_n h rfl 0 rfl dX12_means_131 ?_
        refine g_get h is_248 fl_X12_178 fr_248_31 dX12_means_132 ?_
        refine g_iload h 8 rfl dX12_means_135 ?_
        obtain ⟨hi137, hw⟩ := hw
        refine g_lald h ar_265 hi137 dX12_means_137 ?_
        refine g_iload_n h rfl 3 rfl dX12_means_138 ?_
        refine g_aload_n h rfl 0 rfl dX12_means_139 ?_
        refine g_get h is_248 fl_X12_82 fr_248_13 dX12_means_140 ?_
        refine g_iload_n h rfl 2 rfl dX12_means_143 ?_
        obtain ⟨hi144, hw⟩ := hw
        refine g_iald h ar_253 hi144 dX12_means_144 ?_
        refine g_iload h 6 rfl dX12_means_145 ?_
        refine g_callV [.long (J_124 265 (Int32.toNatClampNeg x8)), .int x3, .int (I_124 253 (Int32.toNatClampNeg x2)), .int x6] h (c_X12_fits X hw) sPl_v mw_X12_fits lk_X12_158 is_248 rfl rfl ⟨by decide, by decide⟩ (Nat.le_of_ble_eq_true rfl) dX12_means_147 (sPl_k (fun r_147 I_147 J_147 hw => ?_))
        refine g_lconst (v := 0) h (by decide) dX12_means_150 ?_
        refine g_lcmp h dX12_means_151 ?_
        refine g_if_lt (tgt := 159) h (by decide) dX12_means_152 (fun q152 => ?_) (fun q152 => ?_)
        · replace hw := hw.1 q152
          refine g_iconst (v := 0) h (by decide) dX12_means_159 ?_
          exact g_sub [0, 1, 2, 3, 4, 5, 6, 8] rfl (t_X12_means_160 h hr hk75 hk101 hw)
        · replace hw := hw.2 q152
          refine g_iconst (v := 1) h (by decide) dX12_means_155 ?_
          refine g_goto (tgt := 160) h (by decide) dX12_means_156 ?_
          exact g_sub [0, 1, 2, 3, 4, 5, 6, 8] rfl (t_X12_means_160 h hr hk75 hk101 hw)
theorem t_X12_means_101 {X : sX} {post : Int32 → sI → sJ → Prop} (h : sOK X cX12_means RX12 9 5 136) (hr : sRt X (some .int) (sPi post)) {k75 : Int32 → Int32 → Int32 → Int32 → Int32 → sI → sJ → Prop} (hk75 : ∀ (x1 : Int32) (x2 : Int32) (x3 : Int32) (x4 : Int32) (x5 : Int32) (I : sI) (J : sJ), k75 x1 x2 x3 x4 x5 I J → sG X 9 75 [(0, .ref 248), (1, .int x1), (2, .int x2), (3, .int x3), (4, .int x4), (5, .int x5)] [] I J) {x1 : Int32} {x2 : Int32} {x3 : Int32} {x4 : Int32} {x5 : Int32} {x6 : Int32} {x7 : Int32} {x8 : Int32} {I : sI} {J : sJ} (hw : w_X12_means_101 post k75 x1 x2 x3 x4 x5 x6 x7 x8 I J) : sG X 9 101 [(0, .ref 248), (1, .int x1), (2, .int x2), (3, .int x3), (4, .int x4), (5, .int x5), (6, .int x6), (7, .int x7), (8, .int x8)] [] I J := by
  obtain ⟨n, hw⟩ := hw
  induction n generalizing x1 x2 x3 x4 x5 x6 x7 x8 I J with
  | zero => exact hw.elim
  | succ n ih => exact t_X12_means_101_s h hr hk75 (fun _ _ _ _ _ _ _ _ _ _ q => ih q) hw
def w_X12_means_75_s (post : Int32 → sI → sJ → Prop) (k75 : Int32 → Int32 → Int32 → Int32 → Int32 → sI → sJ → Prop) (x1 : Int32) (x2 : Int32) (x3 : Int32) (x4 : Int32) (x5 : Int32) (I : sI) (J : sJ) : Prop :=
  (vp_in x1 4 ∧ (((I 257 (Int32.toNatClampNeg x1)) ≤ x5 → post x4 I J) ∧ (¬ (I 257 (Int32.toNatClampNeg x1)) ≤ x5 → (∀ v6_93 : Int32, v6_93 = (20 * x1) + x5 → w_X12_means_101 post k75 x1 x2 x3 x4 x5 v6_93 0 0 I J))))
def w_X12_means_75_n (post : Int32 → sI → sJ → Prop) : Nat → Int32 → Int32 → Int32 → Int32 → Int32 → sI → sJ → Prop
  | 0 => fun _ _ _ _ _ _ _ => False
  | n + 1 => fun x1 x2 x3 x4 x5 I J => w_X12_means_75_s post (w_X12_means_75_n post n) x1 x2 x3 x4 x5 I J
def w_X12_means_75 (post : Int32 → sI → sJ → Prop) (x1 : Int32) (x2 : Int32) (x3 : Int32) (x4 : Int32) (x5 : Int32) (I : sI) (J : sJ) : Prop := ∃ n, w_X12_means_75_n post n x1 x2 x3 x4 x5 I J
set_option maxHeartbeats 4000000 in
set_option maxRecDepth 100000 in
theorem t_X12_means_75_s {X : sX} {post : Int32 → sI → sJ → Prop} (h : sOK X cX12_means RX12 9 5 136) (hr : sRt X (some .int) (sPi post)) {k75 : Int32 → Int32 → Int32 → Int32 → Int32 → sI → sJ → Prop} (hk75 : ∀ (x1 : Int32) (x2 : Int32) (x3 : Int32) (x4 : Int32) (x5 : Int32) (I : sI) (J : sJ), k75 x1 x2 x3 x4 x5 I J → sG X 9 75 [(0, .ref 248), (1, .int x1), (2, .int x2), (3, .int x3), (4, .int x4), (5, .int x5)] [] I J) {x1 : Int32} {x2 : Int32} {x3 : Int32} {x4 : Int32} {x5 : Int32} {I : sI} {J : sJ} (hw : w_X12_means_75_s post k75 x1 x2 x3 x4 x5 I J) : sG X 9 75 [(0, .ref 248), (1, .int x1), (2, .int x2), (3, .int x3), (4, .int x4), (5, .int x5)] [] I J := by
  unfold w_X12_means_75_s at hw
  refine g_iload h 5 rfl dX12_means_75 ?_
  refine g_aload_n h rfl 0 rfl dX12_means_77 ?_
  refine g_get h is_248 fl_X12_100 fr_248_18 dX12_means_78 ?_
  refine g_iload_n h rfl 1 rfl dX12_means_81 ?_
  obtain ⟨hi82, hw⟩ := hw
  refine g_iald h ar_257 hi82 dX12_means_82 ?_
  refine g_icmp_ge (tgt := 192) h (by decide) dX12_means_83 (fun q83 => ?_) (fun q83 => ?_)
  · replace hw := hw.1 q83
    refine g_iload h 4 rfl dX12_means_192 ?_
    exact g_iret h hr dX12_means_194 hw
  · replace hw := hw.2 q83
    refine g_bipush (v := 20) h (by decide) dX12_means_86 ?_
    refine g_iload_n h rfl 1 rfl dX12_means_88 ?_
    refine g_imul h dX12_means_89 ?_
    refine g_iload h 5 rfl dX12_means_90 ?_
    refine g_iadd h dX12_means_92 ?_
    refine g_ni (fun v6_93 ev6_93 => ?_)
    replace hw := hw v6_93 ev6_93
    refine g_istore (lo2 := [(6, .int v6_93), (0, .ref 248), (1, .int x1), (2, .int x2), (3, .int x3), (4, .int x4), (5, .int x5)]) h (by decide) rfl dX12_means_93 ?_
    refine g_iconst (v := 0) h (by decide) dX12_means_95 ?_
    refine g_istore (lo2 := [(7, .int 0), (6, .int v6_93), (0, .ref 248), (1, .int x1), (2, .int x2), (3, .int x3), (4, .int x4), (5, .int x5)]) h (by decide) rfl dX12_means_96 ?_
    refine g_iconst (v := 0) h (by decide) dX12_means_98 ?_
    refine g_istore (lo2 := [(8, .int 0), (7, .int 0), (6, .int v6_93), (0, .ref 248), (1, .int x1), (2, .int x2), (3, .int x3), (4, .int x4), (5, .int x5)]) h (by decide) rfl dX12_means_99 ?_
    exact g_sub [3, 4, 5, 6, 7, 8, 2, 1, 0] rfl (t_X12_means_101 h hr hk75 hw)
theorem t_X12_means_75 {X : sX} {post : Int32 → sI → sJ → Prop} (h : sOK X cX12_means RX12 9 5 136) (hr : sRt X (some .int) (sPi post)) {x1 : Int32} {x2 : Int32} {x3 : Int32} {x4 : Int32} {x5 : Int32} {I : sI} {J : sJ} (hw : w_X12_means_75 post x1 x2 x3 x4 x5 I J) : sG X 9 75 [(0, .ref 248), (1, .int x1), (2, .int x2), (3, .int x3), (4, .int x4), (5, .int x5)] [] I J := by
  obtain ⟨n, hw⟩ := hw
  induction n generalizing x1 x2 x3 x4 x5 I J with
  | zero => exact hw.elim
  | succ n ih => exact t_X12_means_75_s h hr (fun _ _ _ _ _ _ _ q => ih q) hw
def w_X12_means_47_s (post : Int32 → sI → sJ → Prop) (k47 : Int32 → Int32 → Int32 → Int32 → sI → sJ → Prop) (x1 : Int32) (x2 : Int32) (x3 : Int32) (x4 : Int32) (I : sI) (J : sJ) : Prop :=
  ((x2 ≤ x4 → w_X12_means_75 post x1 x2 x3 0 0 I J) ∧ (¬ x2 ≤ x4 → (vp_in x4 24 ∧ (∀ v3_62 : Int32, v3_62 = x3 + (I 253 (Int32.toNatClampNeg x4)) → (∀ v4_63 : Int32, v4_63 = x4 + 1 → k47 x1 x2 v3_62 v4_63 I J)))))
def w_X12_means_47_n (post : Int32 → sI → sJ → Prop) : Nat → Int32 → Int32 → Int32 → Int32 → sI → sJ → Prop
  | 0 => fun _ _ _ _ _ _ => False
  | n + 1 => fun x1 x2 x3 x4 I J => w_X12_means_47_s post (w_X12_means_47_n post n) x1 x2 x3 x4 I J
def w_X12_means_47 (post : Int32 → sI → sJ → Prop) (x1 : Int32) (x2 : Int32) (x3 : Int32) (x4 : Int32) (I : sI) (J : sJ) : Prop := ∃ n, w_X12_means_47_n post n x1 x2 x3 x4 I J
set_option maxHeartbeats 4000000 in
set_option maxRecDepth 100000 in
theorem t_X12_means_47_s {X : sX} {post : Int32 → sI → sJ → Prop} (h : sOK X cX12_means RX12 9 5 136) (hr : sRt X (some .int) (sPi post)) {k47 : Int32 → Int32 → Int32 → Int32 → sI → sJ → Prop} (hk47 : ∀ (x1 : Int32) (x2 : Int32) (x3 : Int32) (x4 : Int32) (I : sI) (J : sJ), k47 x1 x2 x3 x4 I J → sG X 9 47 [(0, .ref 248), (1, .int x1), (2, .int x2), (3, .int x3), (4, .int x4)] [] I J) {x1 : Int32} {x2 : Int32} {x3 : Int32} {x4 : Int32} {I : sI} {J : sJ} (hw : w_X12_means_47_s post k47 x1 x2 x3 x4 I J) : sG X 9 47 [(0, .ref 248), (1, .int x1), (2, .int x2), (3, .int x3), (4, .int x4)] [] I J := by
  unfold w_X12_means_47_s at hw
  refine g_iload h 4 rfl dX12_means_47 ?_
  refine g_iload_n h rfl 2 rfl dX12_means_49 ?_
  refine g_icmp_ge (tgt := 69) h (by decide) dX12_means_50 (fun q50 => ?_) (fun q50 => ?_)
  · replace hw := hw.1 q50
    refine g_iconst (v := 0) h (by decide) dX12_means_69 ?_
    refine g_istore (lo2 := [(4, .int 0), (0, .ref 248), (1, .int x1), (2, .int x2), (3, .int x3)]) h (by decide) rfl dX12_means_70 ?_
    refine g_iconst (v := 0) h (by decide) dX12_means_72 ?_
    refine g_istore (lo2 := [(5, .int 0), (4, .int 0), (0, .ref 248), (1, .int x1), (2, .int x2), (3, .int x3)]) h (by decide) rfl dX12_means_73 ?_
    exact g_sub [2, 3, 4, 5, 1, 0] rfl (t_X12_means_75 h hr hw)
  · replace hw := hw.2 q50
    refine g_iload_n h rfl 3 rfl dX12_means_53 ?_
    refine g_aload_n h rfl 0 rfl dX12_means_54 ?_
    refine g_get h is_248 fl_X12_82 fr_248_13 dX12_means_55 ?_
    refine g_iload h 4 rfl dX12_means_58 ?_
    obtain ⟨hi60, hw⟩ := hw
    refine g_iald h ar_253 hi60 dX12_means_60 ?_
    refine g_iadd h dX12_means_61 ?_
    refine g_ni (fun v3_62 ev3_62 => ?_)
    replace hw := hw v3_62 ev3_62
    refine g_istore_n (lo2 := [(3, .int v3_62), (0, .ref 248), (1, .int x1), (2, .int x2), (4, .int x4)]) h rfl (by decide) rfl dX12_means_62 ?_
    obtain ⟨v4_63, ev4_63⟩ : ∃ z : Int32, z = x4 + 1 := ⟨_, rfl⟩
    replace hw := hw v4_63 ev4_63
    refine g_iinc (v := v4_63) (lo2 := [(4, .int v4_63), (3, .int v3_62), (0, .ref 248), (1, .int x1), (2, .int x2)]) h 4 rfl (by rw [ev4_63]; rfl) (by decide) rfl dX12_means_63 ?_
    refine g_goto (tgt := 47) h (by decide) dX12_means_66 ?_
    exact g_sub [2, 3, 4, 1, 0] rfl (hk47 _ _ _ _ _ _ hw)
theorem t_X12_means_47 {X : sX} {post : Int32 → sI → sJ → Prop} (h : sOK X cX12_means RX12 9 5 136) (hr : sRt X (some .int) (sPi post)) {x1 : Int32} {x2 : Int32} {x3 : Int32} {x4 : Int32} {I : sI} {J : sJ} (hw : w_X12_means_47 post x1 x2 x3 x4 I J) : sG X 9 47 [(0, .ref 248), (1, .int x1), (2, .int x2), (3, .int x3), (4, .int x4)] [] I J := by
  obtain ⟨n, hw⟩ := hw
  induction n generalizing x1 x2 x3 x4 I J with
  | zero => exact hw.elim
  | succ n ih => exact t_X12_means_47_s h hr (fun _ _ _ _ _ _ q => ih q) hw
def w_X12_means (a1 : Int32) (a2 : Int32) (I : sI) (J : sJ) (post : Int32 → sI → sJ → Prop) : Prop :=
  (∀ I_2 : sI, I_2 = sUI I 248 0 0 → w_X12_isAsked a1 I_2 J (fun (r_7 : Int32) (I_7 : sI) (J_7 : sJ) => (((r_7 = 0 → post (-1) I_7 J_7) ∧ (¬ r_7 = 0 → w_X12_in (Int32.toInt64 a2) 0 (Int32.toInt64 ((I_7 248 11) - 1)) I_7 J_7 (fun (r_23 : Int32) (I_23 : sI) (J_23 : sJ) => (((¬ r_23 = 0 → w_X12_all a1 I_23 J_23 (fun (r_33 : Int32) (I_33 : sI) (J_33 : sJ) => (((¬ r_33 = 0 → w_X12_means_47 post a1 a2 0 0 I_33 J_33) ∧ (r_33 = 0 → post (-3) I_33 J_33))))) ∧ (r_23 = 0 → post (-1) I_23 J_23)))))))))
set_option maxHeartbeats 4000000 in
set_option maxRecDepth 100000 in
theorem t_X12_means {X : sX} {a1 : Int32} {a2 : Int32} {I : sI} {J : sJ} {post : Int32 → sI → sJ → Prop} (h : sOK X cX12_means RX12 9 5 136) (hr : sRt X (some .int) (sPi post)) (hw : w_X12_means a1 a2 I J post) : sG X 9 0 [(0, .ref 248), (1, .int a1), (2, .int a2)] [] I J := by
  unfold w_X12_means at hw
  refine g_aload_n h rfl 0 rfl dX12_means_0 ?_
  refine g_iconst (v := 0) h (by decide) dX12_means_1 ?_
  refine g_putI h is_248 fl_X12_1 rfl rfl dX12_means_2 ?_
  refine g_nI (fun I_2 eI_2 => ?_)
  replace hw := hw I_2 eI_2
  refine g_aload_n h rfl 0 rfl dX12_means_5 ?_
  refine g_iload_n h rfl 1 rfl dX12_means_6 ?_
  refine g_callV [.int a1] h (c_X12_isAsked X hw) sPi_v mw_X12_isAsked lk_X12_196 is_248 rfl rfl ⟨by decide, by decide⟩ (Nat.le_of_ble_eq_true rfl) dX12_means_7 (sPi_k (fun r_7 I_7 J_7 hw => ?_))
  refine g_if_eq (tgt := 29) h (by decide) dX12_means_10 (fun q10 => ?_) (fun q10 => ?_)
  · replace hw := hw.1 q10
    refine g_iconst (v := (-1)) h (by decide) dX12_means_29 ?_
    exact g_iret h hr dX12_means_30 hw
  · replace hw := hw.2 q10
    refine g_iload_n h rfl 2 rfl dX12_means_13 ?_
    refine g_i2l h dX12_means_14 ?_
    refine g_lconst (v := 0) h (by decide) dX12_means_15 ?_
    refine g_aload_n h rfl 0 rfl dX12_means_16 ?_
    refine g_get h is_248 fl_X12_76 rfl dX12_means_17 ?_
    refine g_iconst (v := 1) h (by decide) dX12_means_20 ?_
    refine g_isub h dX12_means_21 ?_
    refine g_i2l h dX12_means_22 ?_
    refine g_callS [.long (Int32.toInt64 a2), .long 0, .long (Int32.toInt64 ((I_7 248 11) - 1))] h (c_X12_in X hw) sPi_v mw_X12_in lk_X12_29 rfl ⟨by decide, by decide⟩ (Nat.le_of_ble_eq_true rfl) dX12_means_23 (sPi_k (fun r_23 I_23 J_23 hw => ?_))
    refine g_if_ne (tgt := 31) h (by decide) dX12_means_26 (fun q26 => ?_) (fun q26 => ?_)
    · replace hw := hw.1 q26
      refine g_aload_n h rfl 0 rfl dX12_means_31 ?_
      refine g_iload_n h rfl 1 rfl dX12_means_32 ?_
      refine g_callV [.int a1] h (c_X12_all X hw) sPi_v mw_X12_all lk_X12_199 is_248 rfl rfl ⟨by decide, by decide⟩ (Nat.le_of_ble_eq_true rfl) dX12_means_33 (sPi_k (fun r_33 I_33 J_33 hw => ?_))
      refine g_if_ne (tgt := 42) h (by decide) dX12_means_36 (fun q36 => ?_) (fun q36 => ?_)
      · replace hw := hw.1 q36
        refine g_iconst (v := 0) h (by decide) dX12_means_42 ?_
        refine g_istore_n (lo2 := [(3, .int 0), (0, .ref 248), (1, .int a1), (2, .int a2)]) h rfl (by decide) rfl dX12_means_43 ?_
        refine g_iconst (v := 0) h (by decide) dX12_means_44 ?_
        refine g_istore (lo2 := [(4, .int 0), (3, .int 0), (0, .ref 248), (1, .int a1), (2, .int a2)]) h (by decide) rfl dX12_means_45 ?_
        exact g_sub [2, 3, 4, 1, 0] rfl (t_X12_means_47 h hr hw)
      · replace hw := hw.2 q36
        refine g_bipush (v := (-3)) h (by decide) dX12_means_39 ?_
        exact g_iret h hr dX12_means_41 hw
    · replace hw := hw.2 q26
      refine g_iconst (v := (-1)) h (by decide) dX12_means_29 ?_
      exact g_iret h hr dX12_means_30 hw
theorem c_X12_means (X : sX) {a1 : Int32} {a2 : Int32} {I : sI} {J : sJ} {post : Int32 → sI → sJ → Prop} (hw : w_X12_means a1 a2 I J post) : sCall X yX12_means cX12_means 9 (some .int) 5 136 [.ref 248, .int a1, .int a2] I J (sPi post) := sCall_of (by decide +kernel) (Nat.le_of_ble_eq_true rfl) (fun X h hr => t_X12_means h hr hw)
