theorem dX12_plans_0 : decode cX12_plans 0 = .ok (.aload_n 0, 1) := by decide +kernel
theorem dX12_plans_1 : decode cX12_plans 1 = .ok (.getfield 384, 3) := by decide +kernel
theorem dX12_plans_4 : decode cX12_plans 4 = .ok (.iload_n 1, 1) := by decide +kernel
theorem dX12_plans_5 : decode cX12_plans 5 = .ok (.iaload, 1) := by decide +kernel
theorem dX12_plans_6 : decode cX12_plans 6 = .ok (.ifCond .lt 10, 3) := by decide +kernel
theorem dX12_plans_9 : decode cX12_plans 9 = .ok (.aload_n 0, 1) := by decide +kernel
theorem dX12_plans_10 : decode cX12_plans 10 = .ok (.getfield 384, 3) := by decide +kernel
theorem dX12_plans_13 : decode cX12_plans 13 = .ok (.iload_n 1, 1) := by decide +kernel
theorem dX12_plans_14 : decode cX12_plans 14 = .ok (.iaload, 1) := by decide +kernel
theorem dX12_plans_15 : decode cX12_plans 15 = .ok (.ireturn, 1) := by decide +kernel
theorem dX12_plans_16 : decode cX12_plans 16 = .ok (.iconst 0, 1) := by decide +kernel
theorem dX12_plans_17 : decode cX12_plans 17 = .ok (.istore_n 2, 1) := by decide +kernel
theorem dX12_plans_18 : decode cX12_plans 18 = .ok (.aload_n 0, 1) := by decide +kernel
theorem dX12_plans_19 : decode cX12_plans 19 = .ok (.getfield 387, 3) := by decide +kernel
theorem dX12_plans_22 : decode cX12_plans 22 = .ok (.istore_n 3, 1) := by decide +kernel
theorem dX12_plans_23 : decode cX12_plans 23 = .ok (.iload_n 1, 1) := by decide +kernel
theorem dX12_plans_24 : decode cX12_plans 24 = .ok (.istore 4, 2) := by decide +kernel
theorem dX12_plans_26 : decode cX12_plans 26 = .ok (.iconst 0, 1) := by decide +kernel
theorem dX12_plans_27 : decode cX12_plans 27 = .ok (.istore 5, 2) := by decide +kernel
theorem dX12_plans_29 : decode cX12_plans 29 = .ok (.iload 5, 2) := by decide +kernel
theorem dX12_plans_31 : decode cX12_plans 31 = .ok (.aload_n 0, 1) := by decide +kernel
theorem dX12_plans_32 : decode cX12_plans 32 = .ok (.getfield 390, 3) := by decide +kernel
theorem dX12_plans_35 : decode cX12_plans 35 = .ok (.if_icmp .ge 66, 3) := by decide +kernel
theorem dX12_plans_38 : decode cX12_plans 38 = .ok (.iload_n 2, 1) := by decide +kernel
theorem dX12_plans_39 : decode cX12_plans 39 = .ok (.iload 4, 2) := by decide +kernel
theorem dX12_plans_41 : decode cX12_plans 41 = .ok (.iconst 3, 1) := by decide +kernel
theorem dX12_plans_42 : decode cX12_plans 42 = .ok (.irem, 1) := by decide +kernel
theorem dX12_plans_43 : decode cX12_plans 43 = .ok (.ifCond .ne 15, 3) := by decide +kernel
theorem dX12_plans_46 : decode cX12_plans 46 = .ok (.iconst 1, 1) := by decide +kernel
theorem dX12_plans_47 : decode cX12_plans 47 = .ok (.aload_n 0, 1) := by decide +kernel
theorem dX12_plans_48 : decode cX12_plans 48 = .ok (.getfield 393, 3) := by decide +kernel
theorem dX12_plans_51 : decode cX12_plans 51 = .ok (.iload 5, 2) := by decide +kernel
theorem dX12_plans_53 : decode cX12_plans 53 = .ok (.iaload, 1) := by decide +kernel
theorem dX12_plans_54 : decode cX12_plans 54 = .ok (.ishl, 1) := by decide +kernel
theorem dX12_plans_55 : decode cX12_plans 55 = .ok (.goto 4, 3) := by decide +kernel
theorem dX12_plans_58 : decode cX12_plans 58 = .ok (.iconst 0, 1) := by decide +kernel
theorem dX12_plans_59 : decode cX12_plans 59 = .ok (.ior, 1) := by decide +kernel
theorem dX12_plans_60 : decode cX12_plans 60 = .ok (.istore_n 2, 1) := by decide +kernel
theorem dX12_plans_61 : decode cX12_plans 61 = .ok (.iload 4, 2) := by decide +kernel
theorem dX12_plans_63 : decode cX12_plans 63 = .ok (.iconst 3, 1) := by decide +kernel
theorem dX12_plans_64 : decode cX12_plans 64 = .ok (.irem, 1) := by decide +kernel
theorem dX12_plans_65 : decode cX12_plans 65 = .ok (.ifCond .ne 7, 3) := by decide +kernel
theorem dX12_plans_68 : decode cX12_plans 68 = .ok (.iload_n 3, 1) := by decide +kernel
theorem dX12_plans_69 : decode cX12_plans 69 = .ok (.goto 19, 3) := by decide +kernel
theorem dX12_plans_72 : decode cX12_plans 72 = .ok (.aload_n 0, 1) := by decide +kernel
theorem dX12_plans_73 : decode cX12_plans 73 = .ok (.iload_n 3, 1) := by decide +kernel
theorem dX12_plans_74 : decode cX12_plans 74 = .ok (.aload_n 0, 1) := by decide +kernel
theorem dX12_plans_75 : decode cX12_plans 75 = .ok (.getfield 393, 3) := by decide +kernel
theorem dX12_plans_78 : decode cX12_plans 78 = .ok (.iload 5, 2) := by decide +kernel
theorem dX12_plans_80 : decode cX12_plans 80 = .ok (.iaload, 1) := by decide +kernel
theorem dX12_plans_81 : decode cX12_plans 81 = .ok (.iload 4, 2) := by decide +kernel
theorem dX12_plans_83 : decode cX12_plans 83 = .ok (.iconst 3, 1) := by decide +kernel
theorem dX12_plans_84 : decode cX12_plans 84 = .ok (.irem, 1) := by decide +kernel
theorem dX12_plans_85 : decode cX12_plans 85 = .ok (.invokevirtual 371, 3) := by decide +kernel
theorem dX12_plans_88 : decode cX12_plans 88 = .ok (.istore_n 3, 1) := by decide +kernel
theorem dX12_plans_89 : decode cX12_plans 89 = .ok (.iload 4, 2) := by decide +kernel
theorem dX12_plans_91 : decode cX12_plans 91 = .ok (.iconst 3, 1) := by decide +kernel
theorem dX12_plans_92 : decode cX12_plans 92 = .ok (.idiv, 1) := by decide +kernel
theorem dX12_plans_93 : decode cX12_plans 93 = .ok (.istore 4, 2) := by decide +kernel
theorem dX12_plans_95 : decode cX12_plans 95 = .ok (.iinc 5 1, 3) := by decide +kernel
theorem dX12_plans_98 : decode cX12_plans 98 = .ok (.goto (-69), 3) := by decide +kernel
theorem dX12_plans_101 : decode cX12_plans 101 = .ok (.iconst 0, 1) := by decide +kernel
theorem dX12_plans_102 : decode cX12_plans 102 = .ok (.istore 5, 2) := by decide +kernel
theorem dX12_plans_104 : decode cX12_plans 104 = .ok (.aload_n 0, 1) := by decide +kernel
theorem dX12_plans_105 : decode cX12_plans 105 = .ok (.iload_n 2, 1) := by decide +kernel
theorem dX12_plans_106 : decode cX12_plans 106 = .ok (.iload_n 3, 1) := by decide +kernel
theorem dX12_plans_107 : decode cX12_plans 107 = .ok (.iconst 0, 1) := by decide +kernel
theorem dX12_plans_108 : decode cX12_plans 108 = .ok (.invokevirtual 380, 3) := by decide +kernel
theorem dX12_plans_111 : decode cX12_plans 111 = .ok (.ifCond .eq 78, 3) := by decide +kernel
theorem dX12_plans_114 : decode cX12_plans 114 = .ok (.bipush 12, 2) := by decide +kernel
theorem dX12_plans_116 : decode cX12_plans 116 = .ok (.istore 5, 2) := by decide +kernel
theorem dX12_plans_118 : decode cX12_plans 118 = .ok (.iconst 1, 1) := by decide +kernel
theorem dX12_plans_119 : decode cX12_plans 119 = .ok (.istore 6, 2) := by decide +kernel
theorem dX12_plans_121 : decode cX12_plans 121 = .ok (.iconst 0, 1) := by decide +kernel
theorem dX12_plans_122 : decode cX12_plans 122 = .ok (.istore 7, 2) := by decide +kernel
theorem dX12_plans_124 : decode cX12_plans 124 = .ok (.iload 7, 2) := by decide +kernel
theorem dX12_plans_126 : decode cX12_plans 126 = .ok (.aload_n 0, 1) := by decide +kernel
theorem dX12_plans_127 : decode cX12_plans 127 = .ok (.getfield 390, 3) := by decide +kernel
theorem dX12_plans_130 : decode cX12_plans 130 = .ok (.if_icmp .ge 59, 3) := by decide +kernel
theorem dX12_plans_133 : decode cX12_plans 133 = .ok (.iload_n 2, 1) := by decide +kernel
theorem dX12_plans_134 : decode cX12_plans 134 = .ok (.aload_n 0, 1) := by decide +kernel
theorem dX12_plans_135 : decode cX12_plans 135 = .ok (.getfield 393, 3) := by decide +kernel
theorem dX12_plans_138 : decode cX12_plans 138 = .ok (.iload 7, 2) := by decide +kernel
theorem dX12_plans_140 : decode cX12_plans 140 = .ok (.iaload, 1) := by decide +kernel
theorem dX12_plans_141 : decode cX12_plans 141 = .ok (.invokestatic 242, 3) := by decide +kernel
theorem dX12_plans_144 : decode cX12_plans 144 = .ok (.ifCond .eq 33, 3) := by decide +kernel
theorem dX12_plans_147 : decode cX12_plans 147 = .ok (.iload 5, 2) := by decide +kernel
theorem dX12_plans_149 : decode cX12_plans 149 = .ok (.iconst 1, 1) := by decide +kernel
theorem dX12_plans_150 : decode cX12_plans 150 = .ok (.aload_n 0, 1) := by decide +kernel
theorem dX12_plans_151 : decode cX12_plans 151 = .ok (.iload_n 1, 1) := by decide +kernel
theorem dX12_plans_152 : decode cX12_plans 152 = .ok (.iload 6, 2) := by decide +kernel
theorem dX12_plans_154 : decode cX12_plans 154 = .ok (.iadd, 1) := by decide +kernel
theorem dX12_plans_155 : decode cX12_plans 155 = .ok (.invokevirtual 396, 3) := by decide +kernel
theorem dX12_plans_158 : decode cX12_plans 158 = .ok (.aload_n 0, 1) := by decide +kernel
theorem dX12_plans_159 : decode cX12_plans 159 = .ok (.iload_n 1, 1) := by decide +kernel
theorem dX12_plans_160 : decode cX12_plans 160 = .ok (.iconst 2, 1) := by decide +kernel
theorem dX12_plans_161 : decode cX12_plans 161 = .ok (.iload 6, 2) := by decide +kernel
theorem dX12_plans_163 : decode cX12_plans 163 = .ok (.imul, 1) := by decide +kernel
theorem dX12_plans_164 : decode cX12_plans 164 = .ok (.iadd, 1) := by decide +kernel
theorem dX12_plans_165 : decode cX12_plans 165 = .ok (.invokevirtual 396, 3) := by decide +kernel
theorem dX12_plans_168 : decode cX12_plans 168 = .ok (.invokestatic 237, 3) := by decide +kernel
theorem dX12_plans_171 : decode cX12_plans 171 = .ok (.iadd, 1) := by decide +kernel
theorem dX12_plans_172 : decode cX12_plans 172 = .ok (.invokestatic 36, 3) := by decide +kernel
theorem dX12_plans_175 : decode cX12_plans 175 = .ok (.istore 5, 2) := by decide +kernel
theorem dX12_plans_177 : decode cX12_plans 177 = .ok (.iload 6, 2) := by decide +kernel
theorem dX12_plans_179 : decode cX12_plans 179 = .ok (.iconst 3, 1) := by decide +kernel
theorem dX12_plans_180 : decode cX12_plans 180 = .ok (.imul, 1) := by decide +kernel
theorem dX12_plans_181 : decode cX12_plans 181 = .ok (.istore 6, 2) := by decide +kernel
theorem dX12_plans_183 : decode cX12_plans 183 = .ok (.iinc 7 1, 3) := by decide +kernel
theorem dX12_plans_186 : decode cX12_plans 186 = .ok (.goto (-62), 3) := by decide +kernel
theorem dX12_plans_189 : decode cX12_plans 189 = .ok (.aload_n 0, 1) := by decide +kernel
theorem dX12_plans_190 : decode cX12_plans 190 = .ok (.getfield 384, 3) := by decide +kernel
theorem dX12_plans_193 : decode cX12_plans 193 = .ok (.iload_n 1, 1) := by decide +kernel
theorem dX12_plans_194 : decode cX12_plans 194 = .ok (.iload 5, 2) := by decide +kernel
theorem dX12_plans_196 : decode cX12_plans 196 = .ok (.iastore, 1) := by decide +kernel
theorem dX12_plans_197 : decode cX12_plans 197 = .ok (.iload 5, 2) := by decide +kernel
theorem dX12_plans_199 : decode cX12_plans 199 = .ok (.ireturn, 1) := by decide +kernel
def w_X12_plans_189 (rec : Int32 → sI → sJ → (Int32 → sI → sJ → Prop) → Prop) (post : Int32 → sI → sJ → Prop) (x1 : Int32) (x5 : Int32) (I : sI) (J : sJ) : Prop :=
  (vp_in x1 6561 ∧ (∀ I_196 : sI, I_196 = sUI I 278 (Int32.toNatClampNeg x1) x5 → post x5 I_196 J))
set_option maxHeartbeats 4000000 in
set_option maxRecDepth 100000 in
theorem t_X12_plans_189 {X : sX} {n : Nat} {rec : Int32 → sI → sJ → (Int32 → sI → sJ → Prop) → Prop} (hrec : ∀ (X : sX) (a1 : Int32) (I : sI) (J : sJ) (post : Int32 → sI → sJ → Prop), rec a1 I J post → sCall X yX12_plans cX12_plans 8 (some .int) (3 + n) (71 + n * 27) [.ref 248, .int a1] I J (sPi post)) {post : Int32 → sI → sJ → Prop} (h : sOK X cX12_plans RX12 8 (3 + n + 1) (71 + (n + 1) * 27)) (hr : sRt X (some .int) (sPi post)) {x1 : Int32} {x5 : Int32} {I : sI} {J : sJ} (hw : w_X12_plans_189 rec post x1 x5 I J) : sG X 8 189 [(0, .ref 248), (1, .int x1), (5, .int x5)] [] I J := by
  unfold w_X12_plans_189 at hw
  refine g_aload_n h rfl 0 rfl dX12_plans_189 ?_
  refine g_get h is_248 fl_X12_384 fr_248_51 dX12_plans_190 ?_
  refine g_iload_n h rfl 1 rfl dX12_plans_193 ?_
  refine g_iload h 2 rfl dX12_plans_194 ?_
  obtain ⟨hi196, hw⟩ := hw
  refine g_iast h ar_278 hi196 dX12_plans_196 ?_
  refine g_nI (fun I_196 eI_196 => ?_)
  replace hw := hw I_196 eI_196
  refine g_iload h 2 rfl dX12_plans_197 ?_
  exact g_iret h hr dX12_plans_199 hw
def w_X12_plans_177 (rec : Int32 → sI → sJ → (Int32 → sI → sJ → Prop) → Prop) (post : Int32 → sI → sJ → Prop) (k124 : Int32 → Int32 → Int32 → Int32 → Int32 → sI → sJ → Prop) (x1 : Int32) (x2 : Int32) (x5 : Int32) (x6 : Int32) (x7 : Int32) (I : sI) (J : sJ) : Prop :=
  (∀ v6_181 : Int32, v6_181 = x6 * 3 → (∀ v7_183 : Int32, v7_183 = x7 + 1 → k124 x1 x2 x5 v6_181 v7_183 I J))
set_option maxHeartbeats 4000000 in
set_option maxRecDepth 100000 in
theorem t_X12_plans_177 {X : sX} {n : Nat} {rec : Int32 → sI → sJ → (Int32 → sI → sJ → Prop) → Prop} (hrec : ∀ (X : sX) (a1 : Int32) (I : sI) (J : sJ) (post : Int32 → sI → sJ → Prop), rec a1 I J post → sCall X yX12_plans cX12_plans 8 (some .int) (3 + n) (71 + n * 27) [.ref 248, .int a1] I J (sPi post)) {post : Int32 → sI → sJ → Prop} (h : sOK X cX12_plans RX12 8 (3 + n + 1) (71 + (n + 1) * 27)) (hr : sRt X (some .int) (sPi post)) {k124 : Int32 → Int32 → Int32 → Int32 → Int32 → sI → sJ → Prop} (hk124 : ∀ (x1 : Int32) (x2 : Int32) (x5 : Int32) (x6 : Int32) (x7 : Int32) (I : sI) (J : sJ), k124 x1 x2 x5 x6 x7 I J → sG X 8 124 [(0, .ref 248), (1, .int x1), (2, .int x2), (5, .int x5), (6, .int x6), (7, .int x7)] [] I J) {x1 : Int32} {x2 : Int32} {x5 : Int32} {x6 : Int32} {x7 : Int32} {I : sI} {J : sJ} (hw : w_X12_plans_177 rec post k124 x1 x2 x5 x6 x7 I J) : sG X 8 177 [(0, .ref 248), (1, .int x1), (2, .int x2), (5, .int x5), (6, .int x6), (7, .int x7)] [] I J := by
  unfold w_X12_plans_177 at hw
  refine g_iload h 4 rfl dX12_plans_177 ?_
  refine g_iconst (v := 3) h (by decide) dX12_plans_179 ?_
  refine g_imul h dX12_plans_180 ?_
  refine g_ni (fun v6_181 ev6_181 => ?_)
  replace hw := hw v6_181 ev6_181
  refine g_istore (lo2 := [(6, .int v6_181), (0, .ref 248), (1, .int x1), (2, .int x2), (5, .int x5), (7, .int x7)]) h (by decide) rfl dX12_plans_181 ?_
  obtain ⟨v7_183, ev7_183⟩ : ∃ z : Int32, z = x7 + 1 := ⟨_, rfl⟩
  replace hw := hw v7_183 ev7_183
  refine g_iinc (v := v7_183) (lo2 := [(7, .int v7_183), (6, .int v6_181), (0, .ref 248), (1, .int x1), (2, .int x2), (5, .int x5)]) h 5 rfl (by rw [ev7_183]; rfl) (by decide) rfl dX12_plans_183 ?_
  refine g_goto (tgt := 124) h (by decide) dX12_plans_186 ?_
  exact g_sub [2, 3, 4, 5, 1, 0] rfl (hk124 _ _ _ _ _ _ _ hw)
def w_X12_plans_124_s (rec : Int32 → sI → sJ → (Int32 → sI → sJ → Prop) → Prop) (post : Int32 → sI → sJ → Prop) (k124 : Int32 → Int32 → Int32 → Int32 → Int32 → sI → sJ → Prop) (x1 : Int32) (x2 : Int32) (x5 : Int32) (x6 : Int32) (x7 : Int32) (I : sI) (J : sJ) : Prop :=
  (((I 248 49) ≤ x7 → w_X12_plans_189 rec post x1 x5 I J) ∧ (¬ (I 248 49) ≤ x7 → (vp_in x7 8 ∧ w_X12_has x2 (I 277 (Int32.toNatClampNeg x7)) I J (fun (r_141 : Int32) (I_141 : sI) (J_141 : sJ) => (((r_141 = 0 → w_X12_plans_177 rec post k124 x1 x2 x5 x6 x7 I_141 J_141) ∧ (¬ r_141 = 0 → rec (x1 + x6) I_141 J_141 (fun (r_155 : Int32) (I_155 : sI) (J_155 : sJ) => (rec (x1 + (2 * x6)) I_155 J_155 (fun (r_165 : Int32) (I_165 : sI) (J_165 : sJ) => (w_J9_max_7cf53 r_155 r_165 I_165 J_165 (fun (r_168 : Int32) (I_168 : sI) (J_168 : sJ) => (w_J9_min_7cf53 x5 (1 + r_168) I_168 J_168 (fun (r_172 : Int32) (I_172 : sI) (J_172 : sJ) => (w_X12_plans_177 rec post k124 x1 x2 r_172 x6 x7 I_172 J_172)))))))))))))))
def w_X12_plans_124_n (rec : Int32 → sI → sJ → (Int32 → sI → sJ → Prop) → Prop) (post : Int32 → sI → sJ → Prop) : Nat → Int32 → Int32 → Int32 → Int32 → Int32 → sI → sJ → Prop
  | 0 => fun _ _ _ _ _ _ _ => False
  | n + 1 => fun x1 x2 x5 x6 x7 I J => w_X12_plans_124_s rec post (w_X12_plans_124_n rec post n) x1 x2 x5 x6 x7 I J
def w_X12_plans_124 (rec : Int32 → sI → sJ → (Int32 → sI → sJ → Prop) → Prop) (post : Int32 → sI → sJ → Prop) (x1 : Int32) (x2 : Int32) (x5 : Int32) (x6 : Int32) (x7 : Int32) (I : sI) (J : sJ) : Prop := ∃ n, w_X12_plans_124_n rec post n x1 x2 x5 x6 x7 I J
set_option maxHeartbeats 4000000 in
set_option maxRecDepth 100000 in
theorem t_X12_plans_124_s {X : sX} {n : Nat} {rec : Int32 → sI → sJ → (Int32 → sI → sJ → Prop) → Prop} (hrec : ∀ (X : sX) (a1 : Int32) (I : sI) (J : sJ) (post : Int32 → sI → sJ → Prop), rec a1 I J post → sCall X yX12_plans cX12_plans 8 (some .int) (3 + n) (71 + n * 27) [.ref 248, .int a1] I J (sPi post)) {post : Int32 → sI → sJ → Prop} (h : sOK X cX12_plans RX12 8 (3 + n + 1) (71 + (n + 1) * 27)) (hr : sRt X (some .int) (sPi post)) {k124 : Int32 → Int32 → Int32 → Int32 → Int32 → sI → sJ → Prop} (hk124 : ∀ (x1 : Int32) (x2 : Int32) (x5 : Int32) (x6 : Int32) (x7 : Int32) (I : sI) (J : sJ), k124 x1 x2 x5 x6 x7 I J → sG X 8 124 [(0, .ref 248), (1, .int x1), (2, .int x2), (5, .int x5), (6, .int x6), (7, .int x7)] [] I J) {x1 : Int32} {x2 : Int32} {x5 : Int32} {x6 : Int32} {x7 : Int32} {I : sI} {J : sJ} (hw : w_X12_plans_124_s rec post k124 x1 x2 x5 x6 x7 I J) : sG X 8 124 [(0, .ref 248), (1, .int x1), (2, .int x2), (5, .int x5), (6, .int x6), (7, .int x7)] [] I J := by
  unfold w_X12_plans_124_s at hw
  refine g_iload h 5 rfl dX12_plans_124 ?_
  refine g_aload_n h rfl 0 rfl dX12_plans_126 ?_
  refine g_get h is_248 fl_X12_390 rfl dX12_plans_127 ?_
  refine g_icmp_ge (tgt := 189) h (by decide) dX12_plans_130 (fun q130 => ?_) (fun q130 => ?_)
  · replace hw := hw.1 q130
    exact g_sub [0, 1, 3] rfl (t_X12_plans_189 hrec h hr hw)
  · replace hw := hw.2 q130
    refine g_iload_n h rfl 2 rfl dX12_plans_133 ?_
    refine g_aload_n h rfl 0 rfl dX12_plans_134 ?_
    refine g_get h is_248 fl_X12_393 fr_248_50 dX12_plans_135 ?_
    refine g_iload h 5 rfl dX12_plans_138 ?_
    obtain ⟨hi140, hw⟩ := hw
    refine g_iald h ar_277 hi140 dX12_plans_140 ?_
    refine g_callS [.int x2, .int (I 277 (Int32.toNatClampNeg x7))] h (c_X12_has X hw) sPi_v mw_X12_has lk_X12_242 rfl ⟨by omega, by omega⟩ (Nat.le_of_ble_eq_true rfl) dX12_plans_141 (sPi_k (fun r_141 I_141 J_141 hw => ?_))
    refine g_if_eq (tgt := 177) h (by decide) dX12_plans_144 (fun q144 => ?_) (fun q144 => ?_)
    · replace hw := hw.1 q144
      exact g_sub [0, 1, 2, 3, 4, 5] rfl (t_X12_plans_177 hrec h hr hk124 hw)
    · replace hw := hw.2 q144
      refine g_iload h 3 rfl dX12_plans_147 ?_
      refine g_iconst (v := 1) h (by decide) dX12_plans_149 ?_
      refine g_aload_n h rfl 0 rfl dX12_plans_150 ?_
      refine g_iload_n h rfl 1 rfl dX12_plans_151 ?_
      refine g_iload h 4 rfl dX12_plans_152 ?_
      refine g_iadd h dX12_plans_154 ?_
      refine g_callV [.int (x1 + x6)] h (hrec X _ _ _ _ hw) sPi_v mw_X12_plans lk_X12_396 is_248 rfl rfl ⟨by omega, by omega⟩ (Nat.le_of_ble_eq_true rfl) dX12_plans_155 (sPi_k (fun r_155 I_155 J_155 hw => ?_))
      refine g_aload_n h rfl 0 rfl dX12_plans_158 ?_
      refine g_iload_n h rfl 1 rfl dX12_plans_159 ?_
      refine g_iconst (v := 2) h (by decide) dX12_plans_160 ?_
      refine g_iload h 4 rfl dX12_plans_161 ?_
      refine g_imul h dX12_plans_163 ?_
      refine g_iadd h dX12_plans_164 ?_
      refine g_callV [.int (x1 + (2 * x6))] h (hrec X _ _ _ _ hw) sPi_v mw_X12_plans lk_X12_396 is_248 rfl rfl ⟨by omega, by omega⟩ (Nat.le_of_ble_eq_true rfl) dX12_plans_165 (sPi_k (fun r_165 I_165 J_165 hw => ?_))
      refine g_callS [.int r_155, .int r_165] h (c_J9_max_7cf53 X hw) sPi_v mw_J9_max_7cf53 lk_X12_237 rfl ⟨by omega, by omega⟩ (Nat.le_of_ble_eq_true rfl) dX12_plans_168 (sPi_k (fun r_168 I_168 J_168 hw => ?_))
      refine g_iadd h dX12_plans_171 ?_
      refine g_callS [.int x5, .int (1 + r_168)] h (c_J9_min_7cf53 X hw) sPi_v mw_J9_min_7cf53 lk_X12_36 rfl ⟨by omega, by omega⟩ (Nat.le_of_ble_eq_true rfl) dX12_plans_172 (sPi_k (fun r_172 I_172 J_172 hw => ?_))
      refine g_istore (lo2 := [(5, .int r_172), (0, .ref 248), (1, .int x1), (2, .int x2), (6, .int x6), (7, .int x7)]) h (by decide) rfl dX12_plans_175 ?_
      exact g_sub [1, 2, 3, 0, 4, 5] rfl (t_X12_plans_177 hrec h hr hk124 hw)
theorem t_X12_plans_124 {X : sX} {n : Nat} {rec : Int32 → sI → sJ → (Int32 → sI → sJ → Prop) → Prop} (hrec : ∀ (X : sX) (a1 : Int32) (I : sI) (J : sJ) (post : Int32 → sI → sJ → Prop), rec a1 I J post → sCall X yX12_plans cX12_plans 8 (some .int) (3 + n) (71 + n * 27) [.ref 248, .int a1] I J (sPi post)) {post : Int32 → sI → sJ → Prop} (h : sOK X cX12_plans RX12 8 (3 + n + 1) (71 + (n + 1) * 27)) (hr : sRt X (some .int) (sPi post)) {x1 : Int32} {x2 : Int32} {x5 : Int32} {x6 : Int32} {x7 : Int32} {I : sI} {J : sJ} (hw : w_X12_plans_124 rec post x1 x2 x5 x6 x7 I J) : sG X 8 124 [(0, .ref 248), (1, .int x1), (2, .int x2), (5, .int x5), (6, .int x6), (7, .int x7)] [] I J := by
  obtain ⟨n, hw⟩ := hw
  induction n generalizing x1 x2 x5 x6 x7 I J with
  | zero => exact hw.elim
  | succ n ih => exact t_X12_plans_124_s hrec h hr (fun _ _ _ _ _ _ _ q => ih q) hw
def w_X12_plans_88 (rec : Int32 → sI → sJ → (Int32 → sI → sJ → Prop) → Prop) (post : Int32 → sI → sJ → Prop) (k29 : Int32 → Int32 → Int32 → Int32 → Int32 → sI → sJ → Prop) (x1 : Int32) (x2 : Int32) (x4 : Int32) (x5 : Int32) (s0 : Int32) (I : sI) (J : sJ) : Prop :=
  (∀ v4_93 : Int32, v4_93 = x4 / 3 → (∀ v5_95 : Int32, v5_95 = x5 + 1 → k29 x1 x2 s0 v4_93 v5_95 I J))
set_option maxHeartbeats 4000000 in
set_option maxRecDepth 100000 in
theorem t_X12_plans_88 {X : sX} {n : Nat} {rec : Int32 → sI → sJ → (Int32 → sI → sJ → Prop) → Prop} (hrec : ∀ (X : sX) (a1 : Int32) (I : sI) (J : sJ) (post : Int32 → sI → sJ → Prop), rec a1 I J post → sCall X yX12_plans cX12_plans 8 (some .int) (3 + n) (71 + n * 27) [.ref 248, .int a1] I J (sPi post)) {post : Int32 → sI → sJ → Prop} (h : sOK X cX12_plans RX12 8 (3 + n + 1) (71 + (n + 1) * 27)) (hr : sRt X (some .int) (sPi post)) {k29 : Int32 → Int32 → Int32 → Int32 → Int32 → sI → sJ → Prop} (hk29 : ∀ (x1 : Int32) (x2 : Int32) (x3 : Int32) (x4 : Int32) (x5 : Int32) (I : sI) (J : sJ), k29 x1 x2 x3 x4 x5 I J → sG X 8 29 [(0, .ref 248), (1, .int x1), (2, .int x2), (3, .int x3), (4, .int x4), (5, .int x5)] [] I J) {x1 : Int32} {x2 : Int32} {x4 : Int32} {x5 : Int32} {s0 : Int32} {I : sI} {J : sJ} (hw : w_X12_plans_88 rec post k29 x1 x2 x4 x5 s0 I J) : sG X 8 88 [(0, .ref 248), (1, .int x1), (2, .int x2), (4, .int x4), (5, .int x5)] [.int s0] I J := by
  unfold w_X12_plans_88 at hw
  refine g_istore_n (lo2 := [(3, .int s0), (0, .ref 248), (1, .int x1), (2, .int x2), (4, .int x4), (5, .int x5)]) h rfl (by decide) rfl dX12_plans_88 ?_
  refine g_iload h 4 rfl dX12_plans_89 ?_
  refine g_iconst (v := 3) h (by decide) dX12_plans_91 ?_
  refine g_idiv h (by decide) dX12_plans_92 ?_
  refine g_ni (fun v4_93 ev4_93 => ?_)
  replace hw := hw v4_93 ev4_93
  refine g_istore (lo2 := [(4, .int v4_93), (3, .int s0), (0, .ref 248), (1, .int x1), (2, .int x2), (5, .int x5)]) h (by decide) rfl dX12_plans_93 ?_
  obtain ⟨v5_95, ev5_95⟩ : ∃ z : Int32, z = x5 + 1 := ⟨_, rfl⟩
  replace hw := hw v5_95 ev5_95
  refine g_iinc (v := v5_95) (lo2 := [(5, .int v5_95), (4, .int v4_93), (3, .int s0), (0, .ref 248), (1, .int x1), (2, .int x2)]) h 5 rfl (by rw [ev5_95]; rfl) (by decide) rfl dX12_plans_95 ?_
  refine g_goto (tgt := 29) h (by decide) dX12_plans_98 ?_
  exact g_sub [3, 4, 5, 2, 1, 0] rfl (hk29 _ _ _ _ _ _ _ hw)
def w_X12_plans_59 (rec : Int32 → sI → sJ → (Int32 → sI → sJ → Prop) → Prop) (post : Int32 → sI → sJ → Prop) (k29 : Int32 → Int32 → Int32 → Int32 → Int32 → sI → sJ → Prop) (x1 : Int32) (x3 : Int32) (x4 : Int32) (x5 : Int32) (s0 : Int32) (s1 : Int32) (I : sI) (J : sJ) : Prop :=
  (∀ v2_60 : Int32, v2_60 = s1 ||| s0 → ((¬ (x4 - x4 / 3 * 3) = 0 → (vp_in x5 8 ∧ w_X12_leftOf x3 (I 277 (Int32.toNatClampNeg x5)) (x4 - x4 / 3 * 3) I J (fun (r_85 : Int32) (I_85 : sI) (J_85 : sJ) => (w_X12_plans_88 rec post k29 x1 v2_60 x4 x5 r_85 I_85 J_85)))) ∧ ((x4 - x4 / 3 * 3) = 0 → w_X12_plans_88 rec post k29 x1 v2_60 x4 x5 x3 I J)))
set_option maxHeartbeats 4000000 in
set_option maxRecDepth 100000 in
theorem t_X12_plans_59 {X : sX} {n : Nat} {rec : Int32 → sI → sJ → (Int32 → sI → sJ → Prop) → Prop} (hrec : ∀ (X : sX) (a1 : Int32) (I : sI) (J : sJ) (post : Int32 → sI → sJ → Prop), rec a1 I J post → sCall X yX12_plans cX12_plans 8 (some .int) (3 + n) (71 + n * 27) [.ref 248, .int a1] I J (sPi post)) {post : Int32 → sI → sJ → Prop} (h : sOK X cX12_plans RX12 8 (3 + n + 1) (71 + (n + 1) * 27)) (hr : sRt X (some .int) (sPi post)) {k29 : Int32 → Int32 → Int32 → Int32 → Int32 → sI → sJ → Prop} (hk29 : ∀ (x1 : Int32) (x2 : Int32) (x3 : Int32) (x4 : Int32) (x5 : Int32) (I : sI) (J : sJ), k29 x1 x2 x3 x4 x5 I J → sG X 8 29 [(0, .ref 248), (1, .int x1), (2, .int x2), (3, .int x3), (4, .int x4), (5, .int x5)] [] I J) {x1 : Int32} {x3 : Int32} {x4 : Int32} {x5 : Int32} {s0 : Int32} {s1 : Int32} {I : sI} {J : sJ} (hw : w_X12_plans_59 rec post k29 x1 x3 x4 x5 s0 s1 I J) : sG X 8 59 [(0, .ref 248), (1, .int x1), (3, .int x3), (4, .int x4), (5, .int x5)] [.int s0, .int s1] I J := by
  unfold w_X12_plans_59 at hw
  refine g_ior h dX12_plans_59 ?_
  refine g_ni (fun v2_60 ev2_60 => ?_)
  replace hw := hw v2_60 ev2_60
  refine g_istore_n (lo2 := [(2, .int v2_60), (0, .ref 248), (1, .int x1), (3, .int x3), (4, .int x4), (5, .int x5)]) h rfl (by decide) rfl dX12_plans_60 ?_
  refine g_iload h 4 rfl dX12_plans_61 ?_
  refine g_iconst (v := 3) h (by decide) dX12_plans_63 ?_
  refine g_irem h (by decide) dX12_plans_64 ?_
  refine g_if_ne (tgt := 72) h (by decide) dX12_plans_65 (fun q65 => ?_) (fun q65 => ?_)
  · replace hw := hw.1 q65
    refine g_aload_n h rfl 1 rfl dX12_plans_72 ?_
    refine g_iload_n h rfl 3 rfl dX12_plans_73 ?_
    refine g_aload_n h rfl 1 rfl dX12_plans_74 ?_
    refine g_get h is_248 fl_X12_393 fr_248_50 dX12_plans_75 ?_
    refine g_iload h 5 rfl dX12_plans_78 ?_
    obtain ⟨hi80, hw⟩ := hw
    refine g_iald h ar_277 hi80 dX12_plans_80 ?_
    refine g_iload h 4 rfl dX12_plans_81 ?_
    refine g_iconst (v := 3) h (by decide) dX12_plans_83 ?_
    refine g_irem h (by decide) dX12_plans_84 ?_
    refine g_callV [.int x3, .int (I 277 (Int32.toNatClampNeg x5)), .int (x4 - x4 / 3 * 3)] h (c_X12_leftOf X hw) sPi_v mw_X12_leftOf lk_X12_371 is_248 rfl rfl ⟨by omega, by omega⟩ (Nat.le_of_ble_eq_true rfl) dX12_plans_85 (sPi_k (fun r_85 I_85 J_85 hw => ?_))
    exact g_sub [1, 2, 0, 4, 5] rfl (t_X12_plans_88 hrec h hr hk29 hw)
  · replace hw := hw.2 q65
    refine g_iload_n h rfl 3 rfl dX12_plans_68 ?_
    refine g_goto (tgt := 88) h (by decide) dX12_plans_69 ?_
    exact g_sub [1, 2, 0, 4, 5] rfl (t_X12_plans_88 hrec h hr hk29 hw)
def w_X12_plans_29_s (rec : Int32 → sI → sJ → (Int32 → sI → sJ → Prop) → Prop) (post : Int32 → sI → sJ → Prop) (k29 : Int32 → Int32 → Int32 → Int32 → Int32 → sI → sJ → Prop) (x1 : Int32) (x2 : Int32) (x3 : Int32) (x4 : Int32) (x5 : Int32) (I : sI) (J : sJ) : Prop :=
  (((I 248 49) ≤ x5 → w_X12_partsPairs x2 x3 0 I J (fun (r_108 : Int32) (I_108 : sI) (J_108 : sJ) => (((r_108 = 0 → w_X12_plans_189 rec post x1 0 I_108 J_108) ∧ (¬ r_108 = 0 → w_X12_plans_124 rec post x1 x2 12 1 0 I_108 J_108))))) ∧ (¬ (I 248 49) ≤ x5 → ((¬ (x4 - x4 / 3 * 3) = 0 → w_X12_plans_59 rec post k29 x1 x3 x4 x5 0 x2 I J) ∧ ((x4 - x4 / 3 * 3) = 0 → (vp_in x5 8 ∧ w_X12_plans_59 rec post k29 x1 x3 x4 x5 (1 <<< ((I 277 (Int32.toNatClampNeg x5)) &&& 31)) x2 I J)))))
def w_X12_plans_29_n (rec : Int32 → sI → sJ → (Int32 → sI → sJ → Prop) → Prop) (post : Int32 → sI → sJ → Prop) : Nat → Int32 → Int32 → Int32 → Int32 → Int32 → sI → sJ → Prop
  | 0 => fun _ _ _ _ _ _ _ => False
  | n + 1 => fun x1 x2 x3 x4 x5 I J => w_X12_plans_29_s rec post (w_X12_plans_29_n rec post n) x1 x2 x3 x4 x5 I J
def w_X12_plans_29 (rec : Int32 → sI → sJ → (Int32 → sI → sJ → Prop) → Prop) (post : Int32 → sI → sJ → Prop) (x1 : Int32) (x2 : Int32) (x3 : Int32) (x4 : Int32) (x5 : Int32) (I : sI) (J : sJ) : Prop := ∃ n, w_X12_plans_29_n rec post n x1 x2 x3 x4 x5 I J
set_option maxHeartbeats 4000000 in
set_option maxRecDepth 100000 in
theorem t_X12_plans_29_s {X : sX} {n : Nat} {rec : Int32 → sI → sJ → (Int32 → sI → sJ → Prop) → Prop} (hrec : ∀ (X : sX) (a1 : Int32) (I : sI) (J : sJ) (post : Int32 → sI → sJ → Prop), rec a1 I J post → sCall X yX12_plans cX12_plans 8 (some .int) (3 + n) (71 + n * 27) [.ref 248, .int a1] I J (sPi post)) {post : Int32 → sI → sJ → Prop} (h : sOK X cX12_plans RX12 8 (3 + n + 1) (71 + (n + 1) * 27)) (hr : sRt X (some .int) (sPi post)) {k29 : Int32 → Int32 → Int32 → Int32 → Int32 → sI → sJ → Prop} (hk29 : ∀ (x1 : Int32) (x2 : Int32) (x3 : Int32) (x4 : Int32) (x5 : Int32) (I : sI) (J : sJ), k29 x1 x2 x3 x4 x5 I J → sG X 8 29 [(0, .ref 248), (1, .int x1), (2, .int x2), (3, .int x3), (4, .int x4), (5, .int x5)] [] I J) {x1 : Int32} {x2 : Int32} {x3 : Int32} {x4 : Int32} {x5 : Int32} {I : sI} {J : sJ} (hw : w_X12_plans_29_s rec post k29 x1 x2 x3 x4 x5 I J) : sG X 8 29 [(0, .ref 248), (1, .int x1), (2, .int x2), (3, .int x3), (4, .int x4), (5, .int x5)] [] I J := by
  unfold w_X12_plans_29_s at hw
  refine g_iload h 5 rfl dX12_plans_29 ?_
  refine g_aload_n h rfl 0 rfl dX12_plans_31 ?_
  refine g_get h is_248 fl_X12_390 rfl dX12_plans_32 ?_
  refine g_icmp_ge (tgt := 101) h (by decide) dX12_plans_35 (fun q35 => ?_) (fun q35 => ?_)
  · replace hw := hw.1 q35
    refine g_iconst (v := 0) h (by decide) dX12_plans_101 ?_
    refine g_istore (lo2 := [(5, .int 0), (0, .ref 248), (1, .int x1), (2, .int x2), (3, .int x3), (4, .int x4)]) h (by decide) rfl dX12_plans_102 ?_
    refine g_aload_n h rfl 1 rfl dX12_plans_104 ?_
    refine g_iload_n h rfl 3 rfl dX12_plans_105 ?_
    refine g_iload_n h rfl 4 rfl dX12_plans_106 ?_
    refine g_iconst (v := 0) h (by decide) dX12_plans_107 ?_
    refine g_callV [.int x2, .int x3, .int 0] h (c_X12_partsPairs X hw) sPi_v mw_X12_partsPairs lk_X12_380 is_248 rfl rfl ⟨by omega, by omega⟩ (Nat.le_of_ble_eq_true rfl) dX12_plans_108 (sPi_k (fun r_108 I_108 J_108 hw => ?_))
    refine g_if_eq (tgt := 189) h (by decide) dX12_plans_111 (fun q111 => ?_) (fun q111 => ?_)
    · replace hw := hw.1 q111
      exact g_sub [1, 2, 0] rfl (t_X12_plans_189 hrec h hr hw)
    · replace hw := hw.2 q111
      refine g_bipush (v := 12) h (by decide) dX12_plans_114 ?_
      refine g_istore (lo2 := [(5, .int 12), (0, .ref 248), (1, .int x1), (2, .int x2), (3, .int x3), (4, .int x4)]) h (by decide) rfl dX12_plans_116 ?_
      refine g_iconst (v := 1) h (by decide) dX12_plans_118 ?_
      refine g_istore (lo2 := [(6, .int 1), (5, .int 12), (0, .ref 248), (1, .int x1), (2, .int x2), (3, .int x3), (4, .int x4)]) h (by decide) rfl dX12_plans_119 ?_
      refine g_iconst (v := 0) h (by decide) dX12_plans_121 ?_
      refine g_istore (lo2 := [(7, .int 0), (6, .int 1), (5, .int 12), (0, .ref 248), (1, .int x1), (2, .int x2), (3, .int x3), (4, .int x4)]) h (by decide) rfl dX12_plans_122 ?_
      exact g_sub [3, 4, 5, 2, 1, 0] rfl (t_X12_plans_124 hrec h hr hw)
  · replace hw := hw.2 q35
    refine g_iload_n h rfl 2 rfl dX12_plans_38 ?_
    refine g_iload h 4 rfl dX12_plans_39 ?_
    refine g_iconst (v := 3) h (by decide) dX12_plans_41 ?_
    refine g_irem h (by decide) dX12_plans_42 ?_
    refine g_if_ne (tgt := 58) h (by decide) dX12_plans_43 (fun q43 => ?_) (fun q43 => ?_)
    · replace hw := hw.1 q43
      refine g_iconst (v := 0) h (by decide) dX12_plans_58 ?_
      exact g_sub [0, 1, 3, 4, 5] rfl (t_X12_plans_59 hrec h hr hk29 hw)
    · replace hw := hw.2 q43
      refine g_iconst (v := 1) h (by decide) dX12_plans_46 ?_
      refine g_aload_n h rfl 0 rfl dX12_plans_47 ?_
      refine g_get h is_248 fl_X12_393 fr_248_50 dX12_plans_48 ?_
      refine g_iload h 5 rfl dX12_plans_51 ?_
      obtain ⟨hi53, hw⟩ := hw
      refine g_iald h ar_277 hi53 dX12_plans_53 ?_
      refine g_ishl h dX12_plans_54 ?_
      refine g_goto (tgt := 59) h (by decide) dX12_plans_55 ?_
      exact g_sub [0, 1, 3, 4, 5] rfl (t_X12_plans_59 hrec h hr hk29 hw)
theorem t_X12_plans_29 {X : sX} {n : Nat} {rec : Int32 → sI → sJ → (Int32 → sI → sJ → Prop) → Prop} (hrec : ∀ (X : sX) (a1 : Int32) (I : sI) (J : sJ) (post : Int32 → sI → sJ → Prop), rec a1 I J post → sCall X yX12_plans cX12_plans 8 (some .int) (3 + n) (71 + n * 27) [.ref 248, .int a1] I J (sPi post)) {post : Int32 → sI → sJ → Prop} (h : sOK X cX12_plans RX12 8 (3 + n + 1) (71 + (n + 1) * 27)) (hr : sRt X (some .int) (sPi post)) {x1 : Int32} {x2 : Int32} {x3 : Int32} {x4 : Int32} {x5 : Int32} {I : sI} {J : sJ} (hw : w_X12_plans_29 rec post x1 x2 x3 x4 x5 I J) : sG X 8 29 [(0, .ref 248), (1, .int x1), (2, .int x2), (3, .int x3), (4, .int x4), (5, .int x5)] [] I J := by
  obtain ⟨n, hw⟩ := hw
  induction n generalizing x1 x2 x3 x4 x5 I J with
  | zero => exact hw.elim
  | succ n ih => exact t_X12_plans_29_s hrec h hr (fun _ _ _ _ _ _ _ q => ih q) hw
def w_X12_plans_b (rec : Int32 → sI → sJ → (Int32 → sI → sJ → Prop) → Prop) (a1 : Int32) (I : sI) (J : sJ) (post : Int32 → sI → sJ → Prop) : Prop :=
  (vp_in a1 6561 ∧ (((I 278 (Int32.toNatClampNeg a1)) < 0 → (∀ v3_22 : Int32, v3_22 = I 248 52 → w_X12_plans_29 rec post a1 0 v3_22 a1 0 I J)) ∧ (¬ (I 278 (Int32.toNatClampNeg a1)) < 0 → (vp_in a1 6561 ∧ post (I 278 (Int32.toNatClampNeg a1)) I J))))
set_option maxHeartbeats 4000000 in
set_option maxRecDepth 100000 in
theorem t_X12_plans {X : sX} {n : Nat} {rec : Int32 → sI → sJ → (Int32 → sI → sJ → Prop) → Prop} (hrec : ∀ (X : sX) (a1 : Int32) (I : sI) (J : sJ) (post : Int32 → sI → sJ → Prop), rec a1 I J post → sCall X yX12_plans cX12_plans 8 (some .int) (3 + n) (71 + n * 27) [.ref 248, .int a1] I J (sPi post)) {a1 : Int32} {I : sI} {J : sJ} {post : Int32 → sI → sJ → Prop} (h : sOK X cX12_plans RX12 8 (3 + n + 1) (71 + (n + 1) * 27)) (hr : sRt X (some .int) (sPi post)) (hw : w_X12_plans_b rec a1 I J post) : sG X 8 0 [(0, .ref 248), (1, .int a1)] [] I J := by
  unfold w_X12_plans_b at hw
  refine g_aload_n h rfl 0 rfl dX12_plans_0 ?_
  refine g_get h is_248 fl_X12_384 fr_248_51 dX12_plans_1 ?_
  refine g_iload_n h rfl 1 rfl dX12_plans_4 ?_
  obtain ⟨hi5, hw⟩ := hw
  refine g_iald h ar_278 hi5 dX12_plans_5 ?_
  refine g_if_lt (tgt := 16) h (by decide) dX12_plans_6 (fun q6 => ?_) (fun q6 => ?_)
  · replace hw := hw.1 q6
    refine g_iconst (v := 0) h (by decide) dX12_plans_16 ?_
    refine g_istore_n (lo2 := [(2, .int 0), (0, .ref 248), (1, .int a1)]) h rfl (by decide) rfl dX12_plans_17 ?_
    refine g_aload_n h rfl 1 rfl dX12_plans_18 ?_
    refine g_get h is_248 fl_X12_387 rfl dX12_plans_19 ?_
    refine g_ni (fun v3_22 ev3_22 => ?_)
    replace hw := hw v3_22 ev3_22
    refine g_istore_n (lo2 := [(3, .int v3_22), (2, .int 0), (0, .ref 248), (1, .int a1)]) h rfl (by decide) rfl dX12_plans_22 ?_
    refine g_iload_n h rfl 3 rfl dX12_plans_23 ?_
    refine g_istore (lo2 := [(4, .int a1), (3, .int v3_22), (2, .int 0), (0, .ref 248), (1, .int a1)]) h (by decide) rfl dX12_plans_24 ?_
    refine g_iconst (v := 0) h (by decide) dX12_plans_26 ?_
    refine g_istore (lo2 := [(5, .int 0), (4, .int a1), (3, .int v3_22), (2, .int 0), (0, .ref 248), (1, .int a1)]) h (by decide) rfl dX12_plans_27 ?_
    exact g_sub [4, 5, 3, 2, 1, 0] rfl (t_X12_plans_29 hrec h hr hw)
  · replace hw := hw.2 q6
    refine g_aload_n h rfl 0 rfl dX12_plans_9 ?_
    refine g_get h is_248 fl_X12_384 fr_248_51 dX12_plans_10 ?_
    refine g_iload_n h rfl 1 rfl dX12_plans_13 ?_
    obtain ⟨hi14, hw⟩ := hw
    refine g_iald h ar_278 hi14 dX12_plans_14 ?_
    exact g_iret h hr dX12_plans_15 hw
def w_X12_plans_d : Nat → Int32 → sI → sJ → (Int32 → sI → sJ → Prop) → Prop
  | 0 => fun _ _ _ _ => False
  | n + 1 => fun a1 I J post => w_X12_plans_b (w_X12_plans_d n) a1 I J post
theorem c_X12_plans_d (n : Nat) : ∀ (X : sX) (a1 : Int32) (I : sI) (J : sJ) (post : Int32 → sI → sJ → Prop), w_X12_plans_d n a1 I J post → sCall X yX12_plans cX12_plans 8 (some .int) (3 + n) (71 + n * 27) [.ref 248, .int a1] I J (sPi post) := by
  induction n with
  | zero => intro _ _ _ _ _ hw; exact hw.elim
  | succ n ih => intro X a1 I J post hw; exact sCall_of (by decide +kernel) (Nat.le_of_ble_eq_true rfl) (fun X h hr => t_X12_plans ih h hr hw)
def w_X12_plans (a1 : Int32) (I : sI) (J : sJ) (post : Int32 → sI → sJ → Prop) : Prop := w_X12_plans_d 10 a1 I J post
theorem c_X12_plans (X : sX) {a1 : Int32} {I : sI} {J : sJ} {post : Int32 → sI → sJ → Prop} (hw : w_X12_plans a1 I J post) : sCall X yX12_plans cX12_plans 8 (some .int) 13 341 [.ref 248, .int a1] I J (sPi post) := c_X12_plans_d 10 X a1 I J post hw
theorem dX12_plan_0 : decode cX12_plan 0 = .ok (.aload_n 0, 1) := by decide +kernel
theorem dX12_plan_1 : decode cX12_plan 1 = .ok (.iconst 0, 1) := by decide +kernel
theorem dX12_plan_2 : decode cX12_plan 2 = .ok (.putfield 1, 3) := by decide +kernel
theorem dX12_plan_5 : decode cX12_plan 5 = .ok (.aload_n 0, 1) := by decide +kernel
theorem dX12_plan_6 : decode cX12_plan 6 = .ok (.aload_n 0, 1) := by decide +kernel
theorem dX12_plan_7 : decode cX12_plan 7 = .ok (.invokevirtual 368, 3) := by decide +kernel
theorem dX12_plan_10 : decode cX12_plan 10 = .ok (.putfield 387, 3) := by decide +kernel
theorem dX12_plan_13 : decode cX12_plan 13 = .ok (.aload_n 0, 1) := by decide +kernel
theorem dX12_plan_14 : decode cX12_plan 14 = .ok (.iconst 0, 1) := by decide +kernel
theorem dX12_plan_15 : decode cX12_plan 15 = .ok (.putfield 390, 3) := by decide +kernel
theorem dX12_plan_18 : decode cX12_plan 18 = .ok (.iconst 0, 1) := by decide +kernel
theorem dX12_plan_19 : decode cX12_plan 19 = .ok (.istore_n 1, 1) := by decide +kernel
theorem dX12_plan_20 : decode cX12_plan 20 = .ok (.iload_n 1, 1) := by decide +kernel
theorem dX12_plan_21 : decode cX12_plan 21 = .ok (.bipush 12, 2) := by decide +kernel
theorem dX12_plan_23 : decode cX12_plan 23 = .ok (.if_icmp .ge 111, 3) := by decide +kernel
theorem dX12_plan_26 : decode cX12_plan 26 = .ok (.iconst 0, 1) := by decide +kernel
theorem dX12_plan_27 : decode cX12_plan 27 = .ok (.istore_n 2, 1) := by decide +kernel
theorem dX12_plan_28 : decode cX12_plan 28 = .ok (.iconst 0, 1) := by decide +kernel
theorem dX12_plan_29 : decode cX12_plan 29 = .ok (.istore_n 3, 1) := by decide +kernel
theorem dX12_plan_30 : decode cX12_plan 30 = .ok (.iload_n 3, 1) := by decide +kernel
theorem dX12_plan_31 : decode cX12_plan 31 = .ok (.aload_n 0, 1) := by decide +kernel
theorem dX12_plan_32 : decode cX12_plan 32 = .ok (.getfield 353, 3) := by decide +kernel
theorem dX12_plan_35 : decode cX12_plan 35 = .ok (.if_icmp .ge 53, 3) := by decide +kernel
theorem dX12_plan_38 : decode cX12_plan 38 = .ok (.iload_n 2, 1) := by decide +kernel
theorem dX12_plan_39 : decode cX12_plan 39 = .ok (.ifCond .ne 37, 3) := by decide +kernel
theorem dX12_plan_42 : decode cX12_plan 42 = .ok (.aload_n 0, 1) := by decide +kernel
theorem dX12_plan_43 : decode cX12_plan 43 = .ok (.getfield 365, 3) := by decide +kernel
theorem dX12_plan_46 : decode cX12_plan 46 = .ok (.iload_n 1, 1) := by decide +kernel
theorem dX12_plan_47 : decode cX12_plan 47 = .ok (.iaload, 1) := by decide +kernel
theorem dX12_plan_48 : decode cX12_plan 48 = .ok (.ifCond .ne 32, 3) := by decide +kernel
theorem dX12_plan_51 : decode cX12_plan 51 = .ok (.aload_n 0, 1) := by decide +kernel
theorem dX12_plan_52 : decode cX12_plan 52 = .ok (.getfield 387, 3) := by decide +kernel
theorem dX12_plan_55 : decode cX12_plan 55 = .ok (.iload_n 3, 1) := by decide +kernel
theorem dX12_plan_56 : decode cX12_plan 56 = .ok (.invokestatic 242, 3) := by decide +kernel
theorem dX12_plan_59 : decode cX12_plan 59 = .ok (.ifCond .eq 21, 3) := by decide +kernel
theorem dX12_plan_62 : decode cX12_plan 62 = .ok (.aload_n 0, 1) := by decide +kernel
theorem dX12_plan_63 : decode cX12_plan 63 = .ok (.getfield 359, 3) := by decide +kernel
theorem dX12_plan_66 : decode cX12_plan 66 = .ok (.bipush 12, 2) := by decide +kernel
theorem dX12_plan_68 : decode cX12_plan 68 = .ok (.iload_n 3, 1) := by decide +kernel
theorem dX12_plan_69 : decode cX12_plan 69 = .ok (.imul, 1) := by decide +kernel
theorem dX12_plan_70 : decode cX12_plan 70 = .ok (.iload_n 1, 1) := by decide +kernel
theorem dX12_plan_71 : decode cX12_plan 71 = .ok (.iadd, 1) := by decide +kernel
theorem dX12_plan_72 : decode cX12_plan 72 = .ok (.iaload, 1) := by decide +kernel
theorem dX12_plan_73 : decode cX12_plan 73 = .ok (.ifCond .le 7, 3) := by decide +kernel
theorem dX12_plan_76 : decode cX12_plan 76 = .ok (.iconst 1, 1) := by decide +kernel
theorem dX12_plan_77 : decode cX12_plan 77 = .ok (.goto 4, 3) := by decide +kernel
theorem dX12_plan_80 : decode cX12_plan 80 = .ok (.iconst 0, 1) := by decide +kernel
theorem dX12_plan_81 : decode cX12_plan 81 = .ok (.istore_n 2, 1) := by decide +kernel
theorem dX12_plan_82 : decode cX12_plan 82 = .ok (.iinc 3 1, 3) := by decide +kernel
theorem dX12_plan_85 : decode cX12_plan 85 = .ok (.goto (-55), 3) := by decide +kernel
theorem dX12_plan_88 : decode cX12_plan 88 = .ok (.iload_n 2, 1) := by decide +kernel
theorem dX12_plan_89 : decode cX12_plan 89 = .ok (.ifCond .eq 15, 3) := by decide +kernel
theorem dX12_plan_92 : decode cX12_plan 92 = .ok (.aload_n 0, 1) := by decide +kernel
theorem dX12_plan_93 : decode cX12_plan 93 = .ok (.getfield 390, 3) := by decide +kernel
theorem dX12_plan_96 : decode cX12_plan 96 = .ok (.bipush 8, 2) := by decide +kernel
theorem dX12_plan_98 : decode cX12_plan 98 = .ok (.if_icmp .ne 6, 3) := by decide +kernel
theorem dX12_plan_101 : decode cX12_plan 101 = .ok (.bipush (-3), 2) := by decide +kernel
theorem dX12_plan_103 : decode cX12_plan 103 = .ok (.ireturn, 1) := by decide +kernel
theorem dX12_plan_104 : decode cX12_plan 104 = .ok (.iload_n 2, 1) := by decide +kernel
theorem dX12_plan_105 : decode cX12_plan 105 = .ok (.ifCond .eq 23, 3) := by decide +kernel
theorem dX12_plan_108 : decode cX12_plan 108 = .ok (.aload_n 0, 1) := by decide +kernel
theorem dX12_plan_109 : decode cX12_plan 109 = .ok (.getfield 393, 3) := by decide +kernel
theorem dX12_plan_112 : decode cX12_plan 112 = .ok (.aload_n 0, 1) := by decide +kernel
theorem dX12_plan_113 : decode cX12_plan 113 = .ok (.getfield 390, 3) := by decide +kernel
theorem dX12_plan_116 : decode cX12_plan 116 = .ok (.iload_n 1, 1) := by decide +kernel
theorem dX12_plan_117 : decode cX12_plan 117 = .ok (.iastore, 1) := by decide +kernel
theorem dX12_plan_118 : decode cX12_plan 118 = .ok (.aload_n 0, 1) := by decide +kernel
theorem dX12_plan_119 : decode cX12_plan 119 = .ok (.dup, 1) := by decide +kernel
theorem dX12_plan_120 : decode cX12_plan 120 = .ok (.getfield 390, 3) := by decide +kernel
theorem dX12_plan_123 : decode cX12_plan 123 = .ok (.iconst 1, 1) := by decide +kernel
theorem dX12_plan_124 : decode cX12_plan 124 = .ok (.iadd, 1) := by decide +kernel
theorem dX12_plan_125 : decode cX12_plan 125 = .ok (.putfield 390, 3) := by decide +kernel
theorem dX12_plan_128 : decode cX12_plan 128 = .ok (.iinc 1 1, 3) := by decide +kernel
theorem dX12_plan_131 : decode cX12_plan 131 = .ok (.goto (-111), 3) := by decide +kernel
theorem dX12_plan_134 : decode cX12_plan 134 = .ok (.iconst 0, 1) := by decide +kernel
theorem dX12_plan_135 : decode cX12_plan 135 = .ok (.istore_n 1, 1) := by decide +kernel
theorem dX12_plan_136 : decode cX12_plan 136 = .ok (.iload_n 1, 1) := by decide +kernel
theorem dX12_plan_137 : decode cX12_plan 137 = .ok (.sipush 6561, 3) := by decide +kernel
theorem dX12_plan_140 : decode cX12_plan 140 = .ok (.if_icmp .ge 16, 3) := by decide +kernel
theorem dX12_plan_143 : decode cX12_plan 143 = .ok (.aload_n 0, 1) := by decide +kernel
theorem dX12_plan_144 : decode cX12_plan 144 = .ok (.getfield 384, 3) := by decide +kernel
theorem dX12_plan_147 : decode cX12_plan 147 = .ok (.iload_n 1, 1) := by decide +kernel
theorem dX12_plan_148 : decode cX12_plan 148 = .ok (.iconst (-1), 1) := by decide +kernel
theorem dX12_plan_149 : decode cX12_plan 149 = .ok (.iastore, 1) := by decide +kernel
theorem dX12_plan_150 : decode cX12_plan 150 = .ok (.iinc 1 1, 3) := by decide +kernel
theorem dX12_plan_153 : decode cX12_plan 153 = .ok (.goto (-17), 3) := by decide +kernel
theorem dX12_plan_156 : decode cX12_plan 156 = .ok (.aload_n 0, 1) := by decide +kernel
theorem dX12_plan_157 : decode cX12_plan 157 = .ok (.iconst 0, 1) := by decide +kernel
theorem dX12_plan_158 : decode cX12_plan 158 = .ok (.invokevirtual 396, 3) := by decide +kernel
theorem dX12_plan_161 : decode cX12_plan 161 = .ok (.ireturn, 1) := by decide +kernel
def w_X12_plan_136_s (post : Int32 → sI → sJ → Prop) (k136 : Int32 → sI → sJ → Prop) (x1 : Int32) (I : sI) (J : sJ) : Prop :=
  ((6561 ≤ x1 → w_X12_plans 0 I J (fun (r_158 : Int32) (I_158 : sI) (J_158 : sJ) => (post r_158 I_158 J_158))) ∧ (¬ 6561 ≤ x1 → (vp_in x1 6561 ∧ (∀ I_149 : sI, I_149 = sUI I 278 (Int32.toNatClampNeg x1) (-1) → (∀ v1_150 : Int32, v1_150 = x1 + 1 → k136 v1_150 I_149 J)))))
def w_X12_plan_136_n (post : Int32 → sI → sJ → Prop) : Nat → Int32 → sI → sJ → Prop
  | 0 => fun _ _ _ => False
  | n + 1 => fun x1 I J => w_X12_plan_136_s post (w_X12_plan_136_n post n) x1 I J
def w_X12_plan_136 (post : Int32 → sI → sJ → Prop) (x1 : Int32) (I : sI) (J : sJ) : Prop := ∃ n, w_X12_plan_136_n post n x1 I J
set_option maxHeartbeats 4000000 in
set_option maxRecDepth 100000 in
theorem t_X12_plan_136_s {X : sX} {post : Int32 → sI → sJ → Prop} (h : sOK X cX12_plan RX12 4 14 368) (hr : sRt X (some .int) (sPi post)) {k136 : Int32 → sI → sJ → Prop} (hk136 : ∀ (x1 : Int32) (I : sI) (J : sJ), k136 x1 I J → sG X 4 136 [(0, .ref 248), (1, .int x1)] [] I J) {x1 : Int32} {I : sI} {J : sJ} (hw : w_X12_plan_136_s post k136 x1 I J) : sG X 4 136 [(0, .ref 248), (1, .int x1)] [] I J := by
  unfold w_X12_plan_136_s at hw
  refine g_iload_n h rfl 1 rfl dX12_plan_136 ?_
  refine g_sipush (v := 6561) h (by decide) dX12_plan_137 ?_
  refine g_icmp_ge (tgt := 156) h (by decide) dX12_plan_140 (fun q140 => ?_) (fun q140 => ?_)
  · replace hw := hw.1 q140
    refine g_aload_n h rfl 0 rfl dX12_plan_156 ?_
    refine g_iconst (v := 0) h (by decide) dX12_plan_157 ?_
    refine g_callV [.int 0] h (c_X12_plans X hw) sPi_v mw_X12_plans lk_X12_396 is_248 rfl rfl ⟨by decide, by decide⟩ (Nat.le_of_ble_eq_true rfl) dX12_plan_158 (sPi_k (fun r_158 I_158 J_158 hw => ?_))
    exact g_iret h hr dX12_plan_161 hw
  · replace hw := hw.2 q140
    refine g_aload_n h rfl 0 rfl dX12_plan_143 ?_
    refine g_get h is_248 fl_X12_384 fr_248_51 dX12_plan_144 ?_
    refine g_iload_n h rfl 1 rfl dX12_plan_147 ?_
    refine g_iconst (v := (-1)) h (by decide) dX12_plan_148 ?_
    obtain ⟨hi149, hw⟩ := hw
    refine g_iast h ar_278 hi149 dX12_plan_149 ?_
    refine g_nI (fun I_149 eI_149 => ?_)
    replace hw := hw I_149 eI_149
    obtain ⟨v1_150, ev1_150⟩ : ∃ z : Int32, z = x1 + 1 := ⟨_, rfl⟩
    replace hw := hw v1_150 ev1_150
    refine g_iinc (v := v1_150) (lo2 := [(1, .int v1_150), (0, .ref 248)]) h 1 rfl (by rw [ev1_150]; rfl) (by decide) rfl dX12_plan_150 ?_
    refine g_goto (tgt := 136) h (by decide) dX12_plan_153 ?_
    exact g_sub [1, 0] rfl (hk136 _ _ _ hw)
theorem t_X12_plan_136 {X : sX} {post : Int32 → sI → sJ → Prop} (h : sOK X cX12_plan RX12 4 14 368) (hr : sRt X (some .int) (sPi post)) {x1 : Int32} {I : sI} {J : sJ} (hw : w_X12_plan_136 post x1 I J) : sG X 4 136 [(0, .ref 248), (1, .int x1)] [] I J := by
  obtain ⟨n, hw⟩ := hw
  induction n generalizing x1 I J with
  | zero => exact hw.elim
  | succ n ih => exact t_X12_plan_136_s h hr (fun _ _ _ q => ih q) hw
def w_X12_plan_128 (post : Int32 → sI → sJ → Prop) (k20 : Int32 → sI → sJ → Prop) (x1 : Int32) (I : sI) (J : sJ) : Prop :=
  (∀ v1_128 : Int32, v1_128 = x1 + 1 → k20 v1_128 I J)
set_option maxHeartbeats 4000000 in
set_option maxRecDepth 100000 in
theorem t_X12_plan_128 {X : sX} {post : Int32 → sI → sJ → Prop} (h : sOK X cX12_plan RX12 4 14 368) (hr : sRt X (some .int) (sPi post)) {k20 : Int32 → sI → sJ → Prop} (hk20 : ∀ (x1 : Int32) (I : sI) (J : sJ), k20 x1 I J → sG X 4 20 [(0, .ref 248), (1, .int x1)] [] I J) {x1 : Int32} {I : sI} {J : sJ} (hw : w_X12_plan_128 post k20 x1 I J) : sG X 4 128 [(0, .ref 248), (1, .int x1)] [] I J := by
  unfold w_X12_plan_128 at hw
  obtain ⟨v1_128, ev1_128⟩ : ∃ z : Int32, z = x1 + 1 := ⟨_, rfl⟩
  replace hw := hw v1_128 ev1_128
  refine g_iinc (v := v1_128) (lo2 := [(1, .int v1_128), (0, .ref 248)]) h 1 rfl (by rw [ev1_128]; rfl) (by decide) rfl dX12_plan_128 ?_
  refine g_goto (tgt := 20) h (by decide) dX12_plan_131 ?_
  exact g_sub [1, 0] rfl (hk20 _ _ _ hw)
def w_X12_plan_104 (post : Int32 → sI → sJ → Prop) (k20 : Int32 → sI → sJ → Prop) (x1 : Int32) (x2 : Int32) (I : sI) (J : sJ) : Prop :=
  ((x2 = 0 → w_X12_plan_128 post k20 x1 I J) ∧ (¬ x2 = 0 → (vp_in (I 248 49) 8 ∧ (∀ I_117 : sI, I_117 = sUI I 277 (Int32.toNatClampNeg (I 248 49)) x1 → (∀ I_125 : sI, I_125 = sUI I_117 248 49 ((I_117 248 49) + 1) → w_X12_plan_128 post k20 x1 I_125 J)))))
set_option maxHeartbeats 4000000 in
set_option maxRecDepth 100000 in
theorem t_X12_plan_104 {X : sX} {post : Int32 → sI → sJ → Prop} (h : sOK X cX12_plan RX12 4 14 368) (hr : sRt X (some .int) (sPi post)) {k20 : Int32 → sI → sJ → Prop} (hk20 : ∀ (x1 : Int32) (I : sI) (J : sJ), k20 x1 I J → sG X 4 20 [(0, .ref 248), (1, .int x1)] [] I J) {x1 : Int32} {x2 : Int32} {I : sI} {J : sJ} (hw : w_X12_plan_104 post k20 x1 x2 I J) : sG X 4 104 [(0, .ref 248), (1, .int x1), (2, .int x2)] [] I J := by
  unfold w_X12_plan_104 at hw
  refine g_iload_n h rfl 2 rfl dX12_plan_104 ?_
  refine g_if_eq (tgt := 128) h (by decide) dX12_plan_105 (fun q105 => ?_) (fun q105 => ?_)
  · replace hw := hw.1 q105
    exact g_sub [0, 1] rfl (t_X12_plan_128 h hr hk20 hw)
  · replace hw := hw.2 q105
    refine g_aload_n h rfl 0 rfl dX12_plan_108 ?_
    refine g_get h is_248 fl_X12_393 fr_248_50 dX12_plan_109 ?_
    refine g_aload_n h rfl 0 rfl dX12_plan_112 ?_
    refine g_get h is_248 fl_X12_390 rfl dX12_plan_113 ?_
    refine g_iload_n h rfl 1 rfl dX12_plan_116 ?_
    obtain ⟨hi117, hw⟩ := hw
    refine g_iast h ar_277 hi117 dX12_plan_117 ?_
    refine g_nI (fun I_117 eI_117 => ?_)
    replace hw := hw I_117 eI_117
    refine g_aload_n h rfl 0 rfl dX12_plan_118 ?_
    refine g_dup h rfl dX12_plan_119 ?_
    refine g_get h is_248 fl_X12_390 rfl dX12_plan_120 ?_
    refine g_iconst (v := 1) h (by decide) dX12_plan_123 ?_
    refine g_iadd h dX12_plan_124 ?_
    refine g_putI h is_248 fl_X12_390 rfl rfl dX12_plan_125 ?_
    refine g_nI (fun I_125 eI_125 => ?_)
    replace hw := hw I_125 eI_125
    exact g_sub [0, 1] rfl (t_X12_plan_128 h hr hk20 hw)
def w_X12_plan_81 (post : Int32 → sI → sJ → Prop) (k20 : Int32 → sI → sJ → Prop) (k30 : Int32 → Int32 → Int32 → sI → sJ → Prop) (x1 : Int32) (x3 : Int32) (s0 : Int32) (I : sI) (J : sJ) : Prop :=
  (∀ v3_82 : Int32, v3_82 = x3 + 1 → k30 x1 s0 v3_82 I J)
set_option maxHeartbeats 4000000 in
set_option maxRecDepth 100000 in
theorem t_X12_plan_81 {X : sX} {post : Int32 → sI → sJ → Prop} (h : sOK X cX12_plan RX12 4 14 368) (hr : sRt X (some .int) (sPi post)) {k20 : Int32 → sI → sJ → Prop} (hk20 : ∀ (x1 : Int32) (I : sI) (J : sJ), k20 x1 I J → sG X 4 20 [(0, .ref 248), (1, .int x1)] [] I J) {k30 : Int32 → Int32 → Int32 → sI → sJ → Prop} (hk30 : ∀ (x1 : Int32) (x2 : Int32) (x3 : Int32) (I : sI) (J : sJ), k30 x1 x2 x3 I J → sG X 4 30 [(0, .ref 248), (1, .int x1), (2, .int x2), (3, .int x3)] [] I J) {x1 : Int32} {x3 : Int32} {s0 : Int32} {I : sI} {J : sJ} (hw : w_X12_plan_81 post k20 k30 x1 x3 s0 I J) : sG X 4 81 [(0, .ref 248), (1, .int x1), (3, .int x3)] [.int s0] I J := by
  unfold w_X12_plan_81 at hw
  refine g_istore_n (lo2 := [(2, .int s0), (0, .ref 248), (1, .int x1), (3, .int x3)]) h rfl (by decide) rfl dX12_plan_81 ?_
  obtain ⟨v3_82, ev3_82⟩ : ∃ z : Int32, z = x3 + 1 := ⟨_, rfl⟩
  replace hw := hw v3_82 ev3_82
  refine g_iinc (v := v3_82) (lo2 := [(3, .int v3_82), (2, .int s0), (0, .ref 248), (1, .int x1)]) h 3 rfl (by rw [ev3_82]; rfl) (by decide) rfl dX12_plan_82 ?_
  refine g_goto (tgt := 30) h (by decide) dX12_plan_85 ?_
  exact g_sub [2, 3, 1, 0] rfl (hk30 _ _ _ _ _ hw)
def w_X12_plan_76 (post : Int32 → sI → sJ → Prop) (k20 : Int32 → sI → sJ → Prop) (k30 : Int32 → Int32 → Int32 → sI → sJ → Prop) (x1 : Int32) (x3 : Int32) (I : sI) (J : sJ) : Prop :=
  w_X12_plan_81 post k20 k30 x1 x3 1 I J
set_option maxHeartbeats 4000000 in
set_option maxRecDepth 100000 in
theorem t_X12_plan_76 {X : sX} {post : Int32 → sI → sJ → Prop} (h : sOK X cX12_plan RX12 4 14 368) (hr : sRt X (some .int) (sPi post)) {k20 : Int32 → sI → sJ → Prop} (hk20 : ∀ (x1 : Int32) (I : sI) (J : sJ), k20 x1 I J → sG X 4 20 [(0, .ref 248), (1, .int x1)] [] I J) {k30 : Int32 → Int32 → Int32 → sI → sJ → Prop} (hk30 : ∀ (x1 : Int32) (x2 : Int32) (x3 : Int32) (I : sI) (J : sJ), k30 x1 x2 x3 I J → sG X 4 30 [(0, .ref 248), (1, .int x1), (2, .int x2), (3, .int x3)] [] I J) {x1 : Int32} {x3 : Int32} {I : sI} {J : sJ} (hw : w_X12_plan_76 post k20 k30 x1 x3 I J) : sG X 4 76 [(0, .ref 248), (1, .int x1), (3, .int x3)] [] I J := by
  unfold w_X12_plan_76 at hw
  refine g_iconst (v := 1) h (by decide) dX12_plan_76 ?_
  refine g_goto (tgt := 81) h (by decide) dX12_plan_77 ?_
  exact g_sub [0, 1, 2] rfl (t_X12_plan_81 h hr hk20 hk30 hw)
def w_X12_plan_80 (post : Int32 → sI → sJ → Prop) (k20 : Int32 → sI → sJ → Prop) (k30 : Int32 → Int32 → Int32 → sI → sJ → Prop) (x1 : Int32) (x3 : Int32) (I : sI) (J : sJ) : Prop :=
  w_X12_plan_81 post k20 k30 x1 x3 0 I J
set_option maxHeartbeats 4000000 in
set_option maxRecDepth 100000 in
theorem t_X12_plan_80 {X : sX} {post : Int32 → sI → sJ → Prop} (h : sOK X cX12_plan RX12 4 14 368) (hr : sRt X (some .int) (sPi post)) {k20 : Int32 → sI → sJ → Prop} (hk20 : ∀ (x1 : Int32) (I : sI) (J : sJ), k20 x1 I J → sG X 4 20 [(0, .ref 248), (1, .int x1)] [] I J) {k30 : Int32 → Int32 → Int32 → sI → sJ → Prop} (hk30 : ∀ (x1 : Int32) (x2 : Int32) (x3 : Int32) (I : sI) (J : sJ), k30 x1 x2 x3 I J → sG X 4 30 [(0, .ref 248), (1, .int x1), (2, .int x2), (3, .int x3)] [] I J) {x1 : Int32} {x3 : Int32} {I : sI} {J : sJ} (hw : w_X12_plan_80 post k20 k30 x1 x3 I J) : sG X 4 80 [(0, .ref 248), (1, .int x1), (3, .int x3)] [] I J := by
  unfold w_X12_plan_80 at hw
  refine g_iconst (v := 0) h (by decide) dX12_plan_80 ?_
  exact g_sub [0, 1, 2] rfl (t_X12_plan_81 h hr hk20 hk30 hw)
def w_X12_plan_30_s (post : Int32 → sI → sJ → Prop) (k20 : Int32 → sI → sJ → Prop) (k30 : Int32 → Int32 → Int32 → sI → sJ → Prop) (x1 : Int32) (x2 : Int32) (x3 : Int32) (I : sI) (J : sJ) : Prop :=
  (((I 248 46) ≤ x3 → ((x2 = 0 → w_X12_plan_104 post k20 x1 x2 I J) ∧ (¬ x2 = 0 → ((¬ (I 248 49) = 8 → w_X12_plan_104 post k20 x1 x2 I J) ∧ ((I 248 49) = 8 → post (-3) I J))))) ∧ (¬ (I 248 46) ≤ x3 → ((¬ x2 = 0 → w_X12_plan_76 post k20 k30 x1 x3 I J) ∧ (x2 = 0 → (vp_in x1 12 ∧ ((¬ (I 276 (Int32.toNatClampNeg x1)) = 0 → w_X12_plan_80 post k20 k30 x1 x3 I J) ∧ ((I 276 (Int32.toNatClampNeg x1)) = 0 → w_X12_has (I 248 52) x3 I J (fun (r_56 : Int32) (I_56 : sI) (J_56 : sJ) => (((r_56 = 0 → w_X12_plan_80 post k20 k30 x1 x3 I_56 J_56) ∧ (¬ r_56 = 0 → (vp_in ((12 * x3) + x1) 120 ∧ (((I_56 275 (Int32.toNatClampNeg ((12 * x3) + x1))) ≤ 0 → w_X12_plan_80 post k20 k30 x1 x3 I_56 J_56) ∧ (¬ (I_56 275 (Int32.toNatClampNeg ((12 * x3) + x1))) ≤ 0 → w_X12_plan_76 post k20 k30 x1 x3 I_56 J_56))))))))))))))
def w_X12_plan_30_n (post : Int32 → sI → sJ → Prop) (k20 : Int32 → sI → sJ → Prop) : Nat → Int32 → Int32 → Int32 → sI → sJ → Prop
  | 0 => fun _ _ _ _ _ => False
  | n + 1 => fun x1 x2 x3 I J => w_X12_plan_30_s post k20 (w_X12_plan_30_n post k20 n) x1 x2 x3 I J
def w_X12_plan_30 (post : Int32 → sI → sJ → Prop) (k20 : Int32 → sI → sJ → Prop) (x1 : Int32) (x2 : Int32) (x3 : Int32) (I : sI) (J : sJ) : Prop := ∃ n, w_X12_plan_30_n post k20 n x1 x2 x3 I J
set_option maxHeartbeats 4000000 in
set_option maxRecDepth 100000 in
theorem t_X12_plan_30_s {X : sX} {post : Int32 → sI → sJ → Prop} (h : sOK X cX12_plan RX12 4 14 368) (hr : sRt X (some .int) (sPi post)) {k20 : Int32 → sI → sJ → Prop} (hk20 : ∀ (x1 : Int32) (I : sI) (J : sJ), k20 x1 I J → sG X 4 20 [(0, .ref 248), (1, .int x1)] [] I J) {k30 : Int32 → Int32 → Int32 → sI → sJ → Prop} (hk30 : ∀ (x1 : Int32) (x2 : Int32) (x3 : Int32) (I : sI) (J : sJ), k30 x1 x2 x3 I J → sG X 4 30 [(0, .ref 248), (1, .int x1), (2, .int x2), (3, .int x3)] [] I J) {x1 : Int32} {x2 : Int32} {x3 : Int32} {I : sI} {J : sJ} (hw : w_X12_plan_30_s post k20 k30 x1 x2 x3 I J) : sG X 4 30 [(0, .ref 248), (1, .int x1), (2, .int x2), (3, .int x3)] [] I J := by
  unfold w_X12_plan_30_s at hw
  refine g_iload_n h rfl 3 rfl dX12_plan_30 ?_
  refine g_aload_n h rfl 0 rfl dX12_plan_31 ?_
  refine g_get h is_248 fl_X12_353 rfl dX12_plan_32 ?_
  refine g_icmp_ge (tgt := 88) h (by decide) dX12_plan_35 (fun q35 => ?_) (fun q35 => ?_)
  · replace hw := hw.1 q35
    refine g_iload_n h rfl 2 rfl dX12_plan_88 ?_
    refine g_if_eq (tgt := 104) h (by decide) dX12_plan_89 (fun q89 => ?_) (fun q89 => ?_)
    · replace hw := hw.1 q89
      exact g_sub [0, 1, 2] rfl (t_X12_plan_104 h hr hk20 hw)
    · replace hw := hw.2 q89
      refine g_aload_n h rfl 0 rfl dX12_plan_92 ?_
      refine g_get h is_248 fl_X12_390 rfl dX12_plan_93 ?_
      refine g_bipush (v := 8) h (by decide) dX12_plan_96 ?_
      refine g_icmp_ne (tgt := 104) h (by decide) dX12_plan_98 (fun q98 => ?_) (fun q98 => ?_)
      · replace hw := hw.1 q98
        exact g_sub [0, 1, 2] rfl (t_X12_plan_104 h hr hk20 hw)
      · replace hw := hw.2 q98
        refine g_bipush (v := (-3)) h (by decide) dX12_plan_101 ?_
        exact g_iret h hr dX12_plan_103 hw
  · replace hw := hw.2 q35
    refine g_iload_n h rfl 2 rfl dX12_plan_38 ?_
    refine g_if_ne (tgt := 76) h (by decide) dX12_plan_39 (fun q39 => ?_) (fun q39 => ?_)
    · replace hw := hw.1 q39
      exact g_sub [0, 1, 3] rfl (t_X12_plan_76 h hr hk20 hk30 hw)
    · replace hw := hw.2 q39
      refine g_aload_n h rfl 0 rfl dX12_plan_42 ?_
      refine g_get h is_248 fl_X12_365 fr_248_48 dX12_plan_43 ?_
      refine g_iload_n h rfl 1 rfl dX12_plan_46 ?_
      obtain ⟨hi47, hw⟩ := hw
      refine g_iald h ar_276 hi47 dX12_plan_47 ?_
      refine g_if_ne (tgt := 80) h (by decide) dX12_plan_48 (fun q48 => ?_) (fun q48 => ?_)
      · replace hw := hw.1 q48
        exact g_sub [0, 1, 3] rfl (t_X12_plan_80 h hr hk20 hk30 hw)
      · replace hw := hw.2 q48
        refine g_aload_n h rfl 0 rfl dX12_plan_51 ?_
        refine g_get h is_248 fl_X12_387 rfl dX12_plan_52 ?_
        refine g_iload_n h rfl 3 rfl dX12_plan_55 ?_
        refine g_callS [.int (I 248 52), .int x3] h (c_X12_has X hw) sPi_v mw_X12_has lk_X12_242 rfl ⟨by decide, by decide⟩ (Nat.le_of_ble_eq_true rfl) dX12_plan_56 (sPi_k (fun r_56 I_56 J_56 hw => ?_))
        refine g_if_eq (tgt := 80) h (by decide) dX12_plan_59 (fun q59 => ?_) (fun q59 => ?_)
        · replace hw := hw.1 q59
          exact g_sub [0, 1, 3] rfl (t_X12_plan_80 h hr hk20 hk30 hw)
        · replace hw := hw.2 q59
          refine g_aload_n h rfl 0 rfl dX12_plan_62 ?_
          refine g_get h is_248 fl_X12_359 fr_248_47 dX12_plan_63 ?_
          refine g_bipush (v := 12) h (by decide) dX12_plan_66 ?_
          refine g_iload_n h rfl 3 rfl dX12_plan_68 ?_
          refine g_imul h dX12_plan_69 ?_
          refine g_iload_n h rfl 1 rfl dX12_plan_70 ?_
          refine g_iadd h dX12_plan_71 ?_
          obtain ⟨hi72, hw⟩ := hw
          refine g_iald h ar_275 hi72 dX12_plan_72 ?_
          refine g_if_le (tgt := 80) h (by decide) dX12_plan_73 (fun q73 => ?_) (fun q73 => ?_)
          · replace hw := hw.1 q73
            exact g_sub [0, 1, 3] rfl (t_X12_plan_80 h hr hk20 hk30 hw)
          · replace hw := hw.2 q73
            exact g_sub [0, 1, 3] rfl (t_X12_plan_76 h hr hk20 hk30 hw)
theorem t_X12_plan_30 {X : sX} {post : Int32 → sI → sJ → Prop} (h : sOK X cX12_plan RX12 4 14 368) (hr : sRt X (some .int) (sPi post)) {k20 : Int32 → sI → sJ → Prop} (hk20 : ∀ (x1 : Int32) (I : sI) (J : sJ), k20 x1 I J → sG X 4 20 [(0, .ref 248), (1, .int x1)] [] I J) {x1 : Int32} {x2 : Int32} {x3 : Int32} {I : sI} {J : sJ} (hw : w_X12_plan_30 post k20 x1 x2 x3 I J) : sG X 4 30 [(0, .ref 248), (1, .int x1), (2, .int x2), (3, .int x3)] [] I J := by
  obtain ⟨n, hw⟩ := hw
  induction n generalizing x1 x2 x3 I J with
  | zero => exact hw.elim
  | succ n ih => exact t_X12_plan_30_s h hr hk20 (fun _ _ _ _ _ q => ih q) hw
def w_X12_plan_20_s (post : Int32 → sI → sJ → Prop) (k20 : Int32 → sI → sJ → Prop) (x1 : Int32) (I : sI) (J : sJ) : Prop :=
  ((12 ≤ x1 → w_X12_plan_136 post 0 I J) ∧ (¬ 12 ≤ x1 → w_X12_plan_30 post k20 x1 0 0 I J))
def w_X12_plan_20_n (post : Int32 → sI → sJ → Prop) : Nat → Int32 → sI → sJ → Prop
  | 0 => fun _ _ _ => False
  | n + 1 => fun x1 I J => w_X12_plan_20_s post (w_X12_plan_20_n post n) x1 I J
def w_X12_plan_20 (post : Int32 → sI → sJ → Prop) (x1 : Int32) (I : sI) (J : sJ) : Prop := ∃ n, w_X12_plan_20_n post n x1 I J
set_option maxHeartbeats 4000000 in
set_option maxRecDepth 100000 in
theorem t_X12_plan_20_s {X : sX} {post : Int32 → sI → sJ → Prop} (h : sOK X cX12_plan RX12 4 14 368) (hr : sRt X (some .int) (sPi post)) {k20 : Int32 → sI → sJ → Prop} (hk20 : ∀ (x1 : Int32) (I : sI) (J : sJ), k20 x1 I J → sG X 4 20 [(0, .ref 248), (1, .int x1)] [] I J) {x1 : Int32} {I : sI} {J : sJ} (hw : w_X12_plan_20_s post k20 x1 I J) : sG X 4 20 [(0, .ref 248), (1, .int x1)] [] I J := by
  unfold w_X12_plan_20_s at hw
  refine g_iload_n h rfl 1 rfl dX12_plan_20 ?_
  refine g_bipush (v := 12) h (by decide) dX12_plan_21 ?_
  refine g_icmp_ge (tgt := 134) h (by decide) dX12_plan_23 (fun q23 => ?_) (fun q23 => ?_)
  · replace hw := hw.1 q23
    refine g_iconst (v := 0) h (by decide) dX12_plan_134 ?_
    refine g_istore_n (lo2 := [(1, .int 0), (0, .ref 248)]) h rfl (by decide) rfl dX12_plan_135 ?_
    exact g_sub [1, 0] rfl (t_X12_plan_136 h hr hw)
  · replace hw := hw.2 q23
    refine g_iconst (v := 0) h (by decide) dX12_plan_26 ?_
    refine g_istore_n (lo2 := [(2, .int 0), (0, .ref 248), (1, .int x1)]) h rfl (by decide) rfl dX12_plan_27 ?_
    refine g_iconst (v := 0) h (by decide) dX12_plan_28 ?_
    refine g_istore_n (lo2 := [(3, .int 0), (2, .int 0), (0, .ref 248), (1, .int x1)]) h rfl (by decide) rfl dX12_plan_29 ?_
    exact g_sub [2, 3, 1, 0] rfl (t_X12_plan_30 h hr hk20 hw)
theorem t_X12_plan_20 {X : sX} {post : Int32 → sI → sJ → Prop} (h : sOK X cX12_plan RX12 4 14 368) (hr : sRt X (some .int) (sPi post)) {x1 : Int32} {I : sI} {J : sJ} (hw : w_X12_plan_20 post x1 I J) : sG X 4 20 [(0, .ref 248), (1, .int x1)] [] I J := by
  obtain ⟨n, hw⟩ := hw
  induction n generalizing x1 I J with
  | zero => exact hw.elim
  | succ n ih => exact t_X12_plan_20_s h hr (fun _ _ _ q => ih q) hw
def w_X12_plan (I : sI) (J : sJ) (post : Int32 → sI → sJ → Prop) : Prop :=
  (∀ I_2 : sI, I_2 = sUI I 248 0 0 → w_X12_standing I_2 J (fun (r_7 : Int32) (I_7 : sI) (J_7 : sJ) => ((∀ I_10 : sI, I_10 = sUI I_7 248 52 r_7 → (∀ I_15 : sI, I_15 = sUI I_10 248 49 0 → w_X12_plan_20 post 0 I_15 J_7)))))
set_option maxHeartbeats 4000000 in
set_option maxRecDepth 100000 in
theorem t_X12_plan {X : sX} {I : sI} {J : sJ} {post : Int32 → sI → sJ → Prop} (h : sOK X cX12_plan RX12 4 14 368) (hr : sRt X (some .int) (sPi post)) (hw : w_X12_plan I J post) : sG X 4 0 [(0, .ref 248)] [] I J := by
  unfold w_X12_plan at hw
  refine g_aload_n h rfl 0 rfl dX12_plan_0 ?_
  refine g_iconst (v := 0) h (by decide) dX12_plan_1 ?_
  refine g_putI h is_248 fl_X12_1 rfl rfl dX12_plan_2 ?_
  refine g_nI (fun I_2 eI_2 => ?_)
  replace hw := hw I_2 eI_2
  refine g_aload_n h rfl 0 rfl dX12_plan_5 ?_
  refine g_aload_n h rfl 0 rfl dX12_plan_6 ?_
  refine g_callV [] h (c_X12_standing X hw) sPi_v mw_X12_standing lk_X12_368 is_248 rfl rfl ⟨by decide, by decide⟩ (Nat.le_of_ble_eq_true rfl) dX12_plan_7 (sPi_k (fun r_7 I_7 J_7 hw => ?_))
  refine g_putI h is_248 fl_X12_387 rfl rfl dX12_plan_10 ?_
  refine g_nI (fun I_10 eI_10 => ?_)
  replace hw := hw I_10 eI_10
  refine g_aload_n h rfl 0 rfl dX12_plan_13 ?_
  refine g_iconst (v := 0) h (by decide) dX12_plan_14 ?_
  refine g_putI h is_248 fl_X12_390 rfl rfl dX12_plan_15 ?_
  refine g_nI (fun I_15 eI_15 => ?_)
  replace hw := hw I_15 eI_15
  refine g_iconst (v := 0) h (by decide) dX12_plan_18 ?_
  refine g_istore_n (lo2 := [(1, .int 0), (0, .ref 248)]) h rfl (by decide) rfl dX12_plan_19 ?_
  exact g_sub [1, 0] rfl (t_X12_plan_20 h hr hw)
theorem c_X12_plan (X : sX) {I : sI} {J : sJ} {post : Int32 → sI → sJ → Prop} (hw : w_X12_plan I J post) : sCall X yX12_plan cX12_plan 4 (some .int) 14 368 [.ref 248] I J (sPi post) := sCall_of (by decide +kernel) (Nat.le_of_ble_eq_true rfl) (fun X h hr => t_X12_plan h hr hw)
theorem dX12_seed_0 : decode cX12_seed 0 = .ok (.aload_n 0, 1) := by decide +kernel
theorem dX12_seed_1 : decode cX12_seed 1 = .ok (.iconst 0, 1) := by decide +kernel
theorem dX12_seed_2 : decode cX12_seed 2 = .ok (.putfield 1, 3) := by decide +kernel
theorem dX12_seed_5 : decode cX12_seed 5 = .ok (.aload_n 0, 1) := by decide +kernel
theorem dX12_seed_6 : decode cX12_seed 6 = .ok (.getfield 225, 3) := by decide +kernel
theorem dX12_seed_9 : decode cX12_seed 9 = .ok (.istore_n 2, 1) := by decide +kernel
theorem dX12_seed_10 : decode cX12_seed 10 = .ok (.aload_n 0, 1) := by decide +kernel
theorem dX12_seed_11 : decode cX12_seed 11 = .ok (.iload_n 1, 1) := by decide +kernel
theorem dX12_seed_12 : decode cX12_seed 12 = .ok (.putfield 225, 3) := by decide +kernel
theorem dX12_seed_15 : decode cX12_seed 15 = .ok (.iload_n 2, 1) := by decide +kernel
theorem dX12_seed_16 : decode cX12_seed 16 = .ok (.ireturn, 1) := by decide +kernel
def w_X12_seed (a1 : Int32) (I : sI) (J : sJ) (post : Int32 → sI → sJ → Prop) : Prop :=
  (∀ I_2 : sI, I_2 = sUI I 248 0 0 → (∀ v2_9 : Int32, v2_9 = I_2 248 37 → (∀ I_12 : sI, I_12 = sUI I_2 248 37 a1 → post v2_9 I_12 J)))
set_option maxHeartbeats 4000000 in
set_option maxRecDepth 100000 in
theorem t_X12_seed {X : sX} {a1 : Int32} {I : sI} {J : sJ} {post : Int32 → sI → sJ → Prop} (h : sOK X cX12_seed RX12 3 0 0) (hr : sRt X (some .int) (sPi post)) (hw : w_X12_seed a1 I J post) : sG X 3 0 [(0, .ref 248), (1, .int a1)] [] I J := by
  unfold w_X12_seed at hw
  refine g_aload_n h rfl 0 rfl dX12_seed_0 ?_
  refine g_iconst (v := 0) h (by decide) dX12_seed_1 ?_
  refine g_putI h is_248 fl_X12_1 rfl rfl dX12_seed_2 ?_
  refine g_nI (fun I_2 eI_2 => ?_)
  replace hw := hw I_2 eI_2
  refine g_aload_n h rfl 0 rfl dX12_seed_5 ?_
  refine g_get h is_248 fl_X12_225 rfl dX12_seed_6 ?_
  refine g_ni (fun v2_9 ev2_9 => ?_)
  replace hw := hw v2_9 ev2_9
  refine g_istore_n (lo2 := [(2, .int v2_9), (0, .ref 248), (1, .int a1)]) h rfl (by decide) rfl dX12_seed_9 ?_
  refine g_aload_n h rfl 1 rfl dX12_seed_10 ?_
  refine g_iload_n h rfl 2 rfl dX12_seed_11 ?_
  refine g_putI h is_248 fl_X12_225 rfl rfl dX12_seed_12 ?_
  refine g_nI (fun I_12 eI_12 => ?_)
  replace hw := hw I_12 eI_12
  refine g_iload_n h rfl 0 rfl dX12_seed_15 ?_
  exact g_iret h hr dX12_seed_16 hw
theorem c_X12_seed (X : sX) {a1 : Int32} {I : sI} {J : sJ} {post : Int32 → sI → sJ → Prop} (hw : w_X12_seed a1 I J post) : sCall X yX12_seed cX12_seed 3 (some .int) 0 0 [.ref 248, .int a1] I J (sPi post) := sCall_of (by decide +kernel) (Nat.le_of_ble_eq_true rfl) (fun X h hr => t_X12_seed h hr hw)
theorem dX12_passing_0 : decode cX12_passing 0 = .ok (.iload_n 1, 1) := by decide +kernel
theorem dX12_passing_1 : decode cX12_passing 1 = .ok (.sipush 200, 3) := by decide +kernel
theorem dX12_passing_4 : decode cX12_passing 4 = .ok (.imul, 1) := by decide +kernel
theorem dX12_passing_5 : decode cX12_passing 5 = .ok (.aload_n 0, 1) := by decide +kernel
theorem dX12_passing_6 : decode cX12_passing 6 = .ok (.getfield 399, 3) := by decide +kernel
theorem dX12_passing_9 : decode cX12_passing 9 = .ok (.iadd, 1) := by decide +kernel
theorem dX12_passing_10 : decode cX12_passing 10 = .ok (.istore 4, 2) := by decide +kernel
theorem dX12_passing_12 : decode cX12_passing 12 = .ok (.aload_n 0, 1) := by decide +kernel
theorem dX12_passing_13 : decode cX12_passing 13 = .ok (.dup, 1) := by decide +kernel
theorem dX12_passing_14 : decode cX12_passing 14 = .ok (.getfield 399, 3) := by decide +kernel
theorem dX12_passing_17 : decode cX12_passing 17 = .ok (.iconst 1, 1) := by decide +kernel
theorem dX12_passing_18 : decode cX12_passing 18 = .ok (.iadd, 1) := by decide +kernel
theorem dX12_passing_19 : decode cX12_passing 19 = .ok (.putfield 399, 3) := by decide +kernel
theorem dX12_passing_22 : decode cX12_passing 22 = .ok (.iload_n 3, 1) := by decide +kernel
theorem dX12_passing_23 : decode cX12_passing 23 = .ok (.ifCond .ne 11, 3) := by decide +kernel
theorem dX12_passing_26 : decode cX12_passing 26 = .ok (.aload_n 0, 1) := by decide +kernel
theorem dX12_passing_27 : decode cX12_passing 27 = .ok (.getfield 402, 3) := by decide +kernel
theorem dX12_passing_30 : decode cX12_passing 30 = .ok (.iload 4, 2) := by decide +kernel
theorem dX12_passing_32 : decode cX12_passing 32 = .ok (.iload_n 2, 1) := by decide +kernel
theorem dX12_passing_33 : decode cX12_passing 33 = .ok (.iastore, 1) := by decide +kernel
theorem dX12_passing_34 : decode cX12_passing 34 = .ok (.aload_n 0, 1) := by decide +kernel
theorem dX12_passing_35 : decode cX12_passing 35 = .ok (.getfield 402, 3) := by decide +kernel
theorem dX12_passing_38 : decode cX12_passing 38 = .ok (.iload 4, 2) := by decide +kernel
theorem dX12_passing_40 : decode cX12_passing 40 = .ok (.iaload, 1) := by decide +kernel
theorem dX12_passing_41 : decode cX12_passing 41 = .ok (.ireturn, 1) := by decide +kernel
def w_X12_passing_34 (post : Int32 → sI → sJ → Prop) (x4 : Int32) (I : sI) (J : sJ) : Prop :=
  (vp_in x4 600 ∧ post (I 280 (Int32.toNatClampNeg x4)) I J)
set_option maxHeartbeats 4000000 in
set_option maxRecDepth 100000 in
theorem t_X12_passing_34 {X : sX} {post : Int32 → sI → sJ → Prop} (h : sOK X cX12_passing RX12 5 0 0) (hr : sRt X (some .int) (sPi post)) {x4 : Int32} {I : sI} {J : sJ} (hw : w_X12_passing_34 post x4 I J) : sG X 5 34 [(0, .ref 248), (4, .int x4)] [] I J := by
  unfold w_X12_passing_34 at hw
  refine g_aload_n h rfl 0 rfl dX12_passing_34 ?_
  refine g_get h is_248 fl_X12_402 fr_248_54 dX12_passing_35 ?_
  refine g_iload h 1 rfl dX12_passing_38 ?_
  obtain ⟨hi40, hw⟩ := hw
  refine g_iald h ar_280 hi40 dX12_passing_40 ?_
  exact g_iret h hr dX12_passing_41 hw
def w_X12_passing (a1 : Int32) (a2 : Int32) (a3 : Int32) (I : sI) (J : sJ) (post : Int32 → sI → sJ → Prop) : Prop :=
  (∀ v4_10 : Int32, v4_10 = (a1 * 200) + (I 248 55) → (∀ I_19 : sI, I_19 = sUI I 248 55 ((I 248 55) + 1) → ((¬ a3 = 0 → w_X12_passing_34 post v4_10 I_19 J) ∧ (a3 = 0 → (vp_in v4_10 600 ∧ (∀ I_33 : sI, I_33 = sUI I_19 280 (Int32.toNatClampNeg v4_10) a2 → w_X12_passing_34 post v4_10 I_33 J))))))
set_option maxHeartbeats 4000000 in
set_option maxRecDepth 100000 in
theorem t_X12_passing {X : sX} {a1 : Int32} {a2 : Int32} {a3 : Int32} {I : sI} {J : sJ} {post : Int32 → sI → sJ → Prop} (h : sOK X cX12_passing RX12 5 0 0) (hr : sRt X (some .int) (sPi post)) (hw : w_X12_passing a1 a2 a3 I J post) : sG X 5 0 [(0, .ref 248), (1, .int a1), (2, .int a2), (3, .int a3)] [] I J := by
  unfold w_X12_passing at hw
  refine g_iload_n h rfl 1 rfl dX12_passing_0 ?_
  refine g_sipush (v := 200) h (by decide) dX12_passing_1 ?_
  refine g_imul h dX12_passing_4 ?_
  refine g_aload_n h rfl 0 rfl dX12_passing_5 ?_
  refine g_get h is_248 fl_X12_399 rfl dX12_passing_6 ?_
  refine g_iadd h dX12_passing_9 ?_
  refine g_ni (fun v4_10 ev4_10 => ?_)
  replace hw := hw v4_10 ev4_10
  refine g_istore (lo2 := [(4, .int v4_10), (0, .ref 248), (1, .int a1), (2, .int a2), (3, .int a3)]) h (by decide) rfl dX12_passing_10 ?_
  refine g_aload_n h rfl 1 rfl dX12_passing_12 ?_
  refine g_dup h rfl dX12_passing_13 ?_
  refine g_get h is_248 fl_X12_399 rfl dX12_passing_14 ?_
  refine g_iconst (v := 1) h (by decide) dX12_passing_17 ?_
  refine g_iadd h dX12_passing_18 ?_
  refine g_putI h is_248 fl_X12_399 rfl rfl dX12_passing_19 ?_
  refine g_nI (fun I_19 eI_19 => ?_)
  replace hw := hw I_19 eI_19
  refine g_iload_n h rfl 4 rfl dX12_passing_22 ?_
  refine g_if_ne (tgt := 34) h (by decide) dX12_passing_23 (fun q23 => ?_) (fun q23 => ?_)
  · replace hw := hw.1 q23
    exact g_sub [1, 0] rfl (t_X12_passing_34 h hr hw)
  · replace hw := hw.2 q23
    refine g_aload_n h rfl 1 rfl dX12_passing_26 ?_
    refine g_get h is_248 fl_X12_402 fr_248_54 dX12_passing_27 ?_
    refine g_iload h 0 rfl dX12_passing_30 ?_
    refine g_iload_n h rfl 3 rfl dX12_passing_32 ?_
    obtain ⟨hi33, hw⟩ := hw
    refine g_iast h ar_280 hi33 dX12_passing_33 ?_
    refine g_nI (fun I_33 eI_33 => ?_)
    replace hw := hw I_33 eI_33
    exact g_sub [1, 0] rfl (t_X12_passing_34 h hr hw)
theorem c_X12_passing (X : sX) {a1 : Int32} {a2 : Int32} {a3 : Int32} {I : sI} {J : sJ} {post : Int32 → sI → sJ → Prop} (hw : w_X12_passing a1 a2 a3 I J post) : sCall X yX12_passing cX12_passing 5 (some .int) 0 0 [.ref 248, .int a1, .int a2, .int a3] I J (sPi post) := sCall_of (by decide +kernel) (Nat.le_of_ble_eq_true rfl) (fun X h hr => t_X12_passing h hr hw)
theorem dX12_passes_0 : decode cX12_passes 0 = .ok (.aload_n 0, 1) := by decide +kernel
theorem dX12_passes_1 : decode cX12_passes 1 = .ok (.iconst 0, 1) := by decide +kernel
theorem dX12_passes_2 : decode cX12_passes 2 = .ok (.putfield 399, 3) := by decide +kernel
theorem dX12_passes_5 : decode cX12_passes 5 = .ok (.aload_n 0, 1) := by decide +kernel
theorem dX12_passes_6 : decode cX12_passes 6 = .ok (.aload_n 0, 1) := by decide +kernel
theorem dX12_passes_7 : decode cX12_passes 7 = .ok (.iload_n 1, 1) := by decide +kernel
theorem dX12_passes_8 : decode cX12_passes 8 = .ok (.aload_n 0, 1) := by decide +kernel
theorem dX12_passes_9 : decode cX12_passes 9 = .ok (.getfield 76, 3) := by decide +kernel
theorem dX12_passes_12 : decode cX12_passes 12 = .ok (.iload_n 2, 1) := by decide +kernel
theorem dX12_passes_13 : decode cX12_passes 13 = .ok (.invokevirtual 405, 3) := by decide +kernel
theorem dX12_passes_16 : decode cX12_passes 16 = .ok (.putfield 76, 3) := by decide +kernel
theorem dX12_passes_19 : decode cX12_passes 19 = .ok (.aload_n 0, 1) := by decide +kernel
theorem dX12_passes_20 : decode cX12_passes 20 = .ok (.aload_n 0, 1) := by decide +kernel
theorem dX12_passes_21 : decode cX12_passes 21 = .ok (.iload_n 1, 1) := by decide +kernel
theorem dX12_passes_22 : decode cX12_passes 22 = .ok (.aload_n 0, 1) := by decide +kernel
theorem dX12_passes_23 : decode cX12_passes 23 = .ok (.getfield 79, 3) := by decide +kernel
theorem dX12_passes_26 : decode cX12_passes 26 = .ok (.iload_n 2, 1) := by decide +kernel
theorem dX12_passes_27 : decode cX12_passes 27 = .ok (.invokevirtual 405, 3) := by decide +kernel
theorem dX12_passes_30 : decode cX12_passes 30 = .ok (.putfield 79, 3) := by decide +kernel
theorem dX12_passes_33 : decode cX12_passes 33 = .ok (.aload_n 0, 1) := by decide +kernel
theorem dX12_passes_34 : decode cX12_passes 34 = .ok (.aload_n 0, 1) := by decide +kernel
theorem dX12_passes_35 : decode cX12_passes 35 = .ok (.iload_n 1, 1) := by decide +kernel
theorem dX12_passes_36 : decode cX12_passes 36 = .ok (.aload_n 0, 1) := by decide +kernel
theorem dX12_passes_37 : decode cX12_passes 37 = .ok (.getfield 88, 3) := by decide +kernel
theorem dX12_passes_40 : decode cX12_passes 40 = .ok (.iload_n 2, 1) := by decide +kernel
theorem dX12_passes_41 : decode cX12_passes 41 = .ok (.invokevirtual 405, 3) := by decide +kernel
theorem dX12_passes_44 : decode cX12_passes 44 = .ok (.putfield 88, 3) := by decide +kernel
theorem dX12_passes_47 : decode cX12_passes 47 = .ok (.aload_n 0, 1) := by decide +kernel
theorem dX12_passes_48 : decode cX12_passes 48 = .ok (.aload_n 0, 1) := by decide +kernel
theorem dX12_passes_49 : decode cX12_passes 49 = .ok (.iload_n 1, 1) := by decide +kernel
theorem dX12_passes_50 : decode cX12_passes 50 = .ok (.aload_n 0, 1) := by decide +kernel
theorem dX12_passes_51 : decode cX12_passes 51 = .ok (.getfield 117, 3) := by decide +kernel
theorem dX12_passes_54 : decode cX12_passes 54 = .ok (.iload_n 2, 1) := by decide +kernel
theorem dX12_passes_55 : decode cX12_passes 55 = .ok (.invokevirtual 405, 3) := by decide +kernel
theorem dX12_passes_58 : decode cX12_passes 58 = .ok (.putfield 117, 3) := by decide +kernel
theorem dX12_passes_61 : decode cX12_passes 61 = .ok (.aload_n 0, 1) := by decide +kernel
theorem dX12_passes_62 : decode cX12_passes 62 = .ok (.aload_n 0, 1) := by decide +kernel
theorem dX12_passes_63 : decode cX12_passes 63 = .ok (.iload_n 1, 1) := by decide +kernel
theorem dX12_passes_64 : decode cX12_passes 64 = .ok (.aload_n 0, 1) := by decide +kernel
theorem dX12_passes_65 : decode cX12_passes 65 = .ok (.getfield 120, 3) := by decide +kernel
theorem dX12_passes_68 : decode cX12_passes 68 = .ok (.iload_n 2, 1) := by decide +kernel
theorem dX12_passes_69 : decode cX12_passes 69 = .ok (.invokevirtual 405, 3) := by decide +kernel
theorem dX12_passes_72 : decode cX12_passes 72 = .ok (.putfield 120, 3) := by decide +kernel
theorem dX12_passes_75 : decode cX12_passes 75 = .ok (.aload_n 0, 1) := by decide +kernel
theorem dX12_passes_76 : decode cX12_passes 76 = .ok (.aload_n 0, 1) := by decide +kernel
theorem dX12_passes_77 : decode cX12_passes 77 = .ok (.iload_n 1, 1) := by decide +kernel
theorem dX12_passes_78 : decode cX12_passes 78 = .ok (.aload_n 0, 1) := by decide +kernel
theorem dX12_passes_79 : decode cX12_passes 79 = .ok (.getfield 123, 3) := by decide +kernel
theorem dX12_passes_82 : decode cX12_passes 82 = .ok (.invokestatic 65, 3) := by decide +kernel
theorem dX12_passes_85 : decode cX12_passes 85 = .ok (.iload_n 2, 1) := by decide +kernel
theorem dX12_passes_86 : decode cX12_passes 86 = .ok (.invokevirtual 405, 3) := by decide +kernel
theorem dX12_passes_89 : decode cX12_passes 89 = .ok (.iconst 1, 1) := by decide +kernel
theorem dX12_passes_90 : decode cX12_passes 90 = .ok (.if_icmp .ne 7, 3) := by decide +kernel
theorem dX12_passes_93 : decode cX12_passes 93 = .ok (.iconst 1, 1) := by decide +kernel
theorem dX12_passes_94 : decode cX12_passes 94 = .ok (.goto 4, 3) := by decide +kernel
theorem dX12_passes_97 : decode cX12_passes 97 = .ok (.iconst 0, 1) := by decide +kernel
theorem dX12_passes_98 : decode cX12_passes 98 = .ok (.putfield 123, 3) := by decide +kernel
theorem dX12_passes_101 : decode cX12_passes 101 = .ok (.iconst 0, 1) := by decide +kernel
theorem dX12_passes_102 : decode cX12_passes 102 = .ok (.istore_n 3, 1) := by decide +kernel
theorem dX12_passes_103 : decode cX12_passes 103 = .ok (.iload_n 3, 1) := by decide +kernel
theorem dX12_passes_104 : decode cX12_passes 104 = .ok (.bipush 12, 2) := by decide +kernel
theorem dX12_passes_106 : decode cX12_passes 106 = .ok (.if_icmp .ge 81, 3) := by decide +kernel
theorem dX12_passes_109 : decode cX12_passes 109 = .ok (.aload_n 0, 1) := by decide +kernel
theorem dX12_passes_110 : decode cX12_passes 110 = .ok (.getfield 82, 3) := by decide +kernel
theorem dX12_passes_113 : decode cX12_passes 113 = .ok (.iload_n 3, 1) := by decide +kernel
theorem dX12_passes_114 : decode cX12_passes 114 = .ok (.aload_n 0, 1) := by decide +kernel
theorem dX12_passes_115 : decode cX12_passes 115 = .ok (.iload_n 1, 1) := by decide +kernel
theorem dX12_passes_116 : decode cX12_passes 116 = .ok (.aload_n 0, 1) := by decide +kernel
theorem dX12_passes_117 : decode cX12_passes 117 = .ok (.getfield 82, 3) := by decide +kernel
theorem dX12_passes_120 : decode cX12_passes 120 = .ok (.iload_n 3, 1) := by decide +kernel
theorem dX12_passes_121 : decode cX12_passes 121 = .ok (.iaload, 1) := by decide +kernel
theorem dX12_passes_122 : decode cX12_passes 122 = .ok (.iload_n 2, 1) := by decide +kernel
theorem dX12_passes_123 : decode cX12_passes 123 = .ok (.invokevirtual 405, 3) := by decide +kernel
theorem dX12_passes_126 : decode cX12_passes 126 = .ok (.iastore, 1) := by decide +kernel
theorem dX12_passes_127 : decode cX12_passes 127 = .ok (.aload_n 0, 1) := by decide +kernel
theorem dX12_passes_128 : decode cX12_passes 128 = .ok (.getfield 245, 3) := by decide +kernel
theorem dX12_passes_131 : decode cX12_passes 131 = .ok (.iload_n 3, 1) := by decide +kernel
theorem dX12_passes_132 : decode cX12_passes 132 = .ok (.aload_n 0, 1) := by decide +kernel
theorem dX12_passes_133 : decode cX12_passes 133 = .ok (.iload_n 1, 1) := by decide +kernel
theorem dX12_passes_134 : decode cX12_passes 134 = .ok (.aload_n 0, 1) := by decide +kernel
theorem dX12_passes_135 : decode cX12_passes 135 = .ok (.getfield 245, 3) := by decide +kernel
theorem dX12_passes_138 : decode cX12_passes 138 = .ok (.iload_n 3, 1) := by decide +kernel
theorem dX12_passes_139 : decode cX12_passes 139 = .ok (.iaload, 1) := by decide +kernel
theorem dX12_passes_140 : decode cX12_passes 140 = .ok (.iload_n 2, 1) := by decide +kernel
theorem dX12_passes_141 : decode cX12_passes 141 = .ok (.invokevirtual 405, 3) := by decide +kernel
theorem dX12_passes_144 : decode cX12_passes 144 = .ok (.iastore, 1) := by decide +kernel
theorem dX12_passes_145 : decode cX12_passes 145 = .ok (.aload_n 0, 1) := by decide +kernel
theorem dX12_passes_146 : decode cX12_passes 146 = .ok (.getfield 248, 3) := by decide +kernel
theorem dX12_passes_149 : decode cX12_passes 149 = .ok (.iload_n 3, 1) := by decide +kernel
theorem dX12_passes_150 : decode cX12_passes 150 = .ok (.aload_n 0, 1) := by decide +kernel
theorem dX12_passes_151 : decode cX12_passes 151 = .ok (.iload_n 1, 1) := by decide +kernel
theorem dX12_passes_152 : decode cX12_passes 152 = .ok (.aload_n 0, 1) := by decide +kernel
theorem dX12_passes_153 : decode cX12_passes 153 = .ok (.getfield 248, 3) := by decide +kernel
theorem dX12_passes_156 : decode cX12_passes 156 = .ok (.iload_n 3, 1) := by decide +kernel
theorem dX12_passes_157 : decode cX12_passes 157 = .ok (.iaload, 1) := by decide +kernel
theorem dX12_passes_158 : decode cX12_passes 158 = .ok (.iload_n 2, 1) := by decide +kernel
theorem dX12_passes_159 : decode cX12_passes 159 = .ok (.invokevirtual 405, 3) := by decide +kernel
theorem dX12_passes_162 : decode cX12_passes 162 = .ok (.iastore, 1) := by decide +kernel
theorem dX12_passes_163 : decode cX12_passes 163 = .ok (.aload_n 0, 1) := by decide +kernel
theorem dX12_passes_164 : decode cX12_passes 164 = .ok (.getfield 365, 3) := by decide +kernel
theorem dX12_passes_167 : decode cX12_passes 167 = .ok (.iload_n 3, 1) := by decide +kernel
theorem dX12_passes_168 : decode cX12_passes 168 = .ok (.aload_n 0, 1) := by decide +kernel
theorem dX12_passes_169 : decode cX12_passes 169 = .ok (.iload_n 1, 1) := by decide +kernel
theorem dX12_passes_170 : decode cX12_passes 170 = .ok (.aload_n 0, 1) := by decide +kernel
theorem dX12_passes_171 : decode cX12_passes 171 = .ok (.getfield 365, 3) := by decide +kernel
theorem dX12_passes_174 : decode cX12_passes 174 = .ok (.iload_n 3, 1) := by decide +kernel
theorem dX12_passes_175 : decode cX12_passes 175 = .ok (.iaload, 1) := by decide +kernel
theorem dX12_passes_176 : decode cX12_passes 176 = .ok (.iload_n 2, 1) := by decide +kernel
theorem dX12_passes_177 : decode cX12_passes 177 = .ok (.invokevirtual 405, 3) := by decide +kernel
theorem dX12_passes_180 : decode cX12_passes 180 = .ok (.iastore, 1) := by decide +kernel
theorem dX12_passes_181 : decode cX12_passes 181 = .ok (.iinc 3 1, 3) := by decide +kernel
theorem dX12_passes_184 : decode cX12_passes 184 = .ok (.goto (-81), 3) := by decide +kernel
theorem dX12_passes_187 : decode cX12_passes 187 = .ok (.iconst 0, 1) := by decide +kernel
theorem dX12_passes_188 : decode cX12_passes 188 = .ok (.istore_n 3, 1) := by decide +kernel
theorem dX12_passes_189 : decode cX12_passes 189 = .ok (.iload_n 3, 1) := by decide +kernel
theorem dX12_passes_190 : decode cX12_passes 190 = .ok (.bipush 80, 2) := by decide +kernel
theorem dX12_passes_192 : decode cX12_passes 192 = .ok (.if_icmp .ge 27, 3) := by decide +kernel
theorem dX12_passes_195 : decode cX12_passes 195 = .ok (.aload_n 0, 1) := by decide +kernel
theorem dX12_passes_196 : decode cX12_passes 196 = .ok (.getfield 85, 3) := by decide +kernel
theorem dX12_passes_199 : decode cX12_passes 199 = .ok (.iload_n 3, 1) := by decide +kernel
theorem dX12_passes_200 : decode cX12_passes 200 = .ok (.aload_n 0, 1) := by decide +kernel
theorem dX12_passes_201 : decode cX12_passes 201 = .ok (.iload_n 1, 1) := by decide +kernel
theorem dX12_passes_202 : decode cX12_passes 202 = .ok (.aload_n 0, 1) := by decide +kernel
theorem dX12_passes_203 : decode cX12_passes 203 = .ok (.getfield 85, 3) := by decide +kernel
theorem dX12_passes_206 : decode cX12_passes 206 = .ok (.iload_n 3, 1) := by decide +kernel
theorem dX12_passes_207 : decode cX12_passes 207 = .ok (.iaload, 1) := by decide +kernel
theorem dX12_passes_208 : decode cX12_passes 208 = .ok (.iload_n 2, 1) := by decide +kernel
theorem dX12_passes_209 : decode cX12_passes 209 = .ok (.invokevirtual 405, 3) := by decide +kernel
theorem dX12_passes_212 : decode cX12_passes 212 = .ok (.iastore, 1) := by decide +kernel
theorem dX12_passes_213 : decode cX12_passes 213 = .ok (.iinc 3 1, 3) := by decide +kernel
theorem dX12_passes_216 : decode cX12_passes 216 = .ok (.goto (-27), 3) := by decide +kernel
theorem dX12_passes_219 : decode cX12_passes 219 = .ok (.return_, 1) := by decide +kernel
def w_X12_passes_189_s (post : sI → sJ → Prop) (k189 : Int32 → Int32 → Int32 → sI → sJ → Prop) (x1 : Int32) (x2 : Int32) (x3 : Int32) (I : sI) (J : sJ) : Prop :=
  ((80 ≤ x3 → post I J) ∧ (¬ 80 ≤ x3 → (vp_in x3 80 ∧ w_X12_passing x1 (I 254 (Int32.toNatClampNeg x3)) x2 I J (fun (r_209 : Int32) (I_209 : sI) (J_209 : sJ) => ((vp_in x3 80 ∧ (∀ I_212 : sI, I_212 = sUI I_209 254 (Int32.toNatClampNeg x3) r_209 → (∀ v3_213 : Int32, v3_213 = x3 + 1 → k189 x1 x2 v3_213 I_212 J_209))))))))
def w_X12_passes_189_n (post : sI → sJ → Prop) : Nat → Int32 → Int32 → Int32 → sI → sJ → Prop
  | 0 => fun _ _ _ _ _ => False
  | n + 1 => fun x1 x2 x3 I J => w_X12_passes_189_s post (w_X12_passes_189_n post n) x1 x2 x3 I J
def w_X12_passes_189 (post : sI → sJ → Prop) (x1 : Int32) (x2 : Int32) (x3 : Int32) (I : sI) (J : sJ) : Prop := ∃ n, w_X12_passes_189_n post n x1 x2 x3 I J
set_option maxHeartbeats 4000000 in
set_option maxRecDepth 100000 in
theorem t_X12_passes_189_s {X : sX} {post : sI → sJ → Prop} (h : sOK X cX12_passes RX12 4 1 24) (hr : sRt X none (sPv post)) {k189 : Int32 → Int32 → Int32 → sI → sJ → Prop} (hk189 : ∀ (x1 : Int32) (x2 : Int32) (x3 : Int32) (I : sI) (J : sJ), k189 x1 x2 x3 I J → sG X 4 189 [(0, .ref 248), (1, .int x1), (2, .int x2), (3, .int x3)] [] I J) {x1 : Int32} {x2 : Int32} {x3 : Int32} {I : sI} {J : sJ} (hw : w_X12_passes_189_s post k189 x1 x2 x3 I J) : sG X 4 189 [(0, .ref 248), (1, .int x1), (2, .int x2), (3, .int x3)] [] I J := by
  unfold w_X12_passes_189_s at hw
  refine g_iload_n h rfl 3 rfl dX12_passes_189 ?_
  refine g_bipush (v := 80) h (by decide) dX12_passes_190 ?_
  refine g_icmp_ge (tgt := 219) h (by decide) dX12_passes_192 (fun q192 => ?_) (fun q192 => ?_)
  · replace hw := hw.1 q192
    exact g_vret h hr dX12_passes_219 hw
  · replace hw := hw.2 q192
    refine g_aload_n h rfl 0 rfl dX12_passes_195 ?_
    refine g_get h is_248 fl_X12_85 fr_248_14 dX12_passes_196 ?_
    refine g_iload_n h rfl 3 rfl dX12_passes_199 ?_
    refine g_aload_n h rfl 0 rfl dX12_passes_200 ?_
    refine g_iload_n h rfl 1 rfl dX12_passes_201 ?_
    refine g_aload_n h rfl 0 rfl dX12_passes_202 ?_
    refine g_get h is_248 fl_X12_85 fr_248_14 dX12_passes_203 ?_
    refine g_iload_n h rfl 3 rfl dX12_passes_206 ?_
    obtain ⟨hi207, hw⟩ := hw
    refine g_iald h ar_254 hi207 dX12_passes_207 ?_
    refine g_iload_n h rfl 2 rfl dX12_passes_208 ?_
    refine g_callV [.int x1, .int (I 254 (Int32.toNatClampNeg x3)), .int x2] h (c_X12_passing X hw) sPi_v mw_X12_passing lk_X12_405 is_248 rfl rfl ⟨by decide, by decide⟩ (Nat.le_of_ble_eq_true rfl) dX12_passes_209 (sPi_k (fun r_209 I_209 J_209 hw => ?_))
    obtain ⟨hi212, hw⟩ := hw
    refine g_iast h ar_254 hi212 dX12_passes_212 ?_
    refine g_nI (fun I_212 eI_212 => ?_)
    replace hw := hw I_212 eI_212
    obtain ⟨v3_213, ev3_213⟩ : ∃ z : Int32, z = x3 + 1 := ⟨_, rfl⟩
    replace hw := hw v3_213 ev3_213
    refine g_iinc (v := v3_213) (lo2 := [(3, .int v3_213), (0, .ref 248), (1, .int x1), (2, .int x2)]) h 3 rfl (by rw [ev3_213]; rfl) (by decide) rfl dX12_passes_213 ?_
    refine g_goto (tgt := 189) h (by decide) dX12_passes_216 ?_
    exact g_sub [1, 2, 3, 0] rfl (hk189 _ _ _ _ _ hw)
theorem t_X12_passes_189 {X : sX} {post : sI → sJ → Prop} (h : sOK X cX12_passes RX12 4 1 24) (hr : sRt X none (sPv post)) {x1 : Int32} {x2 : Int32} {x3 : Int32} {I : sI} {J : sJ} (hw : w_X12_passes_189 post x1 x2 x3 I J) : sG X 4 189 [(0, .ref 248), (1, .int x1), (2, .int x2), (3, .int x3)] [] I J := by
  obtain ⟨n, hw⟩ := hw
  induction n generalizing x1 x2 x3 I J with
  | zero => exact hw.elim
  | succ n ih => exact t_X12_passes_189_s h hr (fun _ _ _ _ _ q => ih q) hw
def w_X12_passes_103_s (post : sI → sJ → Prop) (k103 : Int32 → Int32 → Int32 → sI → sJ → Prop) (x1 : Int32) (x2 : Int32) (x3 : Int32) (I : sI) (J : sJ) : Prop :=
  ((12 ≤ x3 → w_X12_passes_189 post x1 x2 0 I J) ∧ (¬ 12 ≤ x3 → (vp_in x3 24 ∧ w_X12_passing x1 (I 253 (Int32.toNatClampNeg x3)) x2 I J (fun (r_123 : Int32) (I_123 : sI) (J_123 : sJ) => ((vp_in x3 24 ∧ (∀ I_126 : sI, I_126 = sUI I_123 253 (Int32.toNatClampNeg x3) r_123 → (vp_in x3 12 ∧ w_X12_passing x1 (I_126 255 (Int32.toNatClampNeg x3)) x2 I_126 J_123 (fun (r_141 : Int32) (I_141 : sI) (J_141 : sJ) => ((vp_in x3 12 ∧ (∀ I_144 : sI, I_144 = sUI I_141 255 (Int32.toNatClampNeg x3) r_141 → (vp_in x3 12 ∧ w_X12_passing x1 (I_144 256 (Int32.toNatClampNeg x3)) x2 I_144 J_141 (fun (r_159 : Int32) (I_159 : sI) (J_159 : sJ) => ((vp_in x3 12 ∧ (∀ I_162 : sI, I_162 = sUI I_159 256 (Int32.toNatClampNeg x3) r_159 → (vp_in x3 12 ∧ w_X12_passing x1 (I_162 276 (Int32.toNatClampNeg x3)) x2 I_162 J_159 (fun (r_177 : Int32) (I_177 : sI) (J_177 : sJ) => ((vp_in x3 12 ∧ (∀ I_180 : sI, I_180 = sUI I_177 276 (Int32.toNatClampNeg x3) r_177 → (∀ v3_181 : Int32, v3_181 = x3 + 1 → k103 x1 x2 v3_181 I_180 J_177)))))))))))))))))))))))
def w_X12_passes_103_n (post : sI → sJ → Prop) : Nat → Int32 → Int32 → Int32 → sI → sJ → Prop
  | 0 => fun _ _ _ _ _ => False
  | n + 1 => fun x1 x2 x3 I J => w_X12_passes_103_s post (w_X12_passes_103_n post n) x1 x2 x3 I J
def w_X12_passes_103 (post : sI → sJ → Prop) (x1 : Int32) (x2 : Int32) (x3 : Int32) (I : sI) (J : sJ) : Prop := ∃ n, w_X12_passes_103_n post n x1 x2 x3 I J
set_option maxHeartbeats 4000000 in
set_option maxRecDepth 100000 in
theorem t_X12_passes_103_s {X : sX} {post : sI → sJ → Prop} (h : sOK X cX12_passes RX12 4 1 24) (hr : sRt X none (sPv post)) {k103 : Int32 → Int32 → Int32 → sI → sJ → Prop} (hk103 : ∀ (x1 : Int32) (x2 : Int32) (x3 : Int32) (I : sI) (J : sJ), k103 x1 x2 x3 I J → sG X 4 103 [(0, .ref 248), (1, .int x1), (2, .int x2), (3, .int x3)] [] I J) {x1 : Int32} {x2 : Int32} {x3 : Int32} {I : sI} {J : sJ} (hw : w_X12_passes_103_s post k103 x1 x2 x3 I J) : sG X 4 103 [(0, .ref 248), (1, .int x1), (2, .int x2), (3, .int x3)] [] I J := by
  unfold w_X12_passes_103_s at hw
  refine g_iload_n h rfl 3 rfl dX12_passes_103 ?_
  refine g_bipush (v := 12) h (by decide) dX12_passes_104 ?_
  refine g_icmp_ge (tgt := 187) h (by decide) dX12_passes_106 (fun q106 => ?_) (fun q106 => ?_)
  · replace hw := hw.1 q106
    refine g_iconst (v := 0) h (by decide) dX12_passes_187 ?_
    refine g_istore_n (lo2 := [(3, .int 0), (0, .ref 248), (1, .int x1), (2, .int x2)]) h rfl (by decide) rfl dX12_passes_188 ?_
    exact g_sub [1, 2, 3, 0] rfl (t_X12_passes_189 h hr hw)
  · replace hw := hw.2 q106
    refine g_aload_n h rfl 0 rfl dX12_passes_109 ?_
    refine g_get h is_248 fl_X12_82 fr_248_13 dX12_passes_110 ?_
    refine g_iload_n h rfl 3 rfl dX12_passes_113 ?_
    refine g_aload_n h rfl 0 rfl dX12_passes_114 ?_
    refine g_iload_n h rfl 1 rfl dX12_passes_115 ?_
    refine g_aload_n h rfl 0 rfl dX12_passes_116 ?_
    refine g_get h is_248 fl_X12_82 fr_248_13 dX12_passes_117 ?_
    refine g_iload_n h rfl 3 rfl dX12_passes_120 ?_
    obtain ⟨hi121, hw⟩ := hw
    refine g_iald h ar_253 hi121 dX12_passes_121 ?_
    refine g_iload_n h rfl 2 rfl dX12_passes_122 ?_
    refine g_callV [.int x1, .int (I 253 (Int32.toNatClampNeg x3)), .int x2] h (c_X12_passing X hw) sPi_v mw_X12_passing lk_X12_405 is_248 rfl rfl ⟨by decide, by decide⟩ (Nat.le_of_ble_eq_true rfl) dX12_passes_123 (sPi_k (fun r_123 I_123 J_123 hw => ?_))
    obtain ⟨hi126, hw⟩ := hw
    refine g_iast h ar_253 hi126 dX12_passes_126 ?_
    refine g_nI (fun I_126 eI_126 => ?_)
    replace hw := hw I_126 eI_126
    refine g_aload_n h rfl 0 rfl dX12_passes_127 ?_
    refine g_get h is_248 fl_X12_245 fr_248_16 dX12_passes_128 ?_
    refine g_iload_n h rfl 3 rfl dX12_passes_131 ?_
    refine g_aload_n h rfl 0 rfl dX12_passes_132 ?_
    refine g_iload_n h rfl 1 rfl dX12_passes_133 ?_
    refine g_aload_n h rfl 0 rfl dX12_passes_134 ?_
    refine g_get h is_248 fl_X12_245 fr_248_16 dX12_passes_135 ?_
    refine g_iload_n h rfl 3 rfl dX12_passes_138 ?_
    obtain ⟨hi139, hw⟩ := hw
    refine g_iald h ar_255 hi139 dX12_passes_139 ?_
    refine g_iload_n h rfl 2 rfl dX12_passes_140 ?_
    refine g_callV [.int x1, .int (I_126 255 (Int32.toNatClampNeg x3)), .int x2] h (c_X12_passing X hw) sPi_v mw_X12_passing lk_X12_405 is_248 rfl rfl ⟨by decide, by decide⟩ (Nat.le_of_ble_eq_true rfl) dX12_passes_141 (sPi_k (fun r_141 I_141 J_141 hw => ?_))
    obtain ⟨hi144, hw⟩ := hw
    refine g_iast h ar_255 hi144 dX12_passes_144 ?_
    refine g_nI (fun I_144 eI_144 => ?_)
    replace hw := hw I_144 eI_144
    refine g_aload_n h rfl 0 rfl dX12_passes_145 ?_
    refine g_get h is_248 fl_X12_248 fr_248_17 dX12_passes_146 ?_
    refine g_iload_n h rfl 3 rfl dX12_passes_149 ?_
    refine g_aload_n h rfl 0 rfl dX12_passes_150 ?_
    refine g_iload_n h rfl 1 rfl dX12_passes_151 ?_
    refine g_aload_n h rfl 0 rfl dX12_passes_152 ?_
    refine g_get h is_248 fl_X12_248 fr_248_17 dX12_passes_153 ?_
    refine g_iload_n h rfl 3 rfl dX12_passes_156 ?_
    obtain ⟨hi157, hw⟩ := hw
    refine g_iald h ar_256 hi157 dX12_passes_157 ?_
    refine g_iload_n h rfl 2 rfl dX12_passes_158 ?_
    refine g_callV [.int x1, .int (I_144 256 (Int32.toNatClampNeg x3)), .int x2] h (c_X12_passing X hw) sPi_v mw_X12_passing lk_X12_405 is_248 rfl rfl ⟨by decide, by decide⟩ (Nat.le_of_ble_eq_true rfl) dX12_passes_159 (sPi_k (fun r_159 I_159 J_159 hw => ?_))
    obtain ⟨hi162, hw⟩ := hw
    refine g_iast h ar_256 hi162 dX12_passes_162 ?_
    refine g_nI (fun I_162 eI_162 => ?_)
    replace hw := hw I_162 eI_162
    refine g_aload_n h rfl 0 rfl dX12_passes_163 ?_
    refine g_get h is_248 fl_X12_365 fr_248_48 dX12_passes_164 ?_
    refine g_iload_n h rfl 3 rfl dX12_passes_167 ?_
    refine g_aload_n h rfl 0 rfl dX12_passes_168 ?_
    refine g_iload_n h rfl 1 rfl dX12_passes_169 ?_
    refine g_aload_n h rfl 0 rfl dX12_passes_170 ?_
    refine g_get h is_248 fl_X12_365 fr_248_48 dX12_passes_171 ?_
    refine g_iload_n h rfl 3 rfl dX12_passes_174 ?_
    obtain ⟨hi175, hw⟩ := hw
    refine g_iald h ar_276 hi175 dX12_passes_175 ?_
    refine g_iload_n h rfl 2 rfl dX12_passes_176 ?_
    refine g_callV [.int x1, .int (I_162 276 (Int32.toNatClampNeg x3)), .int x2] h (c_X12_passing X hw) sPi_v mw_X12_passing lk_X12_405 is_248 rfl rfl ⟨by decide, by decide⟩ (Nat.le_of_ble_eq_true rfl) dX12_passes_177 (sPi_k (fun r_177 I_177 J_177 hw => ?_))
    obtain ⟨hi180, hw⟩ := hw
    refine g_iast h ar_276 hi180 dX12_passes_180 ?_
    refine g_nI (fun I_180 eI_180 => ?_)
    replace hw := hw I_180 eI_180
    obtain ⟨v3_181, ev3_181⟩ : ∃ z : Int32, z = x3 + 1 := ⟨_, rfl⟩
    replace hw := hw v3_181 ev3_181
    refine g_iinc (v := v3_181) (lo2 := [(3, .int v3_181), (0, .ref 248), (1, .int x1), (2, .int x2)]) h 3 rfl (by rw [ev3_181]; rfl) (by decide) rfl dX12_passes_181 ?_
    refine g_goto (tgt := 103) h (by decide) dX12_passes_184 ?_
    exact g_sub [1, 2, 3, 0] rfl (hk103 _ _ _ _ _ hw)
theorem t_X12_passes_103 {X : sX} {post : sI → sJ → Prop} (h : sOK X cX12_passes RX12 4 1 24) (hr : sRt X none (sPv post)) {x1 : Int32} {x2 : Int32} {x3 : Int32} {I : sI} {J : sJ} (hw : w_X12_passes_103 post x1 x2 x3 I J) : sG X 4 103 [(0, .ref 248), (1, .int x1), (2, .int x2), (3, .int x3)] [] I J := by
  obtain ⟨n, hw⟩ := hw
  induction n generalizing x1 x2 x3 I J with
  | zero => exact hw.elim
  | succ n ih => exact t_X12_passes_103_s h hr (fun _ _ _ _ _ q => ih q) hw
def w_X12_passes_98 (post : sI → sJ → Prop) (x1 : Int32) (x2 : Int32) (s0 : Int32) (I : sI) (J : sJ) : Prop :=
  (sZ s0 ∧ (∀ I_98 : sI, I_98 = sUI I 248 23 s0 → w_X12_passes_103 post x1 x2 0 I_98 J))
set_option maxHeartbeats 4000000 in
set_option maxRecDepth 100000 in
theorem t_X12_passes_98 {X : sX} {post : sI → sJ → Prop} (h : sOK X cX12_passes RX12 4 1 24) (hr : sRt X none (sPv post)) {x1 : Int32} {x2 : Int32} {s0 : Int32} {I : sI} {J : sJ} (hw : w_X12_passes_98 post x1 x2 s0 I J) : sG X 4 98 [(0, .ref 248), (1, .int x1), (2, .int x2)] [.int s0, .ref 248] I J := by
  unfold w_X12_passes_98 at hw
  obtain ⟨hz98, hw⟩ := hw
  refine g_putZ h is_248 fl_X12_123 rfl rfl hz98 dX12_passes_98 ?_
  refine g_nI (fun I_98 eI_98 => ?_)
  replace hw := hw I_98 eI_98
  refine g_iconst (v := 0) h (by decide) dX12_passes_101 ?_
  refine g_istore_n (lo2 := [(3, .int 0), (0, .ref 248), (1, .int x1), (2, .int x2)]) h rfl (by decide) rfl dX12_passes_102 ?_
  exact g_sub [1, 2, 3, 0] rfl (t_X12_passes_103 h hr hw)
def w_X12_passes (a1 : Int32) (a2 : Int32) (I : sI) (J : sJ) (post : sI → sJ → Prop) : Prop :=
  (∀ I_2 : sI, I_2 = sUI I 248 55 0 → w_X12_passing a1 (I_2 248 11) a2 I_2 J (fun (r_13 : Int32) (I_13 : sI) (J_13 : sJ) => ((∀ I_16 : sI, I_16 = sUI I_13 248 11 r_13 → w_X12_passing a1 (I_16 248 12) a2 I_16 J_13 (fun (r_27 : Int32) (I_27 : sI) (J_27 : sJ) => ((∀ I_30 : sI, I_30 = sUI I_27 248 12 r_27 → w_X12_passing a1 (I_30 248 15) a2 I_30 J_27 (fun (r_41 : Int32) (I_41 : sI) (J_41 : sJ) => ((∀ I_44 : sI, I_44 = sUI I_41 248 15 r_41 → w_X12_passing a1 (I_44 248 21) a2 I_44 J_41 (fun (r_55 : Int32) (I_55 : sI) (J_55 : sJ) => ((∀ I_58 : sI, I_58 = sUI I_55 248 21 r_55 → w_X12_passing a1 (I_58 248 22) a2 I_58 J_55 (fun (r_69 : Int32) (I_69 : sI) (J_69 : sJ) => ((∀ I_72 : sI, I_72 = sUI I_69 248 22 r_69 → w_X12_flag (I_72 248 23) I_72 J_69 (fun (r_82 : Int32) (I_82 : sI) (J_82 : sJ) => (w_X12_passing a1 r_82 a2 I_82 J_82 (fun (r_86 : Int32) (I_86 : sI) (J_86 : sJ) => (((¬ r_86 = 1 → w_X12_passes_98 post a1 a2 0 I_86 J_86) ∧ (r_86 = 1 → w_X12_passes_98 post a1 a2 1 I_86 J_86))))))))))))))))))))))
set_option maxHeartbeats 4000000 in
set_option maxRecDepth 100000 in
theorem t_X12_passes {X : sX} {a1 : Int32} {a2 : Int32} {I : sI} {J : sJ} {post : sI → sJ → Prop} (h : sOK X cX12_passes RX12 4 1 24) (hr : sRt X none (sPv post)) (hw : w_X12_passes a1 a2 I J post) : sG X 4 0 [(0, .ref 248), (1, .int a1), (2, .int a2)] [] I J := by
  unfold w_X12_passes at hw
  refine g_aload_n h rfl 0 rfl dX12_passes_0 ?_
  refine g_iconst (v := 0) h (by decide) dX12_passes_1 ?_
  refine g_putI h is_248 fl_X12_399 rfl rfl dX12_passes_2 ?_
  refine g_nI (fun I_2 eI_2 => ?_)
  replace hw := hw I_2 eI_2
  refine g_aload_n h rfl 0 rfl dX12_passes_5 ?_
  refine g_aload_n h rfl 0 rfl dX12_passes_6 ?_
  refine g_iload_n h rfl 1 rfl dX12_passes_7 ?_
  refine g_aload_n h rfl 0 rfl dX12_passes_8 ?_
  refine g_get h is_248 fl_X12_76 rfl dX12_passes_9 ?_
  refine g_iload_n h rfl 2 rfl dX12_passes_12 ?_
  refine g_callV [.int a1, .int (I_2 248 11), .int a2] h (c_X12_passing X hw) sPi_v mw_X12_passing lk_X12_405 is_248 rfl rfl ⟨by decide, by decide⟩ (Nat.le_of_ble_eq_true rfl) dX12_passes_13 (sPi_k (fun r_13 I_13 J_13 hw => ?_))
  refine g_putI h is_248 fl_X12_76 rfl rfl dX12_passes_16 ?_
  refine g_nI (fun I_16 eI_16 => ?_)
  replace hw := hw I_16 eI_16
  refine g_aload_n h rfl 0 rfl dX12_passes_19 ?_
  refine g_aload_n h rfl 0 rfl dX12_passes_20 ?_
  refine g_iload_n h rfl 1 rfl dX12_passes_21 ?_
  refine g_aload_n h rfl 0 rfl dX12_passes_22 ?_
  refine g_get h is_248 fl_X12_79 rfl dX12_passes_23 ?_
  refine g_iload_n h rfl 2 rfl dX12_passes_26 ?_
  refine g_callV [.int a1, .int (I_16 248 12), .int a2] h (c_X12_passing X hw) sPi_v mw_X12_passing lk_X12_405 is_248 rfl rfl ⟨by decide, by decide⟩ (Nat.le_of_ble_eq_true rfl) dX12_passes_27 (sPi_k (fun r_27 I_27 J_27 hw => ?_))
  refine g_putI h is_248 fl_X12_79 rfl rfl dX12_passes_30 ?_
  refine g_nI (fun I_30 eI_30 => ?_)
  replace hw := hw I_30 eI_30
  refine g_aload_n h rfl 0 rfl dX12_passes_33 ?_
  refine g_aload_n h rfl 0 rfl dX12_passes_34 ?_
  refine g_iload_n h rfl 1 rfl dX12_passes_35 ?_
  refine g_aload_n h rfl 0 rfl dX12_passes_36 ?_
  refine g_get h is_248 fl_X12_88 rfl dX12_passes_37 ?_
  refine g_iload_n h rfl 2 rfl dX12_passes_40 ?_
  refine g_callV [.int a1, .int (I_30 248 15), .int a2] h (c_X12_passing X hw) sPi_v mw_X12_passing lk_X12_405 is_248 rfl rfl ⟨by decide, by decide⟩ (Nat.le_of_ble_eq_true rfl) dX12_passes_41 (sPi_k (fun r_41 I_41 J_41 hw => ?_))
  refine g_putI h is_248 fl_X12_88 rfl rfl dX12_passes_44 ?_
  refine g_nI (fun I_44 eI_44 => ?_)
  replace hw := hw I_44 eI_44
  refine g_aload_n h rfl 0 rfl dX12_passes_47 ?_
  refine g_aload_n h rfl 0 rfl dX12_passes_48 ?_
  refine g_iload_n h rfl 1 rfl dX12_passes_49 ?_
  refine g_aload_n h rfl 0 rfl dX12_passes_50 ?_
  refine g_get h is_248 fl_X12_117 rfl dX12_passes_51 ?_
  refine g_iload_n h rfl 2 rfl dX12_passes_54 ?_
  refine g_callV [.int a1, .int (I_44 248 21), .int a2] h (c_X12_passing X hw) sPi_v mw_X12_passing lk_X12_405 is_248 rfl rfl ⟨by decide, by decide⟩ (Nat.le_of_ble_eq_true rfl) dX12_passes_55 (sPi_k (fun r_55 I_55 J_55 hw => ?_))
  refine g_putI h is_248 fl_X12_117 rfl rfl dX12_passes_58 ?_
  refine g_nI (fun I_58 eI_58 => ?_)
  replace hw := hw I_58 eI_58
  refine g_aload_n h rfl 0 rfl dX12_passes_61 ?_
  refine g_aload_n h rfl 0 rfl dX12_passes_62 ?_
  refine g_iload_n h rfl 1 rfl dX12_passes_63 ?_
  refine g_aload_n h rfl 0 rfl dX12_passes_64 ?_
  refine g_get h is_248 fl_X12_120 rfl dX12_passes_65 ?_
  refine g_iload_n h rfl 2 rfl dX12_passes_68 ?_
  refine g_callV [.int a1, .int (I_58 248 22), .int a2] h (c_X12_passing X hw) sPi_v mw_X12_passing lk_X12_405 is_248 rfl rfl ⟨by decide, by decide⟩ (Nat.le_of_ble_eq_true rfl) dX12_passes_69 (sPi_k (fun r_69 I_69 J_69 hw => ?_))
  refine g_putI h is_248 fl_X12_120 rfl rfl dX12_passes_72 ?_
  refine g_nI (fun I_72 eI_72 => ?_)
  replace hw := hw I_72 eI_72
  refine g_aload_n h rfl 0 rfl dX12_passes_75 ?_
  refine g_aload_n h rfl 0 rfl dX12_passes_76 ?_
  refine g_iload_n h rfl 1 rfl dX12_passes_77 ?_
  refine g_aload_n h rfl 0 rfl dX12_passes_78 ?_
  refine g_get h is_248 fl_X12_123 rfl dX12_passes_79 ?_
  refine g_callS [.int (I_72 248 23)] h (c_X12_flag X hw) sPi_v mw_X12_flag lk_X12_65 rfl ⟨by decide, by decide⟩ (Nat.le_of_ble_eq_true rfl) dX12_passes_82 (sPi_k (fun r_82 I_82 J_82 hw => ?_))
  refine g_iload_n h rfl 2 rfl dX12_passes_85 ?_
  refine g_callV [.int a1, .int r_82, .int a2] h (c_X12_passing X hw) sPi_v mw_X12_passing lk_X12_405 is_248 rfl rfl ⟨by decide, by decide⟩ (Nat.le_of_ble_eq_true rfl) dX12_passes_86 (sPi_k (fun r_86 I_86 J_86 hw => ?_))
  refine g_iconst (v := 1) h (by decide) dX12_passes_89 ?_
  refine g_icmp_ne (tgt := 97) h (by decide) dX12_passes_90 (fun q90 => ?_) (fun q90 => ?_)
  · replace hw := hw.1 q90
    refine g_iconst (v := 0) h (by decide) dX12_passes_97 ?_
    exact g_sub [0, 1, 2] rfl (t_X12_passes_98 h hr hw)
  · replace hw := hw.2 q90
    refine g_iconst (v := 1) h (by decide) dX12_passes_93 ?_
    refine g_goto (tgt := 98) h (by decide) dX12_passes_94 ?_
    exact g_sub [0, 1, 2] rfl (t_X12_passes_98 h hr hw)
theorem c_X12_passes (X : sX) {a1 : Int32} {a2 : Int32} {I : sI} {J : sJ} {post : sI → sJ → Prop} (hw : w_X12_passes a1 a2 I J post) : sCall X yX12_passes cX12_passes 4 none 1 24 [.ref 248, .int a1, .int a2] I J (sPv post) := sCall_of (by decide +kernel) (Nat.le_of_ble_eq_true rfl) (fun X h hr => t_X12_passes h hr hw)
theorem dX12_keep_0 : decode cX12_keep 0 = .ok (.aload_n 0, 1) := by decide +kernel
theorem dX12_keep_1 : decode cX12_keep 1 = .ok (.iconst 0, 1) := by decide +kernel
theorem dX12_keep_2 : decode cX12_keep 2 = .ok (.putfield 1, 3) := by decide +kernel
theorem dX12_keep_5 : decode cX12_keep 5 = .ok (.iload_n 1, 1) := by decide +kernel
theorem dX12_keep_6 : decode cX12_keep 6 = .ok (.i2l, 1) := by decide +kernel
theorem dX12_keep_7 : decode cX12_keep 7 = .ok (.lconst 0, 1) := by decide +kernel
theorem dX12_keep_8 : decode cX12_keep 8 = .ok (.ldc2_w 330, 3) := by decide +kernel
theorem dX12_keep_11 : decode cX12_keep 11 = .ok (.invokestatic 29, 3) := by decide +kernel
theorem dX12_keep_14 : decode cX12_keep 14 = .ok (.ifCond .ne 5, 3) := by decide +kernel
theorem dX12_keep_17 : decode cX12_keep 17 = .ok (.iconst 0, 1) := by decide +kernel
theorem dX12_keep_18 : decode cX12_keep 18 = .ok (.ireturn, 1) := by decide +kernel
theorem dX12_keep_19 : decode cX12_keep 19 = .ok (.aload_n 0, 1) := by decide +kernel
theorem dX12_keep_20 : decode cX12_keep 20 = .ok (.getfield 409, 3) := by decide +kernel
theorem dX12_keep_23 : decode cX12_keep 23 = .ok (.iload_n 1, 1) := by decide +kernel
theorem dX12_keep_24 : decode cX12_keep 24 = .ok (.iconst 1, 1) := by decide +kernel
theorem dX12_keep_25 : decode cX12_keep 25 = .ok (.bastore, 1) := by decide +kernel
theorem dX12_keep_26 : decode cX12_keep 26 = .ok (.aload_n 0, 1) := by decide +kernel
theorem dX12_keep_27 : decode cX12_keep 27 = .ok (.iload_n 1, 1) := by decide +kernel
theorem dX12_keep_28 : decode cX12_keep 28 = .ok (.iconst 0, 1) := by decide +kernel
theorem dX12_keep_29 : decode cX12_keep 29 = .ok (.invokevirtual 412, 3) := by decide +kernel
theorem dX12_keep_32 : decode cX12_keep 32 = .ok (.iconst 1, 1) := by decide +kernel
theorem dX12_keep_33 : decode cX12_keep 33 = .ok (.ireturn, 1) := by decide +kernel
def w_X12_keep (a1 : Int32) (I : sI) (J : sJ) (post : Int32 → sI → sJ → Prop) : Prop :=
  (∀ I_2 : sI, I_2 = sUI I 248 0 0 → w_X12_in (Int32.toInt64 a1) 0 2 I_2 J (fun (r_11 : Int32) (I_11 : sI) (J_11 : sJ) => (((¬ r_11 = 0 → (vp_in a1 3 ∧ (∀ I_25 : sI, I_25 = sUI I_11 279 (Int32.toNatClampNeg a1) 1 → w_X12_passes a1 0 I_25 J_11 (fun (I_29 : sI) (J_29 : sJ) => (post 1 I_29 J_29))))) ∧ (r_11 = 0 → post 0 I_11 J_11)))))
set_option maxHeartbeats 4000000 in
set_option maxRecDepth 100000 in
theorem t_X12_keep {X : sX} {a1 : Int32} {I : sI} {J : sJ} {post : Int32 → sI → sJ → Prop} (h : sOK X cX12_keep RX12 2 2 47) (hr : sRt X (some .boolean) (sPi post)) (hw : w_X12_keep a1 I J post) : sG X 2 0 [(0, .ref 248), (1, .int a1)] [] I J := by
  unfold w_X12_keep at hw
  refine g_aload_n h rfl 0 rfl dX12_keep_0 ?_
  refine g_iconst (v := 0) h (by decide) dX12_keep_1 ?_
  refine g_putI h is_248 fl_X12_1 rfl rfl dX12_keep_2 ?_
  refine g_nI (fun I_2 eI_2 => ?_)
  replace hw := hw I_2 eI_2
  refine g_iload_n h rfl 1 rfl dX12_keep_5 ?_
  refine g_i2l h dX12_keep_6 ?_
  refine g_lconst (v := 0) h (by decide) dX12_keep_7 ?_
  refine g_ldc2 h lc_X12_330 dX12_keep_8 ?_
  refine g_callS [.long (Int32.toInt64 a1), .long 0, .long 2] h (c_X12_in X hw) sPi_v mw_X12_in lk_X12_29 rfl ⟨by decide, by decide⟩ (Nat.le_of_ble_eq_true rfl) dX12_keep_11 (sPi_k (fun r_11 I_11 J_11 hw => ?_))
  refine g_if_ne (tgt := 19) h (by decide) dX12_keep_14 (fun q14 => ?_) (fun q14 => ?_)
  · replace hw := hw.1 q14
    refine g_aload_n h rfl 0 rfl dX12_keep_19 ?_
    refine g_get h is_248 fl_X12_409 fr_248_53 dX12_keep_20 ?_
    refine g_iload_n h rfl 1 rfl dX12_keep_23 ?_
    refine g_iconst (v := 1) h (by decide) dX12_keep_24 ?_
    obtain ⟨hi25, hw⟩ := hw
    refine g_zast h ar_279 hi25 (Or.inr rfl) dX12_keep_25 ?_
    refine g_nI (fun I_25 eI_25 => ?_)
    replace hw := hw I_25 eI_25
    refine g_aload_n h rfl 0 rfl dX12_keep_26 ?_
    refine g_iload_n h rfl 1 rfl dX12_keep_27 ?_
    refine g_iconst (v := 0) h (by decide) dX12_keep_28 ?_
    refine g_callV [.int a1, .int 0] h (c_X12_passes X hw) sPv_v mw_X12_passes lk_X12_412 is_248 rfl rfl ⟨by decide, by decide⟩ (Nat.le_of_ble_eq_true rfl) dX12_keep_29 (sPv_k (fun I_29 J_29 hw => ?_))
    refine g_iconst (v := 1) h (by decide) dX12_keep_32 ?_
    exact g_zret h hr (Or.inr rfl) dX12_keep_33 hw
  · replace hw := hw.2 q14
    refine g_iconst (v := 0) h (by decide) dX12_keep_17 ?_
    exact g_zret h hr (Or.inl rfl) dX12_keep_18 hw
theorem c_X12_keep (X : sX) {a1 : Int32} {I : sI} {J : sJ} {post : Int32 → sI → sJ → Prop} (hw : w_X12_keep a1 I J post) : sCall X yX12_keep cX12_keep 2 (some .boolean) 2 47 [.ref 248, .int a1] I J (sPi post) := sCall_of (by decide +kernel) (Nat.le_of_ble_eq_true rfl) (fun X h hr => t_X12_keep h hr hw)
theorem dX12_again_0 : decode cX12_again 0 = .ok (.aload_n 0, 1) := by decide +kernel
theorem dX12_again_1 : decode cX12_again 1 = .ok (.iconst 0, 1) := by decide +kernel
theorem dX12_again_2 : decode cX12_again 2 = .ok (.putfield 1, 3) := by decide +kernel
theorem dX12_again_5 : decode cX12_again 5 = .ok (.iload_n 1, 1) := by decide +kernel
theorem dX12_again_6 : decode cX12_again 6 = .ok (.i2l, 1) := by decide +kernel
theorem dX12_again_7 : decode cX12_again 7 = .ok (.lconst 0, 1) := by decide +kernel
theorem dX12_again_8 : decode cX12_again 8 = .ok (.ldc2_w 330, 3) := by decide +kernel
theorem dX12_again_11 : decode cX12_again 11 = .ok (.invokestatic 29, 3) := by decide +kernel
theorem dX12_again_14 : decode cX12_again 14 = .ok (.ifCond .eq 12, 3) := by decide +kernel
theorem dX12_again_17 : decode cX12_again 17 = .ok (.aload_n 0, 1) := by decide +kernel
theorem dX12_again_18 : decode cX12_again 18 = .ok (.getfield 409, 3) := by decide +kernel
theorem dX12_again_21 : decode cX12_again 21 = .ok (.iload_n 1, 1) := by decide +kernel
theorem dX12_again_22 : decode cX12_again 22 = .ok (.baload, 1) := by decide +kernel
theorem dX12_again_23 : decode cX12_again 23 = .ok (.ifCond .ne 5, 3) := by decide +kernel
theorem dX12_again_26 : decode cX12_again 26 = .ok (.iconst 0, 1) := by decide +kernel
theorem dX12_again_27 : decode cX12_again 27 = .ok (.ireturn, 1) := by decide +kernel
theorem dX12_again_28 : decode cX12_again 28 = .ok (.aload_n 0, 1) := by decide +kernel
theorem dX12_again_29 : decode cX12_again 29 = .ok (.iload_n 1, 1) := by decide +kernel
theorem dX12_again_30 : decode cX12_again 30 = .ok (.iconst 1, 1) := by decide +kernel
theorem dX12_again_31 : decode cX12_again 31 = .ok (.invokevirtual 412, 3) := by decide +kernel
theorem dX12_again_34 : decode cX12_again 34 = .ok (.iconst 1, 1) := by decide +kernel
theorem dX12_again_35 : decode cX12_again 35 = .ok (.ireturn, 1) := by decide +kernel
def w_X12_again (a1 : Int32) (I : sI) (J : sJ) (post : Int32 → sI → sJ → Prop) : Prop :=
  (∀ I_2 : sI, I_2 = sUI I 248 0 0 → w_X12_in (Int32.toInt64 a1) 0 2 I_2 J (fun (r_11 : Int32) (I_11 : sI) (J_11 : sJ) => (((r_11 = 0 → post 0 I_11 J_11) ∧ (¬ r_11 = 0 → (vp_in a1 3 ∧ ((¬ (I_11 279 (Int32.toNatClampNeg a1)) = 0 → w_X12_passes a1 1 I_11 J_11 (fun (I_31 : sI) (J_31 : sJ) => (post 1 I_31 J_31))) ∧ ((I_11 279 (Int32.toNatClampNeg a1)) = 0 → post 0 I_11 J_11))))))))
set_option maxHeartbeats 4000000 in
set_option maxRecDepth 100000 in
theorem t_X12_again {X : sX} {a1 : Int32} {I : sI} {J : sJ} {post : Int32 → sI → sJ → Prop} (h : sOK X cX12_again RX12 2 2 47) (hr : sRt X (some .boolean) (sPi post)) (hw : w_X12_again a1 I J post) : sG X 2 0 [(0, .ref 248), (1, .int a1)] [] I J := by
  unfold w_X12_again at hw
  refine g_aload_n h rfl 0 rfl dX12_again_0 ?_
  refine g_iconst (v := 0) h (by decide) dX12_again_1 ?_
  refine g_putI h is_248 fl_X12_1 rfl rfl dX12_again_2 ?_
  refine g_nI (fun I_2 eI_2 => ?_)
  replace hw := hw I_2 eI_2
  refine g_iload_n h rfl 1 rfl dX12_again_5 ?_
  refine g_i2l h dX12_again_6 ?_
  refine g_lconst (v := 0) h (by decide) dX12_again_7 ?_
  refine g_ldc2 h lc_X12_330 dX12_again_8 ?_
  refine g_callS [.long (Int32.toInt64 a1), .long 0, .long 2] h (c_X12_in X hw) sPi_v mw_X12_in lk_X12_29 rfl ⟨by decide, by decide⟩ (Nat.le_of_ble_eq_true rfl) dX12_again_11 (sPi_k (fun r_11 I_11 J_11 hw => ?_))
  refine g_if_eq (tgt := 26) h (by decide) dX12_again_14 (fun q14 => ?_) (fun q14 => ?_)
  · replace hw := hw.1 q14
    refine g_iconst (v := 0) h (by decide) dX12_again_26 ?_
    exact g_zret h hr (Or.inl rfl) dX12_again_27 hw
  · replace hw := hw.2 q14
    refine g_aload_n h rfl 0 rfl dX12_again_17 ?_
    refine g_get h is_248 fl_X12_409 fr_248_53 dX12_again_18 ?_
    refine g_iload_n h rfl 1 rfl dX12_again_21 ?_
    obtain ⟨hi22, hw⟩ := hw
    refine g_zald h ar_279 hi22 dX12_again_22 ?_
    refine g_if_ne (tgt := 28) h (by decide) dX12_again_23 (fun q23 => ?_) (fun q23 => ?_)
    · replace hw := hw.1 q23
      refine g_aload_n h rfl 0 rfl dX12_again_28 ?_
      refine g_iload_n h rfl 1 rfl dX12_again_29 ?_
      refine g_iconst (v := 1) h (by decide) dX12_again_30 ?_
      refine g_callV [.int a1, .int 1] h (c_X12_passes X hw) sPv_v mw_X12_passes lk_X12_412 is_248 rfl rfl ⟨by decide, by decide⟩ (Nat.le_of_ble_eq_true rfl) dX12_again_31 (sPv_k (fun I_31 J_31 hw => ?_))
      refine g_iconst (v := 1) h (by decide) dX12_again_34 ?_
      exact g_zret h hr (Or.inr rfl) dX12_again_35 hw
    · replace hw := hw.2 q23
      refine g_iconst (v := 0) h (by decide) dX12_again_26 ?_
      exact g_zret h hr (Or.inl rfl) dX12_again_27 hw
theorem c_X12_again (X : sX) {a1 : Int32} {I : sI} {J : sJ} {post : Int32 → sI → sJ → Prop} (hw : w_X12_again a1 I J post) : sCall X yX12_again cX12_again 2 (some .boolean) 2 47 [.ref 248, .int a1] I J (sPi post) := sCall_of (by decide +kernel) (Nat.le_of_ble_eq_true rfl) (fun X h hr => t_X12_again h hr hw)
theorem dX12_count_0 : decode cX12_count 0 = .ok (.aload_n 0, 1) := by decide +kernel
theorem dX12_count_1 : decode cX12_count 1 = .ok (.iconst 0, 1) := by decide +kernel
theorem dX12_count_2 : decode cX12_count 2 = .ok (.putfield 1, 3) := by decide +kernel
theorem dX12_count_5 : decode cX12_count 5 = .ok (.iload_n 1, 1) := by decide +kernel
theorem dX12_count_6 : decode cX12_count 6 = .ok (.i2l, 1) := by decide +kernel
theorem dX12_count_7 : decode cX12_count 7 = .ok (.ldc2_w 330, 3) := by decide +kernel
theorem dX12_count_10 : decode cX12_count 10 = .ok (.ldc2_w 416, 3) := by decide +kernel
theorem dX12_count_13 : decode cX12_count 13 = .ok (.invokestatic 29, 3) := by decide +kernel
theorem dX12_count_16 : decode cX12_count 16 = .ok (.ifCond .eq 12, 3) := by decide +kernel
theorem dX12_count_19 : decode cX12_count 19 = .ok (.aload_n 0, 1) := by decide +kernel
theorem dX12_count_20 : decode cX12_count 20 = .ok (.getfield 100, 3) := by decide +kernel
theorem dX12_count_23 : decode cX12_count 23 = .ok (.iload_n 1, 1) := by decide +kernel
theorem dX12_count_24 : decode cX12_count 24 = .ok (.iconst 2, 1) := by decide +kernel
theorem dX12_count_25 : decode cX12_count 25 = .ok (.isub, 1) := by decide +kernel
theorem dX12_count_26 : decode cX12_count 26 = .ok (.iaload, 1) := by decide +kernel
theorem dX12_count_27 : decode cX12_count 27 = .ok (.ireturn, 1) := by decide +kernel
theorem dX12_count_28 : decode cX12_count 28 = .ok (.iload_n 1, 1) := by decide +kernel
theorem dX12_count_29 : decode cX12_count 29 = .ok (.tableswitch 124 0 13 #[71, 76, 124, 124, 124, 124, 81, 86, 91, 99, 104, 109, 114, 119], 71) := by decide +kernel
theorem dX12_count_100 : decode cX12_count 100 = .ok (.aload_n 0, 1) := by decide +kernel
theorem dX12_count_101 : decode cX12_count 101 = .ok (.getfield 76, 3) := by decide +kernel
theorem dX12_count_104 : decode cX12_count 104 = .ok (.ireturn, 1) := by decide +kernel
theorem dX12_count_105 : decode cX12_count 105 = .ok (.aload_n 0, 1) := by decide +kernel
theorem dX12_count_106 : decode cX12_count 106 = .ok (.getfield 79, 3) := by decide +kernel
theorem dX12_count_109 : decode cX12_count 109 = .ok (.ireturn, 1) := by decide +kernel
theorem dX12_count_110 : decode cX12_count 110 = .ok (.aload_n 0, 1) := by decide +kernel
theorem dX12_count_111 : decode cX12_count 111 = .ok (.getfield 117, 3) := by decide +kernel
theorem dX12_count_114 : decode cX12_count 114 = .ok (.ireturn, 1) := by decide +kernel
theorem dX12_count_115 : decode cX12_count 115 = .ok (.aload_n 0, 1) := by decide +kernel
theorem dX12_count_116 : decode cX12_count 116 = .ok (.getfield 120, 3) := by decide +kernel
theorem dX12_count_119 : decode cX12_count 119 = .ok (.ireturn, 1) := by decide +kernel
theorem dX12_count_120 : decode cX12_count 120 = .ok (.aload_n 0, 1) := by decide +kernel
theorem dX12_count_121 : decode cX12_count 121 = .ok (.getfield 123, 3) := by decide +kernel
theorem dX12_count_124 : decode cX12_count 124 = .ok (.invokestatic 65, 3) := by decide +kernel
theorem dX12_count_127 : decode cX12_count 127 = .ok (.ireturn, 1) := by decide +kernel
theorem dX12_count_128 : decode cX12_count 128 = .ok (.aload_n 0, 1) := by decide +kernel
theorem dX12_count_129 : decode cX12_count 129 = .ok (.getfield 88, 3) := by decide +kernel
theorem dX12_count_132 : decode cX12_count 132 = .ok (.ireturn, 1) := by decide +kernel
theorem dX12_count_133 : decode cX12_count 133 = .ok (.aload_n 0, 1) := by decide +kernel
theorem dX12_count_134 : decode cX12_count 134 = .ok (.getfield 353, 3) := by decide +kernel
theorem dX12_count_137 : decode cX12_count 137 = .ok (.ireturn, 1) := by decide +kernel
theorem dX12_count_138 : decode cX12_count 138 = .ok (.aload_n 0, 1) := by decide +kernel
theorem dX12_count_139 : decode cX12_count 139 = .ok (.getfield 11, 3) := by decide +kernel
theorem dX12_count_142 : decode cX12_count 142 = .ok (.ireturn, 1) := by decide +kernel
theorem dX12_count_143 : decode cX12_count 143 = .ok (.aload_n 0, 1) := by decide +kernel
theorem dX12_count_144 : decode cX12_count 144 = .ok (.getfield 22, 3) := by decide +kernel
theorem dX12_count_147 : decode cX12_count 147 = .ok (.ireturn, 1) := by decide +kernel
theorem dX12_count_148 : decode cX12_count 148 = .ok (.aload_n 0, 1) := by decide +kernel
theorem dX12_count_149 : decode cX12_count 149 = .ok (.getfield 202, 3) := by decide +kernel
theorem dX12_count_152 : decode cX12_count 152 = .ok (.ireturn, 1) := by decide +kernel
theorem dX12_count_153 : decode cX12_count 153 = .ok (.iconst (-1), 1) := by decide +kernel
theorem dX12_count_154 : decode cX12_count 154 = .ok (.ireturn, 1) := by decide +kernel
def w_X12_count (a1 : Int32) (I : sI) (J : sJ) (post : Int32 → sI → sJ → Prop) : Prop :=
  (∀ I_2 : sI, I_2 = sUI I 248 0 0 → w_X12_in (Int32.toInt64 a1) 2 5 I_2 J (fun (r_13 : Int32) (I_13 : sI) (J_13 : sJ) => (((r_13 = 0 → ((a1 = 0 → post (I_13 248 11) I_13 J_13) ∧ (a1 = 1 → post (I_13 248 12) I_13 J_13) ∧ (a1 = 2 → post (-1) I_13 J_13) ∧ (a1 = 3 → post (-1) I_13 J_13) ∧ (a1 = 4 → post (-1) I_13 J_13) ∧ (a1 = 5 → post (-1) I_13 J_13) ∧ (a1 = 6 → post (I_13 248 21) I_13 J_13) ∧ (a1 = 7 → post (I_13 248 22) I_13 J_13) ∧ (a1 = 8 → w_X12_flag (I_13 248 23) I_13 J_13 (fun (r_124 : Int32) (I_124 : sI) (J_124 : sJ) => (post r_124 I_124 J_124))) ∧ (a1 = 9 → post (I_13 248 15) I_13 J_13) ∧ (a1 = 10 → post (I_13 248 46) I_13 J_13) ∧ (a1 = 11 → post (I_13 248 1) I_13 J_13) ∧ (a1 = 12 → post (I_13 248 4) I_13 J_13) ∧ (a1 = 13 → post (I_13 248 33) I_13 J_13) ∧ (¬ a1 = 0 ∧ ¬ a1 = 1 ∧ ¬ a1 = 2 ∧ ¬ a1 = 3 ∧ ¬ a1 = 4 ∧ ¬ a1 = 5 ∧ ¬ a1 = 6 ∧ ¬ a1 = 7 ∧ ¬ a1 = 8 ∧ ¬ a1 = 9 ∧ ¬ a1 = 10 ∧ ¬ a1 = 11 ∧ ¬ a1 = 12 ∧ ¬ a1 = 13 → post (-1) I_13 J_13))) ∧ (¬ r_13 = 0 → (vp_in (a1 - 2) 4 ∧ post (I_13 257 (Int32.toNatClampNeg (a1 - 2))) I_13 J_13))))))
set_option maxHeartbeats 4000000 in
set_option maxRecDepth 100000 in
theorem t_X12_count {X : sX} {a1 : Int32} {I : sI} {J : sJ} {post : Int32 → sI → sJ → Prop} (h : sOK X cX12_count RX12 2 1 25) (hr : sRt X (some .int) (sPi post)) (hw : w_X12_count a1 I J post) : sG X 2 0 [(0, .ref 248), (1, .int a1)] [] I J := by
  unfold w_X12_count at hw
  refine g_aload_n h rfl 0 rfl dX12_count_0 ?_
  refine g_iconst (v := 0) h (by decide) dX12_count_1 ?_
  refine g_putI h is_248 fl_X12_1 rfl rfl dX12_count_2 ?_
  refine g_nI (fun I_2 eI_2 => ?_)
  replace hw := hw I_2 eI_2
  refine g_iload_n h rfl 1 rfl dX12_count_5 ?_
  refine g_i2l h dX12_count_6 ?_
  refine g_ldc2 h lc_X12_330 dX12_count_7 ?_
  refine g_ldc2 h lc_X12_416 dX12_count_10 ?_
  refine g_callS [.long (Int32.toInt64 a1), .long 2, .long 5] h (c_X12_in X hw) sPi_v mw_X12_in lk_X12_29 rfl ⟨by decide, by decide⟩ (Nat.le_of_ble_eq_true rfl) dX12_count_13 (sPi_k (fun r_13 I_13 J_13 hw => ?_))
  refine g_if_eq (tgt := 28) h (by decide) dX12_count_16 (fun q16 => ?_) (fun q16 => ?_)
  · replace hw := hw.1 q16
    refine g_iload_n h rfl 1 rfl dX12_count_28 ?_
    by_cases q29_0 : a1 = 0
    · replace hw := hw.1 q29_0
      refine g_tabIn (tgt := 100) h dX12_count_29 (by rw [q29_0]; decide) (by rw [q29_0]; decide) (off := 71) (by rw [q29_0]; rfl) (by decide) ?_
      refine g_aload_n h rfl 0 rfl dX12_count_100 ?_
      refine g_get h is_248 fl_X12_76 rfl dX12_count_101 ?_
      exact g_iret h hr dX12_count_104 hw
    replace hw := hw.2
    by_cases q29_1 : a1 = 1
    · replace hw := hw.1 q29_1
      refine g_tabIn (tgt := 105) h dX12_count_29 (by rw [q29_1]; decide) (by rw [q29_1]; decide) (off := 76) (by rw [q29_1]; rfl) (by decide) ?_
      refine g_aload_n h rfl 0 rfl dX12_count_105 ?_
      refine g_get h is_248 fl_X12_79 rfl dX12_count_106 ?_
      exact g_iret h hr dX12_count_109 hw
    replace hw := hw.2
    by_cases q29_2 : a1 = 2
    · replace hw := hw.1 q29_2
      refine g_tabIn (tgt := 153) h dX12_count_29 (by rw [q29_2]; decide) (by rw [q29_2]; decide) (off := 124) (by rw [q29_2]; rfl) (by decide) ?_
      refine g_iconst (v := (-1)) h (by decide) dX12_count_153 ?_
      exact g_iret h hr dX12_count_154 hw
    replace hw := hw.2
    by_cases q29_3 : a1 = 3
    · replace hw := hw.1 q29_3
      refine g_tabIn (tgt := 153) h dX12_count_29 (by rw [q29_3]; decide) (by rw [q29_3]; decide) (off := 124) (by rw [q29_3]; rfl) (by decide) ?_
      refine g_iconst (v := (-1)) h (by decide) dX12_count_153 ?_
      exact g_iret h hr dX12_count_154 hw
    replace hw := hw.2
    by_cases q29_4 : a1 = 4
    · replace hw := hw.1 q29_4
      refine g_tabIn (tgt := 153) h dX12_count_29 (by rw [q29_4]; decide) (by rw [q29_4]; decide) (off := 124) (by rw [q29_4]; rfl) (by decide) ?_
      refine g_iconst (v := (-1)) h (by decide) dX12_count_153 ?_
      exact g_iret h hr dX12_count_154 hw
    replace hw := hw.2
    by_cases q29_5 : a1 = 5
    · replace hw := hw.1 q29_5
      refine g_tabIn (tgt := 153) h dX12_count_29 (by rw [q29_5]; decide) (by rw [q29_5]; decide) (off := 124) (by rw [q29_5]; rfl) (by decide) ?_
      refine g_iconst (v := (-1)) h (by decide) dX12_count_153 ?_
      exact g_iret h hr dX12_count_154 hw
    replace hw := hw.2
    by_cases q29_6 : a1 = 6
    · replace hw := hw.1 q29_6
      refine g_tabIn (tgt := 110) h dX12_count_29 (by rw [q29_6]; decide) (by rw [q29_6]; decide) (off := 81) (by rw [q29_6]; rfl) (by decide) ?_
      refine g_aload_n h rfl 0 rfl dX12_count_110 ?_
      refine g_get h is_248 fl_X12_117 rfl dX12_count_111 ?_
      exact g_iret h hr dX12_count_114 hw
    replace hw := hw.2
    by_cases q29_7 : a1 = 7
    · replace hw := hw.1 q29_7
      refine g_tabIn (tgt := 115) h dX12_count_29 (by rw [q29_7]; decide) (by rw [q29_7]; decide) (off := 86) (by rw [q29_7]; rfl) (by decide) ?_
      refine g_aload_n h rfl 0 rfl dX12_count_115 ?_
      refine g_get h is_248 fl_X12_120 rfl dX12_count_116 ?_
      exact g_iret h hr dX12_count_119 hw
    replace hw := hw.2
    by_cases q29_8 : a1 = 8
    · replace hw := hw.1 q29_8
      refine g_tabIn (tgt := 120) h dX12_count_29 (by rw [q29_8]; decide) (by rw [q29_8]; decide) (off := 91) (by rw [q29_8]; rfl) (by decide) ?_
      refine g_aload_n h rfl 0 rfl dX12_count_120 ?_
      refine g_get h is_248 fl_X12_123 rfl dX12_count_121 ?_
      refine g_callS [.int (I_13 248 23)] h (c_X12_flag X hw) sPi_v mw_X12_flag lk_X12_65 rfl ⟨by decide, by decide⟩ (Nat.le_of_ble_eq_true rfl) dX12_count_124 (sPi_k (fun r_124 I_124 J_124 hw => ?_))
      exact g_iret h hr dX12_count_127 hw
    replace hw := hw.2
    by_cases q29_9 : a1 = 9
    · replace hw := hw.1 q29_9
      refine g_tabIn (tgt := 128) h dX12_count_29 (by rw [q29_9]; decide) (by rw [q29_9]; decide) (off := 99) (by rw [q29_9]; rfl) (by decide) ?_
      refine g_aload_n h rfl 0 rfl dX12_count_128 ?_
      refine g_get h is_248 fl_X12_88 rfl dX12_count_129 ?_
      exact g_iret h hr dX12_count_132 hw
    replace hw := hw.2
    by_cases q29_10 : a1 = 10
    · replace hw := hw.1 q29_10
      refine g_tabIn (tgt := 133) h dX12_count_29 (by rw [q29_10]; decide) (by rw [q29_10]; decide) (off := 104) (by rw [q29_10]; rfl) (by decide) ?_
      refine g_aload_n h rfl 0 rfl dX12_count_133 ?_
      refine g_get h is_248 fl_X12_353 rfl dX12_count_134 ?_
      exact g_iret h hr dX12_count_137 hw
    replace hw := hw.2
    by_cases q29_11 : a1 = 11
    · replace hw := hw.1 q29_11
      refine g_tabIn (tgt := 138) h dX12_count_29 (by rw [q29_11]; decide) (by rw [q29_11]; decide) (off := 109) (by rw [q29_11]; rfl) (by decide) ?_
      refine g_aload_n h rfl 0 rfl dX12_count_138 ?_
      refine g_get h is_248 fl_X12_11 rfl dX12_count_139 ?_
      exact g_iret h hr dX12_count_142 hw
    replace hw := hw.2
    by_cases q29_12 : a1 = 12
    · replace hw := hw.1 q29_12
      refine g_tabIn (tgt := 143) h dX12_count_29 (by rw [q29_12]; decide) (by rw [q29_12]; decide) (off := 114) (by rw [q29_12]; rfl) (by decide) ?_
      refine g_aload_n h rfl 0 rfl dX12_count_143 ?_
      refine g_get h is_248 fl_X12_22 rfl dX12_count_144 ?_
      exact g_iret h hr dX12_count_147 hw
    replace hw := hw.2
    by_cases q29_13 : a1 = 13
    · replace hw := hw.1 q29_13
      refine g_tabIn (tgt := 148) h dX12_count_29 (by rw [q29_13]; decide) (by rw [q29_13]; decide) (off := 119) (by rw [q29_13]; rfl) (by decide) ?_
      refine g_aload_n h rfl 0 rfl dX12_count_148 ?_
      refine g_get h is_248 fl_X12_202 rfl dX12_count_149 ?_
      exact g_iret h hr dX12_count_152 hw
    replace hw := hw.2
    replace hw := hw ⟨q29_0, q29_1, q29_2, q29_3, q29_4, q29_5, q29_6, q29_7, q29_8, q29_9, q29_10, q29_11, q29_12, q29_13⟩
    have hout : (a1).toInt < 0 ∨ 13 < (a1).toInt := by
      refine Classical.byContradiction fun hc => ?_
      rcases (show (a1).toInt = 0 ∨ (a1).toInt = 1 ∨ (a1).toInt = 2 ∨ (a1).toInt = 3 ∨ (a1).toInt = 4 ∨ (a1).toInt = 5 ∨ (a1).toInt = 6 ∨ (a1).toInt = 7 ∨ (a1).toInt = 8 ∨ (a1).toInt = 9 ∨ (a1).toInt = 10 ∨ (a1).toInt = 11 ∨ (a1).toInt = 12 ∨ (a1).toInt = 13 by omega) with z | z | z | z | z | z | z | z | z | z | z | z | z | z
      · exact q29_0 (Int32.toInt_inj.mp z)
      · exact q29_1 (Int32.toInt_inj.mp z)
      · exact q29_2 (Int32.toInt_inj.mp z)
      · exact q29_3 (Int32.toInt_inj.mp z)
      · exact q29_4 (Int32.toInt_inj.mp z)
      · exact q29_5 (Int32.toInt_inj.mp z)
      · exact q29_6 (Int32.toInt_inj.mp z)
      · exact q29_7 (Int32.toInt_inj.mp z)
      · exact q29_8 (Int32.toInt_inj.mp z)
      · exact q29_9 (Int32.toInt_inj.mp z)
      · exact q29_10 (Int32.toInt_inj.mp z)
      · exact q29_11 (Int32.toInt_inj.mp z)
      · exact q29_12 (Int32.toInt_inj.mp z)
      · exact q29_13 (Int32.toInt_inj.mp z)
    refine g_tabOut (tgt := 153) h dX12_count_29 hout (by decide) ?_
    refine g_iconst (v := (-1)) h (by decide) dX12_count_153 ?_
    exact g_iret h hr dX12_count_154 hw
  · replace hw := hw.2 q16
    refine g_aload_n h rfl 0 rfl dX12_count_19 ?_
    refine g_get h is_248 fl_X12_100 fr_248_18 dX12_count_20 ?_
    refine g_iload_n h rfl 1 rfl dX12_count_23 ?_
    refine g_iconst (v := 2) h (by decide) dX12_count_24 ?_
    refine g_isub h dX12_count_25 ?_
    obtain ⟨hi26, hw⟩ := hw
    refine g_iald h ar_257 hi26 dX12_count_26 ?_
    exact g_iret h hr dX12_count_27 hw
theorem c_X12_count (X : sX) {a1 : Int32} {I : sI} {J : sJ} {post : Int32 → sI → sJ → Prop} (hw : w_X12_count a1 I J post) : sCall X yX12_count cX12_count 2 (some .int) 1 25 [.ref 248, .int a1] I J (sPi post) := sCall_of (by decide +kernel) (Nat.le_of_ble_eq_true rfl) (fun X h hr => t_X12_count h hr hw)
theorem dX12_row_0 : decode cX12_row 0 = .ok (.aload_n 0, 1) := by decide +kernel
theorem dX12_row_1 : decode cX12_row 1 = .ok (.iconst 0, 1) := by decide +kernel
theorem dX12_row_2 : decode cX12_row 2 = .ok (.putfield 1, 3) := by decide +kernel
theorem dX12_row_5 : decode cX12_row 5 = .ok (.iload_n 1, 1) := by decide +kernel
theorem dX12_row_6 : decode cX12_row 6 = .ok (.i2l, 1) := by decide +kernel
theorem dX12_row_7 : decode cX12_row 7 = .ok (.lconst 0, 1) := by decide +kernel
theorem dX12_row_8 : decode cX12_row 8 = .ok (.aload_n 0, 1) := by decide +kernel
theorem dX12_row_9 : decode cX12_row 9 = .ok (.getfield 11, 3) := by decide +kernel
theorem dX12_row_12 : decode cX12_row 12 = .ok (.iconst 1, 1) := by decide +kernel
theorem dX12_row_13 : decode cX12_row 13 = .ok (.isub, 1) := by decide +kernel
theorem dX12_row_14 : decode cX12_row 14 = .ok (.i2l, 1) := by decide +kernel
theorem dX12_row_15 : decode cX12_row 15 = .ok (.invokestatic 29, 3) := by decide +kernel
theorem dX12_row_18 : decode cX12_row 18 = .ok (.ifCond .ne 10, 3) := by decide +kernel
theorem dX12_row_21 : decode cX12_row 21 = .ok (.aload_n 0, 1) := by decide +kernel
theorem dX12_row_22 : decode cX12_row 22 = .ok (.iconst 1, 1) := by decide +kernel
theorem dX12_row_23 : decode cX12_row 23 = .ok (.putfield 1, 3) := by decide +kernel
theorem dX12_row_26 : decode cX12_row 26 = .ok (.lconst 0, 1) := by decide +kernel
theorem dX12_row_27 : decode cX12_row 27 = .ok (.lreturn, 1) := by decide +kernel
theorem dX12_row_28 : decode cX12_row 28 = .ok (.aload_n 0, 1) := by decide +kernel
theorem dX12_row_29 : decode cX12_row 29 = .ok (.getfield 7, 3) := by decide +kernel
theorem dX12_row_32 : decode cX12_row 32 = .ok (.iload_n 1, 1) := by decide +kernel
theorem dX12_row_33 : decode cX12_row 33 = .ok (.laload, 1) := by decide +kernel
theorem dX12_row_34 : decode cX12_row 34 = .ok (.lreturn, 1) := by decide +kernel
def w_X12_row (a1 : Int32) (I : sI) (J : sJ) (post : Int64 → sI → sJ → Prop) : Prop :=
  (∀ I_2 : sI, I_2 = sUI I 248 0 0 → w_X12_in (Int32.toInt64 a1) 0 (Int32.toInt64 ((I_2 248 1) - 1)) I_2 J (fun (r_15 : Int32) (I_15 : sI) (J_15 : sJ) => (((¬ r_15 = 0 → (vp_in a1 64 ∧ post (J_15 249 (Int32.toNatClampNeg a1)) I_15 J_15)) ∧ (r_15 = 0 → (∀ I_23 : sI, I_23 = sUI I_15 248 0 1 → post 0 I_23 J_15))))))
set_option maxHeartbeats 4000000 in
set_option maxRecDepth 100000 in
theorem t_X12_row {X : sX} {a1 : Int32} {I : sI} {J : sJ} {post : Int64 → sI → sJ → Prop} (h : sOK X cX12_row RX12 2 1 25) (hr : sRt X (some .long) (sPl post)) (hw : w_X12_row a1 I J post) : sG X 2 0 [(0, .ref 248), (1, .int a1)] [] I J := by
  unfold w_X12_row at hw
  refine g_aload_n h rfl 0 rfl dX12_row_0 ?_
  refine g_iconst (v := 0) h (by decide) dX12_row_1 ?_
  refine g_putI h is_248 fl_X12_1 rfl rfl dX12_row_2 ?_
  refine g_nI (fun I_2 eI_2 => ?_)
  replace hw := hw I_2 eI_2
  refine g_iload_n h rfl 1 rfl dX12_row_5 ?_
  refine g_i2l h dX12_row_6 ?_
  refine g_lconst (v := 0) h (by decide) dX12_row_7 ?_
  refine g_aload_n h rfl 0 rfl dX12_row_8 ?_
  refine g_get h is_248 fl_X12_11 rfl dX12_row_9 ?_
  refine g_iconst (v := 1) h (by decide) dX12_row_12 ?_
  refine g_isub h dX12_row_13 ?_
  refine g_i2l h dX12_row_14 ?_
  refine g_callS [.long (Int32.toInt64 a1), .long 0, .long (Int32.toInt64 ((I_2 248 1) - 1))] h (c_X12_in X hw) sPi_v mw_X12_in lk_X12_29 rfl ⟨by decide, by decide⟩ (Nat.le_of_ble_eq_true rfl) dX12_row_15 (sPi_k (fun r_15 I_15 J_15 hw => ?_))
  refine g_if_ne (tgt := 28) h (by decide) dX12_row_18 (fun q18 => ?_) (fun q18 => ?_)
  · replace hw := hw.1 q18
    refine g_aload_n h rfl 0 rfl dX12_row_28 ?_
    refine g_get h is_248 fl_X12_7 fr_248_2 dX12_row_29 ?_
    refine g_iload_n h rfl 1 rfl dX12_row_32 ?_
    obtain ⟨hi33, hw⟩ := hw
    refine g_lald h ar_249 hi33 dX12_row_33 ?_
    exact g_lret h hr dX12_row_34 hw
  · replace hw := hw.2 q18
    refine g_aload_n h rfl 0 rfl dX12_row_21 ?_
    refine g_iconst (v := 1) h (by decide) dX12_row_22 ?_
    refine g_putI h is_248 fl_X12_1 rfl rfl dX12_row_23 ?_
    refine g_nI (fun I_23 eI_23 => ?_)
    replace hw := hw I_23 eI_23
    refine g_lconst (v := 0) h (by decide) dX12_row_26 ?_
    exact g_lret h hr dX12_row_27 hw
theorem c_X12_row (X : sX) {a1 : Int32} {I : sI} {J : sJ} {post : Int64 → sI → sJ → Prop} (hw : w_X12_row a1 I J post) : sCall X yX12_row cX12_row 2 (some .long) 1 25 [.ref 248, .int a1] I J (sPl post) := sCall_of (by decide +kernel) (Nat.le_of_ble_eq_true rfl) (fun X h hr => t_X12_row h hr hw)
