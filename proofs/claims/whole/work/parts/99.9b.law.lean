theorem lk_L_23 : Cond.methodLink RL 23 yX11_sign ∈ lw_good := lw_i2 143 (by decide +kernel) (by decide +kernel)
theorem mw_X11_sign : sMwV yX11_sign cX11_sign 3 (some .int) 1 := ⟨⟨lw_i2 146 (by decide +kernel) (by decide +kernel), lw_i1 1 (by decide +kernel) (by decide +kernel), by decide +kernel, by decide +kernel, by decide +kernel⟩, lw_i2 144 (by decide +kernel) (by decide +kernel), lw_i2 145 (by decide +kernel) (by decide +kernel)⟩
theorem lk_L_26 : Cond.methodLink RL 26 yX12_sign ∈ lw_good := lw_i5 63 (by decide +kernel) (by decide +kernel)
theorem mw_X12_sign : sMwV yX12_sign cX12_sign 3 (some .int) 1 := ⟨⟨lw_i5 66 (by decide +kernel) (by decide +kernel), lw_i1 13 (by decide +kernel) (by decide +kernel), by decide +kernel, by decide +kernel, by decide +kernel⟩, lw_i5 64 (by decide +kernel) (by decide +kernel), lw_i5 65 (by decide +kernel) (by decide +kernel)⟩
theorem lk_L_27 : Cond.methodLink RL 27 yX11_end ∈ lw_good := lw_i2 151 (by decide +kernel) (by decide +kernel)
theorem mw_X11_end : sMwV yX11_end cX11_end 2 (some .boolean) 1 := ⟨⟨lw_i2 154 (by decide +kernel) (by decide +kernel), lw_i1 1 (by decide +kernel) (by decide +kernel), by decide +kernel, by decide +kernel, by decide +kernel⟩, lw_i2 152 (by decide +kernel) (by decide +kernel), lw_i2 153 (by decide +kernel) (by decide +kernel)⟩
theorem lk_L_31 : Cond.methodLink RL 31 yX12_end ∈ lw_good := lw_i5 67 (by decide +kernel) (by decide +kernel)
theorem mw_X12_end : sMwV yX12_end cX12_end 2 (some .boolean) 1 := ⟨⟨lw_i5 70 (by decide +kernel) (by decide +kernel), lw_i1 13 (by decide +kernel) (by decide +kernel), by decide +kernel, by decide +kernel, by decide +kernel⟩, lw_i5 68 (by decide +kernel) (by decide +kernel), lw_i5 69 (by decide +kernel) (by decide +kernel)⟩
theorem lk_L_32 : Cond.methodLink RL 32 yX11_disc ∈ lw_good := lw_i2 155 (by decide +kernel) (by decide +kernel)
theorem mw_X11_disc : sMwV yX11_disc cX11_disc 2 (some .int) 0 := ⟨⟨lw_i2 158 (by decide +kernel) (by decide +kernel), lw_i1 1 (by decide +kernel) (by decide +kernel), by decide +kernel, by decide +kernel, by decide +kernel⟩, lw_i2 156 (by decide +kernel) (by decide +kernel), lw_i2 157 (by decide +kernel) (by decide +kernel)⟩
theorem lk_L_36 : Cond.methodLink RL 36 yX12_disc ∈ lw_good := lw_i5 74 (by decide +kernel) (by decide +kernel)
theorem mw_X12_disc : sMwV yX12_disc cX12_disc 3 (some .int) 0 := ⟨⟨lw_i5 77 (by decide +kernel) (by decide +kernel), lw_i1 13 (by decide +kernel) (by decide +kernel), by decide +kernel, by decide +kernel, by decide +kernel⟩, lw_i5 75 (by decide +kernel) (by decide +kernel), lw_i5 76 (by decide +kernel) (by decide +kernel)⟩
theorem lk_L_37 : Cond.methodLink RL 37 yX11_word ∈ lw_good := lw_i2 174 (by decide +kernel) (by decide +kernel)
theorem mw_X11_word : sMwV yX11_word cX11_word 3 (some .int) 1 := ⟨⟨lw_i2 177 (by decide +kernel) (by decide +kernel), lw_i1 1 (by decide +kernel) (by decide +kernel), by decide +kernel, by decide +kernel, by decide +kernel⟩, lw_i2 175 (by decide +kernel) (by decide +kernel), lw_i2 176 (by decide +kernel) (by decide +kernel)⟩
theorem lk_L_40 : Cond.methodLink RL 40 yX12_word ∈ lw_good := lw_i5 105 (by decide +kernel) (by decide +kernel)
theorem mw_X12_word : sMwV yX12_word cX12_word 8 (some .int) 1 := ⟨⟨lw_i5 108 (by decide +kernel) (by decide +kernel), lw_i1 13 (by decide +kernel) (by decide +kernel), by decide +kernel, by decide +kernel, by decide +kernel⟩, lw_i5 106 (by decide +kernel) (by decide +kernel), lw_i5 107 (by decide +kernel) (by decide +kernel)⟩
theorem lk_L_41 : Cond.methodLink RL 41 yX11_laxness ∈ lw_good := lw_i2 202 (by decide +kernel) (by decide +kernel)
theorem mw_X11_laxness : sMwV yX11_laxness cX11_laxness 2 (some .int) 0 := ⟨⟨lw_i2 205 (by decide +kernel) (by decide +kernel), lw_i1 1 (by decide +kernel) (by decide +kernel), by decide +kernel, by decide +kernel, by decide +kernel⟩, lw_i2 203 (by decide +kernel) (by decide +kernel), lw_i2 204 (by decide +kernel) (by decide +kernel)⟩
theorem lk_L_44 : Cond.methodLink RL 44 yX12_laxness ∈ lw_good := lw_i5 115 (by decide +kernel) (by decide +kernel)
theorem mw_X12_laxness : sMwV yX12_laxness cX12_laxness 5 (some .int) 0 := ⟨⟨lw_i5 118 (by decide +kernel) (by decide +kernel), lw_i1 13 (by decide +kernel) (by decide +kernel), by decide +kernel, by decide +kernel, by decide +kernel⟩, lw_i5 116 (by decide +kernel) (by decide +kernel), lw_i5 117 (by decide +kernel) (by decide +kernel)⟩
theorem lk_L_45 : Cond.methodLink RL 45 yX11_forget ∈ lw_good := lw_i2 213 (by decide +kernel) (by decide +kernel)
theorem mw_X11_forget : sMwV yX11_forget cX11_forget 3 (some .int) 1 := ⟨⟨lw_i2 216 (by decide +kernel) (by decide +kernel), lw_i1 1 (by decide +kernel) (by decide +kernel), by decide +kernel, by decide +kernel, by decide +kernel⟩, lw_i2 214 (by decide +kernel) (by decide +kernel), lw_i2 215 (by decide +kernel) (by decide +kernel)⟩
theorem lk_L_48 : Cond.methodLink RL 48 yX12_forget ∈ lw_good := lw_i5 123 (by decide +kernel) (by decide +kernel)
theorem mw_X12_forget : sMwV yX12_forget cX12_forget 3 (some .int) 1 := ⟨⟨lw_i5 126 (by decide +kernel) (by decide +kernel), lw_i1 13 (by decide +kernel) (by decide +kernel), by decide +kernel, by decide +kernel, by decide +kernel⟩, lw_i5 124 (by decide +kernel) (by decide +kernel), lw_i5 125 (by decide +kernel) (by decide +kernel)⟩
theorem lk_L_58 : Cond.methodLink RL 58 yX11_readings ∈ lw_good := lw_i2 217 (by decide +kernel) (by decide +kernel)
theorem mw_X11_readings : sMwV yX11_readings cX11_readings 2 (some .int) 1 := ⟨⟨lw_i2 220 (by decide +kernel) (by decide +kernel), lw_i1 1 (by decide +kernel) (by decide +kernel), by decide +kernel, by decide +kernel, by decide +kernel⟩, lw_i2 218 (by decide +kernel) (by decide +kernel), lw_i2 219 (by decide +kernel) (by decide +kernel)⟩
theorem lk_L_61 : Cond.methodLink RL 61 yX12_readings ∈ lw_good := lw_i5 127 (by decide +kernel) (by decide +kernel)
theorem mw_X12_readings : sMwV yX12_readings cX12_readings 3 (some .int) 1 := ⟨⟨lw_i5 130 (by decide +kernel) (by decide +kernel), lw_i1 13 (by decide +kernel) (by decide +kernel), by decide +kernel, by decide +kernel, by decide +kernel⟩, lw_i5 128 (by decide +kernel) (by decide +kernel), lw_i5 129 (by decide +kernel) (by decide +kernel)⟩
theorem lk_L_62 : Cond.methodLink RL 62 yX11_reading ∈ lw_good := lw_i3 68 (by decide +kernel) (by decide +kernel)
theorem mw_X11_reading : sMwV yX11_reading cX11_reading 3 (some .int) 2 := ⟨⟨lw_i3 71 (by decide +kernel) (by decide +kernel), lw_i1 1 (by decide +kernel) (by decide +kernel), by decide +kernel, by decide +kernel, by decide +kernel⟩, lw_i3 69 (by decide +kernel) (by decide +kernel), lw_i3 70 (by decide +kernel) (by decide +kernel)⟩
theorem lk_L_66 : Cond.methodLink RL 66 yX12_reading ∈ lw_good := lw_i5 187 (by decide +kernel) (by decide +kernel)
theorem mw_X12_reading : sMwV yX12_reading cX12_reading 3 (some .int) 2 := ⟨⟨lw_i5 190 (by decide +kernel) (by decide +kernel), lw_i1 13 (by decide +kernel) (by decide +kernel), by decide +kernel, by decide +kernel, by decide +kernel⟩, lw_i5 188 (by decide +kernel) (by decide +kernel), lw_i5 189 (by decide +kernel) (by decide +kernel)⟩
theorem lk_L_67 : Cond.methodLink RL 67 yX11_sure ∈ lw_good := lw_i3 72 (by decide +kernel) (by decide +kernel)
theorem mw_X11_sure : sMwV yX11_sure cX11_sure 5 (some .int) 1 := ⟨⟨lw_i3 75 (by decide +kernel) (by decide +kernel), lw_i1 1 (by decide +kernel) (by decide +kernel), by decide +kernel, by decide +kernel, by decide +kernel⟩, lw_i3 73 (by decide +kernel) (by decide +kernel), lw_i3 74 (by decide +kernel) (by decide +kernel)⟩
theorem lk_L_70 : Cond.methodLink RL 70 yX12_sure ∈ lw_good := lw_i5 192 (by decide +kernel) (by decide +kernel)
theorem mw_X12_sure : sMwV yX12_sure cX12_sure 6 (some .int) 1 := ⟨⟨lw_i5 195 (by decide +kernel) (by decide +kernel), lw_i1 13 (by decide +kernel) (by decide +kernel), by decide +kernel, by decide +kernel, by decide +kernel⟩, lw_i5 193 (by decide +kernel) (by decide +kernel), lw_i5 194 (by decide +kernel) (by decide +kernel)⟩
theorem lk_L_71 : Cond.methodLink RL 71 yX11_letters ∈ lw_good := lw_i3 87 (by decide +kernel) (by decide +kernel)
theorem mw_X11_letters : sMwV yX11_letters cX11_letters 3 (some .int) 2 := ⟨⟨lw_i3 90 (by decide +kernel) (by decide +kernel), lw_i1 1 (by decide +kernel) (by decide +kernel), by decide +kernel, by decide +kernel, by decide +kernel⟩, lw_i3 88 (by decide +kernel) (by decide +kernel), lw_i3 89 (by decide +kernel) (by decide +kernel)⟩
theorem lk_L_74 : Cond.methodLink RL 74 yX12_letters ∈ lw_good := lw_i5 196 (by decide +kernel) (by decide +kernel)
theorem mw_X12_letters : sMwV yX12_letters cX12_letters 5 (some .int) 2 := ⟨⟨lw_i5 199 (by decide +kernel) (by decide +kernel), lw_i1 13 (by decide +kernel) (by decide +kernel), by decide +kernel, by decide +kernel, by decide +kernel⟩, lw_i5 197 (by decide +kernel) (by decide +kernel), lw_i5 198 (by decide +kernel) (by decide +kernel)⟩
theorem lk_L_75 : Cond.methodLink RL 75 yX11_means ∈ lw_good := lw_i3 95 (by decide +kernel) (by decide +kernel)
theorem mw_X11_means : sMwV yX11_means cX11_means 3 (some .int) 2 := ⟨⟨lw_i3 98 (by decide +kernel) (by decide +kernel), lw_i1 1 (by decide +kernel) (by decide +kernel), by decide +kernel, by decide +kernel, by decide +kernel⟩, lw_i3 96 (by decide +kernel) (by decide +kernel), lw_i3 97 (by decide +kernel) (by decide +kernel)⟩
theorem lk_L_78 : Cond.methodLink RL 78 yX12_means ∈ lw_good := lw_i5 205 (by decide +kernel) (by decide +kernel)
theorem mw_X12_means : sMwV yX12_means cX12_means 9 (some .int) 2 := ⟨⟨lw_i5 208 (by decide +kernel) (by decide +kernel), lw_i1 13 (by decide +kernel) (by decide +kernel), by decide +kernel, by decide +kernel, by decide +kernel⟩, lw_i5 206 (by decide +kernel) (by decide +kernel), lw_i5 207 (by decide +kernel) (by decide +kernel)⟩
theorem lk_L_79 : Cond.methodLink RL 79 yX11_tongues ∈ lw_good := lw_i3 99 (by decide +kernel) (by decide +kernel)
theorem mw_X11_tongues : sMwV yX11_tongues cX11_tongues 4 (some .int) 0 := ⟨⟨lw_i3 102 (by decide +kernel) (by decide +kernel), lw_i1 1 (by decide +kernel) (by decide +kernel), by decide +kernel, by decide +kernel, by decide +kernel⟩, lw_i3 100 (by decide +kernel) (by decide +kernel), lw_i3 101 (by decide +kernel) (by decide +kernel)⟩
theorem lk_L_82 : Cond.methodLink RL 82 yX12_tongues ∈ lw_good := lw_i5 209 (by decide +kernel) (by decide +kernel)
theorem mw_X12_tongues : sMwV yX12_tongues cX12_tongues 3 (some .int) 0 := ⟨⟨lw_i5 212 (by decide +kernel) (by decide +kernel), lw_i1 13 (by decide +kernel) (by decide +kernel), by decide +kernel, by decide +kernel, by decide +kernel⟩, lw_i5 210 (by decide +kernel) (by decide +kernel), lw_i5 211 (by decide +kernel) (by decide +kernel)⟩
theorem lk_L_83 : Cond.methodLink RL 83 yX11_lax ∈ lw_good := lw_i3 108 (by decide +kernel) (by decide +kernel)
theorem mw_X11_lax : sMwV yX11_lax cX11_lax 5 (some .int) 1 := ⟨⟨lw_i3 111 (by decide +kernel) (by decide +kernel), lw_i1 1 (by decide +kernel) (by decide +kernel), by decide +kernel, by decide +kernel, by decide +kernel⟩, lw_i3 109 (by decide +kernel) (by decide +kernel), lw_i3 110 (by decide +kernel) (by decide +kernel)⟩
theorem lk_L_86 : Cond.methodLink RL 86 yX12_lax ∈ lw_good := lw_i5 213 (by decide +kernel) (by decide +kernel)
theorem mw_X12_lax : sMwV yX12_lax cX12_lax 9 (some .int) 1 := ⟨⟨lw_i5 216 (by decide +kernel) (by decide +kernel), lw_i1 13 (by decide +kernel) (by decide +kernel), by decide +kernel, by decide +kernel, by decide +kernel⟩, lw_i5 214 (by decide +kernel) (by decide +kernel), lw_i5 215 (by decide +kernel) (by decide +kernel)⟩
theorem lk_L_87 : Cond.methodLink RL 87 yX11_need ∈ lw_good := lw_i3 120 (by decide +kernel) (by decide +kernel)
theorem mw_X11_need : sMwV yX11_need cX11_need 3 (some .int) 1 := ⟨⟨lw_i3 123 (by decide +kernel) (by decide +kernel), lw_i1 1 (by decide +kernel) (by decide +kernel), by decide +kernel, by decide +kernel, by decide +kernel⟩, lw_i3 121 (by decide +kernel) (by decide +kernel), lw_i3 122 (by decide +kernel) (by decide +kernel)⟩
theorem lk_L_90 : Cond.methodLink RL 90 yX12_need ∈ lw_good := lw_i5 217 (by decide +kernel) (by decide +kernel)
theorem mw_X12_need : sMwV yX12_need cX12_need 4 (some .int) 1 := ⟨⟨lw_i5 220 (by decide +kernel) (by decide +kernel), lw_i1 13 (by decide +kernel) (by decide +kernel), by decide +kernel, by decide +kernel, by decide +kernel⟩, lw_i5 218 (by decide +kernel) (by decide +kernel), lw_i5 219 (by decide +kernel) (by decide +kernel)⟩
theorem lk_L_91 : Cond.methodLink RL 91 yX11_second ∈ lw_good := lw_i3 124 (by decide +kernel) (by decide +kernel)
theorem mw_X11_second : sMwV yX11_second cX11_second 3 (some .int) 1 := ⟨⟨lw_i3 127 (by decide +kernel) (by decide +kernel), lw_i1 1 (by decide +kernel) (by decide +kernel), by decide +kernel, by decide +kernel, by decide +kernel⟩, lw_i3 125 (by decide +kernel) (by decide +kernel), lw_i3 126 (by decide +kernel) (by decide +kernel)⟩
theorem lk_L_94 : Cond.methodLink RL 94 yX12_second ∈ lw_good := lw_i5 221 (by decide +kernel) (by decide +kernel)
theorem mw_X12_second : sMwV yX12_second cX12_second 7 (some .int) 1 := ⟨⟨lw_i5 224 (by decide +kernel) (by decide +kernel), lw_i1 13 (by decide +kernel) (by decide +kernel), by decide +kernel, by decide +kernel, by decide +kernel⟩, lw_i5 222 (by decide +kernel) (by decide +kernel), lw_i5 223 (by decide +kernel) (by decide +kernel)⟩
theorem lk_L_95 : Cond.methodLink RL 95 yX11_chance ∈ lw_good := lw_i3 129 (by decide +kernel) (by decide +kernel)
theorem mw_X11_chance : sMwV yX11_chance cX11_chance 6 (some .int) 2 := ⟨⟨lw_i3 132 (by decide +kernel) (by decide +kernel), lw_i1 1 (by decide +kernel) (by decide +kernel), by decide +kernel, by decide +kernel, by decide +kernel⟩, lw_i3 130 (by decide +kernel) (by decide +kernel), lw_i3 131 (by decide +kernel) (by decide +kernel)⟩
theorem lk_L_98 : Cond.methodLink RL 98 yX12_chance ∈ lw_good := lw_i5 225 (by decide +kernel) (by decide +kernel)
theorem mw_X12_chance : sMwV yX12_chance cX12_chance 9 (some .int) 2 := ⟨⟨lw_i5 228 (by decide +kernel) (by decide +kernel), lw_i1 13 (by decide +kernel) (by decide +kernel), by decide +kernel, by decide +kernel, by decide +kernel⟩, lw_i5 226 (by decide +kernel) (by decide +kernel), lw_i5 227 (by decide +kernel) (by decide +kernel)⟩
theorem lk_L_99 : Cond.methodLink RL 99 yX11_next ∈ lw_good := lw_i3 146 (by decide +kernel) (by decide +kernel)
theorem mw_X11_next : sMwV yX11_next cX11_next 6 (some .int) 1 := ⟨⟨lw_i3 149 (by decide +kernel) (by decide +kernel), lw_i1 1 (by decide +kernel) (by decide +kernel), by decide +kernel, by decide +kernel, by decide +kernel⟩, lw_i3 147 (by decide +kernel) (by decide +kernel), lw_i3 148 (by decide +kernel) (by decide +kernel)⟩
theorem lk_L_102 : Cond.methodLink RL 102 yX12_next ∈ lw_good := lw_i5 235 (by decide +kernel) (by decide +kernel)
theorem mw_X12_next : sMwV yX12_next cX12_next 9 (some .int) 1 := ⟨⟨lw_i5 238 (by decide +kernel) (by decide +kernel), lw_i1 13 (by decide +kernel) (by decide +kernel), by decide +kernel, by decide +kernel, by decide +kernel⟩, lw_i5 236 (by decide +kernel) (by decide +kernel), lw_i5 237 (by decide +kernel) (by decide +kernel)⟩
theorem lk_L_103 : Cond.methodLink RL 103 yX11_blind ∈ lw_good := lw_i3 157 (by decide +kernel) (by decide +kernel)
theorem mw_X11_blind : sMwV yX11_blind cX11_blind 3 (some .int) 2 := ⟨⟨lw_i3 160 (by decide +kernel) (by decide +kernel), lw_i1 1 (by decide +kernel) (by decide +kernel), by decide +kernel, by decide +kernel, by decide +kernel⟩, lw_i3 158 (by decide +kernel) (by decide +kernel), lw_i3 159 (by decide +kernel) (by decide +kernel)⟩
theorem lk_L_106 : Cond.methodLink RL 106 yX12_blind ∈ lw_good := lw_i6 0 (by decide +kernel) (by decide +kernel)
theorem mw_X12_blind : sMwV yX12_blind cX12_blind 4 (some .int) 2 := ⟨⟨lw_i6 3 (by decide +kernel) (by decide +kernel), lw_i1 13 (by decide +kernel) (by decide +kernel), by decide +kernel, by decide +kernel, by decide +kernel⟩, lw_i6 1 (by decide +kernel) (by decide +kernel), lw_i6 2 (by decide +kernel) (by decide +kernel)⟩
theorem lk_L_107 : Cond.methodLink RL 107 yX11_over ∈ lw_good := lw_i3 165 (by decide +kernel) (by decide +kernel)
theorem mw_X11_over : sMwV yX11_over cX11_over 3 (some .int) 2 := ⟨⟨lw_i3 168 (by decide +kernel) (by decide +kernel), lw_i1 1 (by decide +kernel) (by decide +kernel), by decide +kernel, by decide +kernel, by decide +kernel⟩, lw_i3 166 (by decide +kernel) (by decide +kernel), lw_i3 167 (by decide +kernel) (by decide +kernel)⟩
theorem lk_L_110 : Cond.methodLink RL 110 yX12_over ∈ lw_good := lw_i6 8 (by decide +kernel) (by decide +kernel)
theorem mw_X12_over : sMwV yX12_over cX12_over 5 (some .int) 2 := ⟨⟨lw_i6 11 (by decide +kernel) (by decide +kernel), lw_i1 13 (by decide +kernel) (by decide +kernel), by decide +kernel, by decide +kernel, by decide +kernel⟩, lw_i6 9 (by decide +kernel) (by decide +kernel), lw_i6 10 (by decide +kernel) (by decide +kernel)⟩
theorem lk_L_111 : Cond.methodLink RL 111 yX11_orders ∈ lw_good := lw_i3 181 (by decide +kernel) (by decide +kernel)
theorem mw_X11_orders : sMwV yX11_orders cX11_orders 3 (some .int) 0 := ⟨⟨lw_i3 184 (by decide +kernel) (by decide +kernel), lw_i1 1 (by decide +kernel) (by decide +kernel), by decide +kernel, by decide +kernel, by decide +kernel⟩, lw_i3 182 (by decide +kernel) (by decide +kernel), lw_i3 183 (by decide +kernel) (by decide +kernel)⟩
theorem lk_L_114 : Cond.methodLink RL 114 yX12_orders ∈ lw_good := lw_i6 12 (by decide +kernel) (by decide +kernel)
theorem mw_X12_orders : sMwV yX12_orders cX12_orders 3 (some .int) 0 := ⟨⟨lw_i6 15 (by decide +kernel) (by decide +kernel), lw_i1 13 (by decide +kernel) (by decide +kernel), by decide +kernel, by decide +kernel, by decide +kernel⟩, lw_i6 13 (by decide +kernel) (by decide +kernel), lw_i6 14 (by decide +kernel) (by decide +kernel)⟩
theorem lk_L_115 : Cond.methodLink RL 115 yX11_ahead ∈ lw_good := lw_i3 206 (by decide +kernel) (by decide +kernel)
theorem mw_X11_ahead : sMwV yX11_ahead cX11_ahead 5 (some .int) 2 := ⟨⟨lw_i3 209 (by decide +kernel) (by decide +kernel), lw_i1 1 (by decide +kernel) (by decide +kernel), by decide +kernel, by decide +kernel, by decide +kernel⟩, lw_i3 207 (by decide +kernel) (by decide +kernel), lw_i3 208 (by decide +kernel) (by decide +kernel)⟩
theorem lk_L_118 : Cond.methodLink RL 118 yX12_ahead ∈ lw_good := lw_i6 29 (by decide +kernel) (by decide +kernel)
theorem mw_X12_ahead : sMwV yX12_ahead cX12_ahead 5 (some .int) 2 := ⟨⟨lw_i6 32 (by decide +kernel) (by decide +kernel), lw_i1 13 (by decide +kernel) (by decide +kernel), by decide +kernel, by decide +kernel, by decide +kernel⟩, lw_i6 30 (by decide +kernel) (by decide +kernel), lw_i6 31 (by decide +kernel) (by decide +kernel)⟩
theorem lk_L_119 : Cond.methodLink RL 119 yX11_ends ∈ lw_good := lw_i3 219 (by decide +kernel) (by decide +kernel)
theorem mw_X11_ends : sMwV yX11_ends cX11_ends 4 (some .int) 1 := ⟨⟨lw_i3 222 (by decide +kernel) (by decide +kernel), lw_i1 1 (by decide +kernel) (by decide +kernel), by decide +kernel, by decide +kernel, by decide +kernel⟩, lw_i3 220 (by decide +kernel) (by decide +kernel), lw_i3 221 (by decide +kernel) (by decide +kernel)⟩
theorem lk_L_122 : Cond.methodLink RL 122 yX12_ends ∈ lw_good := lw_i6 40 (by decide +kernel) (by decide +kernel)
theorem mw_X12_ends : sMwV yX12_ends cX12_ends 4 (some .int) 1 := ⟨⟨lw_i6 43 (by decide +kernel) (by decide +kernel), lw_i1 13 (by decide +kernel) (by decide +kernel), by decide +kernel, by decide +kernel, by decide +kernel⟩, lw_i6 41 (by decide +kernel) (by decide +kernel), lw_i6 42 (by decide +kernel) (by decide +kernel)⟩
theorem lk_L_123 : Cond.methodLink RL 123 yX11_way ∈ lw_good := lw_i3 235 (by decide +kernel) (by decide +kernel)
theorem mw_X11_way : sMwV yX11_way cX11_way 3 (some .int) 0 := ⟨⟨lw_i3 238 (by decide +kernel) (by decide +kernel), lw_i1 1 (by decide +kernel) (by decide +kernel), by decide +kernel, by decide +kernel, by decide +kernel⟩, lw_i3 236 (by decide +kernel) (by decide +kernel), lw_i3 237 (by decide +kernel) (by decide +kernel)⟩
theorem lk_L_126 : Cond.methodLink RL 126 yX12_way ∈ lw_good := lw_i6 44 (by decide +kernel) (by decide +kernel)
theorem mw_X12_way : sMwV yX12_way cX12_way 3 (some .int) 0 := ⟨⟨lw_i6 47 (by decide +kernel) (by decide +kernel), lw_i1 13 (by decide +kernel) (by decide +kernel), by decide +kernel, by decide +kernel, by decide +kernel⟩, lw_i6 45 (by decide +kernel) (by decide +kernel), lw_i6 46 (by decide +kernel) (by decide +kernel)⟩
theorem lk_L_127 : Cond.methodLink RL 127 yX11_lot ∈ lw_good := lw_i4 3 (by decide +kernel) (by decide +kernel)
theorem mw_X11_lot : sMwV yX11_lot cX11_lot 8 (some .int) 0 := ⟨⟨lw_i4 6 (by decide +kernel) (by decide +kernel), lw_i1 1 (by decide +kernel) (by decide +kernel), by decide +kernel, by decide +kernel, by decide +kernel⟩, lw_i4 4 (by decide +kernel) (by decide +kernel), lw_i4 5 (by decide +kernel) (by decide +kernel)⟩
theorem lk_L_130 : Cond.methodLink RL 130 yX12_lot ∈ lw_good := lw_i6 56 (by decide +kernel) (by decide +kernel)
theorem mw_X12_lot : sMwV yX12_lot cX12_lot 6 (some .int) 0 := ⟨⟨lw_i6 59 (by decide +kernel) (by decide +kernel), lw_i1 13 (by decide +kernel) (by decide +kernel), by decide +kernel, by decide +kernel, by decide +kernel⟩, lw_i6 57 (by decide +kernel) (by decide +kernel), lw_i6 58 (by decide +kernel) (by decide +kernel)⟩
theorem lk_L_131 : Cond.methodLink RL 131 yX11_mend ∈ lw_good := lw_i4 11 (by decide +kernel) (by decide +kernel)
theorem mw_X11_mend : sMwV yX11_mend cX11_mend 6 (some .int) 0 := ⟨⟨lw_i4 14 (by decide +kernel) (by decide +kernel), lw_i1 1 (by decide +kernel) (by decide +kernel), by decide +kernel, by decide +kernel, by decide +kernel⟩, lw_i4 12 (by decide +kernel) (by decide +kernel), lw_i4 13 (by decide +kernel) (by decide +kernel)⟩
theorem lk_L_134 : Cond.methodLink RL 134 yX12_mend ∈ lw_good := lw_i6 61 (by decide +kernel) (by decide +kernel)
theorem mw_X12_mend : sMwV yX12_mend cX12_mend 4 (some .int) 0 := ⟨⟨lw_i6 64 (by decide +kernel) (by decide +kernel), lw_i1 13 (by decide +kernel) (by decide +kernel), by decide +kernel, by decide +kernel, by decide +kernel⟩, lw_i6 62 (by decide +kernel) (by decide +kernel), lw_i6 63 (by decide +kernel) (by decide +kernel)⟩
theorem lk_L_135 : Cond.methodLink RL 135 yX11_kinds ∈ lw_good := lw_i4 15 (by decide +kernel) (by decide +kernel)
theorem mw_X11_kinds : sMwV yX11_kinds cX11_kinds 2 (some .int) 0 := ⟨⟨lw_i4 18 (by decide +kernel) (by decide +kernel), lw_i1 1 (by decide +kernel) (by decide +kernel), by decide +kernel, by decide +kernel, by decide +kernel⟩, lw_i4 16 (by decide +kernel) (by decide +kernel), lw_i4 17 (by decide +kernel) (by decide +kernel)⟩
theorem lk_L_138 : Cond.methodLink RL 138 yX12_kinds ∈ lw_good := lw_i6 69 (by decide +kernel) (by decide +kernel)
theorem mw_X12_kinds : sMwV yX12_kinds cX12_kinds 2 (some .int) 0 := ⟨⟨lw_i6 72 (by decide +kernel) (by decide +kernel), lw_i1 13 (by decide +kernel) (by decide +kernel), by decide +kernel, by decide +kernel, by decide +kernel⟩, lw_i6 70 (by decide +kernel) (by decide +kernel), lw_i6 71 (by decide +kernel) (by decide +kernel)⟩
theorem lk_L_139 : Cond.methodLink RL 139 yX11_many ∈ lw_good := lw_i4 27 (by decide +kernel) (by decide +kernel)
theorem mw_X11_many : sMwV yX11_many cX11_many 3 (some .int) 0 := ⟨⟨lw_i4 30 (by decide +kernel) (by decide +kernel), lw_i1 1 (by decide +kernel) (by decide +kernel), by decide +kernel, by decide +kernel, by decide +kernel⟩, lw_i4 28 (by decide +kernel) (by decide +kernel), lw_i4 29 (by decide +kernel) (by decide +kernel)⟩
theorem lk_L_142 : Cond.methodLink RL 142 yX12_many ∈ lw_good := lw_i6 77 (by decide +kernel) (by decide +kernel)
theorem mw_X12_many : sMwV yX12_many cX12_many 3 (some .int) 0 := ⟨⟨lw_i6 80 (by decide +kernel) (by decide +kernel), lw_i1 13 (by decide +kernel) (by decide +kernel), by decide +kernel, by decide +kernel, by decide +kernel⟩, lw_i6 78 (by decide +kernel) (by decide +kernel), lw_i6 79 (by decide +kernel) (by decide +kernel)⟩
theorem lk_L_143 : Cond.methodLink RL 143 yX11_script ∈ lw_good := lw_i4 64 (by decide +kernel) (by decide +kernel)
theorem mw_X11_script : sMwV yX11_script cX11_script 5 (some .int) 2 := ⟨⟨lw_i4 67 (by decide +kernel) (by decide +kernel), lw_i1 1 (by decide +kernel) (by decide +kernel), by decide +kernel, by decide +kernel, by decide +kernel⟩, lw_i4 65 (by decide +kernel) (by decide +kernel), lw_i4 66 (by decide +kernel) (by decide +kernel)⟩
theorem lk_L_146 : Cond.methodLink RL 146 yX12_script ∈ lw_good := lw_i6 99 (by decide +kernel) (by decide +kernel)
theorem mw_X12_script : sMwV yX12_script cX12_script 4 (some .int) 2 := ⟨⟨lw_i6 102 (by decide +kernel) (by decide +kernel), lw_i1 13 (by decide +kernel) (by decide +kernel), by decide +kernel, by decide +kernel, by decide +kernel⟩, lw_i6 100 (by decide +kernel) (by decide +kernel), lw_i6 101 (by decide +kernel) (by decide +kernel)⟩
theorem lk_L_147 : Cond.methodLink RL 147 yX11_like ∈ lw_good := lw_i4 71 (by decide +kernel) (by decide +kernel)
theorem mw_X11_like : sMwV yX11_like cX11_like 5 (some .int) 0 := ⟨⟨lw_i4 74 (by decide +kernel) (by decide +kernel), lw_i1 1 (by decide +kernel) (by decide +kernel), by decide +kernel, by decide +kernel, by decide +kernel⟩, lw_i4 72 (by decide +kernel) (by decide +kernel), lw_i4 73 (by decide +kernel) (by decide +kernel)⟩
theorem lk_L_150 : Cond.methodLink RL 150 yX12_like ∈ lw_good := lw_i6 104 (by decide +kernel) (by decide +kernel)
theorem mw_X12_like : sMwV yX12_like cX12_like 3 (some .int) 0 := ⟨⟨lw_i6 107 (by decide +kernel) (by decide +kernel), lw_i1 13 (by decide +kernel) (by decide +kernel), by decide +kernel, by decide +kernel, by decide +kernel⟩, lw_i6 105 (by decide +kernel) (by decide +kernel), lw_i6 106 (by decide +kernel) (by decide +kernel)⟩
theorem lk_L_151 : Cond.methodLink RL 151 yX11_repeat ∈ lw_good := lw_i4 75 (by decide +kernel) (by decide +kernel)
theorem mw_X11_repeat : sMwV yX11_repeat cX11_repeat 9 (some .int) 0 := ⟨⟨lw_i4 78 (by decide +kernel) (by decide +kernel), lw_i1 1 (by decide +kernel) (by decide +kernel), by decide +kernel, by decide +kernel, by decide +kernel⟩, lw_i4 76 (by decide +kernel) (by decide +kernel), lw_i4 77 (by decide +kernel) (by decide +kernel)⟩
theorem lk_L_154 : Cond.methodLink RL 154 yX12_repeat ∈ lw_good := lw_i6 109 (by decide +kernel) (by decide +kernel)
theorem mw_X12_repeat : sMwV yX12_repeat cX12_repeat 7 (some .int) 0 := ⟨⟨lw_i6 112 (by decide +kernel) (by decide +kernel), lw_i1 13 (by decide +kernel) (by decide +kernel), by decide +kernel, by decide +kernel, by decide +kernel⟩, lw_i6 110 (by decide +kernel) (by decide +kernel), lw_i6 111 (by decide +kernel) (by decide +kernel)⟩
theorem lk_L_155 : Cond.methodLink RL 155 yX11_rhyme ∈ lw_good := lw_i4 93 (by decide +kernel) (by decide +kernel)
theorem mw_X11_rhyme : sMwV yX11_rhyme cX11_rhyme 8 (some .int) 2 := ⟨⟨lw_i4 96 (by decide +kernel) (by decide +kernel), lw_i1 1 (by decide +kernel) (by decide +kernel), by decide +kernel, by decide +kernel, by decide +kernel⟩, lw_i4 94 (by decide +kernel) (by decide +kernel), lw_i4 95 (by decide +kernel) (by decide +kernel)⟩
theorem lk_L_158 : Cond.methodLink RL 158 yX12_rhyme ∈ lw_good := lw_i6 130 (by decide +kernel) (by decide +kernel)
theorem mw_X12_rhyme : sMwV yX12_rhyme cX12_rhyme 10 (some .int) 2 := ⟨⟨lw_i6 133 (by decide +kernel) (by decide +kernel), lw_i1 13 (by decide +kernel) (by decide +kernel), by decide +kernel, by decide +kernel, by decide +kernel⟩, lw_i6 131 (by decide +kernel) (by decide +kernel), lw_i6 132 (by decide +kernel) (by decide +kernel)⟩
theorem lk_L_159 : Cond.methodLink RL 159 yX11_axe ∈ lw_good := lw_i4 102 (by decide +kernel) (by decide +kernel)
theorem mw_X11_axe : sMwV yX11_axe cX11_axe 8 (some .int) 4 := ⟨⟨lw_i4 105 (by decide +kernel) (by decide +kernel), lw_i1 1 (by decide +kernel) (by decide +kernel), by decide +kernel, by decide +kernel, by decide +kernel⟩, lw_i4 103 (by decide +kernel) (by decide +kernel), lw_i4 104 (by decide +kernel) (by decide +kernel)⟩
theorem lk_L_163 : Cond.methodLink RL 163 yX12_axe ∈ lw_good := lw_i6 134 (by decide +kernel) (by decide +kernel)
theorem mw_X12_axe : sMwV yX12_axe cX12_axe 8 (some .int) 4 := ⟨⟨lw_i6 137 (by decide +kernel) (by decide +kernel), lw_i1 13 (by decide +kernel) (by decide +kernel), by decide +kernel, by decide +kernel, by decide +kernel⟩, lw_i6 135 (by decide +kernel) (by decide +kernel), lw_i6 136 (by decide +kernel) (by decide +kernel)⟩
theorem lk_L_164 : Cond.methodLink RL 164 yX11_claim ∈ lw_good := lw_i4 106 (by decide +kernel) (by decide +kernel)
theorem mw_X11_claim : sMwV yX11_claim cX11_claim 1 (some .int) 0 := ⟨⟨lw_i4 109 (by decide +kernel) (by decide +kernel), lw_i1 1 (by decide +kernel) (by decide +kernel), by decide +kernel, by decide +kernel, by decide +kernel⟩, lw_i4 107 (by decide +kernel) (by decide +kernel), lw_i4 108 (by decide +kernel) (by decide +kernel)⟩
theorem lk_L_167 : Cond.methodLink RL 167 yX12_claim ∈ lw_good := lw_i6 142 (by decide +kernel) (by decide +kernel)
theorem mw_X12_claim : sMwV yX12_claim cX12_claim 1 (some .int) 0 := ⟨⟨lw_i6 145 (by decide +kernel) (by decide +kernel), lw_i1 13 (by decide +kernel) (by decide +kernel), by decide +kernel, by decide +kernel, by decide +kernel⟩, lw_i6 143 (by decide +kernel) (by decide +kernel), lw_i6 144 (by decide +kernel) (by decide +kernel)⟩
theorem lk_L_168 : Cond.methodLink RL 168 yX11_says ∈ lw_good := lw_i4 114 (by decide +kernel) (by decide +kernel)
theorem mw_X11_says : sMwV yX11_says cX11_says 5 (some .int) 3 := ⟨⟨lw_i4 117 (by decide +kernel) (by decide +kernel), lw_i1 1 (by decide +kernel) (by decide +kernel), by decide +kernel, by decide +kernel, by decide +kernel⟩, lw_i4 115 (by decide +kernel) (by decide +kernel), lw_i4 116 (by decide +kernel) (by decide +kernel)⟩
theorem lk_L_172 : Cond.methodLink RL 172 yX12_says ∈ lw_good := lw_i6 146 (by decide +kernel) (by decide +kernel)
theorem mw_X12_says : sMwV yX12_says cX12_says 5 (some .int) 3 := ⟨⟨lw_i6 149 (by decide +kernel) (by decide +kernel), lw_i1 13 (by decide +kernel) (by decide +kernel), by decide +kernel, by decide +kernel, by decide +kernel⟩, lw_i6 147 (by decide +kernel) (by decide +kernel), lw_i6 148 (by decide +kernel) (by decide +kernel)⟩
theorem lk_L_173 : Cond.methodLink RL 173 yX11_sheet ∈ lw_good := lw_i4 125 (by decide +kernel) (by decide +kernel)
theorem mw_X11_sheet : sMwV yX11_sheet cX11_sheet 11 (some .int) 5 := ⟨⟨lw_i4 128 (by decide +kernel) (by decide +kernel), lw_i1 1 (by decide +kernel) (by decide +kernel), by decide +kernel, by decide +kernel, by decide +kernel⟩, lw_i4 126 (by decide +kernel) (by decide +kernel), lw_i4 127 (by decide +kernel) (by decide +kernel)⟩
theorem lk_L_177 : Cond.methodLink RL 177 yX12_sheet ∈ lw_good := lw_i6 154 (by decide +kernel) (by decide +kernel)
theorem mw_X12_sheet : sMwV yX12_sheet cX12_sheet 10 (some .int) 5 := ⟨⟨lw_i6 157 (by decide +kernel) (by decide +kernel), lw_i1 13 (by decide +kernel) (by decide +kernel), by decide +kernel, by decide +kernel, by decide +kernel⟩, lw_i6 155 (by decide +kernel) (by decide +kernel), lw_i6 156 (by decide +kernel) (by decide +kernel)⟩
theorem lk_L_178 : Cond.methodLink RL 178 yX11_find ∈ lw_good := lw_i4 135 (by decide +kernel) (by decide +kernel)
theorem mw_X11_find : sMwV yX11_find cX11_find 4 (some .int) 2 := ⟨⟨lw_i4 138 (by decide +kernel) (by decide +kernel), lw_i1 1 (by decide +kernel) (by decide +kernel), by decide +kernel, by decide +kernel, by decide +kernel⟩, lw_i4 136 (by decide +kernel) (by decide +kernel), lw_i4 137 (by decide +kernel) (by decide +kernel)⟩
theorem lk_L_181 : Cond.methodLink RL 181 yX12_find ∈ lw_good := lw_i6 159 (by decide +kernel) (by decide +kernel)
theorem mw_X12_find : sMwV yX12_find cX12_find 4 (some .int) 2 := ⟨⟨lw_i6 162 (by decide +kernel) (by decide +kernel), lw_i1 13 (by decide +kernel) (by decide +kernel), by decide +kernel, by decide +kernel, by decide +kernel⟩, lw_i6 160 (by decide +kernel) (by decide +kernel), lw_i6 161 (by decide +kernel) (by decide +kernel)⟩
theorem lk_L_182 : Cond.methodLink RL 182 yX11_stand ∈ lw_good := lw_i4 139 (by decide +kernel) (by decide +kernel)
theorem mw_X11_stand : sMwV yX11_stand cX11_stand 1 (some .int) 0 := ⟨⟨lw_i4 142 (by decide +kernel) (by decide +kernel), lw_i1 1 (by decide +kernel) (by decide +kernel), by decide +kernel, by decide +kernel, by decide +kernel⟩, lw_i4 140 (by decide +kernel) (by decide +kernel), lw_i4 141 (by decide +kernel) (by decide +kernel)⟩
theorem lk_L_185 : Cond.methodLink RL 185 yX12_stand ∈ lw_good := lw_i6 163 (by decide +kernel) (by decide +kernel)
theorem mw_X12_stand : sMwV yX12_stand cX12_stand 1 (some .int) 0 := ⟨⟨lw_i6 166 (by decide +kernel) (by decide +kernel), lw_i1 13 (by decide +kernel) (by decide +kernel), by decide +kernel, by decide +kernel, by decide +kernel⟩, lw_i6 164 (by decide +kernel) (by decide +kernel), lw_i6 165 (by decide +kernel) (by decide +kernel)⟩
theorem lk_L_186 : Cond.methodLink RL 186 yX11_risks ∈ lw_good := lw_i4 151 (by decide +kernel) (by decide +kernel)
theorem mw_X11_risks : sMwV yX11_risks cX11_risks 7 (some .int) 1 := ⟨⟨lw_i4 154 (by decide +kernel) (by decide +kernel), lw_i1 1 (by decide +kernel) (by decide +kernel), by decide +kernel, by decide +kernel, by decide +kernel⟩, lw_i4 152 (by decide +kernel) (by decide +kernel), lw_i4 153 (by decide +kernel) (by decide +kernel)⟩
theorem lk_L_189 : Cond.methodLink RL 189 yX12_risks ∈ lw_good := lw_i6 171 (by decide +kernel) (by decide +kernel)
theorem mw_X12_risks : sMwV yX12_risks cX12_risks 9 (some .int) 1 := ⟨⟨lw_i6 174 (by decide +kernel) (by decide +kernel), lw_i1 13 (by decide +kernel) (by decide +kernel), by decide +kernel, by decide +kernel, by decide +kernel⟩, lw_i6 172 (by decide +kernel) (by decide +kernel), lw_i6 173 (by decide +kernel) (by decide +kernel)⟩
theorem lk_L_190 : Cond.methodLink RL 190 yX11_idle ∈ lw_good := lw_i4 156 (by decide +kernel) (by decide +kernel)
theorem mw_X11_idle : sMwV yX11_idle cX11_idle 3 (some .int) 0 := ⟨⟨lw_i4 159 (by decide +kernel) (by decide +kernel), lw_i1 1 (by decide +kernel) (by decide +kernel), by decide +kernel, by decide +kernel, by decide +kernel⟩, lw_i4 157 (by decide +kernel) (by decide +kernel), lw_i4 158 (by decide +kernel) (by decide +kernel)⟩
theorem lk_L_193 : Cond.methodLink RL 193 yX12_idle ∈ lw_good := lw_i6 175 (by decide +kernel) (by decide +kernel)
theorem mw_X12_idle : sMwV yX12_idle cX12_idle 4 (some .int) 0 := ⟨⟨lw_i6 178 (by decide +kernel) (by decide +kernel), lw_i1 13 (by decide +kernel) (by decide +kernel), by decide +kernel, by decide +kernel, by decide +kernel⟩, lw_i6 176 (by decide +kernel) (by decide +kernel), lw_i6 177 (by decide +kernel) (by decide +kernel)⟩
theorem lk_L_194 : Cond.methodLink RL 194 yX11_seek ∈ lw_good := lw_i4 160 (by decide +kernel) (by decide +kernel)
theorem mw_X11_seek : sMwV yX11_seek cX11_seek 8 (some .int) 0 := ⟨⟨lw_i4 163 (by decide +kernel) (by decide +kernel), lw_i1 1 (by decide +kernel) (by decide +kernel), by decide +kernel, by decide +kernel, by decide +kernel⟩, lw_i4 161 (by decide +kernel) (by decide +kernel), lw_i4 162 (by decide +kernel) (by decide +kernel)⟩
theorem lk_L_197 : Cond.methodLink RL 197 yX12_seek ∈ lw_good := lw_i6 179 (by decide +kernel) (by decide +kernel)
theorem mw_X12_seek : sMwV yX12_seek cX12_seek 6 (some .int) 0 := ⟨⟨lw_i6 182 (by decide +kernel) (by decide +kernel), lw_i1 13 (by decide +kernel) (by decide +kernel), by decide +kernel, by decide +kernel, by decide +kernel⟩, lw_i6 180 (by decide +kernel) (by decide +kernel), lw_i6 181 (by decide +kernel) (by decide +kernel)⟩
theorem lk_L_198 : Cond.methodLink RL 198 yX11_part ∈ lw_good := lw_i4 164 (by decide +kernel) (by decide +kernel)
theorem mw_X11_part : sMwV yX11_part cX11_part 5 (some .int) 0 := ⟨⟨lw_i4 167 (by decide +kernel) (by decide +kernel), lw_i1 1 (by decide +kernel) (by decide +kernel), by decide +kernel, by decide +kernel, by decide +kernel⟩, lw_i4 165 (by decide +kernel) (by decide +kernel), lw_i4 166 (by decide +kernel) (by decide +kernel)⟩
theorem lk_L_201 : Cond.methodLink RL 201 yX12_part ∈ lw_good := lw_i6 187 (by decide +kernel) (by decide +kernel)
theorem mw_X12_part : sMwV yX12_part cX12_part 6 (some .int) 0 := ⟨⟨lw_i6 190 (by decide +kernel) (by decide +kernel), lw_i1 13 (by decide +kernel) (by decide +kernel), by decide +kernel, by decide +kernel, by decide +kernel⟩, lw_i6 188 (by decide +kernel) (by decide +kernel), lw_i6 189 (by decide +kernel) (by decide +kernel)⟩
theorem lk_L_202 : Cond.methodLink RL 202 yX11_plan ∈ lw_good := lw_i4 184 (by decide +kernel) (by decide +kernel)
theorem mw_X11_plan : sMwV yX11_plan cX11_plan 6 (some .int) 0 := ⟨⟨lw_i4 187 (by decide +kernel) (by decide +kernel), lw_i1 1 (by decide +kernel) (by decide +kernel), by decide +kernel, by decide +kernel, by decide +kernel⟩, lw_i4 185 (by decide +kernel) (by decide +kernel), lw_i4 186 (by decide +kernel) (by decide +kernel)⟩
theorem lk_L_205 : Cond.methodLink RL 205 yX12_plan ∈ lw_good := lw_i6 203 (by decide +kernel) (by decide +kernel)
theorem mw_X12_plan : sMwV yX12_plan cX12_plan 4 (some .int) 0 := ⟨⟨lw_i6 206 (by decide +kernel) (by decide +kernel), lw_i1 13 (by decide +kernel) (by decide +kernel), by decide +kernel, by decide +kernel, by decide +kernel⟩, lw_i6 204 (by decide +kernel) (by decide +kernel), lw_i6 205 (by decide +kernel) (by decide +kernel)⟩
theorem lk_L_206 : Cond.methodLink RL 206 yX11_seed ∈ lw_good := lw_i4 198 (by decide +kernel) (by decide +kernel)
theorem mw_X11_seed : sMwV yX11_seed cX11_seed 3 (some .int) 1 := ⟨⟨lw_i4 201 (by decide +kernel) (by decide +kernel), lw_i1 1 (by decide +kernel) (by decide +kernel), by decide +kernel, by decide +kernel, by decide +kernel⟩, lw_i4 199 (by decide +kernel) (by decide +kernel), lw_i4 200 (by decide +kernel) (by decide +kernel)⟩
theorem lk_L_209 : Cond.methodLink RL 209 yX12_seed ∈ lw_good := lw_i6 211 (by decide +kernel) (by decide +kernel)
theorem mw_X12_seed : sMwV yX12_seed cX12_seed 3 (some .int) 1 := ⟨⟨lw_i6 214 (by decide +kernel) (by decide +kernel), lw_i1 13 (by decide +kernel) (by decide +kernel), by decide +kernel, by decide +kernel, by decide +kernel⟩, lw_i6 212 (by decide +kernel) (by decide +kernel), lw_i6 213 (by decide +kernel) (by decide +kernel)⟩
theorem lk_L_210 : Cond.methodLink RL 210 yX11_keep ∈ lw_good := lw_i4 202 (by decide +kernel) (by decide +kernel)
theorem mw_X11_keep : sMwV yX11_keep cX11_keep 2 (some .boolean) 1 := ⟨⟨lw_i4 205 (by decide +kernel) (by decide +kernel), lw_i1 1 (by decide +kernel) (by decide +kernel), by decide +kernel, by decide +kernel, by decide +kernel⟩, lw_i4 203 (by decide +kernel) (by decide +kernel), lw_i4 204 (by decide +kernel) (by decide +kernel)⟩
theorem lk_L_213 : Cond.methodLink RL 213 yX12_keep ∈ lw_good := lw_i6 215 (by decide +kernel) (by decide +kernel)
theorem mw_X12_keep : sMwV yX12_keep cX12_keep 2 (some .boolean) 1 := ⟨⟨lw_i6 218 (by decide +kernel) (by decide +kernel), lw_i1 13 (by decide +kernel) (by decide +kernel), by decide +kernel, by decide +kernel, by decide +kernel⟩, lw_i6 216 (by decide +kernel) (by decide +kernel), lw_i6 217 (by decide +kernel) (by decide +kernel)⟩
theorem lk_L_214 : Cond.methodLink RL 214 yX11_again ∈ lw_good := lw_i4 215 (by decide +kernel) (by decide +kernel)
theorem mw_X11_again : sMwV yX11_again cX11_again 2 (some .boolean) 1 := ⟨⟨lw_i4 218 (by decide +kernel) (by decide +kernel), lw_i1 1 (by decide +kernel) (by decide +kernel), by decide +kernel, by decide +kernel, by decide +kernel⟩, lw_i4 216 (by decide +kernel) (by decide +kernel), lw_i4 217 (by decide +kernel) (by decide +kernel)⟩
theorem lk_L_217 : Cond.methodLink RL 217 yX12_again ∈ lw_good := lw_i6 227 (by decide +kernel) (by decide +kernel)
theorem mw_X12_again : sMwV yX12_again cX12_again 2 (some .boolean) 1 := ⟨⟨lw_i6 230 (by decide +kernel) (by decide +kernel), lw_i1 13 (by decide +kernel) (by decide +kernel), by decide +kernel, by decide +kernel, by decide +kernel⟩, lw_i6 228 (by decide +kernel) (by decide +kernel), lw_i6 229 (by decide +kernel) (by decide +kernel)⟩
theorem lk_L_218 : Cond.methodLink RL 218 yX11_count ∈ lw_good := lw_i4 219 (by decide +kernel) (by decide +kernel)
theorem mw_X11_count : sMwV yX11_count cX11_count 2 (some .int) 1 := ⟨⟨lw_i4 222 (by decide +kernel) (by decide +kernel), lw_i1 1 (by decide +kernel) (by decide +kernel), by decide +kernel, by decide +kernel, by decide +kernel⟩, lw_i4 220 (by decide +kernel) (by decide +kernel), lw_i4 221 (by decide +kernel) (by decide +kernel)⟩
theorem lk_L_221 : Cond.methodLink RL 221 yX12_count ∈ lw_good := lw_i6 231 (by decide +kernel) (by decide +kernel)
theorem mw_X12_count : sMwV yX12_count cX12_count 2 (some .int) 1 := ⟨⟨lw_i6 234 (by decide +kernel) (by decide +kernel), lw_i1 13 (by decide +kernel) (by decide +kernel), by decide +kernel, by decide +kernel, by decide +kernel⟩, lw_i6 232 (by decide +kernel) (by decide +kernel), lw_i6 233 (by decide +kernel) (by decide +kernel)⟩
theorem mw_X12_at : sMwV yX12_at cX12_at 2 (some .int) 1 := ⟨⟨lw_i5 100 (by decide +kernel) (by decide +kernel), lw_i1 13 (by decide +kernel) (by decide +kernel), by decide +kernel, by decide +kernel, by decide +kernel⟩, lw_i5 98 (by decide +kernel) (by decide +kernel), lw_i5 99 (by decide +kernel) (by decide +kernel)⟩
theorem mw_X12_thrown : sMwV yX12_thrown cX12_thrown 1 (some .int) 0 := ⟨⟨lw_i5 62 (by decide +kernel) (by decide +kernel), lw_i1 13 (by decide +kernel) (by decide +kernel), by decide +kernel, by decide +kernel, by decide +kernel⟩, lw_i5 60 (by decide +kernel) (by decide +kernel), lw_i5 61 (by decide +kernel) (by decide +kernel)⟩
theorem lk_L_54 : Cond.methodLink RL 54 yX12_at ∈ lw_good := lw_i5 97 (by decide +kernel) (by decide +kernel)
theorem lk_L_55 : Cond.methodLink RL 55 yX12_thrown ∈ lw_good := lw_i5 59 (by decide +kernel) (by decide +kernel)
theorem mw_X12_row : sMwV yX12_row cX12_row 2 (some .long) 1 := ⟨⟨lw_i7 173 (by decide +kernel) (by decide +kernel), lw_i1 13 (by decide +kernel) (by decide +kernel), by decide +kernel, by decide +kernel, by decide +kernel⟩, lw_i7 171 (by decide +kernel) (by decide +kernel), lw_i7 172 (by decide +kernel) (by decide +kernel)⟩
theorem lk_L_224 : Cond.methodLink RL 224 yX12_row ∈ lw_good := lw_i7 170 (by decide +kernel) (by decide +kernel)
theorem dL_law_248 : decode cL_law 248 = .ok (.aload_n 1, 1) := by decide +kernel
theorem dL_law_249 : decode cL_law 249 = .ok (.aload_n 0, 1) := by decide +kernel
theorem dL_law_250 : decode cL_law 250 = .ok (.iload 4, 2) := by decide +kernel
theorem dL_law_252 : decode cL_law 252 = .ok (.iconst 1, 1) := by decide +kernel
theorem dL_law_253 : decode cL_law 253 = .ok (.iadd, 1) := by decide +kernel
theorem dL_law_254 : decode cL_law 254 = .ok (.iaload, 1) := by decide +kernel
theorem dL_law_255 : decode cL_law 255 = .ok (.invokevirtual 23, 3) := by decide +kernel
theorem dL_law_258 : decode cL_law 258 = .ok (.aload_n 2, 1) := by decide +kernel
theorem dL_law_259 : decode cL_law 259 = .ok (.aload_n 0, 1) := by decide +kernel
theorem dL_law_260 : decode cL_law 260 = .ok (.iload 4, 2) := by decide +kernel
theorem dL_law_262 : decode cL_law 262 = .ok (.iconst 1, 1) := by decide +kernel
theorem dL_law_263 : decode cL_law 263 = .ok (.iadd, 1) := by decide +kernel
theorem dL_law_264 : decode cL_law 264 = .ok (.iaload, 1) := by decide +kernel
theorem dL_law_265 : decode cL_law 265 = .ok (.invokevirtual 26, 3) := by decide +kernel
theorem dL_law_268 : decode cL_law 268 = .ok (.if_icmp .eq 1265, 3) := by decide +kernel
theorem dL_law_273 : decode cL_law 273 = .ok (.aload_n 1, 1) := by decide +kernel
theorem dL_law_274 : decode cL_law 274 = .ok (.aload_n 0, 1) := by decide +kernel
theorem dL_law_275 : decode cL_law 275 = .ok (.iload 4, 2) := by decide +kernel
theorem dL_law_277 : decode cL_law 277 = .ok (.iconst 1, 1) := by decide +kernel
theorem dL_law_278 : decode cL_law 278 = .ok (.iadd, 1) := by decide +kernel
theorem dL_law_279 : decode cL_law 279 = .ok (.iaload, 1) := by decide +kernel
theorem dL_law_280 : decode cL_law 280 = .ok (.invokevirtual 27, 3) := by decide +kernel
theorem dL_law_283 : decode cL_law 283 = .ok (.aload_n 2, 1) := by decide +kernel
theorem dL_law_284 : decode cL_law 284 = .ok (.aload_n 0, 1) := by decide +kernel
theorem dL_law_285 : decode cL_law 285 = .ok (.iload 4, 2) := by decide +kernel
theorem dL_law_287 : decode cL_law 287 = .ok (.iconst 1, 1) := by decide +kernel
theorem dL_law_288 : decode cL_law 288 = .ok (.iadd, 1) := by decide +kernel
theorem dL_law_289 : decode cL_law 289 = .ok (.iaload, 1) := by decide +kernel
theorem dL_law_290 : decode cL_law 290 = .ok (.invokevirtual 31, 3) := by decide +kernel
theorem dL_law_293 : decode cL_law 293 = .ok (.if_icmp .eq 1240, 3) := by decide +kernel
theorem dL_law_298 : decode cL_law 298 = .ok (.aload_n 1, 1) := by decide +kernel
theorem dL_law_299 : decode cL_law 299 = .ok (.invokevirtual 32, 3) := by decide +kernel
theorem dL_law_302 : decode cL_law 302 = .ok (.aload_n 2, 1) := by decide +kernel
theorem dL_law_303 : decode cL_law 303 = .ok (.invokevirtual 36, 3) := by decide +kernel
theorem dL_law_306 : decode cL_law 306 = .ok (.if_icmp .eq 1227, 3) := by decide +kernel
theorem dL_law_311 : decode cL_law 311 = .ok (.aload_n 1, 1) := by decide +kernel
theorem dL_law_312 : decode cL_law 312 = .ok (.aload_n 0, 1) := by decide +kernel
theorem dL_law_313 : decode cL_law 313 = .ok (.iload 4, 2) := by decide +kernel
theorem dL_law_315 : decode cL_law 315 = .ok (.iconst 1, 1) := by decide +kernel
theorem dL_law_316 : decode cL_law 316 = .ok (.iadd, 1) := by decide +kernel
theorem dL_law_317 : decode cL_law 317 = .ok (.iaload, 1) := by decide +kernel
theorem dL_law_318 : decode cL_law 318 = .ok (.invokevirtual 37, 3) := by decide +kernel
theorem dL_law_321 : decode cL_law 321 = .ok (.aload_n 2, 1) := by decide +kernel
theorem dL_law_322 : decode cL_law 322 = .ok (.aload_n 0, 1) := by decide +kernel
theorem dL_law_323 : decode cL_law 323 = .ok (.iload 4, 2) := by decide +kernel
theorem dL_law_325 : decode cL_law 325 = .ok (.iconst 1, 1) := by decide +kernel
theorem dL_law_326 : decode cL_law 326 = .ok (.iadd, 1) := by decide +kernel
theorem dL_law_327 : decode cL_law 327 = .ok (.iaload, 1) := by decide +kernel
theorem dL_law_328 : decode cL_law 328 = .ok (.invokevirtual 40, 3) := by decide +kernel
theorem dL_law_331 : decode cL_law 331 = .ok (.if_icmp .eq 1202, 3) := by decide +kernel
theorem dL_law_336 : decode cL_law 336 = .ok (.aload_n 1, 1) := by decide +kernel
theorem dL_law_337 : decode cL_law 337 = .ok (.invokevirtual 41, 3) := by decide +kernel
theorem dL_law_340 : decode cL_law 340 = .ok (.aload_n 2, 1) := by decide +kernel
theorem dL_law_341 : decode cL_law 341 = .ok (.invokevirtual 44, 3) := by decide +kernel
theorem dL_law_344 : decode cL_law 344 = .ok (.if_icmp .eq 1189, 3) := by decide +kernel
theorem dL_law_349 : decode cL_law 349 = .ok (.aload_n 1, 1) := by decide +kernel
theorem dL_law_350 : decode cL_law 350 = .ok (.aload_n 0, 1) := by decide +kernel
theorem dL_law_351 : decode cL_law 351 = .ok (.iload 4, 2) := by decide +kernel
theorem dL_law_353 : decode cL_law 353 = .ok (.iconst 1, 1) := by decide +kernel
theorem dL_law_354 : decode cL_law 354 = .ok (.iadd, 1) := by decide +kernel
theorem dL_law_355 : decode cL_law 355 = .ok (.iaload, 1) := by decide +kernel
theorem dL_law_356 : decode cL_law 356 = .ok (.invokevirtual 45, 3) := by decide +kernel
theorem dL_law_359 : decode cL_law 359 = .ok (.aload_n 2, 1) := by decide +kernel
theorem dL_law_360 : decode cL_law 360 = .ok (.aload_n 0, 1) := by decide +kernel
theorem dL_law_361 : decode cL_law 361 = .ok (.iload 4, 2) := by decide +kernel
theorem dL_law_363 : decode cL_law 363 = .ok (.iconst 1, 1) := by decide +kernel
theorem dL_law_364 : decode cL_law 364 = .ok (.iadd, 1) := by decide +kernel
theorem dL_law_365 : decode cL_law 365 = .ok (.iaload, 1) := by decide +kernel
theorem dL_law_366 : decode cL_law 366 = .ok (.invokevirtual 48, 3) := by decide +kernel
theorem dL_law_369 : decode cL_law 369 = .ok (.if_icmp .eq 1164, 3) := by decide +kernel
theorem dL_law_430 : decode cL_law 430 = .ok (.aload_n 1, 1) := by decide +kernel
theorem dL_law_431 : decode cL_law 431 = .ok (.aload_n 0, 1) := by decide +kernel
theorem dL_law_432 : decode cL_law 432 = .ok (.iload 4, 2) := by decide +kernel
theorem dL_law_434 : decode cL_law 434 = .ok (.iconst 1, 1) := by decide +kernel
theorem dL_law_435 : decode cL_law 435 = .ok (.iadd, 1) := by decide +kernel
theorem dL_law_436 : decode cL_law 436 = .ok (.iaload, 1) := by decide +kernel
theorem dL_law_437 : decode cL_law 437 = .ok (.invokevirtual 58, 3) := by decide +kernel
theorem dL_law_440 : decode cL_law 440 = .ok (.aload_n 2, 1) := by decide +kernel
theorem dL_law_441 : decode cL_law 441 = .ok (.aload_n 0, 1) := by decide +kernel
theorem dL_law_442 : decode cL_law 442 = .ok (.iload 4, 2) := by decide +kernel
theorem dL_law_444 : decode cL_law 444 = .ok (.iconst 1, 1) := by decide +kernel
theorem dL_law_445 : decode cL_law 445 = .ok (.iadd, 1) := by decide +kernel
theorem dL_law_446 : decode cL_law 446 = .ok (.iaload, 1) := by decide +kernel
theorem dL_law_447 : decode cL_law 447 = .ok (.invokevirtual 61, 3) := by decide +kernel
theorem dL_law_450 : decode cL_law 450 = .ok (.if_icmp .eq 1083, 3) := by decide +kernel
theorem dL_law_455 : decode cL_law 455 = .ok (.aload_n 1, 1) := by decide +kernel
theorem dL_law_456 : decode cL_law 456 = .ok (.aload_n 0, 1) := by decide +kernel
theorem dL_law_457 : decode cL_law 457 = .ok (.iload 4, 2) := by decide +kernel
theorem dL_law_459 : decode cL_law 459 = .ok (.iconst 1, 1) := by decide +kernel
theorem dL_law_460 : decode cL_law 460 = .ok (.iadd, 1) := by decide +kernel
theorem dL_law_461 : decode cL_law 461 = .ok (.iaload, 1) := by decide +kernel
theorem dL_law_462 : decode cL_law 462 = .ok (.aload_n 0, 1) := by decide +kernel
theorem dL_law_463 : decode cL_law 463 = .ok (.iload 4, 2) := by decide +kernel
theorem dL_law_465 : decode cL_law 465 = .ok (.iconst 2, 1) := by decide +kernel
theorem dL_law_466 : decode cL_law 466 = .ok (.iadd, 1) := by decide +kernel
theorem dL_law_467 : decode cL_law 467 = .ok (.iaload, 1) := by decide +kernel
theorem dL_law_468 : decode cL_law 468 = .ok (.invokevirtual 62, 3) := by decide +kernel
theorem dL_law_471 : decode cL_law 471 = .ok (.aload_n 2, 1) := by decide +kernel
theorem dL_law_472 : decode cL_law 472 = .ok (.aload_n 0, 1) := by decide +kernel
theorem dL_law_473 : decode cL_law 473 = .ok (.iload 4, 2) := by decide +kernel
theorem dL_law_475 : decode cL_law 475 = .ok (.iconst 1, 1) := by decide +kernel
theorem dL_law_476 : decode cL_law 476 = .ok (.iadd, 1) := by decide +kernel
theorem dL_law_477 : decode cL_law 477 = .ok (.iaload, 1) := by decide +kernel
theorem dL_law_478 : decode cL_law 478 = .ok (.aload_n 0, 1) := by decide +kernel
theorem dL_law_479 : decode cL_law 479 = .ok (.iload 4, 2) := by decide +kernel
theorem dL_law_481 : decode cL_law 481 = .ok (.iconst 2, 1) := by decide +kernel
theorem dL_law_482 : decode cL_law 482 = .ok (.iadd, 1) := by decide +kernel
theorem dL_law_483 : decode cL_law 483 = .ok (.iaload, 1) := by decide +kernel
theorem dL_law_484 : decode cL_law 484 = .ok (.invokevirtual 66, 3) := by decide +kernel
theorem dL_law_487 : decode cL_law 487 = .ok (.if_icmp .eq 1046, 3) := by decide +kernel
theorem dL_law_492 : decode cL_law 492 = .ok (.aload_n 1, 1) := by decide +kernel
theorem dL_law_493 : decode cL_law 493 = .ok (.aload_n 0, 1) := by decide +kernel
theorem dL_law_494 : decode cL_law 494 = .ok (.iload 4, 2) := by decide +kernel
theorem dL_law_496 : decode cL_law 496 = .ok (.iconst 1, 1) := by decide +kernel
theorem dL_law_497 : decode cL_law 497 = .ok (.iadd, 1) := by decide +kernel
theorem dL_law_498 : decode cL_law 498 = .ok (.iaload, 1) := by decide +kernel
theorem dL_law_499 : decode cL_law 499 = .ok (.invokevirtual 67, 3) := by decide +kernel
theorem dL_law_502 : decode cL_law 502 = .ok (.aload_n 2, 1) := by decide +kernel
theorem dL_law_503 : decode cL_law 503 = .ok (.aload_n 0, 1) := by decide +kernel
theorem dL_law_504 : decode cL_law 504 = .ok (.iload 4, 2) := by decide +kernel
theorem dL_law_506 : decode cL_law 506 = .ok (.iconst 1, 1) := by decide +kernel
theorem dL_law_507 : decode cL_law 507 = .ok (.iadd, 1) := by decide +kernel
theorem dL_law_508 : decode cL_law 508 = .ok (.iaload, 1) := by decide +kernel
theorem dL_law_509 : decode cL_law 509 = .ok (.invokevirtual 70, 3) := by decide +kernel
theorem dL_law_512 : decode cL_law 512 = .ok (.if_icmp .eq 1021, 3) := by decide +kernel
theorem dL_law_517 : decode cL_law 517 = .ok (.aload_n 1, 1) := by decide +kernel
theorem dL_law_518 : decode cL_law 518 = .ok (.aload_n 0, 1) := by decide +kernel
theorem dL_law_519 : decode cL_law 519 = .ok (.iload 4, 2) := by decide +kernel
theorem dL_law_521 : decode cL_law 521 = .ok (.iconst 1, 1) := by decide +kernel
theorem dL_law_522 : decode cL_law 522 = .ok (.iadd, 1) := by decide +kernel
theorem dL_law_523 : decode cL_law 523 = .ok (.iaload, 1) := by decide +kernel
theorem dL_law_524 : decode cL_law 524 = .ok (.aload_n 0, 1) := by decide +kernel
theorem dL_law_525 : decode cL_law 525 = .ok (.iload 4, 2) := by decide +kernel
theorem dL_law_527 : decode cL_law 527 = .ok (.iconst 2, 1) := by decide +kernel
theorem dL_law_528 : decode cL_law 528 = .ok (.iadd, 1) := by decide +kernel
theorem dL_law_529 : decode cL_law 529 = .ok (.iaload, 1) := by decide +kernel
theorem dL_law_530 : decode cL_law 530 = .ok (.invokevirtual 71, 3) := by decide +kernel
theorem dL_law_533 : decode cL_law 533 = .ok (.aload_n 2, 1) := by decide +kernel
theorem dL_law_534 : decode cL_law 534 = .ok (.aload_n 0, 1) := by decide +kernel
theorem dL_law_535 : decode cL_law 535 = .ok (.iload 4, 2) := by decide +kernel
theorem dL_law_537 : decode cL_law 537 = .ok (.iconst 1, 1) := by decide +kernel
theorem dL_law_538 : decode cL_law 538 = .ok (.iadd, 1) := by decide +kernel
theorem dL_law_539 : decode cL_law 539 = .ok (.iaload, 1) := by decide +kernel
theorem dL_law_540 : decode cL_law 540 = .ok (.aload_n 0, 1) := by decide +kernel
theorem dL_law_541 : decode cL_law 541 = .ok (.iload 4, 2) := by decide +kernel
theorem dL_law_543 : decode cL_law 543 = .ok (.iconst 2, 1) := by decide +kernel
theorem dL_law_544 : decode cL_law 544 = .ok (.iadd, 1) := by decide +kernel
theorem dL_law_545 : decode cL_law 545 = .ok (.iaload, 1) := by decide +kernel
theorem dL_law_546 : decode cL_law 546 = .ok (.invokevirtual 74, 3) := by decide +kernel
theorem dL_law_549 : decode cL_law 549 = .ok (.if_icmp .eq 984, 3) := by decide +kernel
theorem dL_law_554 : decode cL_law 554 = .ok (.aload_n 1, 1) := by decide +kernel
theorem dL_law_555 : decode cL_law 555 = .ok (.aload_n 0, 1) := by decide +kernel
theorem dL_law_556 : decode cL_law 556 = .ok (.iload 4, 2) := by decide +kernel
theorem dL_law_558 : decode cL_law 558 = .ok (.iconst 1, 1) := by decide +kernel
theorem dL_law_559 : decode cL_law 559 = .ok (.iadd, 1) := by decide +kernel
theorem dL_law_560 : decode cL_law 560 = .ok (.iaload, 1) := by decide +kernel
theorem dL_law_561 : decode cL_law 561 = .ok (.aload_n 0, 1) := by decide +kernel
theorem dL_law_562 : decode cL_law 562 = .ok (.iload 4, 2) := by decide +kernel
theorem dL_law_564 : decode cL_law 564 = .ok (.iconst 2, 1) := by decide +kernel
theorem dL_law_565 : decode cL_law 565 = .ok (.iadd, 1) := by decide +kernel
theorem dL_law_566 : decode cL_law 566 = .ok (.iaload, 1) := by decide +kernel
theorem dL_law_567 : decode cL_law 567 = .ok (.invokevirtual 75, 3) := by decide +kernel
theorem dL_law_570 : decode cL_law 570 = .ok (.aload_n 2, 1) := by decide +kernel
theorem dL_law_571 : decode cL_law 571 = .ok (.aload_n 0, 1) := by decide +kernel
theorem dL_law_572 : decode cL_law 572 = .ok (.iload 4, 2) := by decide +kernel
theorem dL_law_574 : decode cL_law 574 = .ok (.iconst 1, 1) := by decide +kernel
theorem dL_law_575 : decode cL_law 575 = .ok (.iadd, 1) := by decide +kernel
theorem dL_law_576 : decode cL_law 576 = .ok (.iaload, 1) := by decide +kernel
theorem dL_law_577 : decode cL_law 577 = .ok (.aload_n 0, 1) := by decide +kernel
theorem dL_law_578 : decode cL_law 578 = .ok (.iload 4, 2) := by decide +kernel
theorem dL_law_580 : decode cL_law 580 = .ok (.iconst 2, 1) := by decide +kernel
theorem dL_law_581 : decode cL_law 581 = .ok (.iadd, 1) := by decide +kernel
theorem dL_law_582 : decode cL_law 582 = .ok (.iaload, 1) := by decide +kernel
theorem dL_law_583 : decode cL_law 583 = .ok (.invokevirtual 78, 3) := by decide +kernel
theorem dL_law_586 : decode cL_law 586 = .ok (.if_icmp .eq 947, 3) := by decide +kernel
theorem dL_law_591 : decode cL_law 591 = .ok (.aload_n 1, 1) := by decide +kernel
theorem dL_law_592 : decode cL_law 592 = .ok (.invokevirtual 79, 3) := by decide +kernel
theorem dL_law_595 : decode cL_law 595 = .ok (.aload_n 2, 1) := by decide +kernel
theorem dL_law_596 : decode cL_law 596 = .ok (.invokevirtual 82, 3) := by decide +kernel
theorem dL_law_599 : decode cL_law 599 = .ok (.if_icmp .eq 934, 3) := by decide +kernel
theorem dL_law_604 : decode cL_law 604 = .ok (.aload_n 1, 1) := by decide +kernel
theorem dL_law_605 : decode cL_law 605 = .ok (.aload_n 0, 1) := by decide +kernel
theorem dL_law_606 : decode cL_law 606 = .ok (.iload 4, 2) := by decide +kernel
theorem dL_law_608 : decode cL_law 608 = .ok (.iconst 1, 1) := by decide +kernel
theorem dL_law_609 : decode cL_law 609 = .ok (.iadd, 1) := by decide +kernel
theorem dL_law_610 : decode cL_law 610 = .ok (.iaload, 1) := by decide +kernel
theorem dL_law_611 : decode cL_law 611 = .ok (.invokevirtual 83, 3) := by decide +kernel
theorem dL_law_614 : decode cL_law 614 = .ok (.aload_n 2, 1) := by decide +kernel
theorem dL_law_615 : decode cL_law 615 = .ok (.aload_n 0, 1) := by decide +kernel
theorem dL_law_616 : decode cL_law 616 = .ok (.iload 4, 2) := by decide +kernel
theorem dL_law_618 : decode cL_law 618 = .ok (.iconst 1, 1) := by decide +kernel
theorem dL_law_619 : decode cL_law 619 = .ok (.iadd, 1) := by decide +kernel
theorem dL_law_620 : decode cL_law 620 = .ok (.iaload, 1) := by decide +kernel
theorem dL_law_621 : decode cL_law 621 = .ok (.invokevirtual 86, 3) := by decide +kernel
theorem dL_law_624 : decode cL_law 624 = .ok (.if_icmp .eq 909, 3) := by decide +kernel
theorem dL_law_629 : decode cL_law 629 = .ok (.aload_n 1, 1) := by decide +kernel
theorem dL_law_630 : decode cL_law 630 = .ok (.aload_n 0, 1) := by decide +kernel
theorem dL_law_631 : decode cL_law 631 = .ok (.iload 4, 2) := by decide +kernel
theorem dL_law_633 : decode cL_law 633 = .ok (.iconst 1, 1) := by decide +kernel
theorem dL_law_634 : decode cL_law 634 = .ok (.iadd, 1) := by decide +kernel
theorem dL_law_635 : decode cL_law 635 = .ok (.iaload, 1) := by decide +kernel
theorem dL_law_636 : decode cL_law 636 = .ok (.invokevirtual 87, 3) := by decide +kernel
theorem dL_law_639 : decode cL_law 639 = .ok (.aload_n 2, 1) := by decide +kernel
theorem dL_law_640 : decode cL_law 640 = .ok (.aload_n 0, 1) := by decide +kernel
theorem dL_law_641 : decode cL_law 641 = .ok (.iload 4, 2) := by decide +kernel
theorem dL_law_643 : decode cL_law 643 = .ok (.iconst 1, 1) := by decide +kernel
theorem dL_law_644 : decode cL_law 644 = .ok (.iadd, 1) := by decide +kernel
theorem dL_law_645 : decode cL_law 645 = .ok (.iaload, 1) := by decide +kernel
theorem dL_law_646 : decode cL_law 646 = .ok (.invokevirtual 90, 3) := by decide +kernel
theorem dL_law_649 : decode cL_law 649 = .ok (.if_icmp .eq 884, 3) := by decide +kernel
theorem dL_law_654 : decode cL_law 654 = .ok (.aload_n 1, 1) := by decide +kernel
theorem dL_law_655 : decode cL_law 655 = .ok (.aload_n 0, 1) := by decide +kernel
theorem dL_law_656 : decode cL_law 656 = .ok (.iload 4, 2) := by decide +kernel
theorem dL_law_658 : decode cL_law 658 = .ok (.iconst 1, 1) := by decide +kernel
theorem dL_law_659 : decode cL_law 659 = .ok (.iadd, 1) := by decide +kernel
theorem dL_law_660 : decode cL_law 660 = .ok (.iaload, 1) := by decide +kernel
theorem dL_law_661 : decode cL_law 661 = .ok (.invokevirtual 91, 3) := by decide +kernel
theorem dL_law_664 : decode cL_law 664 = .ok (.aload_n 2, 1) := by decide +kernel
theorem dL_law_665 : decode cL_law 665 = .ok (.aload_n 0, 1) := by decide +kernel
theorem dL_law_666 : decode cL_law 666 = .ok (.iload 4, 2) := by decide +kernel
theorem dL_law_668 : decode cL_law 668 = .ok (.iconst 1, 1) := by decide +kernel
theorem dL_law_669 : decode cL_law 669 = .ok (.iadd, 1) := by decide +kernel
theorem dL_law_670 : decode cL_law 670 = .ok (.iaload, 1) := by decide +kernel
theorem dL_law_671 : decode cL_law 671 = .ok (.invokevirtual 94, 3) := by decide +kernel
theorem dL_law_674 : decode cL_law 674 = .ok (.if_icmp .eq 859, 3) := by decide +kernel
theorem dL_law_679 : decode cL_law 679 = .ok (.aload_n 1, 1) := by decide +kernel
theorem dL_law_680 : decode cL_law 680 = .ok (.aload_n 0, 1) := by decide +kernel
theorem dL_law_681 : decode cL_law 681 = .ok (.iload 4, 2) := by decide +kernel
theorem dL_law_683 : decode cL_law 683 = .ok (.iconst 1, 1) := by decide +kernel
theorem dL_law_684 : decode cL_law 684 = .ok (.iadd, 1) := by decide +kernel
theorem dL_law_685 : decode cL_law 685 = .ok (.iaload, 1) := by decide +kernel
theorem dL_law_686 : decode cL_law 686 = .ok (.aload_n 0, 1) := by decide +kernel
theorem dL_law_687 : decode cL_law 687 = .ok (.iload 4, 2) := by decide +kernel
theorem dL_law_689 : decode cL_law 689 = .ok (.iconst 2, 1) := by decide +kernel
theorem dL_law_690 : decode cL_law 690 = .ok (.iadd, 1) := by decide +kernel
theorem dL_law_691 : decode cL_law 691 = .ok (.iaload, 1) := by decide +kernel
theorem dL_law_692 : decode cL_law 692 = .ok (.invokevirtual 95, 3) := by decide +kernel
theorem dL_law_695 : decode cL_law 695 = .ok (.aload_n 2, 1) := by decide +kernel
theorem dL_law_696 : decode cL_law 696 = .ok (.aload_n 0, 1) := by decide +kernel
theorem dL_law_697 : decode cL_law 697 = .ok (.iload 4, 2) := by decide +kernel
theorem dL_law_699 : decode cL_law 699 = .ok (.iconst 1, 1) := by decide +kernel
theorem dL_law_700 : decode cL_law 700 = .ok (.iadd, 1) := by decide +kernel
theorem dL_law_701 : decode cL_law 701 = .ok (.iaload, 1) := by decide +kernel
theorem dL_law_702 : decode cL_law 702 = .ok (.aload_n 0, 1) := by decide +kernel
theorem dL_law_703 : decode cL_law 703 = .ok (.iload 4, 2) := by decide +kernel
theorem dL_law_705 : decode cL_law 705 = .ok (.iconst 2, 1) := by decide +kernel
theorem dL_law_706 : decode cL_law 706 = .ok (.iadd, 1) := by decide +kernel
theorem dL_law_707 : decode cL_law 707 = .ok (.iaload, 1) := by decide +kernel
theorem dL_law_708 : decode cL_law 708 = .ok (.invokevirtual 98, 3) := by decide +kernel
theorem dL_law_711 : decode cL_law 711 = .ok (.if_icmp .eq 822, 3) := by decide +kernel
theorem dL_law_716 : decode cL_law 716 = .ok (.aload_n 1, 1) := by decide +kernel
theorem dL_law_717 : decode cL_law 717 = .ok (.aload_n 0, 1) := by decide +kernel
theorem dL_law_718 : decode cL_law 718 = .ok (.iload 4, 2) := by decide +kernel
theorem dL_law_720 : decode cL_law 720 = .ok (.iconst 1, 1) := by decide +kernel
theorem dL_law_721 : decode cL_law 721 = .ok (.iadd, 1) := by decide +kernel
theorem dL_law_722 : decode cL_law 722 = .ok (.iaload, 1) := by decide +kernel
theorem dL_law_723 : decode cL_law 723 = .ok (.invokevirtual 99, 3) := by decide +kernel
theorem dL_law_726 : decode cL_law 726 = .ok (.aload_n 2, 1) := by decide +kernel
theorem dL_law_727 : decode cL_law 727 = .ok (.aload_n 0, 1) := by decide +kernel
theorem dL_law_728 : decode cL_law 728 = .ok (.iload 4, 2) := by decide +kernel
theorem dL_law_730 : decode cL_law 730 = .ok (.iconst 1, 1) := by decide +kernel
theorem dL_law_731 : decode cL_law 731 = .ok (.iadd, 1) := by decide +kernel
theorem dL_law_732 : decode cL_law 732 = .ok (.iaload, 1) := by decide +kernel
theorem dL_law_733 : decode cL_law 733 = .ok (.invokevirtual 102, 3) := by decide +kernel
theorem dL_law_736 : decode cL_law 736 = .ok (.if_icmp .eq 797, 3) := by decide +kernel
theorem dL_law_741 : decode cL_law 741 = .ok (.aload_n 1, 1) := by decide +kernel
theorem dL_law_742 : decode cL_law 742 = .ok (.aload_n 0, 1) := by decide +kernel
theorem dL_law_743 : decode cL_law 743 = .ok (.iload 4, 2) := by decide +kernel
theorem dL_law_745 : decode cL_law 745 = .ok (.iconst 1, 1) := by decide +kernel
theorem dL_law_746 : decode cL_law 746 = .ok (.iadd, 1) := by decide +kernel
theorem dL_law_747 : decode cL_law 747 = .ok (.iaload, 1) := by decide +kernel
theorem dL_law_748 : decode cL_law 748 = .ok (.aload_n 0, 1) := by decide +kernel
theorem dL_law_749 : decode cL_law 749 = .ok (.iload 4, 2) := by decide +kernel
theorem dL_law_751 : decode cL_law 751 = .ok (.iconst 2, 1) := by decide +kernel
theorem dL_law_752 : decode cL_law 752 = .ok (.iadd, 1) := by decide +kernel
theorem dL_law_753 : decode cL_law 753 = .ok (.iaload, 1) := by decide +kernel
theorem dL_law_754 : decode cL_law 754 = .ok (.invokevirtual 103, 3) := by decide +kernel
theorem dL_law_757 : decode cL_law 757 = .ok (.aload_n 2, 1) := by decide +kernel
theorem dL_law_758 : decode cL_law 758 = .ok (.aload_n 0, 1) := by decide +kernel
theorem dL_law_759 : decode cL_law 759 = .ok (.iload 4, 2) := by decide +kernel
theorem dL_law_761 : decode cL_law 761 = .ok (.iconst 1, 1) := by decide +kernel
theorem dL_law_762 : decode cL_law 762 = .ok (.iadd, 1) := by decide +kernel
theorem dL_law_763 : decode cL_law 763 = .ok (.iaload, 1) := by decide +kernel
theorem dL_law_764 : decode cL_law 764 = .ok (.aload_n 0, 1) := by decide +kernel
theorem dL_law_765 : decode cL_law 765 = .ok (.iload 4, 2) := by decide +kernel
theorem dL_law_767 : decode cL_law 767 = .ok (.iconst 2, 1) := by decide +kernel
theorem dL_law_768 : decode cL_law 768 = .ok (.iadd, 1) := by decide +kernel
theorem dL_law_769 : decode cL_law 769 = .ok (.iaload, 1) := by decide +kernel
theorem dL_law_770 : decode cL_law 770 = .ok (.invokevirtual 106, 3) := by decide +kernel
theorem dL_law_773 : decode cL_law 773 = .ok (.if_icmp .eq 760, 3) := by decide +kernel
theorem dL_law_778 : decode cL_law 778 = .ok (.aload_n 1, 1) := by decide +kernel
theorem dL_law_779 : decode cL_law 779 = .ok (.aload_n 0, 1) := by decide +kernel
theorem dL_law_780 : decode cL_law 780 = .ok (.iload 4, 2) := by decide +kernel
theorem dL_law_782 : decode cL_law 782 = .ok (.iconst 1, 1) := by decide +kernel
theorem dL_law_783 : decode cL_law 783 = .ok (.iadd, 1) := by decide +kernel
theorem dL_law_784 : decode cL_law 784 = .ok (.iaload, 1) := by decide +kernel
theorem dL_law_785 : decode cL_law 785 = .ok (.aload_n 0, 1) := by decide +kernel
theorem dL_law_786 : decode cL_law 786 = .ok (.iload 4, 2) := by decide +kernel
theorem dL_law_788 : decode cL_law 788 = .ok (.iconst 2, 1) := by decide +kernel
theorem dL_law_789 : decode cL_law 789 = .ok (.iadd, 1) := by decide +kernel
theorem dL_law_790 : decode cL_law 790 = .ok (.iaload, 1) := by decide +kernel
theorem dL_law_791 : decode cL_law 791 = .ok (.invokevirtual 107, 3) := by decide +kernel
theorem dL_law_794 : decode cL_law 794 = .ok (.aload_n 2, 1) := by decide +kernel
theorem dL_law_795 : decode cL_law 795 = .ok (.aload_n 0, 1) := by decide +kernel
theorem dL_law_796 : decode cL_law 796 = .ok (.iload 4, 2) := by decide +kernel
theorem dL_law_798 : decode cL_law 798 = .ok (.iconst 1, 1) := by decide +kernel
theorem dL_law_799 : decode cL_law 799 = .ok (.iadd, 1) := by decide +kernel
theorem dL_law_800 : decode cL_law 800 = .ok (.iaload, 1) := by decide +kernel
theorem dL_law_801 : decode cL_law 801 = .ok (.aload_n 0, 1) := by decide +kernel
theorem dL_law_802 : decode cL_law 802 = .ok (.iload 4, 2) := by decide +kernel
theorem dL_law_804 : decode cL_law 804 = .ok (.iconst 2, 1) := by decide +kernel
theorem dL_law_805 : decode cL_law 805 = .ok (.iadd, 1) := by decide +kernel
theorem dL_law_806 : decode cL_law 806 = .ok (.iaload, 1) := by decide +kernel
theorem dL_law_807 : decode cL_law 807 = .ok (.invokevirtual 110, 3) := by decide +kernel
theorem dL_law_810 : decode cL_law 810 = .ok (.if_icmp .eq 723, 3) := by decide +kernel
theorem dL_law_815 : decode cL_law 815 = .ok (.aload_n 1, 1) := by decide +kernel
theorem dL_law_816 : decode cL_law 816 = .ok (.invokevirtual 111, 3) := by decide +kernel
theorem dL_law_819 : decode cL_law 819 = .ok (.aload_n 2, 1) := by decide +kernel
theorem dL_law_820 : decode cL_law 820 = .ok (.invokevirtual 114, 3) := by decide +kernel
theorem dL_law_823 : decode cL_law 823 = .ok (.if_icmp .eq 710, 3) := by decide +kernel
theorem dL_law_828 : decode cL_law 828 = .ok (.aload_n 1, 1) := by decide +kernel
theorem dL_law_829 : decode cL_law 829 = .ok (.aload_n 0, 1) := by decide +kernel
theorem dL_law_830 : decode cL_law 830 = .ok (.iload 4, 2) := by decide +kernel
theorem dL_law_832 : decode cL_law 832 = .ok (.iconst 1, 1) := by decide +kernel
theorem dL_law_833 : decode cL_law 833 = .ok (.iadd, 1) := by decide +kernel
theorem dL_law_834 : decode cL_law 834 = .ok (.iaload, 1) := by decide +kernel
theorem dL_law_835 : decode cL_law 835 = .ok (.aload_n 0, 1) := by decide +kernel
theorem dL_law_836 : decode cL_law 836 = .ok (.iload 4, 2) := by decide +kernel
theorem dL_law_838 : decode cL_law 838 = .ok (.iconst 2, 1) := by decide +kernel
theorem dL_law_839 : decode cL_law 839 = .ok (.iadd, 1) := by decide +kernel
theorem dL_law_840 : decode cL_law 840 = .ok (.iaload, 1) := by decide +kernel
theorem dL_law_841 : decode cL_law 841 = .ok (.invokevirtual 115, 3) := by decide +kernel
theorem dL_law_844 : decode cL_law 844 = .ok (.aload_n 2, 1) := by decide +kernel
theorem dL_law_845 : decode cL_law 845 = .ok (.aload_n 0, 1) := by decide +kernel
theorem dL_law_846 : decode cL_law 846 = .ok (.iload 4, 2) := by decide +kernel
theorem dL_law_848 : decode cL_law 848 = .ok (.iconst 1, 1) := by decide +kernel
theorem dL_law_849 : decode cL_law 849 = .ok (.iadd, 1) := by decide +kernel
theorem dL_law_850 : decode cL_law 850 = .ok (.iaload, 1) := by decide +kernel
theorem dL_law_851 : decode cL_law 851 = .ok (.aload_n 0, 1) := by decide +kernel
theorem dL_law_852 : decode cL_law 852 = .ok (.iload 4, 2) := by decide +kernel
theorem dL_law_854 : decode cL_law 854 = .ok (.iconst 2, 1) := by decide +kernel
theorem dL_law_855 : decode cL_law 855 = .ok (.iadd, 1) := by decide +kernel
theorem dL_law_856 : decode cL_law 856 = .ok (.iaload, 1) := by decide +kernel
theorem dL_law_857 : decode cL_law 857 = .ok (.invokevirtual 118, 3) := by decide +kernel
theorem dL_law_860 : decode cL_law 860 = .ok (.if_icmp .eq 673, 3) := by decide +kernel
theorem dL_law_865 : decode cL_law 865 = .ok (.aload_n 1, 1) := by decide +kernel
theorem dL_law_866 : decode cL_law 866 = .ok (.aload_n 0, 1) := by decide +kernel
theorem dL_law_867 : decode cL_law 867 = .ok (.iload 4, 2) := by decide +kernel
theorem dL_law_869 : decode cL_law 869 = .ok (.iconst 1, 1) := by decide +kernel
theorem dL_law_870 : decode cL_law 870 = .ok (.iadd, 1) := by decide +kernel
theorem dL_law_871 : decode cL_law 871 = .ok (.iaload, 1) := by decide +kernel
theorem dL_law_872 : decode cL_law 872 = .ok (.invokevirtual 119, 3) := by decide +kernel
theorem dL_law_875 : decode cL_law 875 = .ok (.aload_n 2, 1) := by decide +kernel
theorem dL_law_876 : decode cL_law 876 = .ok (.aload_n 0, 1) := by decide +kernel
theorem dL_law_877 : decode cL_law 877 = .ok (.iload 4, 2) := by decide +kernel
theorem dL_law_879 : decode cL_law 879 = .ok (.iconst 1, 1) := by decide +kernel
theorem dL_law_880 : decode cL_law 880 = .ok (.iadd, 1) := by decide +kernel
theorem dL_law_881 : decode cL_law 881 = .ok (.iaload, 1) := by decide +kernel
theorem dL_law_882 : decode cL_law 882 = .ok (.invokevirtual 122, 3) := by decide +kernel
theorem dL_law_885 : decode cL_law 885 = .ok (.if_icmp .eq 648, 3) := by decide +kernel
theorem dL_law_890 : decode cL_law 890 = .ok (.aload_n 1, 1) := by decide +kernel
theorem dL_law_891 : decode cL_law 891 = .ok (.invokevirtual 123, 3) := by decide +kernel
theorem dL_law_894 : decode cL_law 894 = .ok (.aload_n 2, 1) := by decide +kernel
theorem dL_law_895 : decode cL_law 895 = .ok (.invokevirtual 126, 3) := by decide +kernel
theorem dL_law_898 : decode cL_law 898 = .ok (.if_icmp .eq 635, 3) := by decide +kernel
theorem dL_law_903 : decode cL_law 903 = .ok (.aload_n 1, 1) := by decide +kernel
theorem dL_law_904 : decode cL_law 904 = .ok (.invokevirtual 127, 3) := by decide +kernel
theorem dL_law_907 : decode cL_law 907 = .ok (.aload_n 2, 1) := by decide +kernel
theorem dL_law_908 : decode cL_law 908 = .ok (.invokevirtual 130, 3) := by decide +kernel
theorem dL_law_911 : decode cL_law 911 = .ok (.if_icmp .eq 622, 3) := by decide +kernel
theorem dL_law_916 : decode cL_law 916 = .ok (.aload_n 1, 1) := by decide +kernel
theorem dL_law_917 : decode cL_law 917 = .ok (.invokevirtual 131, 3) := by decide +kernel
theorem dL_law_920 : decode cL_law 920 = .ok (.aload_n 2, 1) := by decide +kernel
theorem dL_law_921 : decode cL_law 921 = .ok (.invokevirtual 134, 3) := by decide +kernel
theorem dL_law_924 : decode cL_law 924 = .ok (.if_icmp .eq 609, 3) := by decide +kernel
theorem dL_law_929 : decode cL_law 929 = .ok (.aload_n 1, 1) := by decide +kernel
theorem dL_law_930 : decode cL_law 930 = .ok (.invokevirtual 135, 3) := by decide +kernel
theorem dL_law_933 : decode cL_law 933 = .ok (.aload_n 2, 1) := by decide +kernel
theorem dL_law_934 : decode cL_law 934 = .ok (.invokevirtual 138, 3) := by decide +kernel
theorem dL_law_937 : decode cL_law 937 = .ok (.if_icmp .eq 596, 3) := by decide +kernel
theorem dL_law_942 : decode cL_law 942 = .ok (.aload_n 1, 1) := by decide +kernel
theorem dL_law_943 : decode cL_law 943 = .ok (.invokevirtual 139, 3) := by decide +kernel
theorem dL_law_946 : decode cL_law 946 = .ok (.aload_n 2, 1) := by decide +kernel
theorem dL_law_947 : decode cL_law 947 = .ok (.invokevirtual 142, 3) := by decide +kernel
theorem dL_law_950 : decode cL_law 950 = .ok (.if_icmp .eq 583, 3) := by decide +kernel
theorem dL_law_955 : decode cL_law 955 = .ok (.aload_n 1, 1) := by decide +kernel
theorem dL_law_956 : decode cL_law 956 = .ok (.aload_n 0, 1) := by decide +kernel
theorem dL_law_957 : decode cL_law 957 = .ok (.iload 4, 2) := by decide +kernel
theorem dL_law_959 : decode cL_law 959 = .ok (.iconst 1, 1) := by decide +kernel
theorem dL_law_960 : decode cL_law 960 = .ok (.iadd, 1) := by decide +kernel
theorem dL_law_961 : decode cL_law 961 = .ok (.iaload, 1) := by decide +kernel
theorem dL_law_962 : decode cL_law 962 = .ok (.aload_n 0, 1) := by decide +kernel
theorem dL_law_963 : decode cL_law 963 = .ok (.iload 4, 2) := by decide +kernel
theorem dL_law_965 : decode cL_law 965 = .ok (.iconst 2, 1) := by decide +kernel
theorem dL_law_966 : decode cL_law 966 = .ok (.iadd, 1) := by decide +kernel
theorem dL_law_967 : decode cL_law 967 = .ok (.iaload, 1) := by decide +kernel
theorem dL_law_968 : decode cL_law 968 = .ok (.invokevirtual 143, 3) := by decide +kernel
theorem dL_law_971 : decode cL_law 971 = .ok (.aload_n 2, 1) := by decide +kernel
theorem dL_law_972 : decode cL_law 972 = .ok (.aload_n 0, 1) := by decide +kernel
theorem dL_law_973 : decode cL_law 973 = .ok (.iload 4, 2) := by decide +kernel
theorem dL_law_975 : decode cL_law 975 = .ok (.iconst 1, 1) := by decide +kernel
theorem dL_law_976 : decode cL_law 976 = .ok (.iadd, 1) := by decide +kernel
theorem dL_law_977 : decode cL_law 977 = .ok (.iaload, 1) := by decide +kernel
theorem dL_law_978 : decode cL_law 978 = .ok (.aload_n 0, 1) := by decide +kernel
theorem dL_law_979 : decode cL_law 979 = .ok (.iload 4, 2) := by decide +kernel
theorem dL_law_981 : decode cL_law 981 = .ok (.iconst 2, 1) := by decide +kernel
theorem dL_law_982 : decode cL_law 982 = .ok (.iadd, 1) := by decide +kernel
theorem dL_law_983 : decode cL_law 983 = .ok (.iaload, 1) := by decide +kernel
theorem dL_law_984 : decode cL_law 984 = .ok (.invokevirtual 146, 3) := by decide +kernel
theorem dL_law_987 : decode cL_law 987 = .ok (.if_icmp .eq 546, 3) := by decide +kernel
theorem dL_law_992 : decode cL_law 992 = .ok (.aload_n 1, 1) := by decide +kernel
theorem dL_law_993 : decode cL_law 993 = .ok (.invokevirtual 147, 3) := by decide +kernel
theorem dL_law_996 : decode cL_law 996 = .ok (.aload_n 2, 1) := by decide +kernel
theorem dL_law_997 : decode cL_law 997 = .ok (.invokevirtual 150, 3) := by decide +kernel
theorem dL_law_1000 : decode cL_law 1000 = .ok (.if_icmp .eq 533, 3) := by decide +kernel
theorem dL_law_1005 : decode cL_law 1005 = .ok (.aload_n 1, 1) := by decide +kernel
theorem dL_law_1006 : decode cL_law 1006 = .ok (.invokevirtual 151, 3) := by decide +kernel
theorem dL_law_1009 : decode cL_law 1009 = .ok (.aload_n 2, 1) := by decide +kernel
theorem dL_law_1010 : decode cL_law 1010 = .ok (.invokevirtual 154, 3) := by decide +kernel
theorem dL_law_1013 : decode cL_law 1013 = .ok (.if_icmp .eq 520, 3) := by decide +kernel
theorem dL_law_1018 : decode cL_law 1018 = .ok (.aload_n 1, 1) := by decide +kernel
theorem dL_law_1019 : decode cL_law 1019 = .ok (.aload_n 0, 1) := by decide +kernel
theorem dL_law_1020 : decode cL_law 1020 = .ok (.iload 4, 2) := by decide +kernel
theorem dL_law_1022 : decode cL_law 1022 = .ok (.iconst 1, 1) := by decide +kernel
theorem dL_law_1023 : decode cL_law 1023 = .ok (.iadd, 1) := by decide +kernel
theorem dL_law_1024 : decode cL_law 1024 = .ok (.iaload, 1) := by decide +kernel
theorem dL_law_1025 : decode cL_law 1025 = .ok (.aload_n 0, 1) := by decide +kernel
theorem dL_law_1026 : decode cL_law 1026 = .ok (.iload 4, 2) := by decide +kernel
theorem dL_law_1028 : decode cL_law 1028 = .ok (.iconst 2, 1) := by decide +kernel
theorem dL_law_1029 : decode cL_law 1029 = .ok (.iadd, 1) := by decide +kernel
theorem dL_law_1030 : decode cL_law 1030 = .ok (.iaload, 1) := by decide +kernel
theorem dL_law_1031 : decode cL_law 1031 = .ok (.invokevirtual 155, 3) := by decide +kernel
theorem dL_law_1034 : decode cL_law 1034 = .ok (.aload_n 2, 1) := by decide +kernel
theorem dL_law_1035 : decode cL_law 1035 = .ok (.aload_n 0, 1) := by decide +kernel
theorem dL_law_1036 : decode cL_law 1036 = .ok (.iload 4, 2) := by decide +kernel
theorem dL_law_1038 : decode cL_law 1038 = .ok (.iconst 1, 1) := by decide +kernel
theorem dL_law_1039 : decode cL_law 1039 = .ok (.iadd, 1) := by decide +kernel
theorem dL_law_1040 : decode cL_law 1040 = .ok (.iaload, 1) := by decide +kernel
theorem dL_law_1041 : decode cL_law 1041 = .ok (.aload_n 0, 1) := by decide +kernel
theorem dL_law_1042 : decode cL_law 1042 = .ok (.iload 4, 2) := by decide +kernel
theorem dL_law_1044 : decode cL_law 1044 = .ok (.iconst 2, 1) := by decide +kernel
theorem dL_law_1045 : decode cL_law 1045 = .ok (.iadd, 1) := by decide +kernel
theorem dL_law_1046 : decode cL_law 1046 = .ok (.iaload, 1) := by decide +kernel
theorem dL_law_1047 : decode cL_law 1047 = .ok (.invokevirtual 158, 3) := by decide +kernel
theorem dL_law_1050 : decode cL_law 1050 = .ok (.if_icmp .eq 483, 3) := by decide +kernel
theorem dL_law_1055 : decode cL_law 1055 = .ok (.aload_n 1, 1) := by decide +kernel
theorem dL_law_1056 : decode cL_law 1056 = .ok (.aload_n 0, 1) := by decide +kernel
theorem dL_law_1057 : decode cL_law 1057 = .ok (.iload 4, 2) := by decide +kernel
theorem dL_law_1059 : decode cL_law 1059 = .ok (.iconst 1, 1) := by decide +kernel
theorem dL_law_1060 : decode cL_law 1060 = .ok (.iadd, 1) := by decide +kernel
theorem dL_law_1061 : decode cL_law 1061 = .ok (.iaload, 1) := by decide +kernel
theorem dL_law_1062 : decode cL_law 1062 = .ok (.aload_n 0, 1) := by decide +kernel
theorem dL_law_1063 : decode cL_law 1063 = .ok (.iload 4, 2) := by decide +kernel
theorem dL_law_1065 : decode cL_law 1065 = .ok (.iconst 2, 1) := by decide +kernel
theorem dL_law_1066 : decode cL_law 1066 = .ok (.iadd, 1) := by decide +kernel
theorem dL_law_1067 : decode cL_law 1067 = .ok (.iaload, 1) := by decide +kernel
theorem dL_law_1068 : decode cL_law 1068 = .ok (.aload_n 0, 1) := by decide +kernel
theorem dL_law_1069 : decode cL_law 1069 = .ok (.iload 4, 2) := by decide +kernel
theorem dL_law_1071 : decode cL_law 1071 = .ok (.iconst 3, 1) := by decide +kernel
theorem dL_law_1072 : decode cL_law 1072 = .ok (.iadd, 1) := by decide +kernel
theorem dL_law_1073 : decode cL_law 1073 = .ok (.iaload, 1) := by decide +kernel
theorem dL_law_1074 : decode cL_law 1074 = .ok (.aload_n 0, 1) := by decide +kernel
theorem dL_law_1075 : decode cL_law 1075 = .ok (.iload 4, 2) := by decide +kernel
theorem dL_law_1077 : decode cL_law 1077 = .ok (.iconst 4, 1) := by decide +kernel
theorem dL_law_1078 : decode cL_law 1078 = .ok (.iadd, 1) := by decide +kernel
theorem dL_law_1079 : decode cL_law 1079 = .ok (.iaload, 1) := by decide +kernel
theorem dL_law_1080 : decode cL_law 1080 = .ok (.invokevirtual 159, 3) := by decide +kernel
theorem dL_law_1083 : decode cL_law 1083 = .ok (.aload_n 2, 1) := by decide +kernel
theorem dL_law_1084 : decode cL_law 1084 = .ok (.aload_n 0, 1) := by decide +kernel
theorem dL_law_1085 : decode cL_law 1085 = .ok (.iload 4, 2) := by decide +kernel
theorem dL_law_1087 : decode cL_law 1087 = .ok (.iconst 1, 1) := by decide +kernel
theorem dL_law_1088 : decode cL_law 1088 = .ok (.iadd, 1) := by decide +kernel
theorem dL_law_1089 : decode cL_law 1089 = .ok (.iaload, 1) := by decide +kernel
theorem dL_law_1090 : decode cL_law 1090 = .ok (.aload_n 0, 1) := by decide +kernel
theorem dL_law_1091 : decode cL_law 1091 = .ok (.iload 4, 2) := by decide +kernel
theorem dL_law_1093 : decode cL_law 1093 = .ok (.iconst 2, 1) := by decide +kernel
theorem dL_law_1094 : decode cL_law 1094 = .ok (.iadd, 1) := by decide +kernel
theorem dL_law_1095 : decode cL_law 1095 = .ok (.iaload, 1) := by decide +kernel
theorem dL_law_1096 : decode cL_law 1096 = .ok (.aload_n 0, 1) := by decide +kernel
theorem dL_law_1097 : decode cL_law 1097 = .ok (.iload 4, 2) := by decide +kernel
theorem dL_law_1099 : decode cL_law 1099 = .ok (.iconst 3, 1) := by decide +kernel
theorem dL_law_1100 : decode cL_law 1100 = .ok (.iadd, 1) := by decide +kernel
theorem dL_law_1101 : decode cL_law 1101 = .ok (.iaload, 1) := by decide +kernel
theorem dL_law_1102 : decode cL_law 1102 = .ok (.aload_n 0, 1) := by decide +kernel
theorem dL_law_1103 : decode cL_law 1103 = .ok (.iload 4, 2) := by decide +kernel
theorem dL_law_1105 : decode cL_law 1105 = .ok (.iconst 4, 1) := by decide +kernel
theorem dL_law_1106 : decode cL_law 1106 = .ok (.iadd, 1) := by decide +kernel
theorem dL_law_1107 : decode cL_law 1107 = .ok (.iaload, 1) := by decide +kernel
theorem dL_law_1108 : decode cL_law 1108 = .ok (.invokevirtual 163, 3) := by decide +kernel
theorem dL_law_1111 : decode cL_law 1111 = .ok (.if_icmp .eq 422, 3) := by decide +kernel
theorem dL_law_1116 : decode cL_law 1116 = .ok (.aload_n 1, 1) := by decide +kernel
theorem dL_law_1117 : decode cL_law 1117 = .ok (.invokevirtual 164, 3) := by decide +kernel
theorem dL_law_1120 : decode cL_law 1120 = .ok (.aload_n 2, 1) := by decide +kernel
theorem dL_law_1121 : decode cL_law 1121 = .ok (.invokevirtual 167, 3) := by decide +kernel
theorem dL_law_1124 : decode cL_law 1124 = .ok (.if_icmp .eq 409, 3) := by decide +kernel
theorem dL_law_1129 : decode cL_law 1129 = .ok (.aload_n 1, 1) := by decide +kernel
theorem dL_law_1130 : decode cL_law 1130 = .ok (.aload_n 0, 1) := by decide +kernel
theorem dL_law_1131 : decode cL_law 1131 = .ok (.iload 4, 2) := by decide +kernel
theorem dL_law_1133 : decode cL_law 1133 = .ok (.iconst 1, 1) := by decide +kernel
theorem dL_law_1134 : decode cL_law 1134 = .ok (.iadd, 1) := by decide +kernel
theorem dL_law_1135 : decode cL_law 1135 = .ok (.iaload, 1) := by decide +kernel
theorem dL_law_1136 : decode cL_law 1136 = .ok (.aload_n 0, 1) := by decide +kernel
theorem dL_law_1137 : decode cL_law 1137 = .ok (.iload 4, 2) := by decide +kernel
theorem dL_law_1139 : decode cL_law 1139 = .ok (.iconst 2, 1) := by decide +kernel
theorem dL_law_1140 : decode cL_law 1140 = .ok (.iadd, 1) := by decide +kernel
theorem dL_law_1141 : decode cL_law 1141 = .ok (.iaload, 1) := by decide +kernel
theorem dL_law_1142 : decode cL_law 1142 = .ok (.aload_n 0, 1) := by decide +kernel
theorem dL_law_1143 : decode cL_law 1143 = .ok (.iload 4, 2) := by decide +kernel
theorem dL_law_1145 : decode cL_law 1145 = .ok (.iconst 3, 1) := by decide +kernel
theorem dL_law_1146 : decode cL_law 1146 = .ok (.iadd, 1) := by decide +kernel
theorem dL_law_1147 : decode cL_law 1147 = .ok (.iaload, 1) := by decide +kernel
theorem dL_law_1148 : decode cL_law 1148 = .ok (.invokevirtual 168, 3) := by decide +kernel
theorem dL_law_1151 : decode cL_law 1151 = .ok (.aload_n 2, 1) := by decide +kernel
theorem dL_law_1152 : decode cL_law 1152 = .ok (.aload_n 0, 1) := by decide +kernel
theorem dL_law_1153 : decode cL_law 1153 = .ok (.iload 4, 2) := by decide +kernel
theorem dL_law_1155 : decode cL_law 1155 = .ok (.iconst 1, 1) := by decide +kernel
theorem dL_law_1156 : decode cL_law 1156 = .ok (.iadd, 1) := by decide +kernel
theorem dL_law_1157 : decode cL_law 1157 = .ok (.iaload, 1) := by decide +kernel
theorem dL_law_1158 : decode cL_law 1158 = .ok (.aload_n 0, 1) := by decide +kernel
theorem dL_law_1159 : decode cL_law 1159 = .ok (.iload 4, 2) := by decide +kernel
theorem dL_law_1161 : decode cL_law 1161 = .ok (.iconst 2, 1) := by decide +kernel
theorem dL_law_1162 : decode cL_law 1162 = .ok (.iadd, 1) := by decide +kernel
theorem dL_law_1163 : decode cL_law 1163 = .ok (.iaload, 1) := by decide +kernel
theorem dL_law_1164 : decode cL_law 1164 = .ok (.aload_n 0, 1) := by decide +kernel
theorem dL_law_1165 : decode cL_law 1165 = .ok (.iload 4, 2) := by decide +kernel
theorem dL_law_1167 : decode cL_law 1167 = .ok (.iconst 3, 1) := by decide +kernel
theorem dL_law_1168 : decode cL_law 1168 = .ok (.iadd, 1) := by decide +kernel
theorem dL_law_1169 : decode cL_law 1169 = .ok (.iaload, 1) := by decide +kernel
theorem dL_law_1170 : decode cL_law 1170 = .ok (.invokevirtual 172, 3) := by decide +kernel
theorem dL_law_1173 : decode cL_law 1173 = .ok (.if_icmp .eq 360, 3) := by decide +kernel
theorem dL_law_1178 : decode cL_law 1178 = .ok (.aload_n 1, 1) := by decide +kernel
theorem dL_law_1179 : decode cL_law 1179 = .ok (.aload_n 0, 1) := by decide +kernel
theorem dL_law_1180 : decode cL_law 1180 = .ok (.iload 4, 2) := by decide +kernel
theorem dL_law_1182 : decode cL_law 1182 = .ok (.iconst 1, 1) := by decide +kernel
theorem dL_law_1183 : decode cL_law 1183 = .ok (.iadd, 1) := by decide +kernel
theorem dL_law_1184 : decode cL_law 1184 = .ok (.iaload, 1) := by decide +kernel
theorem dL_law_1185 : decode cL_law 1185 = .ok (.aload_n 0, 1) := by decide +kernel
theorem dL_law_1186 : decode cL_law 1186 = .ok (.iload 4, 2) := by decide +kernel
theorem dL_law_1188 : decode cL_law 1188 = .ok (.iconst 2, 1) := by decide +kernel
theorem dL_law_1189 : decode cL_law 1189 = .ok (.iadd, 1) := by decide +kernel
theorem dL_law_1190 : decode cL_law 1190 = .ok (.iaload, 1) := by decide +kernel
theorem dL_law_1191 : decode cL_law 1191 = .ok (.aload_n 0, 1) := by decide +kernel
theorem dL_law_1192 : decode cL_law 1192 = .ok (.iload 4, 2) := by decide +kernel
theorem dL_law_1194 : decode cL_law 1194 = .ok (.iconst 3, 1) := by decide +kernel
theorem dL_law_1195 : decode cL_law 1195 = .ok (.iadd, 1) := by decide +kernel
theorem dL_law_1196 : decode cL_law 1196 = .ok (.iaload, 1) := by decide +kernel
theorem dL_law_1197 : decode cL_law 1197 = .ok (.aload_n 0, 1) := by decide +kernel
theorem dL_law_1198 : decode cL_law 1198 = .ok (.iload 4, 2) := by decide +kernel
theorem dL_law_1200 : decode cL_law 1200 = .ok (.iconst 4, 1) := by decide +kernel
theorem dL_law_1201 : decode cL_law 1201 = .ok (.iadd, 1) := by decide +kernel
theorem dL_law_1202 : decode cL_law 1202 = .ok (.iaload, 1) := by decide +kernel
theorem dL_law_1203 : decode cL_law 1203 = .ok (.aload_n 0, 1) := by decide +kernel
theorem dL_law_1204 : decode cL_law 1204 = .ok (.iload 4, 2) := by decide +kernel
theorem dL_law_1206 : decode cL_law 1206 = .ok (.iconst 5, 1) := by decide +kernel
theorem dL_law_1207 : decode cL_law 1207 = .ok (.iadd, 1) := by decide +kernel
theorem dL_law_1208 : decode cL_law 1208 = .ok (.iaload, 1) := by decide +kernel
theorem dL_law_1209 : decode cL_law 1209 = .ok (.invokevirtual 173, 3) := by decide +kernel
theorem dL_law_1212 : decode cL_law 1212 = .ok (.aload_n 2, 1) := by decide +kernel
theorem dL_law_1213 : decode cL_law 1213 = .ok (.aload_n 0, 1) := by decide +kernel
theorem dL_law_1214 : decode cL_law 1214 = .ok (.iload 4, 2) := by decide +kernel
theorem dL_law_1216 : decode cL_law 1216 = .ok (.iconst 1, 1) := by decide +kernel
theorem dL_law_1217 : decode cL_law 1217 = .ok (.iadd, 1) := by decide +kernel
theorem dL_law_1218 : decode cL_law 1218 = .ok (.iaload, 1) := by decide +kernel
theorem dL_law_1219 : decode cL_law 1219 = .ok (.aload_n 0, 1) := by decide +kernel
theorem dL_law_1220 : decode cL_law 1220 = .ok (.iload 4, 2) := by decide +kernel
theorem dL_law_1222 : decode cL_law 1222 = .ok (.iconst 2, 1) := by decide +kernel
theorem dL_law_1223 : decode cL_law 1223 = .ok (.iadd, 1) := by decide +kernel
theorem dL_law_1224 : decode cL_law 1224 = .ok (.iaload, 1) := by decide +kernel
theorem dL_law_1225 : decode cL_law 1225 = .ok (.aload_n 0, 1) := by decide +kernel
theorem dL_law_1226 : decode cL_law 1226 = .ok (.iload 4, 2) := by decide +kernel
theorem dL_law_1228 : decode cL_law 1228 = .ok (.iconst 3, 1) := by decide +kernel
theorem dL_law_1229 : decode cL_law 1229 = .ok (.iadd, 1) := by decide +kernel
theorem dL_law_1230 : decode cL_law 1230 = .ok (.iaload, 1) := by decide +kernel
theorem dL_law_1231 : decode cL_law 1231 = .ok (.aload_n 0, 1) := by decide +kernel
theorem dL_law_1232 : decode cL_law 1232 = .ok (.iload 4, 2) := by decide +kernel
theorem dL_law_1234 : decode cL_law 1234 = .ok (.iconst 4, 1) := by decide +kernel
theorem dL_law_1235 : decode cL_law 1235 = .ok (.iadd, 1) := by decide +kernel
theorem dL_law_1236 : decode cL_law 1236 = .ok (.iaload, 1) := by decide +kernel
theorem dL_law_1237 : decode cL_law 1237 = .ok (.aload_n 0, 1) := by decide +kernel
theorem dL_law_1238 : decode cL_law 1238 = .ok (.iload 4, 2) := by decide +kernel
theorem dL_law_1240 : decode cL_law 1240 = .ok (.iconst 5, 1) := by decide +kernel
theorem dL_law_1241 : decode cL_law 1241 = .ok (.iadd, 1) := by decide +kernel
theorem dL_law_1242 : decode cL_law 1242 = .ok (.iaload, 1) := by decide +kernel
theorem dL_law_1243 : decode cL_law 1243 = .ok (.invokevirtual 177, 3) := by decide +kernel
theorem dL_law_1246 : decode cL_law 1246 = .ok (.if_icmp .eq 287, 3) := by decide +kernel
theorem dL_law_1251 : decode cL_law 1251 = .ok (.aload_n 1, 1) := by decide +kernel
theorem dL_law_1252 : decode cL_law 1252 = .ok (.aload_n 0, 1) := by decide +kernel
theorem dL_law_1253 : decode cL_law 1253 = .ok (.iload 4, 2) := by decide +kernel
theorem dL_law_1255 : decode cL_law 1255 = .ok (.iconst 1, 1) := by decide +kernel
theorem dL_law_1256 : decode cL_law 1256 = .ok (.iadd, 1) := by decide +kernel
theorem dL_law_1257 : decode cL_law 1257 = .ok (.iaload, 1) := by decide +kernel
theorem dL_law_1258 : decode cL_law 1258 = .ok (.aload_n 0, 1) := by decide +kernel
theorem dL_law_1259 : decode cL_law 1259 = .ok (.iload 4, 2) := by decide +kernel
theorem dL_law_1261 : decode cL_law 1261 = .ok (.iconst 2, 1) := by decide +kernel
theorem dL_law_1262 : decode cL_law 1262 = .ok (.iadd, 1) := by decide +kernel
theorem dL_law_1263 : decode cL_law 1263 = .ok (.iaload, 1) := by decide +kernel
theorem dL_law_1264 : decode cL_law 1264 = .ok (.invokevirtual 178, 3) := by decide +kernel
theorem dL_law_1267 : decode cL_law 1267 = .ok (.aload_n 2, 1) := by decide +kernel
theorem dL_law_1268 : decode cL_law 1268 = .ok (.aload_n 0, 1) := by decide +kernel
theorem dL_law_1269 : decode cL_law 1269 = .ok (.iload 4, 2) := by decide +kernel
theorem dL_law_1271 : decode cL_law 1271 = .ok (.iconst 1, 1) := by decide +kernel
theorem dL_law_1272 : decode cL_law 1272 = .ok (.iadd, 1) := by decide +kernel
theorem dL_law_1273 : decode cL_law 1273 = .ok (.iaload, 1) := by decide +kernel
theorem dL_law_1274 : decode cL_law 1274 = .ok (.aload_n 0, 1) := by decide +kernel
theorem dL_law_1275 : decode cL_law 1275 = .ok (.iload 4, 2) := by decide +kernel
theorem dL_law_1277 : decode cL_law 1277 = .ok (.iconst 2, 1) := by decide +kernel
theorem dL_law_1278 : decode cL_law 1278 = .ok (.iadd, 1) := by decide +kernel
theorem dL_law_1279 : decode cL_law 1279 = .ok (.iaload, 1) := by decide +kernel
theorem dL_law_1280 : decode cL_law 1280 = .ok (.invokevirtual 181, 3) := by decide +kernel
theorem dL_law_1283 : decode cL_law 1283 = .ok (.if_icmp .eq 250, 3) := by decide +kernel
theorem dL_law_1288 : decode cL_law 1288 = .ok (.aload_n 1, 1) := by decide +kernel
theorem dL_law_1289 : decode cL_law 1289 = .ok (.invokevirtual 182, 3) := by decide +kernel
theorem dL_law_1292 : decode cL_law 1292 = .ok (.aload_n 2, 1) := by decide +kernel
theorem dL_law_1293 : decode cL_law 1293 = .ok (.invokevirtual 185, 3) := by decide +kernel
theorem dL_law_1296 : decode cL_law 1296 = .ok (.if_icmp .eq 237, 3) := by decide +kernel
theorem dL_law_1301 : decode cL_law 1301 = .ok (.aload_n 1, 1) := by decide +kernel
theorem dL_law_1302 : decode cL_law 1302 = .ok (.aload_n 0, 1) := by decide +kernel
theorem dL_law_1303 : decode cL_law 1303 = .ok (.iload 4, 2) := by decide +kernel
theorem dL_law_1305 : decode cL_law 1305 = .ok (.iconst 1, 1) := by decide +kernel
theorem dL_law_1306 : decode cL_law 1306 = .ok (.iadd, 1) := by decide +kernel
theorem dL_law_1307 : decode cL_law 1307 = .ok (.iaload, 1) := by decide +kernel
theorem dL_law_1308 : decode cL_law 1308 = .ok (.invokevirtual 186, 3) := by decide +kernel
theorem dL_law_1311 : decode cL_law 1311 = .ok (.aload_n 2, 1) := by decide +kernel
theorem dL_law_1312 : decode cL_law 1312 = .ok (.aload_n 0, 1) := by decide +kernel
theorem dL_law_1313 : decode cL_law 1313 = .ok (.iload 4, 2) := by decide +kernel
theorem dL_law_1315 : decode cL_law 1315 = .ok (.iconst 1, 1) := by decide +kernel
theorem dL_law_1316 : decode cL_law 1316 = .ok (.iadd, 1) := by decide +kernel
theorem dL_law_1317 : decode cL_law 1317 = .ok (.iaload, 1) := by decide +kernel
theorem dL_law_1318 : decode cL_law 1318 = .ok (.invokevirtual 189, 3) := by decide +kernel
theorem dL_law_1321 : decode cL_law 1321 = .ok (.if_icmp .eq 212, 3) := by decide +kernel
theorem dL_law_1326 : decode cL_law 1326 = .ok (.aload_n 1, 1) := by decide +kernel
theorem dL_law_1327 : decode cL_law 1327 = .ok (.invokevirtual 190, 3) := by decide +kernel
theorem dL_law_1330 : decode cL_law 1330 = .ok (.aload_n 2, 1) := by decide +kernel
theorem dL_law_1331 : decode cL_law 1331 = .ok (.invokevirtual 193, 3) := by decide +kernel
theorem dL_law_1334 : decode cL_law 1334 = .ok (.if_icmp .eq 199, 3) := by decide +kernel
theorem dL_law_1339 : decode cL_law 1339 = .ok (.aload_n 1, 1) := by decide +kernel
theorem dL_law_1340 : decode cL_law 1340 = .ok (.invokevirtual 194, 3) := by decide +kernel
theorem dL_law_1343 : decode cL_law 1343 = .ok (.aload_n 2, 1) := by decide +kernel
theorem dL_law_1344 : decode cL_law 1344 = .ok (.invokevirtual 197, 3) := by decide +kernel
theorem dL_law_1347 : decode cL_law 1347 = .ok (.if_icmp .eq 186, 3) := by decide +kernel
theorem dL_law_1352 : decode cL_law 1352 = .ok (.aload_n 1, 1) := by decide +kernel
theorem dL_law_1353 : decode cL_law 1353 = .ok (.invokevirtual 198, 3) := by decide +kernel
theorem dL_law_1356 : decode cL_law 1356 = .ok (.aload_n 2, 1) := by decide +kernel
theorem dL_law_1357 : decode cL_law 1357 = .ok (.invokevirtual 201, 3) := by decide +kernel
theorem dL_law_1360 : decode cL_law 1360 = .ok (.if_icmp .eq 173, 3) := by decide +kernel
theorem dL_law_1365 : decode cL_law 1365 = .ok (.aload_n 1, 1) := by decide +kernel
theorem dL_law_1366 : decode cL_law 1366 = .ok (.invokevirtual 202, 3) := by decide +kernel
theorem dL_law_1369 : decode cL_law 1369 = .ok (.aload_n 2, 1) := by decide +kernel
theorem dL_law_1370 : decode cL_law 1370 = .ok (.invokevirtual 205, 3) := by decide +kernel
theorem dL_law_1373 : decode cL_law 1373 = .ok (.if_icmp .eq 160, 3) := by decide +kernel
theorem dL_law_1378 : decode cL_law 1378 = .ok (.aload_n 1, 1) := by decide +kernel
theorem dL_law_1379 : decode cL_law 1379 = .ok (.aload_n 0, 1) := by decide +kernel
theorem dL_law_1380 : decode cL_law 1380 = .ok (.iload 4, 2) := by decide +kernel
theorem dL_law_1382 : decode cL_law 1382 = .ok (.iconst 1, 1) := by decide +kernel
theorem dL_law_1383 : decode cL_law 1383 = .ok (.iadd, 1) := by decide +kernel
theorem dL_law_1384 : decode cL_law 1384 = .ok (.iaload, 1) := by decide +kernel
theorem dL_law_1385 : decode cL_law 1385 = .ok (.invokevirtual 206, 3) := by decide +kernel
theorem dL_law_1388 : decode cL_law 1388 = .ok (.aload_n 2, 1) := by decide +kernel
theorem dL_law_1389 : decode cL_law 1389 = .ok (.aload_n 0, 1) := by decide +kernel
theorem dL_law_1390 : decode cL_law 1390 = .ok (.iload 4, 2) := by decide +kernel
theorem dL_law_1392 : decode cL_law 1392 = .ok (.iconst 1, 1) := by decide +kernel
theorem dL_law_1393 : decode cL_law 1393 = .ok (.iadd, 1) := by decide +kernel
theorem dL_law_1394 : decode cL_law 1394 = .ok (.iaload, 1) := by decide +kernel
theorem dL_law_1395 : decode cL_law 1395 = .ok (.invokevirtual 209, 3) := by decide +kernel
theorem dL_law_1398 : decode cL_law 1398 = .ok (.if_icmp .eq 135, 3) := by decide +kernel
theorem dL_law_1403 : decode cL_law 1403 = .ok (.aload_n 1, 1) := by decide +kernel
theorem dL_law_1404 : decode cL_law 1404 = .ok (.aload_n 0, 1) := by decide +kernel
theorem dL_law_1405 : decode cL_law 1405 = .ok (.iload 4, 2) := by decide +kernel
theorem dL_law_1407 : decode cL_law 1407 = .ok (.iconst 1, 1) := by decide +kernel
theorem dL_law_1408 : decode cL_law 1408 = .ok (.iadd, 1) := by decide +kernel
theorem dL_law_1409 : decode cL_law 1409 = .ok (.iaload, 1) := by decide +kernel
theorem dL_law_1410 : decode cL_law 1410 = .ok (.invokevirtual 210, 3) := by decide +kernel
theorem dL_law_1413 : decode cL_law 1413 = .ok (.aload_n 2, 1) := by decide +kernel
theorem dL_law_1414 : decode cL_law 1414 = .ok (.aload_n 0, 1) := by decide +kernel
theorem dL_law_1415 : decode cL_law 1415 = .ok (.iload 4, 2) := by decide +kernel
theorem dL_law_1417 : decode cL_law 1417 = .ok (.iconst 1, 1) := by decide +kernel
theorem dL_law_1418 : decode cL_law 1418 = .ok (.iadd, 1) := by decide +kernel
theorem dL_law_1419 : decode cL_law 1419 = .ok (.iaload, 1) := by decide +kernel
theorem dL_law_1420 : decode cL_law 1420 = .ok (.invokevirtual 213, 3) := by decide +kernel
theorem dL_law_1423 : decode cL_law 1423 = .ok (.if_icmp .eq 110, 3) := by decide +kernel
theorem dL_law_1428 : decode cL_law 1428 = .ok (.aload_n 1, 1) := by decide +kernel
theorem dL_law_1429 : decode cL_law 1429 = .ok (.aload_n 0, 1) := by decide +kernel
theorem dL_law_1430 : decode cL_law 1430 = .ok (.iload 4, 2) := by decide +kernel
theorem dL_law_1432 : decode cL_law 1432 = .ok (.iconst 1, 1) := by decide +kernel
theorem dL_law_1433 : decode cL_law 1433 = .ok (.iadd, 1) := by decide +kernel
theorem dL_law_1434 : decode cL_law 1434 = .ok (.iaload, 1) := by decide +kernel
theorem dL_law_1435 : decode cL_law 1435 = .ok (.invokevirtual 214, 3) := by decide +kernel
theorem dL_law_1438 : decode cL_law 1438 = .ok (.aload_n 2, 1) := by decide +kernel
theorem dL_law_1439 : decode cL_law 1439 = .ok (.aload_n 0, 1) := by decide +kernel
theorem dL_law_1440 : decode cL_law 1440 = .ok (.iload 4, 2) := by decide +kernel
theorem dL_law_1442 : decode cL_law 1442 = .ok (.iconst 1, 1) := by decide +kernel
theorem dL_law_1443 : decode cL_law 1443 = .ok (.iadd, 1) := by decide +kernel
theorem dL_law_1444 : decode cL_law 1444 = .ok (.iaload, 1) := by decide +kernel
theorem dL_law_1445 : decode cL_law 1445 = .ok (.invokevirtual 217, 3) := by decide +kernel
theorem dL_law_1448 : decode cL_law 1448 = .ok (.if_icmp .eq 85, 3) := by decide +kernel
theorem dL_law_1453 : decode cL_law 1453 = .ok (.aload_n 1, 1) := by decide +kernel
theorem dL_law_1454 : decode cL_law 1454 = .ok (.aload_n 0, 1) := by decide +kernel
theorem dL_law_1455 : decode cL_law 1455 = .ok (.iload 4, 2) := by decide +kernel
theorem dL_law_1457 : decode cL_law 1457 = .ok (.iconst 1, 1) := by decide +kernel
theorem dL_law_1458 : decode cL_law 1458 = .ok (.iadd, 1) := by decide +kernel
theorem dL_law_1459 : decode cL_law 1459 = .ok (.iaload, 1) := by decide +kernel
theorem dL_law_1460 : decode cL_law 1460 = .ok (.invokevirtual 218, 3) := by decide +kernel
theorem dL_law_1463 : decode cL_law 1463 = .ok (.aload_n 2, 1) := by decide +kernel
theorem dL_law_1464 : decode cL_law 1464 = .ok (.aload_n 0, 1) := by decide +kernel
theorem dL_law_1465 : decode cL_law 1465 = .ok (.iload 4, 2) := by decide +kernel
theorem dL_law_1467 : decode cL_law 1467 = .ok (.iconst 1, 1) := by decide +kernel
theorem dL_law_1468 : decode cL_law 1468 = .ok (.iadd, 1) := by decide +kernel
theorem dL_law_1469 : decode cL_law 1469 = .ok (.iaload, 1) := by decide +kernel
theorem dL_law_1470 : decode cL_law 1470 = .ok (.invokevirtual 221, 3) := by decide +kernel
theorem dL_law_1473 : decode cL_law 1473 = .ok (.if_icmp .eq 60, 3) := by decide +kernel
theorem dL_law_374 : decode cL_law 374 = .ok (.aload_n 1, 1) := by decide +kernel
theorem dL_law_375 : decode cL_law 375 = .ok (.aload_n 0, 1) := by decide +kernel
theorem dL_law_376 : decode cL_law 376 = .ok (.iload 4, 2) := by decide +kernel
theorem dL_law_378 : decode cL_law 378 = .ok (.iconst 1, 1) := by decide +kernel
theorem dL_law_379 : decode cL_law 379 = .ok (.iadd, 1) := by decide +kernel
theorem dL_law_380 : decode cL_law 380 = .ok (.iaload, 1) := by decide +kernel
theorem dL_law_381 : decode cL_law 381 = .ok (.aload_n 3, 1) := by decide +kernel
theorem dL_law_382 : decode cL_law 382 = .ok (.invokestatic 49, 3) := by decide +kernel
theorem dL_law_385 : decode cL_law 385 = .ok (.istore 5, 2) := by decide +kernel
theorem dL_law_387 : decode cL_law 387 = .ok (.aload_n 2, 1) := by decide +kernel
theorem dL_law_388 : decode cL_law 388 = .ok (.aload_n 0, 1) := by decide +kernel
theorem dL_law_389 : decode cL_law 389 = .ok (.iload 4, 2) := by decide +kernel
theorem dL_law_391 : decode cL_law 391 = .ok (.iconst 1, 1) := by decide +kernel
theorem dL_law_392 : decode cL_law 392 = .ok (.iadd, 1) := by decide +kernel
theorem dL_law_393 : decode cL_law 393 = .ok (.iaload, 1) := by decide +kernel
theorem dL_law_394 : decode cL_law 394 = .ok (.invokevirtual 54, 3) := by decide +kernel
theorem dL_law_397 : decode cL_law 397 = .ok (.istore 6, 2) := by decide +kernel
theorem dL_law_399 : decode cL_law 399 = .ok (.aload_n 2, 1) := by decide +kernel
theorem dL_law_400 : decode cL_law 400 = .ok (.invokevirtual 55, 3) := by decide +kernel
theorem dL_law_403 : decode cL_law 403 = .ok (.iload 5, 2) := by decide +kernel
theorem dL_law_405 : decode cL_law 405 = .ok (.if_icmp .eq 5, 3) := by decide +kernel
theorem dL_law_410 : decode cL_law 410 = .ok (.iload 5, 2) := by decide +kernel
theorem dL_law_427 : decode cL_law 427 = .ok (.goto 1106, 3) := by decide +kernel
theorem dL_law_412 : decode cL_law 412 = .ok (.ifCond .ne 15, 3) := by decide +kernel
theorem dL_law_415 : decode cL_law 415 = .ok (.aload_n 3, 1) := by decide +kernel
theorem dL_law_416 : decode cL_law 416 = .ok (.iconst 0, 1) := by decide +kernel
theorem dL_law_417 : decode cL_law 417 = .ok (.laload, 1) := by decide +kernel
theorem dL_law_418 : decode cL_law 418 = .ok (.iload 6, 2) := by decide +kernel
theorem dL_law_420 : decode cL_law 420 = .ok (.i2l, 1) := by decide +kernel
theorem dL_law_421 : decode cL_law 421 = .ok (.lcmp, 1) := by decide +kernel
theorem dL_law_422 : decode cL_law 422 = .ok (.ifCond .eq 5, 3) := by decide +kernel
theorem dL_law_1478 : decode cL_law 1478 = .ok (.aload_n 1, 1) := by decide +kernel
theorem dL_law_1479 : decode cL_law 1479 = .ok (.aload_n 0, 1) := by decide +kernel
theorem dL_law_1480 : decode cL_law 1480 = .ok (.iload 4, 2) := by decide +kernel
theorem dL_law_1482 : decode cL_law 1482 = .ok (.iconst 1, 1) := by decide +kernel
theorem dL_law_1483 : decode cL_law 1483 = .ok (.iadd, 1) := by decide +kernel
theorem dL_law_1484 : decode cL_law 1484 = .ok (.iaload, 1) := by decide +kernel
theorem dL_law_1485 : decode cL_law 1485 = .ok (.aload_n 3, 1) := by decide +kernel
theorem dL_law_1486 : decode cL_law 1486 = .ok (.invokestatic 222, 3) := by decide +kernel
theorem dL_law_1489 : decode cL_law 1489 = .ok (.istore 5, 2) := by decide +kernel
theorem dL_law_1491 : decode cL_law 1491 = .ok (.aload_n 2, 1) := by decide +kernel
theorem dL_law_1492 : decode cL_law 1492 = .ok (.aload_n 0, 1) := by decide +kernel
theorem dL_law_1493 : decode cL_law 1493 = .ok (.iload 4, 2) := by decide +kernel
theorem dL_law_1495 : decode cL_law 1495 = .ok (.iconst 1, 1) := by decide +kernel
theorem dL_law_1496 : decode cL_law 1496 = .ok (.iadd, 1) := by decide +kernel
theorem dL_law_1497 : decode cL_law 1497 = .ok (.iaload, 1) := by decide +kernel
theorem dL_law_1498 : decode cL_law 1498 = .ok (.invokevirtual 224, 3) := by decide +kernel
theorem dL_law_1501 : decode cL_law 1501 = .ok (.lstore 6, 2) := by decide +kernel
theorem dL_law_1503 : decode cL_law 1503 = .ok (.aload_n 2, 1) := by decide +kernel
theorem dL_law_1504 : decode cL_law 1504 = .ok (.invokevirtual 55, 3) := by decide +kernel
theorem dL_law_1507 : decode cL_law 1507 = .ok (.iload 5, 2) := by decide +kernel
theorem dL_law_1509 : decode cL_law 1509 = .ok (.if_icmp .eq 5, 3) := by decide +kernel
theorem dL_law_1514 : decode cL_law 1514 = .ok (.iload 5, 2) := by decide +kernel
theorem dL_law_1530 : decode cL_law 1530 = .ok (.goto 3, 3) := by decide +kernel
theorem dL_law_1516 : decode cL_law 1516 = .ok (.ifCond .ne 14, 3) := by decide +kernel
theorem dL_law_1519 : decode cL_law 1519 = .ok (.aload_n 3, 1) := by decide +kernel
theorem dL_law_1520 : decode cL_law 1520 = .ok (.iconst 0, 1) := by decide +kernel
theorem dL_law_1521 : decode cL_law 1521 = .ok (.laload, 1) := by decide +kernel
theorem dL_law_1522 : decode cL_law 1522 = .ok (.lload 6, 2) := by decide +kernel
theorem dL_law_1524 : decode cL_law 1524 = .ok (.lcmp, 1) := by decide +kernel
theorem dL_law_1525 : decode cL_law 1525 = .ok (.ifCond .eq 5, 3) := by decide +kernel
theorem dL_law_7 : decode cL_law 7 = .ok (.astore_n 1, 1) := by decide +kernel
theorem dL_law_15 : decode cL_law 15 = .ok (.astore_n 2, 1) := by decide +kernel
theorem dL_law_16 : decode cL_law 16 = .ok (.iconst 1, 1) := by decide +kernel
theorem dL_law_19 : decode cL_law 19 = .ok (.astore_n 3, 1) := by decide +kernel
theorem dL_law_20 : decode cL_law 20 = .ok (.iconst 0, 1) := by decide +kernel
theorem dL_law_21 : decode cL_law 21 = .ok (.istore 4, 2) := by decide +kernel
theorem dL_law_23 : decode cL_law 23 = .ok (.iload 4, 2) := by decide +kernel
theorem dL_law_25 : decode cL_law 25 = .ok (.aload_n 0, 1) := by decide +kernel
theorem dL_law_26 : decode cL_law 26 = .ok (.arraylength, 1) := by decide +kernel
theorem dL_law_27 : decode cL_law 27 = .ok (.bipush 6, 2) := by decide +kernel
theorem dL_law_29 : decode cL_law 29 = .ok (.isub, 1) := by decide +kernel
theorem dL_law_30 : decode cL_law 30 = .ok (.if_icmp .gt 1509, 3) := by decide +kernel
theorem dL_law_33 : decode cL_law 33 = .ok (.aload_n 0, 1) := by decide +kernel
theorem dL_law_34 : decode cL_law 34 = .ok (.iload 4, 2) := by decide +kernel
theorem dL_law_36 : decode cL_law 36 = .ok (.iaload, 1) := by decide +kernel
theorem dL_law_37 : decode cL_law 37 = .ok (.bipush 63, 2) := by decide +kernel
theorem dL_law_39 : decode cL_law 39 = .ok (.iand, 1) := by decide +kernel
theorem dL_law_40 : decode cL_law 40 = .ok (.tableswitch 1493 0 47 #[208, 233, 258, 271, 296, 309, 334, 390, 415, 452, 477, 514, 551, 564, 589, 614, 639, 676, 701, 738, 775, 788, 825, 850, 863, 876, 889, 902, 915, 952, 965, 978, 1015, 1076, 1089, 1138, 1211, 1248, 1261, 1286, 1299, 1312, 1325, 1338, 1363, 1388, 1413, 1438], 208) := by decide +kernel
theorem dL_law_1533 : decode cL_law 1533 = .ok (.iinc 4 6, 3) := by decide +kernel
theorem dL_law_1536 : decode cL_law 1536 = .ok (.goto (-1513), 3) := by decide +kernel
theorem dL_law_1539 : decode cL_law 1539 = .ok (.iconst 1, 1) := by decide +kernel
theorem dL_law_1540 : decode cL_law 1540 = .ok (.ireturn, 1) := by decide +kernel
theorem dL_law_0 : decode cL_law 0 = .ok (.new 8, 3) := by decide +kernel
theorem dL_law_3 : decode cL_law 3 = .ok (.dup, 1) := by decide +kernel
theorem dL_law_4 : decode cL_law 4 = .ok (.invokespecial 19, 3) := by decide +kernel
theorem dL_law_8 : decode cL_law 8 = .ok (.new 20, 3) := by decide +kernel
theorem dL_law_11 : decode cL_law 11 = .ok (.dup, 1) := by decide +kernel
theorem dL_law_12 : decode cL_law 12 = .ok (.invokespecial 22, 3) := by decide +kernel
theorem dL_law_17 : decode cL_law 17 = .ok (.newarray .long, 2) := by decide +kernel
