set_option maxRecDepth 20000 in
theorem cf_0 : CF 0 (RX0, TX0, 8) := ⟨rfl, by decide +kernel, ⟨tyX0, tyX0_ok⟩, nmX0⟩
set_option maxRecDepth 20000 in
theorem cf_1 : CF 1 (RX1, TX1, 3) := ⟨rfl, by decide +kernel, ⟨tyX1, tyX1_ok⟩, nmX1⟩
set_option maxRecDepth 20000 in
theorem cf_2 : CF 2 (RX2, TX2, 9) := ⟨rfl, by decide +kernel, ⟨tyX2, tyX2_ok⟩, nmX2⟩
set_option maxRecDepth 20000 in
theorem cf_3 : CF 3 (RX3, TX3, 8) := ⟨rfl, by decide +kernel, ⟨tyX3, tyX3_ok⟩, nmX3⟩
set_option maxRecDepth 20000 in
theorem cf_4 : CF 4 (RX4, TX4, 8) := ⟨rfl, by decide +kernel, ⟨tyX4, tyX4_ok⟩, nmX4⟩
set_option maxRecDepth 20000 in
theorem cf_5 : CF 5 (RX5, TX5, 3) := ⟨rfl, by decide +kernel, ⟨tyX5, tyX5_ok⟩, nmX5⟩
set_option maxRecDepth 20000 in
theorem cf_6 : CF 6 (RX6, TX6, 4) := ⟨rfl, by decide +kernel, ⟨tyX6, tyX6_ok⟩, nmX6⟩
set_option maxRecDepth 20000 in
theorem cf_7 : CF 7 (RX7, TX7, 5) := ⟨rfl, by decide +kernel, ⟨tyX7, tyX7_ok⟩, nmX7⟩
set_option maxRecDepth 20000 in
theorem cf_8 : CF 8 (RX8, TX8, 2) := ⟨rfl, by decide +kernel, ⟨tyX8, tyX8_ok⟩, nmX8⟩
set_option maxRecDepth 20000 in
theorem cf_9 : CF 9 (RX9, TX9, 4) := ⟨rfl, by decide +kernel, ⟨tyX9, tyX9_ok⟩, nmX9⟩
set_option maxRecDepth 20000 in
theorem cf_10 : CF 10 (RX10, TX10, 44) := ⟨rfl, by decide +kernel, ⟨tyX10, tyX10_ok⟩, nmX10⟩
set_option maxRecDepth 20000 in
theorem fl_X9_12 : FL RX9 12 9 0 := ⟨_, cf_9, by decide, rfl, Or.inl (tb_of 374 (by decide +kernel) rfl)⟩
set_option maxRecDepth 20000 in
theorem fl_X9_19 : FL RX9 19 9 1 := ⟨_, cf_9, by decide, rfl, Or.inl (tb_of 375 (by decide +kernel) rfl)⟩
set_option maxRecDepth 20000 in
theorem fl_X9_28 : FL RX9 28 9 2 := ⟨_, cf_9, by decide, rfl, Or.inl (tb_of 376 (by decide +kernel) rfl)⟩
set_option maxRecDepth 20000 in
theorem fl_X9_35 : FL RX9 35 9 3 := ⟨_, cf_9, by decide, rfl, Or.inl (tb_of 377 (by decide +kernel) rfl)⟩
set_option maxRecDepth 20000 in
theorem fl_X9_48 : FL RX9 48 2 0 := ⟨_, cf_2, by decide, rfl, Or.inr ⟨"LowLand", nb_of 261 (by decide +kernel) rfl⟩⟩
set_option maxRecDepth 20000 in
theorem fl_X9_61 : FL RX9 61 0 2 := ⟨_, cf_0, by decide, rfl, Or.inr ⟨"LowLand", nb_of 106 (by decide +kernel) rfl⟩⟩
set_option maxRecDepth 20000 in
theorem fl_X9_65 : FL RX9 65 0 3 := ⟨_, cf_0, by decide, rfl, Or.inr ⟨"LowLand", nb_of 108 (by decide +kernel) rfl⟩⟩
set_option maxRecDepth 20000 in
theorem fl_X9_69 : FL RX9 69 0 4 := ⟨_, cf_0, by decide, rfl, Or.inr ⟨"LowLand", nb_of 111 (by decide +kernel) rfl⟩⟩
set_option maxRecDepth 20000 in
theorem fl_X9_79 : FL RX9 79 0 5 := ⟨_, cf_0, by decide, rfl, Or.inr ⟨"LowLand", nb_of 115 (by decide +kernel) rfl⟩⟩
set_option maxRecDepth 20000 in
theorem fl_X9_82 : FL RX9 82 0 6 := ⟨_, cf_0, by decide, rfl, Or.inr ⟨"LowLand", nb_of 118 (by decide +kernel) rfl⟩⟩
set_option maxRecDepth 20000 in
theorem fl_X9_85 : FL RX9 85 2 1 := ⟨_, cf_2, by decide, rfl, Or.inr ⟨"LowLand", nb_of 264 (by decide +kernel) rfl⟩⟩
set_option maxRecDepth 20000 in
theorem fl_X9_95 : FL RX9 95 2 2 := ⟨_, cf_2, by decide, rfl, Or.inr ⟨"LowLand", nb_of 267 (by decide +kernel) rfl⟩⟩
set_option maxRecDepth 20000 in
theorem fl_X9_104 : FL RX9 104 2 3 := ⟨_, cf_2, by decide, rfl, Or.inr ⟨"LowLand", nb_of 269 (by decide +kernel) rfl⟩⟩
set_option maxRecDepth 20000 in
theorem fl_X9_114 : FL RX9 114 2 7 := ⟨_, cf_2, by decide, rfl, Or.inr ⟨"LowLand", nb_of 278 (by decide +kernel) rfl⟩⟩
set_option maxRecDepth 20000 in
theorem fw_X9_114 : FW RX9 114 2 7 .int := ⟨fl_X9_114, fun q h => by cases (Option.some.inj h); exact ⟨rfl, by decide +kernel⟩⟩
set_option maxRecDepth 20000 in
theorem fl_X9_133 : FL RX9 133 6 2 := ⟨_, cf_6, by decide, rfl, Or.inr ⟨"LowLand", nb_of 221 (by decide +kernel) rfl⟩⟩
set_option maxRecDepth 20000 in
theorem fl_X9_140 : FL RX9 140 2 5 := ⟨_, cf_2, by decide, rfl, Or.inr ⟨"LowLand", nb_of 273 (by decide +kernel) rfl⟩⟩
set_option maxRecDepth 20000 in
theorem fl_X9_143 : FL RX9 143 2 6 := ⟨_, cf_2, by decide, rfl, Or.inr ⟨"LowLand", nb_of 275 (by decide +kernel) rfl⟩⟩
set_option maxRecDepth 20000 in
theorem fl_X9_154 : FL RX9 154 2 4 := ⟨_, cf_2, by decide, rfl, Or.inr ⟨"LowLand", nb_of 271 (by decide +kernel) rfl⟩⟩
set_option maxRecDepth 20000 in
theorem fl_X9_158 : FL RX9 158 1 0 := ⟨_, cf_1, by decide, rfl, Or.inr ⟨"LowLand", nb_of 243 (by decide +kernel) rfl⟩⟩
set_option maxRecDepth 20000 in
theorem fl_X9_162 : FL RX9 162 1 1 := ⟨_, cf_1, by decide, rfl, Or.inr ⟨"LowLand", nb_of 246 (by decide +kernel) rfl⟩⟩
set_option maxRecDepth 20000 in
theorem fl_X9_164 : FL RX9 164 1 2 := ⟨_, cf_1, by decide, rfl, Or.inr ⟨"LowLand", nb_of 249 (by decide +kernel) rfl⟩⟩
set_option maxRecDepth 20000 in
theorem fl_X9_170 : FL RX9 170 8 0 := ⟨_, cf_8, by decide, rfl, Or.inr ⟨"LowLand", nb_of 310 (by decide +kernel) rfl⟩⟩
set_option maxRecDepth 20000 in
theorem fl_X9_181 : FL RX9 181 3 5 := ⟨_, cf_3, by decide, rfl, Or.inr ⟨"LowLand", nb_of 333 (by decide +kernel) rfl⟩⟩
set_option maxRecDepth 20000 in
theorem fw_X9_181 : FW RX9 181 3 5 .int := ⟨fl_X9_181, fun q h => by cases (Option.some.inj h); exact ⟨rfl, by decide +kernel⟩⟩
set_option maxRecDepth 20000 in
theorem fl_X9_186 : FL RX9 186 3 6 := ⟨_, cf_3, by decide, rfl, Or.inr ⟨"LowLand", nb_of 335 (by decide +kernel) rfl⟩⟩
set_option maxRecDepth 20000 in
theorem fw_X9_186 : FW RX9 186 3 6 .long := ⟨fl_X9_186, fun q h => by cases (Option.some.inj h); exact ⟨rfl, by decide +kernel⟩⟩
set_option maxRecDepth 20000 in
theorem fl_X9_190 : FL RX9 190 3 7 := ⟨_, cf_3, by decide, rfl, Or.inr ⟨"LowLand", nb_of 337 (by decide +kernel) rfl⟩⟩
set_option maxRecDepth 20000 in
theorem fw_X9_190 : FW RX9 190 3 7 .long := ⟨fl_X9_190, fun q h => by cases (Option.some.inj h); exact ⟨rfl, by decide +kernel⟩⟩
set_option maxRecDepth 20000 in
theorem fl_X9_232 : FL RX9 232 5 0 := ⟨_, cf_5, by decide, rfl, Or.inr ⟨"LowLand", nb_of 364 (by decide +kernel) rfl⟩⟩
set_option maxRecDepth 20000 in
theorem fl_X9_241 : FL RX9 241 0 7 := ⟨_, cf_0, by decide, rfl, Or.inr ⟨"LowLand", nb_of 122 (by decide +kernel) rfl⟩⟩
set_option maxRecDepth 20000 in
theorem fw_X9_241 : FW RX9 241 0 7 .int := ⟨fl_X9_241, fun q h => by cases (Option.some.inj h); exact ⟨rfl, by decide +kernel⟩⟩
set_option maxRecDepth 20000 in
theorem fl_X9_244 : FL RX9 244 7 4 := ⟨_, cf_7, by decide, rfl, Or.inr ⟨"LowLand", nb_of 157 (by decide +kernel) rfl⟩⟩
set_option maxRecDepth 20000 in
theorem fw_X9_244 : FW RX9 244 7 4 .int := ⟨fl_X9_244, fun q h => by cases (Option.some.inj h); exact ⟨rfl, by decide +kernel⟩⟩
set_option maxRecDepth 20000 in
theorem fl_X9_245 : FL RX9 245 4 7 := ⟨_, cf_4, by decide, rfl, Or.inr ⟨"LowLand", nb_of 191 (by decide +kernel) rfl⟩⟩
set_option maxRecDepth 20000 in
theorem fw_X9_245 : FW RX9 245 4 7 .int := ⟨fl_X9_245, fun q h => by cases (Option.some.inj h); exact ⟨rfl, by decide +kernel⟩⟩
set_option maxRecDepth 20000 in
theorem fl_X9_246 : FL RX9 246 6 3 := ⟨_, cf_6, by decide, rfl, Or.inr ⟨"LowLand", nb_of 224 (by decide +kernel) rfl⟩⟩
set_option maxRecDepth 20000 in
theorem fw_X9_246 : FW RX9 246 6 3 .int := ⟨fl_X9_246, fun q h => by cases (Option.some.inj h); exact ⟨rfl, by decide +kernel⟩⟩
set_option maxRecDepth 20000 in
theorem fl_X9_247 : FL RX9 247 8 1 := ⟨_, cf_8, by decide, rfl, Or.inr ⟨"LowLand", nb_of 312 (by decide +kernel) rfl⟩⟩
set_option maxRecDepth 20000 in
theorem fw_X9_247 : FW RX9 247 8 1 .int := ⟨fl_X9_247, fun q h => by cases (Option.some.inj h); exact ⟨rfl, by decide +kernel⟩⟩
set_option maxRecDepth 20000 in
theorem fl_X9_251 : FL RX9 251 2 8 := ⟨_, cf_2, by decide, rfl, Or.inr ⟨"LowLand", nb_of 280 (by decide +kernel) rfl⟩⟩
set_option maxRecDepth 20000 in
theorem fw_X9_251 : FW RX9 251 2 8 .int := ⟨fl_X9_251, fun q h => by cases (Option.some.inj h); exact ⟨rfl, by decide +kernel⟩⟩
set_option maxRecDepth 20000 in
theorem fl_X9_254 : FL RX9 254 4 6 := ⟨_, cf_4, by decide, rfl, Or.inr ⟨"LowLand", nb_of 188 (by decide +kernel) rfl⟩⟩
set_option maxRecDepth 20000 in
theorem fw_X9_254 : FW RX9 254 4 6 .int := ⟨fl_X9_254, fun q h => by cases (Option.some.inj h); exact ⟨rfl, by decide +kernel⟩⟩
set_option maxRecDepth 20000 in
theorem fl_X0_9 : FL RX0 9 0 0 := ⟨_, cf_0, by decide, rfl, Or.inl (tb_of 102 (by decide +kernel) rfl)⟩
set_option maxRecDepth 20000 in
theorem fl_X0_15 : FL RX0 15 0 1 := ⟨_, cf_0, by decide, rfl, Or.inl (tb_of 104 (by decide +kernel) rfl)⟩
set_option maxRecDepth 20000 in
theorem fl_X0_18 : FL RX0 18 0 2 := ⟨_, cf_0, by decide, rfl, Or.inl (tb_of 105 (by decide +kernel) rfl)⟩
set_option maxRecDepth 20000 in
theorem fl_X0_21 : FL RX0 21 0 3 := ⟨_, cf_0, by decide, rfl, Or.inl (tb_of 107 (by decide +kernel) rfl)⟩
set_option maxRecDepth 20000 in
theorem fl_X0_24 : FL RX0 24 0 4 := ⟨_, cf_0, by decide, rfl, Or.inl (tb_of 109 (by decide +kernel) rfl)⟩
set_option maxRecDepth 20000 in
theorem fl_X0_27 : FL RX0 27 0 5 := ⟨_, cf_0, by decide, rfl, Or.inl (tb_of 113 (by decide +kernel) rfl)⟩
set_option maxRecDepth 20000 in
theorem fl_X0_30 : FL RX0 30 0 6 := ⟨_, cf_0, by decide, rfl, Or.inl (tb_of 116 (by decide +kernel) rfl)⟩
set_option maxRecDepth 20000 in
theorem fl_X0_33 : FL RX0 33 0 7 := ⟨_, cf_0, by decide, rfl, Or.inl (tb_of 119 (by decide +kernel) rfl)⟩
set_option maxRecDepth 20000 in
theorem fw_X0_33 : FW RX0 33 0 7 .int := ⟨fl_X0_33, fun q h => by cases (Option.some.inj h); exact ⟨rfl, by decide +kernel⟩⟩
set_option maxRecDepth 20000 in
theorem fl_X1_9 : FL RX1 9 1 0 := ⟨_, cf_1, by decide, rfl, Or.inl (tb_of 241 (by decide +kernel) rfl)⟩
set_option maxRecDepth 20000 in
theorem fl_X1_15 : FL RX1 15 1 1 := ⟨_, cf_1, by decide, rfl, Or.inl (tb_of 244 (by decide +kernel) rfl)⟩
set_option maxRecDepth 20000 in
theorem fl_X1_18 : FL RX1 18 1 2 := ⟨_, cf_1, by decide, rfl, Or.inl (tb_of 247 (by decide +kernel) rfl)⟩
set_option maxRecDepth 20000 in
theorem fl_X2_12 : FL RX2 12 2 0 := ⟨_, cf_2, by decide, rfl, Or.inl (tb_of 260 (by decide +kernel) rfl)⟩
set_option maxRecDepth 20000 in
theorem fl_X2_21 : FL RX2 21 2 1 := ⟨_, cf_2, by decide, rfl, Or.inl (tb_of 263 (by decide +kernel) rfl)⟩
set_option maxRecDepth 20000 in
theorem fl_X2_28 : FL RX2 28 2 2 := ⟨_, cf_2, by decide, rfl, Or.inl (tb_of 265 (by decide +kernel) rfl)⟩
set_option maxRecDepth 20000 in
theorem fl_X2_35 : FL RX2 35 2 3 := ⟨_, cf_2, by decide, rfl, Or.inl (tb_of 268 (by decide +kernel) rfl)⟩
set_option maxRecDepth 20000 in
theorem fl_X2_42 : FL RX2 42 2 4 := ⟨_, cf_2, by decide, rfl, Or.inl (tb_of 270 (by decide +kernel) rfl)⟩
set_option maxRecDepth 20000 in
theorem fl_X2_46 : FL RX2 46 2 5 := ⟨_, cf_2, by decide, rfl, Or.inl (tb_of 272 (by decide +kernel) rfl)⟩
set_option maxRecDepth 20000 in
theorem fl_X2_50 : FL RX2 50 2 6 := ⟨_, cf_2, by decide, rfl, Or.inl (tb_of 274 (by decide +kernel) rfl)⟩
set_option maxRecDepth 20000 in
theorem fl_X2_59 : FL RX2 59 4 6 := ⟨_, cf_4, by decide, rfl, Or.inr ⟨"LowLand", nb_of 185 (by decide +kernel) rfl⟩⟩
set_option maxRecDepth 20000 in
theorem fw_X2_59 : FW RX2 59 4 6 .int := ⟨fl_X2_59, fun q h => by cases (Option.some.inj h); exact ⟨rfl, by decide +kernel⟩⟩
set_option maxRecDepth 20000 in
theorem fl_X2_63 : FL RX2 63 2 7 := ⟨_, cf_2, by decide, rfl, Or.inl (tb_of 276 (by decide +kernel) rfl)⟩
set_option maxRecDepth 20000 in
theorem fw_X2_63 : FW RX2 63 2 7 .int := ⟨fl_X2_63, fun q h => by cases (Option.some.inj h); exact ⟨rfl, by decide +kernel⟩⟩
set_option maxRecDepth 20000 in
theorem fl_X2_70 : FL RX2 70 0 4 := ⟨_, cf_0, by decide, rfl, Or.inr ⟨"LowLand", nb_of 110 (by decide +kernel) rfl⟩⟩
set_option maxRecDepth 20000 in
theorem fl_X2_77 : FL RX2 77 0 7 := ⟨_, cf_0, by decide, rfl, Or.inr ⟨"LowLand", nb_of 120 (by decide +kernel) rfl⟩⟩
set_option maxRecDepth 20000 in
theorem fw_X2_77 : FW RX2 77 0 7 .int := ⟨fl_X2_77, fun q h => by cases (Option.some.inj h); exact ⟨rfl, by decide +kernel⟩⟩
set_option maxRecDepth 20000 in
theorem fl_X2_80 : FL RX2 80 0 5 := ⟨_, cf_0, by decide, rfl, Or.inr ⟨"LowLand", nb_of 114 (by decide +kernel) rfl⟩⟩
set_option maxRecDepth 20000 in
theorem fl_X2_83 : FL RX2 83 0 0 := ⟨_, cf_0, by decide, rfl, Or.inr ⟨"LowLand", nb_of 103 (by decide +kernel) rfl⟩⟩
set_option maxRecDepth 20000 in
theorem fl_X2_89 : FL RX2 89 2 8 := ⟨_, cf_2, by decide, rfl, Or.inl (tb_of 279 (by decide +kernel) rfl)⟩
set_option maxRecDepth 20000 in
theorem fw_X2_89 : FW RX2 89 2 8 .int := ⟨fl_X2_89, fun q h => by cases (Option.some.inj h); exact ⟨rfl, by decide +kernel⟩⟩
set_option maxRecDepth 20000 in
theorem fl_X2_99 : FL RX2 99 4 7 := ⟨_, cf_4, by decide, rfl, Or.inr ⟨"LowLand", nb_of 190 (by decide +kernel) rfl⟩⟩
set_option maxRecDepth 20000 in
theorem fw_X2_99 : FW RX2 99 4 7 .int := ⟨fl_X2_99, fun q h => by cases (Option.some.inj h); exact ⟨rfl, by decide +kernel⟩⟩
set_option maxRecDepth 20000 in
theorem fl_X2_100 : FL RX2 100 4 1 := ⟨_, cf_4, by decide, rfl, Or.inr ⟨"LowLand", nb_of 178 (by decide +kernel) rfl⟩⟩
set_option maxRecDepth 20000 in
theorem fl_X2_103 : FL RX2 103 0 6 := ⟨_, cf_0, by decide, rfl, Or.inr ⟨"LowLand", nb_of 117 (by decide +kernel) rfl⟩⟩
set_option maxRecDepth 20000 in
theorem fl_X2_106 : FL RX2 106 4 0 := ⟨_, cf_4, by decide, rfl, Or.inr ⟨"LowLand", nb_of 176 (by decide +kernel) rfl⟩⟩
set_option maxRecDepth 20000 in
theorem fl_X2_109 : FL RX2 109 1 1 := ⟨_, cf_1, by decide, rfl, Or.inr ⟨"LowLand", nb_of 245 (by decide +kernel) rfl⟩⟩
set_option maxRecDepth 20000 in
theorem fl_X2_111 : FL RX2 111 6 3 := ⟨_, cf_6, by decide, rfl, Or.inr ⟨"LowLand", nb_of 223 (by decide +kernel) rfl⟩⟩
set_option maxRecDepth 20000 in
theorem fw_X2_111 : FW RX2 111 6 3 .int := ⟨fl_X2_111, fun q h => by cases (Option.some.inj h); exact ⟨rfl, by decide +kernel⟩⟩
set_option maxRecDepth 20000 in
theorem fl_X2_112 : FL RX2 112 6 0 := ⟨_, cf_6, by decide, rfl, Or.inr ⟨"LowLand", nb_of 216 (by decide +kernel) rfl⟩⟩
set_option maxRecDepth 20000 in
theorem fl_X2_113 : FL RX2 113 1 2 := ⟨_, cf_1, by decide, rfl, Or.inr ⟨"LowLand", nb_of 248 (by decide +kernel) rfl⟩⟩
set_option maxRecDepth 20000 in
theorem fl_X2_124 : FL RX2 124 7 4 := ⟨_, cf_7, by decide, rfl, Or.inr ⟨"LowLand", nb_of 156 (by decide +kernel) rfl⟩⟩
set_option maxRecDepth 20000 in
theorem fw_X2_124 : FW RX2 124 7 4 .int := ⟨fl_X2_124, fun q h => by cases (Option.some.inj h); exact ⟨rfl, by decide +kernel⟩⟩
set_option maxRecDepth 20000 in
theorem fl_X2_125 : FL RX2 125 1 0 := ⟨_, cf_1, by decide, rfl, Or.inr ⟨"LowLand", nb_of 242 (by decide +kernel) rfl⟩⟩
set_option maxRecDepth 20000 in
theorem fl_X2_134 : FL RX2 134 6 2 := ⟨_, cf_6, by decide, rfl, Or.inr ⟨"LowLand", nb_of 220 (by decide +kernel) rfl⟩⟩
set_option maxRecDepth 20000 in
theorem fl_X2_142 : FL RX2 142 7 0 := ⟨_, cf_7, by decide, rfl, Or.inr ⟨"LowLand", nb_of 148 (by decide +kernel) rfl⟩⟩
set_option maxRecDepth 20000 in
theorem fl_X2_143 : FL RX2 143 7 1 := ⟨_, cf_7, by decide, rfl, Or.inr ⟨"LowLand", nb_of 150 (by decide +kernel) rfl⟩⟩
set_option maxRecDepth 20000 in
theorem fl_X2_147 : FL RX2 147 7 2 := ⟨_, cf_7, by decide, rfl, Or.inr ⟨"LowLand", nb_of 152 (by decide +kernel) rfl⟩⟩
set_option maxRecDepth 20000 in
theorem fl_X2_155 : FL RX2 155 7 3 := ⟨_, cf_7, by decide, rfl, Or.inr ⟨"LowLand", nb_of 154 (by decide +kernel) rfl⟩⟩
set_option maxRecDepth 20000 in
theorem fl_X2_162 : FL RX2 162 4 2 := ⟨_, cf_4, by decide, rfl, Or.inr ⟨"LowLand", nb_of 180 (by decide +kernel) rfl⟩⟩
set_option maxRecDepth 20000 in
theorem fl_X2_167 : FL RX2 167 6 1 := ⟨_, cf_6, by decide, rfl, Or.inr ⟨"LowLand", nb_of 218 (by decide +kernel) rfl⟩⟩
set_option maxRecDepth 20000 in
theorem fl_X3_11 : FL RX3 11 3 2 := ⟨_, cf_3, by decide, rfl, Or.inl (tb_of 329 (by decide +kernel) rfl)⟩
set_option maxRecDepth 20000 in
theorem fl_X3_19 : FL RX3 19 3 3 := ⟨_, cf_3, by decide, rfl, Or.inl (tb_of 330 (by decide +kernel) rfl)⟩
set_option maxRecDepth 20000 in
theorem fl_X3_23 : FL RX3 23 3 0 := ⟨_, cf_3, by decide, rfl, Or.inl (tb_of 327 (by decide +kernel) rfl)⟩
set_option maxRecDepth 20000 in
theorem fl_X3_27 : FL RX3 27 3 1 := ⟨_, cf_3, by decide, rfl, Or.inl (tb_of 328 (by decide +kernel) rfl)⟩
set_option maxRecDepth 20000 in
theorem fl_X3_31 : FL RX3 31 3 4 := ⟨_, cf_3, by decide, rfl, Or.inl (tb_of 331 (by decide +kernel) rfl)⟩
set_option maxRecDepth 20000 in
theorem fw_X3_31 : FW RX3 31 3 4 .int := ⟨fl_X3_31, fun q h => by cases (Option.some.inj h); exact ⟨rfl, by decide +kernel⟩⟩
set_option maxRecDepth 20000 in
theorem fl_X3_35 : FL RX3 35 3 5 := ⟨_, cf_3, by decide, rfl, Or.inl (tb_of 332 (by decide +kernel) rfl)⟩
set_option maxRecDepth 20000 in
theorem fw_X3_35 : FW RX3 35 3 5 .int := ⟨fl_X3_35, fun q h => by cases (Option.some.inj h); exact ⟨rfl, by decide +kernel⟩⟩
set_option maxRecDepth 20000 in
theorem fl_X3_38 : FL RX3 38 3 6 := ⟨_, cf_3, by decide, rfl, Or.inl (tb_of 334 (by decide +kernel) rfl)⟩
set_option maxRecDepth 20000 in
theorem fw_X3_38 : FW RX3 38 3 6 .long := ⟨fl_X3_38, fun q h => by cases (Option.some.inj h); exact ⟨rfl, by decide +kernel⟩⟩
set_option maxRecDepth 20000 in
theorem fl_X3_44 : FL RX3 44 3 7 := ⟨_, cf_3, by decide, rfl, Or.inl (tb_of 336 (by decide +kernel) rfl)⟩
set_option maxRecDepth 20000 in
theorem fw_X3_44 : FW RX3 44 3 7 .long := ⟨fl_X3_44, fun q h => by cases (Option.some.inj h); exact ⟨rfl, by decide +kernel⟩⟩
set_option maxRecDepth 20000 in
theorem fl_X3_54 : FL RX3 54 2 2 := ⟨_, cf_2, by decide, rfl, Or.inr ⟨"LowLand", nb_of 266 (by decide +kernel) rfl⟩⟩
set_option maxRecDepth 20000 in
theorem fl_X3_66 : FL RX3 66 2 7 := ⟨_, cf_2, by decide, rfl, Or.inr ⟨"LowLand", nb_of 277 (by decide +kernel) rfl⟩⟩
set_option maxRecDepth 20000 in
theorem fw_X3_66 : FW RX3 66 2 7 .int := ⟨fl_X3_66, fun q h => by cases (Option.some.inj h); exact ⟨rfl, by decide +kernel⟩⟩
set_option maxRecDepth 20000 in
theorem fl_X3_97 : FL RX3 97 4 3 := ⟨_, cf_4, by decide, rfl, Or.inr ⟨"LowLand", nb_of 182 (by decide +kernel) rfl⟩⟩
set_option maxRecDepth 20000 in
theorem fl_X3_110 : FL RX3 110 2 0 := ⟨_, cf_2, by decide, rfl, Or.inr ⟨"LowLand", nb_of 262 (by decide +kernel) rfl⟩⟩
set_option maxRecDepth 20000 in
theorem fl_X3_114 : FL RX3 114 0 4 := ⟨_, cf_0, by decide, rfl, Or.inr ⟨"LowLand", nb_of 112 (by decide +kernel) rfl⟩⟩
set_option maxRecDepth 20000 in
theorem fl_X3_119 : FL RX3 119 0 7 := ⟨_, cf_0, by decide, rfl, Or.inr ⟨"LowLand", nb_of 121 (by decide +kernel) rfl⟩⟩
set_option maxRecDepth 20000 in
theorem fw_X3_119 : FW RX3 119 0 7 .int := ⟨fl_X3_119, fun q h => by cases (Option.some.inj h); exact ⟨rfl, by decide +kernel⟩⟩
set_option maxRecDepth 20000 in
theorem fl_X3_128 : FL RX3 128 4 6 := ⟨_, cf_4, by decide, rfl, Or.inr ⟨"LowLand", nb_of 187 (by decide +kernel) rfl⟩⟩
set_option maxRecDepth 20000 in
theorem fw_X3_128 : FW RX3 128 4 6 .int := ⟨fl_X3_128, fun q h => by cases (Option.some.inj h); exact ⟨rfl, by decide +kernel⟩⟩
set_option maxRecDepth 20000 in
theorem fl_X3_134 : FL RX3 134 8 0 := ⟨_, cf_8, by decide, rfl, Or.inr ⟨"LowLand", nb_of 309 (by decide +kernel) rfl⟩⟩
set_option maxRecDepth 20000 in
theorem fl_X4_9 : FL RX4 9 4 0 := ⟨_, cf_4, by decide, rfl, Or.inl (tb_of 175 (by decide +kernel) rfl)⟩
set_option maxRecDepth 20000 in
theorem fl_X4_15 : FL RX4 15 4 1 := ⟨_, cf_4, by decide, rfl, Or.inl (tb_of 177 (by decide +kernel) rfl)⟩
set_option maxRecDepth 20000 in
theorem fl_X4_18 : FL RX4 18 4 2 := ⟨_, cf_4, by decide, rfl, Or.inl (tb_of 179 (by decide +kernel) rfl)⟩
set_option maxRecDepth 20000 in
theorem fl_X4_21 : FL RX4 21 4 3 := ⟨_, cf_4, by decide, rfl, Or.inl (tb_of 181 (by decide +kernel) rfl)⟩
set_option maxRecDepth 20000 in
theorem fl_X4_24 : FL RX4 24 4 4 := ⟨_, cf_4, by decide, rfl, Or.inl (tb_of 183 (by decide +kernel) rfl)⟩
set_option maxRecDepth 20000 in
theorem fl_X4_27 : FL RX4 27 4 5 := ⟨_, cf_4, by decide, rfl, Or.inl (tb_of 184 (by decide +kernel) rfl)⟩
set_option maxRecDepth 20000 in
theorem fl_X4_30 : FL RX4 30 4 7 := ⟨_, cf_4, by decide, rfl, Or.inl (tb_of 189 (by decide +kernel) rfl)⟩
set_option maxRecDepth 20000 in
theorem fw_X4_30 : FW RX4 30 4 7 .int := ⟨fl_X4_30, fun q h => by cases (Option.some.inj h); exact ⟨rfl, by decide +kernel⟩⟩
set_option maxRecDepth 20000 in
theorem fl_X4_34 : FL RX4 34 4 6 := ⟨_, cf_4, by decide, rfl, Or.inl (tb_of 186 (by decide +kernel) rfl)⟩
set_option maxRecDepth 20000 in
theorem fw_X4_34 : FW RX4 34 4 6 .int := ⟨fl_X4_34, fun q h => by cases (Option.some.inj h); exact ⟨rfl, by decide +kernel⟩⟩
set_option maxRecDepth 20000 in
theorem fl_X5_11 : FL RX5 11 5 0 := ⟨_, cf_5, by decide, rfl, Or.inl (tb_of 363 (by decide +kernel) rfl)⟩
set_option maxRecDepth 20000 in
theorem fl_X5_16 : FL RX5 16 5 1 := ⟨_, cf_5, by decide, rfl, Or.inl (tb_of 365 (by decide +kernel) rfl)⟩
set_option maxRecDepth 20000 in
theorem fl_X5_20 : FL RX5 20 5 2 := ⟨_, cf_5, by decide, rfl, Or.inl (tb_of 366 (by decide +kernel) rfl)⟩
set_option maxRecDepth 20000 in
theorem fl_X6_9 : FL RX6 9 6 0 := ⟨_, cf_6, by decide, rfl, Or.inl (tb_of 215 (by decide +kernel) rfl)⟩
set_option maxRecDepth 20000 in
theorem fl_X6_15 : FL RX6 15 6 1 := ⟨_, cf_6, by decide, rfl, Or.inl (tb_of 217 (by decide +kernel) rfl)⟩
set_option maxRecDepth 20000 in
theorem fl_X6_18 : FL RX6 18 6 2 := ⟨_, cf_6, by decide, rfl, Or.inl (tb_of 219 (by decide +kernel) rfl)⟩
set_option maxRecDepth 20000 in
theorem fl_X6_22 : FL RX6 22 6 3 := ⟨_, cf_6, by decide, rfl, Or.inl (tb_of 222 (by decide +kernel) rfl)⟩
set_option maxRecDepth 20000 in
theorem fw_X6_22 : FW RX6 22 6 3 .int := ⟨fl_X6_22, fun q h => by cases (Option.some.inj h); exact ⟨rfl, by decide +kernel⟩⟩
set_option maxRecDepth 20000 in
theorem fl_X7_9 : FL RX7 9 7 0 := ⟨_, cf_7, by decide, rfl, Or.inl (tb_of 147 (by decide +kernel) rfl)⟩
set_option maxRecDepth 20000 in
theorem fl_X7_15 : FL RX7 15 7 1 := ⟨_, cf_7, by decide, rfl, Or.inl (tb_of 149 (by decide +kernel) rfl)⟩
set_option maxRecDepth 20000 in
theorem fl_X7_18 : FL RX7 18 7 2 := ⟨_, cf_7, by decide, rfl, Or.inl (tb_of 151 (by decide +kernel) rfl)⟩
set_option maxRecDepth 20000 in
theorem fl_X7_21 : FL RX7 21 7 3 := ⟨_, cf_7, by decide, rfl, Or.inl (tb_of 153 (by decide +kernel) rfl)⟩
set_option maxRecDepth 20000 in
theorem fl_X7_24 : FL RX7 24 7 4 := ⟨_, cf_7, by decide, rfl, Or.inl (tb_of 155 (by decide +kernel) rfl)⟩
set_option maxRecDepth 20000 in
theorem fw_X7_24 : FW RX7 24 7 4 .int := ⟨fl_X7_24, fun q h => by cases (Option.some.inj h); exact ⟨rfl, by decide +kernel⟩⟩
set_option maxRecDepth 20000 in
theorem fl_X8_11 : FL RX8 11 8 0 := ⟨_, cf_8, by decide, rfl, Or.inl (tb_of 308 (by decide +kernel) rfl)⟩
set_option maxRecDepth 20000 in
theorem fl_X8_16 : FL RX8 16 8 1 := ⟨_, cf_8, by decide, rfl, Or.inl (tb_of 311 (by decide +kernel) rfl)⟩
set_option maxRecDepth 20000 in
theorem fw_X8_16 : FW RX8 16 8 1 .int := ⟨fl_X8_16, fun q h => by cases (Option.some.inj h); exact ⟨rfl, by decide +kernel⟩⟩
set_option maxRecDepth 20000 in
theorem fl_X10_7 : FL RX10 7 10 1 := ⟨_, cf_10, by decide, rfl, Or.inl (tb_of 745 (by decide +kernel) rfl)⟩
set_option maxRecDepth 20000 in
theorem fl_X10_13 : FL RX10 13 10 2 := ⟨_, cf_10, by decide, rfl, Or.inl (tb_of 746 (by decide +kernel) rfl)⟩
set_option maxRecDepth 20000 in
theorem fl_X10_16 : FL RX10 16 10 3 := ⟨_, cf_10, by decide, rfl, Or.inl (tb_of 747 (by decide +kernel) rfl)⟩
set_option maxRecDepth 20000 in
theorem fl_X10_19 : FL RX10 19 10 4 := ⟨_, cf_10, by decide, rfl, Or.inl (tb_of 748 (by decide +kernel) rfl)⟩
set_option maxRecDepth 20000 in
theorem fl_X10_22 : FL RX10 22 10 5 := ⟨_, cf_10, by decide, rfl, Or.inl (tb_of 749 (by decide +kernel) rfl)⟩
set_option maxRecDepth 20000 in
theorem fl_X10_25 : FL RX10 25 10 6 := ⟨_, cf_10, by decide, rfl, Or.inl (tb_of 750 (by decide +kernel) rfl)⟩
set_option maxRecDepth 20000 in
theorem fl_X10_28 : FL RX10 28 10 7 := ⟨_, cf_10, by decide, rfl, Or.inl (tb_of 751 (by decide +kernel) rfl)⟩
set_option maxRecDepth 20000 in
theorem fl_X10_31 : FL RX10 31 10 9 := ⟨_, cf_10, by decide, rfl, Or.inl (tb_of 753 (by decide +kernel) rfl)⟩
set_option maxRecDepth 20000 in
theorem fl_X10_34 : FL RX10 34 10 10 := ⟨_, cf_10, by decide, rfl, Or.inl (tb_of 754 (by decide +kernel) rfl)⟩
set_option maxRecDepth 20000 in
theorem fl_X10_37 : FL RX10 37 10 11 := ⟨_, cf_10, by decide, rfl, Or.inl (tb_of 755 (by decide +kernel) rfl)⟩
set_option maxRecDepth 20000 in
theorem fl_X10_40 : FL RX10 40 10 12 := ⟨_, cf_10, by decide, rfl, Or.inl (tb_of 756 (by decide +kernel) rfl)⟩
set_option maxRecDepth 20000 in
theorem fl_X10_43 : FL RX10 43 10 14 := ⟨_, cf_10, by decide, rfl, Or.inl (tb_of 758 (by decide +kernel) rfl)⟩
set_option maxRecDepth 20000 in
theorem fl_X10_46 : FL RX10 46 10 15 := ⟨_, cf_10, by decide, rfl, Or.inl (tb_of 759 (by decide +kernel) rfl)⟩
set_option maxRecDepth 20000 in
theorem fl_X10_49 : FL RX10 49 10 16 := ⟨_, cf_10, by decide, rfl, Or.inl (tb_of 760 (by decide +kernel) rfl)⟩
set_option maxRecDepth 20000 in
theorem fl_X10_52 : FL RX10 52 10 17 := ⟨_, cf_10, by decide, rfl, Or.inl (tb_of 761 (by decide +kernel) rfl)⟩
set_option maxRecDepth 20000 in
theorem fl_X10_55 : FL RX10 55 10 18 := ⟨_, cf_10, by decide, rfl, Or.inl (tb_of 762 (by decide +kernel) rfl)⟩
set_option maxRecDepth 20000 in
theorem fl_X10_58 : FL RX10 58 10 19 := ⟨_, cf_10, by decide, rfl, Or.inl (tb_of 763 (by decide +kernel) rfl)⟩
set_option maxRecDepth 20000 in
theorem fl_X10_62 : FL RX10 62 10 20 := ⟨_, cf_10, by decide, rfl, Or.inl (tb_of 764 (by decide +kernel) rfl)⟩
set_option maxRecDepth 20000 in
theorem fl_X10_65 : FL RX10 65 10 22 := ⟨_, cf_10, by decide, rfl, Or.inl (tb_of 766 (by decide +kernel) rfl)⟩
set_option maxRecDepth 20000 in
theorem fl_X10_68 : FL RX10 68 10 23 := ⟨_, cf_10, by decide, rfl, Or.inl (tb_of 767 (by decide +kernel) rfl)⟩
set_option maxRecDepth 20000 in
theorem fl_X10_71 : FL RX10 71 10 24 := ⟨_, cf_10, by decide, rfl, Or.inl (tb_of 768 (by decide +kernel) rfl)⟩
set_option maxRecDepth 20000 in
theorem fl_X10_74 : FL RX10 74 10 25 := ⟨_, cf_10, by decide, rfl, Or.inl (tb_of 769 (by decide +kernel) rfl)⟩
set_option maxRecDepth 20000 in
theorem fl_X10_77 : FL RX10 77 10 26 := ⟨_, cf_10, by decide, rfl, Or.inl (tb_of 770 (by decide +kernel) rfl)⟩
set_option maxRecDepth 20000 in
theorem fl_X10_80 : FL RX10 80 10 29 := ⟨_, cf_10, by decide, rfl, Or.inl (tb_of 773 (by decide +kernel) rfl)⟩
set_option maxRecDepth 20000 in
theorem fl_X10_83 : FL RX10 83 10 30 := ⟨_, cf_10, by decide, rfl, Or.inl (tb_of 774 (by decide +kernel) rfl)⟩
set_option maxRecDepth 20000 in
theorem fl_X10_86 : FL RX10 86 10 31 := ⟨_, cf_10, by decide, rfl, Or.inl (tb_of 775 (by decide +kernel) rfl)⟩
set_option maxRecDepth 20000 in
theorem fl_X10_89 : FL RX10 89 10 33 := ⟨_, cf_10, by decide, rfl, Or.inl (tb_of 777 (by decide +kernel) rfl)⟩
set_option maxRecDepth 20000 in
theorem fl_X10_92 : FL RX10 92 10 34 := ⟨_, cf_10, by decide, rfl, Or.inl (tb_of 778 (by decide +kernel) rfl)⟩
set_option maxRecDepth 20000 in
theorem fl_X10_95 : FL RX10 95 10 35 := ⟨_, cf_10, by decide, rfl, Or.inl (tb_of 779 (by decide +kernel) rfl)⟩
set_option maxRecDepth 20000 in
theorem fl_X10_98 : FL RX10 98 10 36 := ⟨_, cf_10, by decide, rfl, Or.inl (tb_of 780 (by decide +kernel) rfl)⟩
set_option maxRecDepth 20000 in
theorem fl_X10_101 : FL RX10 101 10 37 := ⟨_, cf_10, by decide, rfl, Or.inl (tb_of 781 (by decide +kernel) rfl)⟩
set_option maxRecDepth 20000 in
theorem fl_X10_104 : FL RX10 104 10 41 := ⟨_, cf_10, by decide, rfl, Or.inl (tb_of 785 (by decide +kernel) rfl)⟩
set_option maxRecDepth 20000 in
theorem fl_X10_107 : FL RX10 107 10 42 := ⟨_, cf_10, by decide, rfl, Or.inl (tb_of 786 (by decide +kernel) rfl)⟩
set_option maxRecDepth 20000 in
theorem fl_X10_110 : FL RX10 110 10 43 := ⟨_, cf_10, by decide, rfl, Or.inl (tb_of 787 (by decide +kernel) rfl)⟩
set_option maxRecDepth 20000 in
theorem fl_X10_113 : FL RX10 113 10 0 := ⟨_, cf_10, by decide, rfl, Or.inl (tb_of 744 (by decide +kernel) rfl)⟩
set_option maxRecDepth 20000 in
theorem fw_X10_113 : FW RX10 113 10 0 .int := ⟨fl_X10_113, fun q h => by cases (Option.some.inj h); exact ⟨rfl, by decide +kernel⟩⟩
set_option maxRecDepth 20000 in
theorem fl_X10_147 : FL RX10 147 10 8 := ⟨_, cf_10, by decide, rfl, Or.inl (tb_of 752 (by decide +kernel) rfl)⟩
set_option maxRecDepth 20000 in
theorem fw_X10_147 : FW RX10 147 10 8 .int := ⟨fl_X10_147, fun q h => by cases (Option.some.inj h); exact ⟨rfl, by decide +kernel⟩⟩
set_option maxRecDepth 20000 in
theorem fl_X10_154 : FL RX10 154 10 13 := ⟨_, cf_10, by decide, rfl, Or.inl (tb_of 757 (by decide +kernel) rfl)⟩
set_option maxRecDepth 20000 in
theorem fw_X10_154 : FW RX10 154 10 13 .int := ⟨fl_X10_154, fun q h => by cases (Option.some.inj h); exact ⟨rfl, by decide +kernel⟩⟩
set_option maxRecDepth 20000 in
theorem fl_X10_157 : FL RX10 157 10 21 := ⟨_, cf_10, by decide, rfl, Or.inl (tb_of 765 (by decide +kernel) rfl)⟩
set_option maxRecDepth 20000 in
theorem fw_X10_157 : FW RX10 157 10 21 .int := ⟨fl_X10_157, fun q h => by cases (Option.some.inj h); exact ⟨rfl, by decide +kernel⟩⟩
set_option maxRecDepth 20000 in
theorem fl_X10_160 : FL RX10 160 10 27 := ⟨_, cf_10, by decide, rfl, Or.inl (tb_of 771 (by decide +kernel) rfl)⟩
set_option maxRecDepth 20000 in
theorem fw_X10_160 : FW RX10 160 10 27 .int := ⟨fl_X10_160, fun q h => by cases (Option.some.inj h); exact ⟨rfl, by decide +kernel⟩⟩
set_option maxRecDepth 20000 in
theorem fl_X10_179 : FL RX10 179 10 28 := ⟨_, cf_10, by decide, rfl, Or.inl (tb_of 772 (by decide +kernel) rfl)⟩
set_option maxRecDepth 20000 in
theorem fw_X10_179 : FW RX10 179 10 28 .int := ⟨fl_X10_179, fun q h => by cases (Option.some.inj h); exact ⟨rfl, by decide +kernel⟩⟩
set_option maxRecDepth 20000 in
theorem fl_X10_193 : FL RX10 193 10 32 := ⟨_, cf_10, by decide, rfl, Or.inl (tb_of 776 (by decide +kernel) rfl)⟩
set_option maxRecDepth 20000 in
theorem fw_X10_193 : FW RX10 193 10 32 .int := ⟨fl_X10_193, fun q h => by cases (Option.some.inj h); exact ⟨rfl, by decide +kernel⟩⟩
set_option maxRecDepth 20000 in
theorem fl_X10_214 : FL RX10 214 10 38 := ⟨_, cf_10, by decide, rfl, Or.inl (tb_of 782 (by decide +kernel) rfl)⟩
set_option maxRecDepth 20000 in
theorem fw_X10_214 : FW RX10 214 10 38 .int := ⟨fl_X10_214, fun q h => by cases (Option.some.inj h); exact ⟨rfl, by decide +kernel⟩⟩
set_option maxRecDepth 20000 in
theorem fl_X10_230 : FL RX10 230 10 39 := ⟨_, cf_10, by decide, rfl, Or.inl (tb_of 783 (by decide +kernel) rfl)⟩
set_option maxRecDepth 20000 in
theorem fw_X10_230 : FW RX10 230 10 39 .long := ⟨fl_X10_230, fun q h => by cases (Option.some.inj h); exact ⟨rfl, by decide +kernel⟩⟩
set_option maxRecDepth 20000 in
theorem fl_X10_234 : FL RX10 234 10 40 := ⟨_, cf_10, by decide, rfl, Or.inl (tb_of 784 (by decide +kernel) rfl)⟩
set_option maxRecDepth 20000 in
theorem fw_X10_234 : FW RX10 234 10 40 .long := ⟨fl_X10_234, fun q h => by cases (Option.some.inj h); exact ⟨rfl, by decide +kernel⟩⟩
set_option maxRecDepth 20000 in
theorem sh_0 : shp 0 = (0, 9, 0, [3, 34, 39, 66]) := by decide +kernel
set_option maxRecDepth 20000 in
theorem sh_1 : shp 1 = (0, 2, 0, [4, 12, 17, 24, 28, 32, 33, 0, 0]) := by decide +kernel
set_option maxRecDepth 20000 in
theorem sh_2 : shp 2 = (0, 0, 0, [5, 6, 7, 8, 9, 10, 11, 0]) := by decide +kernel
set_option maxRecDepth 20000 in
theorem sh_3 : shp 3 = (1, 0, 6, []) := by decide +kernel
set_option maxRecDepth 20000 in
theorem sh_4 : shp 4 = (1, 0, 6, []) := by decide +kernel
set_option maxRecDepth 20000 in
theorem sh_5 : shp 5 = (1, 0, 6, []) := by decide +kernel
set_option maxRecDepth 20000 in
theorem sh_6 : shp 6 = (1, 0, 6, []) := by decide +kernel
set_option maxRecDepth 20000 in
theorem sh_7 : shp 7 = (1, 0, 6, []) := by decide +kernel
set_option maxRecDepth 20000 in
theorem sh_8 : shp 8 = (1, 0, 6, []) := by decide +kernel
set_option maxRecDepth 20000 in
theorem sh_9 : shp 9 = (1, 0, 6, []) := by decide +kernel
set_option maxRecDepth 20000 in
theorem sh_10 : shp 10 = (0, 7, 0, [13, 14, 15, 16, 0]) := by decide +kernel
set_option maxRecDepth 20000 in
theorem sh_11 : shp 11 = (1, 0, 8, []) := by decide +kernel
set_option maxRecDepth 20000 in
theorem sh_12 : shp 12 = (1, 0, 8, []) := by decide +kernel
set_option maxRecDepth 20000 in
theorem sh_13 : shp 13 = (1, 0, 8, []) := by decide +kernel
set_option maxRecDepth 20000 in
theorem sh_14 : shp 14 = (1, 0, 8, []) := by decide +kernel
set_option maxRecDepth 20000 in
theorem sh_15 : shp 15 = (0, 4, 0, [18, 19, 20, 21, 22, 23, 0, 0]) := by decide +kernel
set_option maxRecDepth 20000 in
theorem sh_16 : shp 16 = (1, 0, 4, []) := by decide +kernel
set_option maxRecDepth 20000 in
theorem sh_17 : shp 17 = (1, 0, 4, []) := by decide +kernel
set_option maxRecDepth 20000 in
theorem sh_18 : shp 18 = (1, 0, 4, []) := by decide +kernel
set_option maxRecDepth 20000 in
theorem sh_19 : shp 19 = (1, 0, 4, []) := by decide +kernel
set_option maxRecDepth 20000 in
theorem sh_20 : shp 20 = (1, 0, 4, []) := by decide +kernel
set_option maxRecDepth 20000 in
theorem sh_21 : shp 21 = (1, 0, 4, []) := by decide +kernel
set_option maxRecDepth 20000 in
theorem sh_22 : shp 22 = (0, 6, 0, [25, 26, 27, 0]) := by decide +kernel
set_option maxRecDepth 20000 in
theorem sh_23 : shp 23 = (1, 0, 4, []) := by decide +kernel
set_option maxRecDepth 20000 in
theorem sh_24 : shp 24 = (1, 0, 4, []) := by decide +kernel
set_option maxRecDepth 20000 in
theorem sh_25 : shp 25 = (2, 1, 4, []) := by decide +kernel
set_option maxRecDepth 20000 in
theorem sh_26 : shp 26 = (0, 1, 0, [29, 30, 31]) := by decide +kernel
set_option maxRecDepth 20000 in
theorem sh_27 : shp 27 = (1, 0, 8, []) := by decide +kernel
set_option maxRecDepth 20000 in
theorem sh_28 : shp 28 = (1, 0, 4, []) := by decide +kernel
set_option maxRecDepth 20000 in
theorem sh_29 : shp 29 = (1, 0, 4, []) := by decide +kernel
set_option maxRecDepth 20000 in
theorem sh_30 : shp 30 = (1, 0, 24, []) := by decide +kernel
set_option maxRecDepth 20000 in
theorem sh_31 : shp 31 = (1, 0, 24, []) := by decide +kernel
set_option maxRecDepth 20000 in
theorem sh_32 : shp 32 = (0, 8, 0, [35, 0]) := by decide +kernel
set_option maxRecDepth 20000 in
theorem sh_33 : shp 33 = (3, 2, 3, [34]) := by decide +kernel
set_option maxRecDepth 20000 in
theorem sh_34 : shp 34 = (1, 0, 6, []) := by decide +kernel
set_option maxRecDepth 20000 in
theorem sh_35 : shp 35 = (1, 0, 6, []) := by decide +kernel
set_option maxRecDepth 20000 in
theorem sh_36 : shp 36 = (1, 0, 6, []) := by decide +kernel
set_option maxRecDepth 20000 in
theorem sh_37 : shp 37 = (0, 3, 0, [3, 34, 40, 62, 0, 0, 1, 1]) := by decide +kernel
set_option maxRecDepth 20000 in
theorem sh_38 : shp 38 = (3, 2, 21, [39]) := by decide +kernel
set_option maxRecDepth 20000 in
theorem sh_39 : shp 39 = (1, 0, 6, []) := by decide +kernel
set_option maxRecDepth 20000 in
theorem sh_40 : shp 40 = (1, 0, 6, []) := by decide +kernel
set_option maxRecDepth 20000 in
theorem sh_41 : shp 41 = (1, 0, 6, []) := by decide +kernel
set_option maxRecDepth 20000 in
theorem sh_42 : shp 42 = (1, 0, 6, []) := by decide +kernel
set_option maxRecDepth 20000 in
theorem sh_43 : shp 43 = (1, 0, 6, []) := by decide +kernel
set_option maxRecDepth 20000 in
theorem sh_44 : shp 44 = (1, 0, 6, []) := by decide +kernel
set_option maxRecDepth 20000 in
theorem sh_45 : shp 45 = (1, 0, 6, []) := by decide +kernel
set_option maxRecDepth 20000 in
theorem sh_46 : shp 46 = (1, 0, 6, []) := by decide +kernel
set_option maxRecDepth 20000 in
theorem sh_47 : shp 47 = (1, 0, 6, []) := by decide +kernel
set_option maxRecDepth 20000 in
theorem sh_48 : shp 48 = (1, 0, 6, []) := by decide +kernel
set_option maxRecDepth 20000 in
theorem sh_49 : shp 49 = (1, 0, 6, []) := by decide +kernel
set_option maxRecDepth 20000 in
theorem sh_50 : shp 50 = (1, 0, 6, []) := by decide +kernel
set_option maxRecDepth 20000 in
theorem sh_51 : shp 51 = (1, 0, 6, []) := by decide +kernel
set_option maxRecDepth 20000 in
theorem sh_52 : shp 52 = (1, 0, 6, []) := by decide +kernel
set_option maxRecDepth 20000 in
theorem sh_53 : shp 53 = (1, 0, 6, []) := by decide +kernel
set_option maxRecDepth 20000 in
theorem sh_54 : shp 54 = (1, 0, 6, []) := by decide +kernel
set_option maxRecDepth 20000 in
theorem sh_55 : shp 55 = (1, 0, 6, []) := by decide +kernel
set_option maxRecDepth 20000 in
theorem sh_56 : shp 56 = (1, 0, 6, []) := by decide +kernel
set_option maxRecDepth 20000 in
theorem sh_57 : shp 57 = (1, 0, 6, []) := by decide +kernel
set_option maxRecDepth 20000 in
theorem sh_58 : shp 58 = (1, 0, 6, []) := by decide +kernel
set_option maxRecDepth 20000 in
theorem sh_59 : shp 59 = (1, 0, 6, []) := by decide +kernel
set_option maxRecDepth 20000 in
theorem sh_60 : shp 60 = (0, 1, 0, [63, 64, 65]) := by decide +kernel
set_option maxRecDepth 20000 in
theorem sh_61 : shp 61 = (1, 0, 8, []) := by decide +kernel
set_option maxRecDepth 20000 in
theorem sh_62 : shp 62 = (1, 0, 4, []) := by decide +kernel
set_option maxRecDepth 20000 in
theorem sh_63 : shp 63 = (1, 0, 4, []) := by decide +kernel
set_option maxRecDepth 20000 in
theorem sh_64 : shp 64 = (0, 5, 0, [67, 72, 73]) := by decide +kernel
set_option maxRecDepth 20000 in
theorem sh_65 : shp 65 = (3, 2, 4, [66]) := by decide +kernel
set_option maxRecDepth 20000 in
theorem sh_66 : shp 66 = (1, 0, 60, []) := by decide +kernel
set_option maxRecDepth 20000 in
theorem sh_67 : shp 67 = (1, 0, 60, []) := by decide +kernel
set_option maxRecDepth 20000 in
theorem sh_68 : shp 68 = (1, 0, 60, []) := by decide +kernel
set_option maxRecDepth 20000 in
theorem sh_69 : shp 69 = (1, 0, 60, []) := by decide +kernel
set_option maxRecDepth 20000 in
theorem sh_70 : shp 70 = (1, 0, 4, []) := by decide +kernel
set_option maxRecDepth 20000 in
theorem sh_71 : shp 71 = (1, 0, 4, []) := by decide +kernel
set_option maxRecDepth 20000 in
theorem sh_72 : shp 72 = (0, 10, 0, [0, 75, 76, 77, 78, 79, 80, 81, 0, 82, 83, 84, 85, 0, 86, 87, 88, 89, 90, 91, 92, 0, 93, 94, 95, 96, 97, 0, 0, 98, 99, 100, 0, 101, 102, 103, 104, 105, 0, 1, 1, 106, 107, 108]) := by decide +kernel
set_option maxRecDepth 20000 in
theorem sh_73 : shp 73 = (1, 0, 6, []) := by decide +kernel
set_option maxRecDepth 20000 in
theorem sh_74 : shp 74 = (1, 0, 6, []) := by decide +kernel
set_option maxRecDepth 20000 in
theorem sh_75 : shp 75 = (1, 0, 6, []) := by decide +kernel
set_option maxRecDepth 20000 in
theorem sh_76 : shp 76 = (1, 0, 6, []) := by decide +kernel
set_option maxRecDepth 20000 in
theorem sh_77 : shp 77 = (1, 0, 6, []) := by decide +kernel
set_option maxRecDepth 20000 in
theorem sh_78 : shp 78 = (1, 0, 6, []) := by decide +kernel
set_option maxRecDepth 20000 in
theorem sh_79 : shp 79 = (1, 0, 6, []) := by decide +kernel
set_option maxRecDepth 20000 in
theorem sh_80 : shp 80 = (1, 0, 8, []) := by decide +kernel
set_option maxRecDepth 20000 in
theorem sh_81 : shp 81 = (1, 0, 8, []) := by decide +kernel
set_option maxRecDepth 20000 in
theorem sh_82 : shp 82 = (1, 0, 8, []) := by decide +kernel
set_option maxRecDepth 20000 in
theorem sh_83 : shp 83 = (1, 0, 8, []) := by decide +kernel
set_option maxRecDepth 20000 in
theorem sh_84 : shp 84 = (1, 0, 4, []) := by decide +kernel
set_option maxRecDepth 20000 in
theorem sh_85 : shp 85 = (1, 0, 4, []) := by decide +kernel
set_option maxRecDepth 20000 in
theorem sh_86 : shp 86 = (1, 0, 4, []) := by decide +kernel
set_option maxRecDepth 20000 in
theorem sh_87 : shp 87 = (1, 0, 4, []) := by decide +kernel
set_option maxRecDepth 20000 in
theorem sh_88 : shp 88 = (1, 0, 4, []) := by decide +kernel
set_option maxRecDepth 20000 in
theorem sh_89 : shp 89 = (2, 1, 4, []) := by decide +kernel
set_option maxRecDepth 20000 in
theorem sh_90 : shp 90 = (1, 0, 4, []) := by decide +kernel
set_option maxRecDepth 20000 in
theorem sh_91 : shp 91 = (1, 0, 4, []) := by decide +kernel
set_option maxRecDepth 20000 in
theorem sh_92 : shp 92 = (1, 0, 4, []) := by decide +kernel
set_option maxRecDepth 20000 in
theorem sh_93 : shp 93 = (2, 1, 4, []) := by decide +kernel
set_option maxRecDepth 20000 in
theorem sh_94 : shp 94 = (1, 0, 24, []) := by decide +kernel
set_option maxRecDepth 20000 in
theorem sh_95 : shp 95 = (1, 0, 24, []) := by decide +kernel
set_option maxRecDepth 20000 in
theorem sh_96 : shp 96 = (1, 0, 8, []) := by decide +kernel
set_option maxRecDepth 20000 in
theorem sh_97 : shp 97 = (1, 0, 4, []) := by decide +kernel
set_option maxRecDepth 20000 in
theorem sh_98 : shp 98 = (1, 0, 4, []) := by decide +kernel
set_option maxRecDepth 20000 in
theorem sh_99 : shp 99 = (1, 0, 18, []) := by decide +kernel
set_option maxRecDepth 20000 in
theorem sh_100 : shp 100 = (1, 0, 6, []) := by decide +kernel
set_option maxRecDepth 20000 in
theorem sh_101 : shp 101 = (1, 0, 6, []) := by decide +kernel
set_option maxRecDepth 20000 in
theorem sh_102 : shp 102 = (1, 0, 6, []) := by decide +kernel
set_option maxRecDepth 20000 in
theorem sh_103 : shp 103 = (1, 0, 16, []) := by decide +kernel
set_option maxRecDepth 20000 in
theorem sh_104 : shp 104 = (1, 0, 4, []) := by decide +kernel
set_option maxRecDepth 20000 in
theorem sh_105 : shp 105 = (1, 0, 4, []) := by decide +kernel
set_option maxRecDepth 20000 in
theorem sh_106 : shp 106 = (1, 0, 240, []) := by decide +kernel
abbrev mX0_add : MI := (yX0_add, cX0_add, 4, (some .int))
set_option maxRecDepth 20000 in
theorem ok_X0_add : MOk mX0_add := ⟨by decide +kernel, tb_of 401 (by decide +kernel) rfl, tb_of 69 (by decide +kernel) rfl, ⟨by decide +kernel, by decide +kernel⟩, by decide⟩
abbrev mX0_has : MI := (yX0_has, cX0_has, 2, (some .boolean))
set_option maxRecDepth 20000 in
theorem ok_X0_has : MOk mX0_has := ⟨by decide +kernel, tb_of 409 (by decide +kernel) rfl, tb_of 69 (by decide +kernel) rfl, ⟨by decide +kernel, by decide +kernel⟩, by decide⟩
abbrev mX0_level : MI := (yX0_level, cX0_level, 3, (some .int))
set_option maxRecDepth 20000 in
theorem ok_X0_level : MOk mX0_level := ⟨by decide +kernel, tb_of 418 (by decide +kernel) rfl, tb_of 69 (by decide +kernel) rfl, ⟨by decide +kernel, by decide +kernel⟩, by decide⟩
abbrev mX0_breach : MI := (yX0_breach, cX0_breach, 4, (some .int))
set_option maxRecDepth 20000 in
theorem ok_X0_breach : MOk mX0_breach := ⟨by decide +kernel, tb_of 422 (by decide +kernel) rfl, tb_of 69 (by decide +kernel) rfl, ⟨by decide +kernel, by decide +kernel⟩, by decide⟩
abbrev mX0_allBreach : MI := (yX0_allBreach, cX0_allBreach, 5, (some .long))
set_option maxRecDepth 20000 in
theorem ok_X0_allBreach : MOk mX0_allBreach := ⟨by decide +kernel, tb_of 648 (by decide +kernel) rfl, tb_of 69 (by decide +kernel) rfl, ⟨by decide +kernel, by decide +kernel⟩, by decide⟩
abbrev mX0_alarms : MI := (yX0_alarms, cX0_alarms, 3, (some .int))
set_option maxRecDepth 20000 in
theorem ok_X0_alarms : MOk mX0_alarms := ⟨by decide +kernel, tb_of 562 (by decide +kernel) rfl, tb_of 69 (by decide +kernel) rfl, ⟨by decide +kernel, by decide +kernel⟩, by decide⟩
abbrev mX0_allWater : MI := (yX0_allWater, cX0_allWater, 3, (some .int))
set_option maxRecDepth 20000 in
theorem ok_X0_allWater : MOk mX0_allWater := ⟨by decide +kernel, tb_of 737 (by decide +kernel) rfl, tb_of 69 (by decide +kernel) rfl, ⟨by decide +kernel, by decide +kernel⟩, by decide⟩
abbrev mX2_advance : MI := (yX2_advance, cX2_advance, 3, (some .int))
set_option maxRecDepth 20000 in
theorem ok_X2_advance : MOk mX2_advance := ⟨by decide +kernel, tb_of 513 (by decide +kernel) rfl, tb_of 68 (by decide +kernel) rfl, ⟨by decide +kernel, by decide +kernel⟩, by decide⟩
abbrev mX2_drain : MI := (yX2_drain, cX2_drain, 2, none)
set_option maxRecDepth 20000 in
theorem ok_X2_drain : MOk mX2_drain := ⟨by decide +kernel, tb_of 548 (by decide +kernel) rfl, tb_of 68 (by decide +kernel) rfl, ⟨by decide +kernel, by decide +kernel⟩, by decide⟩
abbrev mX2_cost : MI := (yX2_cost, cX2_cost, 3, (some .int))
set_option maxRecDepth 20000 in
theorem ok_X2_cost : MOk mX2_cost := ⟨by decide +kernel, tb_of 552 (by decide +kernel) rfl, tb_of 68 (by decide +kernel) rfl, ⟨by decide +kernel, by decide +kernel⟩, by decide⟩
abbrev mX2_move : MI := (yX2_move, cX2_move, 7, none)
set_option maxRecDepth 20000 in
theorem ok_X2_move : MOk mX2_move := ⟨by decide +kernel, tb_of 521 (by decide +kernel) rfl, tb_of 68 (by decide +kernel) rfl, ⟨by decide +kernel, by decide +kernel⟩, by decide⟩
abbrev mX2_passWeir : MI := (yX2_passWeir, cX2_passWeir, 12, (some .int))
set_option maxRecDepth 20000 in
theorem ok_X2_passWeir : MOk mX2_passWeir := ⟨by decide +kernel, tb_of 525 (by decide +kernel) rfl, tb_of 68 (by decide +kernel) rfl, ⟨by decide +kernel, by decide +kernel⟩, by decide⟩
abbrev mX2_passPump : MI := (yX2_passPump, cX2_passPump, 6, (some .int))
set_option maxRecDepth 20000 in
theorem ok_X2_passPump : MOk mX2_passPump := ⟨by decide +kernel, tb_of 536 (by decide +kernel) rfl, tb_of 68 (by decide +kernel) rfl, ⟨by decide +kernel, by decide +kernel⟩, by decide⟩
abbrev mX2_passSluice : MI := (yX2_passSluice, cX2_passSluice, 8, (some .int))
set_option maxRecDepth 20000 in
theorem ok_X2_passSluice : MOk mX2_passSluice := ⟨by decide +kernel, tb_of 544 (by decide +kernel) rfl, tb_of 68 (by decide +kernel) rfl, ⟨by decide +kernel, by decide +kernel⟩, by decide⟩
abbrev mX3_seek : MI := (yX3_seek, cX3_seek, 2, none)
set_option maxRecDepth 20000 in
theorem ok_X3_seek : MOk mX3_seek := ⟨by decide +kernel, tb_of 598 (by decide +kernel) rfl, tb_of 76 (by decide +kernel) rfl, ⟨by decide +kernel, by decide +kernel⟩, by decide⟩
abbrev mX3_grow : MI := (yX3_grow, cX3_grow, 14, none)
set_option maxRecDepth 20000 in
theorem ok_X3_grow : MOk mX3_grow := ⟨by decide +kernel, tb_of 614 (by decide +kernel) rfl, tb_of 76 (by decide +kernel) rfl, ⟨by decide +kernel, by decide +kernel⟩, by decide⟩
abbrev mX3_isBetter : MI := (yX3_isBetter, cX3_isBetter, 6, (some .boolean))
set_option maxRecDepth 20000 in
theorem ok_X3_isBetter : MOk mX3_isBetter := ⟨by decide +kernel, tb_of 638 (by decide +kernel) rfl, tb_of 76 (by decide +kernel) rfl, ⟨by decide +kernel, by decide +kernel⟩, by decide⟩
abbrev mX3_tells : MI := (yX3_tells, cX3_tells, 4, (some .boolean))
set_option maxRecDepth 20000 in
theorem ok_X3_tells : MOk mX3_tells := ⟨by decide +kernel, tb_of 628 (by decide +kernel) rfl, tb_of 76 (by decide +kernel) rfl, ⟨by decide +kernel, by decide +kernel⟩, by decide⟩
abbrev mX3_bitsOf : MI := (yX3_bitsOf, cX3_bitsOf, 3, (some .int))
set_option maxRecDepth 20000 in
theorem ok_X3_bitsOf : MOk mX3_bitsOf := ⟨by decide +kernel, tb_of 665 (by decide +kernel) rfl, tb_of 76 (by decide +kernel) rfl, ⟨by decide +kernel, by decide +kernel⟩, by decide⟩
abbrev mX3_isPlan : MI := (yX3_isPlan, cX3_isPlan, 4, (some .boolean))
set_option maxRecDepth 20000 in
theorem ok_X3_isPlan : MOk mX3_isPlan := ⟨by decide +kernel, tb_of 661 (by decide +kernel) rfl, tb_of 76 (by decide +kernel) rfl, ⟨by decide +kernel, by decide +kernel⟩, by decide⟩
abbrev mX3_isWell : MI := (yX3_isWell, cX3_isWell, 4, (some .boolean))
set_option maxRecDepth 20000 in
theorem ok_X3_isWell : MOk mX3_isWell := ⟨by decide +kernel, tb_of 669 (by decide +kernel) rfl, tb_of 76 (by decide +kernel) rfl, ⟨by decide +kernel, by decide +kernel⟩, by decide⟩
abbrev mX3_fits : MI := (yX3_fits, cX3_fits, 5, (some .boolean))
set_option maxRecDepth 20000 in
theorem ok_X3_fits : MOk mX3_fits := ⟨by decide +kernel, tb_of 624 (by decide +kernel) rfl, tb_of 76 (by decide +kernel) rfl, ⟨by decide +kernel, by decide +kernel⟩, by decide⟩
abbrev mX3_mayEnd : MI := (yX3_mayEnd, cX3_mayEnd, 5, (some .boolean))
set_option maxRecDepth 20000 in
theorem ok_X3_mayEnd : MOk mX3_mayEnd := ⟨by decide +kernel, tb_of 633 (by decide +kernel) rfl, tb_of 76 (by decide +kernel) rfl, ⟨by decide +kernel, by decide +kernel⟩, by decide⟩
abbrev mX3_costOf : MI := (yX3_costOf, cX3_costOf, 6, (some .long))
set_option maxRecDepth 20000 in
theorem ok_X3_costOf : MOk mX3_costOf := ⟨by decide +kernel, tb_of 673 (by decide +kernel) rfl, tb_of 76 (by decide +kernel) rfl, ⟨by decide +kernel, by decide +kernel⟩, by decide⟩
abbrev mX3_breachOf : MI := (yX3_breachOf, cX3_breachOf, 6, (some .long))
set_option maxRecDepth 20000 in
theorem ok_X3_breachOf : MOk mX3_breachOf := ⟨by decide +kernel, tb_of 677 (by decide +kernel) rfl, tb_of 76 (by decide +kernel) rfl, ⟨by decide +kernel, by decide +kernel⟩, by decide⟩
abbrev mX3_begin : MI := (yX3_begin, cX3_begin, 2, none)
set_option maxRecDepth 20000 in
theorem ok_X3_begin : MOk mX3_begin := ⟨by decide +kernel, tb_of 603 (by decide +kernel) rfl, tb_of 76 (by decide +kernel) rfl, ⟨by decide +kernel, by decide +kernel⟩, by decide⟩
abbrev mX3_tread : MI := (yX3_tread, cX3_tread, 10, (some .long))
set_option maxRecDepth 20000 in
theorem ok_X3_tread : MOk mX3_tread := ⟨by decide +kernel, tb_of 642 (by decide +kernel) rfl, tb_of 76 (by decide +kernel) rfl, ⟨by decide +kernel, by decide +kernel⟩, by decide⟩
abbrev mX4_add : MI := (yX4_add, cX4_add, 6, (some .int))
set_option maxRecDepth 20000 in
theorem ok_X4_add : MOk mX4_add := ⟨by decide +kernel, tb_of 440 (by decide +kernel) rfl, tb_of 71 (by decide +kernel) rfl, ⟨by decide +kernel, by decide +kernel⟩, by decide⟩
abbrev mX4_has : MI := (yX4_has, cX4_has, 2, (some .boolean))
set_option maxRecDepth 20000 in
theorem ok_X4_has : MOk mX4_has := ⟨by decide +kernel, tb_of 456 (by decide +kernel) rfl, tb_of 71 (by decide +kernel) rfl, ⟨by decide +kernel, by decide +kernel⟩, by decide⟩
abbrev mX4_isOn : MI := (yX4_isOn, cX4_isOn, 2, (some .boolean))
set_option maxRecDepth 20000 in
theorem ok_X4_isOn : MOk mX4_isOn := ⟨by decide +kernel, tb_of 464 (by decide +kernel) rfl, tb_of 71 (by decide +kernel) rfl, ⟨by decide +kernel, by decide +kernel⟩, by decide⟩
abbrev mX4_pausesAt : MI := (yX4_pausesAt, cX4_pausesAt, 3, (some .boolean))
set_option maxRecDepth 20000 in
theorem ok_X4_pausesAt : MOk mX4_pausesAt := ⟨by decide +kernel, tb_of 468 (by decide +kernel) rfl, tb_of 71 (by decide +kernel) rfl, ⟨by decide +kernel, by decide +kernel⟩, by decide⟩
abbrev mX4_mustStayOff : MI := (yX4_mustStayOff, cX4_mustStayOff, 3, (some .boolean))
set_option maxRecDepth 20000 in
theorem ok_X4_mustStayOff : MOk mX4_mustStayOff := ⟨by decide +kernel, tb_of 460 (by decide +kernel) rfl, tb_of 71 (by decide +kernel) rfl, ⟨by decide +kernel, by decide +kernel⟩, by decide⟩
abbrev mX4_mustRunOn : MI := (yX4_mustRunOn, cX4_mustRunOn, 3, (some .boolean))
set_option maxRecDepth 20000 in
theorem ok_X4_mustRunOn : MOk mX4_mustRunOn := ⟨by decide +kernel, tb_of 478 (by decide +kernel) rfl, tb_of 71 (by decide +kernel) rfl, ⟨by decide +kernel, by decide +kernel⟩, by decide⟩
abbrev mX4_put : MI := (yX4_put, cX4_put, 4, none)
set_option maxRecDepth 20000 in
theorem ok_X4_put : MOk mX4_put := ⟨by decide +kernel, tb_of 483 (by decide +kernel) rfl, tb_of 71 (by decide +kernel) rfl, ⟨by decide +kernel, by decide +kernel⟩, by decide⟩
abbrev mX4_awake : MI := (yX4_awake, cX4_awake, 5, (some .int))
set_option maxRecDepth 20000 in
theorem ok_X4_awake : MOk mX4_awake := ⟨by decide +kernel, tb_of 517 (by decide +kernel) rfl, tb_of 71 (by decide +kernel) rfl, ⟨by decide +kernel, by decide +kernel⟩, by decide⟩
abbrev mX4_inPlans : MI := (yX4_inPlans, cX4_inPlans, 1, (some .int))
set_option maxRecDepth 20000 in
theorem ok_X4_inPlans : MOk mX4_inPlans := ⟨by decide +kernel, tb_of 618 (by decide +kernel) rfl, tb_of 71 (by decide +kernel) rfl, ⟨by decide +kernel, by decide +kernel⟩, by decide⟩
abbrev mX5_clear : MI := (yX5_clear, cX5_clear, 4, none)
set_option maxRecDepth 20000 in
theorem ok_X5_clear : MOk mX5_clear := ⟨by decide +kernel, tb_of 697 (by decide +kernel) rfl, tb_of 77 (by decide +kernel) rfl, ⟨by decide +kernel, by decide +kernel⟩, by decide⟩
abbrev mX5_isNothing : MI := (yX5_isNothing, cX5_isNothing, 2, (some .boolean))
set_option maxRecDepth 20000 in
theorem ok_X5_isNothing : MOk mX5_isNothing := ⟨by decide +kernel, tb_of 705 (by decide +kernel) rfl, tb_of 77 (by decide +kernel) rfl, ⟨by decide +kernel, by decide +kernel⟩, by decide⟩
abbrev mX5_hasCell : MI := (yX5_hasCell, cX5_hasCell, 3, (some .boolean))
set_option maxRecDepth 20000 in
theorem ok_X5_hasCell : MOk mX5_hasCell := ⟨by decide +kernel, tb_of 709 (by decide +kernel) rfl, tb_of 77 (by decide +kernel) rfl, ⟨by decide +kernel, by decide +kernel⟩, by decide⟩
abbrev mX5_put : MI := (yX5_put, cX5_put, 4, none)
set_option maxRecDepth 20000 in
theorem ok_X5_put : MOk mX5_put := ⟨by decide +kernel, tb_of 713 (by decide +kernel) rfl, tb_of 77 (by decide +kernel) rfl, ⟨by decide +kernel, by decide +kernel⟩, by decide⟩
abbrev mX5_faultAs : MI := (yX5_faultAs, cX5_faultAs, 3, (some .int))
set_option maxRecDepth 20000 in
theorem ok_X5_faultAs : MOk mX5_faultAs := ⟨by decide +kernel, tb_of 721 (by decide +kernel) rfl, tb_of 77 (by decide +kernel) rfl, ⟨by decide +kernel, by decide +kernel⟩, by decide⟩
abbrev mX6_add : MI := (yX6_add, cX6_add, 3, (some .int))
set_option maxRecDepth 20000 in
theorem ok_X6_add : MOk mX6_add := ⟨by decide +kernel, tb_of 448 (by decide +kernel) rfl, tb_of 72 (by decide +kernel) rfl, ⟨by decide +kernel, by decide +kernel⟩, by decide⟩
abbrev mX6_has : MI := (yX6_has, cX6_has, 2, (some .boolean))
set_option maxRecDepth 20000 in
theorem ok_X6_has : MOk mX6_has := ⟨by decide +kernel, tb_of 491 (by decide +kernel) rfl, tb_of 72 (by decide +kernel) rfl, ⟨by decide +kernel, by decide +kernel⟩, by decide⟩
abbrev mX7_add : MI := (yX7_add, cX7_add, 5, (some .int))
set_option maxRecDepth 20000 in
theorem ok_X7_add : MOk mX7_add := ⟨by decide +kernel, tb_of 431 (by decide +kernel) rfl, tb_of 70 (by decide +kernel) rfl, ⟨by decide +kernel, by decide +kernel⟩, by decide⟩
abbrev mX7_has : MI := (yX7_has, cX7_has, 2, (some .boolean))
set_option maxRecDepth 20000 in
theorem ok_X7_has : MOk mX7_has := ⟨by decide +kernel, tb_of 571 (by decide +kernel) rfl, tb_of 70 (by decide +kernel) rfl, ⟨by decide +kernel, by decide +kernel⟩, by decide⟩
abbrev mX8_add : MI := (yX8_add, cX8_add, 1, (some .int))
set_option maxRecDepth 20000 in
theorem ok_X8_add : MOk mX8_add := ⟨by decide +kernel, tb_of 579 (by decide +kernel) rfl, tb_of 75 (by decide +kernel) rfl, ⟨by decide +kernel, by decide +kernel⟩, by decide⟩
abbrev mX8_has : MI := (yX8_has, cX8_has, 2, (some .boolean))
set_option maxRecDepth 20000 in
theorem ok_X8_has : MOk mX8_has := ⟨by decide +kernel, tb_of 587 (by decide +kernel) rfl, tb_of 75 (by decide +kernel) rfl, ⟨by decide +kernel, by decide +kernel⟩, by decide⟩
abbrev mX8_tried : MI := (yX8_tried, cX8_tried, 1, (some .int))
set_option maxRecDepth 20000 in
theorem ok_X8_tried : MOk mX8_tried := ⟨by decide +kernel, tb_of 607 (by decide +kernel) rfl, tb_of 75 (by decide +kernel) rfl, ⟨by decide +kernel, by decide +kernel⟩, by decide⟩
abbrev mX9_ditch : MI := (yX9_ditch, cX9_ditch, 4, (some .int))
set_option maxRecDepth 20000 in
theorem ok_X9_ditch : MOk mX9_ditch := ⟨by decide +kernel, tb_of 390 (by decide +kernel) rfl, tb_of 67 (by decide +kernel) rfl, ⟨by decide +kernel, by decide +kernel⟩, by decide⟩
abbrev mX9_band : MI := (yX9_band, cX9_band, 4, (some .int))
set_option maxRecDepth 20000 in
theorem ok_X9_band : MOk mX9_band := ⟨by decide +kernel, tb_of 405 (by decide +kernel) rfl, tb_of 67 (by decide +kernel) rfl, ⟨by decide +kernel, by decide +kernel⟩, by decide⟩
abbrev mX9_told : MI := (yX9_told, cX9_told, 4, (some .int))
set_option maxRecDepth 20000 in
theorem ok_X9_told : MOk mX9_told := ⟨by decide +kernel, tb_of 413 (by decide +kernel) rfl, tb_of 67 (by decide +kernel) rfl, ⟨by decide +kernel, by decide +kernel⟩, by decide⟩
abbrev mX9_weir : MI := (yX9_weir, cX9_weir, 5, (some .int))
set_option maxRecDepth 20000 in
theorem ok_X9_weir : MOk mX9_weir := ⟨by decide +kernel, tb_of 427 (by decide +kernel) rfl, tb_of 67 (by decide +kernel) rfl, ⟨by decide +kernel, by decide +kernel⟩, by decide⟩
abbrev mX9_pump : MI := (yX9_pump, cX9_pump, 6, (some .int))
set_option maxRecDepth 20000 in
theorem ok_X9_pump : MOk mX9_pump := ⟨by decide +kernel, tb_of 435 (by decide +kernel) rfl, tb_of 67 (by decide +kernel) rfl, ⟨by decide +kernel, by decide +kernel⟩, by decide⟩
abbrev mX9_sluice : MI := (yX9_sluice, cX9_sluice, 3, (some .int))
set_option maxRecDepth 20000 in
theorem ok_X9_sluice : MOk mX9_sluice := ⟨by decide +kernel, tb_of 444 (by decide +kernel) rfl, tb_of 67 (by decide +kernel) rfl, ⟨by decide +kernel, by decide +kernel⟩, by decide⟩
abbrev mX9_turn : MI := (yX9_turn, cX9_turn, 5, (some .int))
set_option maxRecDepth 20000 in
theorem ok_X9_turn : MOk mX9_turn := ⟨by decide +kernel, tb_of 452 (by decide +kernel) rfl, tb_of 67 (by decide +kernel) rfl, ⟨by decide +kernel, by decide +kernel⟩, by decide⟩
abbrev mX9_open : MI := (yX9_open, cX9_open, 5, (some .int))
set_option maxRecDepth 20000 in
theorem ok_X9_open : MOk mX9_open := ⟨by decide +kernel, tb_of 487 (by decide +kernel) rfl, tb_of 67 (by decide +kernel) rfl, ⟨by decide +kernel, by decide +kernel⟩, by decide⟩
abbrev mX9_tide : MI := (yX9_tide, cX9_tide, 4, (some .int))
set_option maxRecDepth 20000 in
theorem ok_X9_tide : MOk mX9_tide := ⟨by decide +kernel, tb_of 495 (by decide +kernel) rfl, tb_of 67 (by decide +kernel) rfl, ⟨by decide +kernel, by decide +kernel⟩, by decide⟩
abbrev mX9_price : MI := (yX9_price, cX9_price, 4, (some .int))
set_option maxRecDepth 20000 in
theorem ok_X9_price : MOk mX9_price := ⟨by decide +kernel, tb_of 502 (by decide +kernel) rfl, tb_of 67 (by decide +kernel) rfl, ⟨by decide +kernel, by decide +kernel⟩, by decide⟩
abbrev mX9_step : MI := (yX9_step, cX9_step, 2, (some .int))
set_option maxRecDepth 20000 in
theorem ok_X9_step : MOk mX9_step := ⟨by decide +kernel, tb_of 506 (by decide +kernel) rfl, tb_of 67 (by decide +kernel) rfl, ⟨by decide +kernel, by decide +kernel⟩, by decide⟩
abbrev mX9_passed : MI := (yX9_passed, cX9_passed, 3, (some .int))
set_option maxRecDepth 20000 in
theorem ok_X9_passed : MOk mX9_passed := ⟨by decide +kernel, tb_of 567 (by decide +kernel) rfl, tb_of 67 (by decide +kernel) rfl, ⟨by decide +kernel, by decide +kernel⟩, by decide⟩
abbrev mX9_world : MI := (yX9_world, cX9_world, 1, (some .int))
set_option maxRecDepth 20000 in
theorem ok_X9_world : MOk mX9_world := ⟨by decide +kernel, tb_of 575 (by decide +kernel) rfl, tb_of 67 (by decide +kernel) rfl, ⟨by decide +kernel, by decide +kernel⟩, by decide⟩
abbrev mX9_foretell : MI := (yX9_foretell, cX9_foretell, 4, (some .int))
set_option maxRecDepth 20000 in
theorem ok_X9_foretell : MOk mX9_foretell := ⟨by decide +kernel, tb_of 583 (by decide +kernel) rfl, tb_of 67 (by decide +kernel) rfl, ⟨by decide +kernel, by decide +kernel⟩, by decide⟩
abbrev mX9_plan : MI := (yX9_plan, cX9_plan, 2, (some .int))
set_option maxRecDepth 20000 in
theorem ok_X9_plan : MOk mX9_plan := ⟨by decide +kernel, tb_of 591 (by decide +kernel) rfl, tb_of 67 (by decide +kernel) rfl, ⟨by decide +kernel, by decide +kernel⟩, by decide⟩
abbrev mX9_planned : MI := (yX9_planned, cX9_planned, 3, (some .long))
set_option maxRecDepth 20000 in
theorem ok_X9_planned : MOk mX9_planned := ⟨by decide +kernel, tb_of 652 (by decide +kernel) rfl, tb_of 67 (by decide +kernel) rfl, ⟨by decide +kernel, by decide +kernel⟩, by decide⟩
abbrev mX9_judge : MI := (yX9_judge, cX9_judge, 4, (some .long))
set_option maxRecDepth 20000 in
theorem ok_X9_judge : MOk mX9_judge := ⟨by decide +kernel, tb_of 657 (by decide +kernel) rfl, tb_of 67 (by decide +kernel) rfl, ⟨by decide +kernel, by decide +kernel⟩, by decide⟩
abbrev mX9_follow : MI := (yX9_follow, cX9_follow, 5, (some .int))
set_option maxRecDepth 20000 in
theorem ok_X9_follow : MOk mX9_follow := ⟨by decide +kernel, tb_of 681 (by decide +kernel) rfl, tb_of 67 (by decide +kernel) rfl, ⟨by decide +kernel, by decide +kernel⟩, by decide⟩
abbrev mX9_sheet : MI := (yX9_sheet, cX9_sheet, 4, (some .int))
set_option maxRecDepth 20000 in
theorem ok_X9_sheet : MOk mX9_sheet := ⟨by decide +kernel, tb_of 687 (by decide +kernel) rfl, tb_of 67 (by decide +kernel) rfl, ⟨by decide +kernel, by decide +kernel⟩, by decide⟩
abbrev mX9_lay : MI := (yX9_lay, cX9_lay, 4, (some .int))
set_option maxRecDepth 20000 in
theorem ok_X9_lay : MOk mX9_lay := ⟨by decide +kernel, tb_of 701 (by decide +kernel) rfl, tb_of 67 (by decide +kernel) rfl, ⟨by decide +kernel, by decide +kernel⟩, by decide⟩
abbrev mX9_rain : MI := (yX9_rain, cX9_rain, 9, (some .int))
set_option maxRecDepth 20000 in
theorem ok_X9_rain : MOk mX9_rain := ⟨by decide +kernel, tb_of 717 (by decide +kernel) rfl, tb_of 67 (by decide +kernel) rfl, ⟨by decide +kernel, by decide +kernel⟩, by decide⟩
abbrev mX9_tides : MI := (yX9_tides, cX9_tides, 6, (some .int))
set_option maxRecDepth 20000 in
theorem ok_X9_tides : MOk mX9_tides := ⟨by decide +kernel, tb_of 726 (by decide +kernel) rfl, tb_of 67 (by decide +kernel) rfl, ⟨by decide +kernel, by decide +kernel⟩, by decide⟩
abbrev mX9_count : MI := (yX9_count, cX9_count, 2, (some .int))
set_option maxRecDepth 20000 in
theorem ok_X9_count : MOk mX9_count := ⟨by decide +kernel, tb_of 731 (by decide +kernel) rfl, tb_of 67 (by decide +kernel) rfl, ⟨by decide +kernel, by decide +kernel⟩, by decide⟩
abbrev mX9_within : MI := (yX9_within, cX9_within, 3, (some .boolean))
set_option maxRecDepth 20000 in
theorem ok_X9_within : MOk mX9_within := ⟨by decide +kernel, tb_of 393 (by decide +kernel) rfl, tb_of 67 (by decide +kernel) rfl, ⟨by decide +kernel, by decide +kernel⟩, by decide⟩
abbrev mX9_isHeight : MI := (yX9_isHeight, cX9_isHeight, 1, (some .boolean))
set_option maxRecDepth 20000 in
theorem ok_X9_isHeight : MOk mX9_isHeight := ⟨by decide +kernel, tb_of 396 (by decide +kernel) rfl, tb_of 67 (by decide +kernel) rfl, ⟨by decide +kernel, by decide +kernel⟩, by decide⟩
abbrev mX9_isRain : MI := (yX9_isRain, cX9_isRain, 1, (some .boolean))
set_option maxRecDepth 20000 in
theorem ok_X9_isRain : MOk mX9_isRain := ⟨by decide +kernel, tb_of 509 (by decide +kernel) rfl, tb_of 67 (by decide +kernel) rfl, ⟨by decide +kernel, by decide +kernel⟩, by decide⟩
abbrev mX9_isHourOfDay : MI := (yX9_isHourOfDay, cX9_isHourOfDay, 1, (some .boolean))
set_option maxRecDepth 20000 in
theorem ok_X9_isHourOfDay : MOk mX9_isHourOfDay := ⟨by decide +kernel, tb_of 498 (by decide +kernel) rfl, tb_of 67 (by decide +kernel) rfl, ⟨by decide +kernel, by decide +kernel⟩, by decide⟩
abbrev mX9_hourOfDay : MI := (yX9_hourOfDay, cX9_hourOfDay, 1, (some .int))
set_option maxRecDepth 20000 in
theorem ok_X9_hourOfDay : MOk mX9_hourOfDay := ⟨by decide +kernel, tb_of 471 (by decide +kernel) rfl, tb_of 67 (by decide +kernel) rfl, ⟨by decide +kernel, by decide +kernel⟩, by decide⟩
abbrev mX9_isPlanned : MI := (yX9_isPlanned, cX9_isPlanned, 1, (some .boolean))
set_option maxRecDepth 20000 in
theorem ok_X9_isPlanned : MOk mX9_isPlanned := ⟨by decide +kernel, tb_of 594 (by decide +kernel) rfl, tb_of 67 (by decide +kernel) rfl, ⟨by decide +kernel, by decide +kernel⟩, by decide⟩
abbrev mX9_isSheet : MI := (yX9_isSheet, cX9_isSheet, 1, (some .boolean))
set_option maxRecDepth 20000 in
theorem ok_X9_isSheet : MOk mX9_isSheet := ⟨by decide +kernel, tb_of 690 (by decide +kernel) rfl, tb_of 67 (by decide +kernel) rfl, ⟨by decide +kernel, by decide +kernel⟩, by decide⟩
abbrev mX9_isLane : MI := (yX9_isLane, cX9_isLane, 1, (some .boolean))
set_option maxRecDepth 20000 in
theorem ok_X9_isLane : MOk mX9_isLane := ⟨by decide +kernel, tb_of 693 (by decide +kernel) rfl, tb_of 67 (by decide +kernel) rfl, ⟨by decide +kernel, by decide +kernel⟩, by decide⟩
abbrev mX10_in : MI := (yX10_in, cX10_in, 6, (some .boolean))
set_option maxRecDepth 20000 in
theorem ok_X10_in : MOk mX10_in := ⟨by decide +kernel, tb_of 884 (by decide +kernel) rfl, tb_of 78 (by decide +kernel) rfl, ⟨by decide +kernel, by decide +kernel⟩, by decide⟩
abbrev mX10_isDitch : MI := (yX10_isDitch, cX10_isDitch, 2, (some .boolean))
set_option maxRecDepth 20000 in
theorem ok_X10_isDitch : MOk mX10_isDitch := ⟨by decide +kernel, tb_of 895 (by decide +kernel) rfl, tb_of 78 (by decide +kernel) rfl, ⟨by decide +kernel, by decide +kernel⟩, by decide⟩
abbrev mX10_ditch : MI := (yX10_ditch, cX10_ditch, 4, (some .int))
set_option maxRecDepth 20000 in
theorem ok_X10_ditch : MOk mX10_ditch := ⟨by decide +kernel, tb_of 880 (by decide +kernel) rfl, tb_of 78 (by decide +kernel) rfl, ⟨by decide +kernel, by decide +kernel⟩, by decide⟩
abbrev mX10_band : MI := (yX10_band, cX10_band, 4, (some .int))
set_option maxRecDepth 20000 in
theorem ok_X10_band : MOk mX10_band := ⟨by decide +kernel, tb_of 891 (by decide +kernel) rfl, tb_of 78 (by decide +kernel) rfl, ⟨by decide +kernel, by decide +kernel⟩, by decide⟩
abbrev mX10_level : MI := (yX10_level, cX10_level, 2, (some .int))
set_option maxRecDepth 20000 in
theorem ok_X10_level : MOk mX10_level := ⟨by decide +kernel, tb_of 907 (by decide +kernel) rfl, tb_of 78 (by decide +kernel) rfl, ⟨by decide +kernel, by decide +kernel⟩, by decide⟩
abbrev mX10_breach : MI := (yX10_breach, cX10_breach, 3, (some .int))
set_option maxRecDepth 20000 in
theorem ok_X10_breach : MOk mX10_breach := ⟨by decide +kernel, tb_of 911 (by decide +kernel) rfl, tb_of 78 (by decide +kernel) rfl, ⟨by decide +kernel, by decide +kernel⟩, by decide⟩
abbrev mX10_told : MI := (yX10_told, cX10_told, 3, (some .int))
set_option maxRecDepth 20000 in
theorem ok_X10_told : MOk mX10_told := ⟨by decide +kernel, tb_of 901 (by decide +kernel) rfl, tb_of 78 (by decide +kernel) rfl, ⟨by decide +kernel, by decide +kernel⟩, by decide⟩
abbrev mX10_weir : MI := (yX10_weir, cX10_weir, 5, (some .int))
set_option maxRecDepth 20000 in
theorem ok_X10_weir : MOk mX10_weir := ⟨by decide +kernel, tb_of 915 (by decide +kernel) rfl, tb_of 78 (by decide +kernel) rfl, ⟨by decide +kernel, by decide +kernel⟩, by decide⟩
abbrev mX10_pump : MI := (yX10_pump, cX10_pump, 6, (some .int))
set_option maxRecDepth 20000 in
theorem ok_X10_pump : MOk mX10_pump := ⟨by decide +kernel, tb_of 919 (by decide +kernel) rfl, tb_of 78 (by decide +kernel) rfl, ⟨by decide +kernel, by decide +kernel⟩, by decide⟩
abbrev mX10_sluice : MI := (yX10_sluice, cX10_sluice, 3, (some .int))
set_option maxRecDepth 20000 in
theorem ok_X10_sluice : MOk mX10_sluice := ⟨by decide +kernel, tb_of 925 (by decide +kernel) rfl, tb_of 78 (by decide +kernel) rfl, ⟨by decide +kernel, by decide +kernel⟩, by decide⟩
abbrev mX10_isPaused : MI := (yX10_isPaused, cX10_isPaused, 3, (some .boolean))
set_option maxRecDepth 20000 in
theorem ok_X10_isPaused : MOk mX10_isPaused := ⟨by decide +kernel, tb_of 933 (by decide +kernel) rfl, tb_of 78 (by decide +kernel) rfl, ⟨by decide +kernel, by decide +kernel⟩, by decide⟩
abbrev mX10_turns : MI := (yX10_turns, cX10_turns, 3, none)
set_option maxRecDepth 20000 in
theorem ok_X10_turns : MOk mX10_turns := ⟨by decide +kernel, tb_of 937 (by decide +kernel) rfl, tb_of 78 (by decide +kernel) rfl, ⟨by decide +kernel, by decide +kernel⟩, by decide⟩
abbrev mX10_turn : MI := (yX10_turn, cX10_turn, 4, (some .int))
set_option maxRecDepth 20000 in
theorem ok_X10_turn : MOk mX10_turn := ⟨by decide +kernel, tb_of 929 (by decide +kernel) rfl, tb_of 78 (by decide +kernel) rfl, ⟨by decide +kernel, by decide +kernel⟩, by decide⟩
abbrev mX10_open : MI := (yX10_open, cX10_open, 4, (some .int))
set_option maxRecDepth 20000 in
theorem ok_X10_open : MOk mX10_open := ⟨by decide +kernel, tb_of 941 (by decide +kernel) rfl, tb_of 78 (by decide +kernel) rfl, ⟨by decide +kernel, by decide +kernel⟩, by decide⟩
abbrev mX10_tide : MI := (yX10_tide, cX10_tide, 4, (some .int))
set_option maxRecDepth 20000 in
theorem ok_X10_tide : MOk mX10_tide := ⟨by decide +kernel, tb_of 945 (by decide +kernel) rfl, tb_of 78 (by decide +kernel) rfl, ⟨by decide +kernel, by decide +kernel⟩, by decide⟩
abbrev mX10_price : MI := (yX10_price, cX10_price, 4, (some .int))
set_option maxRecDepth 20000 in
theorem ok_X10_price : MOk mX10_price := ⟨by decide +kernel, tb_of 950 (by decide +kernel) rfl, tb_of 78 (by decide +kernel) rfl, ⟨by decide +kernel, by decide +kernel⟩, by decide⟩
abbrev mX10_less : MI := (yX10_less, cX10_less, 2, (some .int))
set_option maxRecDepth 20000 in
theorem ok_X10_less : MOk mX10_less := ⟨by decide +kernel, tb_of 966 (by decide +kernel) rfl, tb_of 78 (by decide +kernel) rfl, ⟨by decide +kernel, by decide +kernel⟩, by decide⟩
abbrev mX10_flows : MI := (yX10_flows, cX10_flows, 16, none)
set_option maxRecDepth 20000 in
theorem ok_X10_flows : MOk mX10_flows := ⟨by decide +kernel, tb_of 963 (by decide +kernel) rfl, tb_of 78 (by decide +kernel) rfl, ⟨by decide +kernel, by decide +kernel⟩, by decide⟩
abbrev mX10_alarms : MI := (yX10_alarms, cX10_alarms, 3, (some .int))
set_option maxRecDepth 20000 in
theorem ok_X10_alarms : MOk mX10_alarms := ⟨by decide +kernel, tb_of 970 (by decide +kernel) rfl, tb_of 78 (by decide +kernel) rfl, ⟨by decide +kernel, by decide +kernel⟩, by decide⟩
abbrev mX10_steps : MI := (yX10_steps, cX10_steps, 4, (some .int))
set_option maxRecDepth 20000 in
theorem ok_X10_steps : MOk mX10_steps := ⟨by decide +kernel, tb_of 959 (by decide +kernel) rfl, tb_of 78 (by decide +kernel) rfl, ⟨by decide +kernel, by decide +kernel⟩, by decide⟩
abbrev mX10_step : MI := (yX10_step, cX10_step, 2, (some .int))
set_option maxRecDepth 20000 in
theorem ok_X10_step : MOk mX10_step := ⟨by decide +kernel, tb_of 955 (by decide +kernel) rfl, tb_of 78 (by decide +kernel) rfl, ⟨by decide +kernel, by decide +kernel⟩, by decide⟩
abbrev mX10_passed : MI := (yX10_passed, cX10_passed, 3, (some .int))
set_option maxRecDepth 20000 in
theorem ok_X10_passed : MOk mX10_passed := ⟨by decide +kernel, tb_of 974 (by decide +kernel) rfl, tb_of 78 (by decide +kernel) rfl, ⟨by decide +kernel, by decide +kernel⟩, by decide⟩
abbrev mX10_world : MI := (yX10_world, cX10_world, 2, (some .int))
set_option maxRecDepth 20000 in
theorem ok_X10_world : MOk mX10_world := ⟨by decide +kernel, tb_of 978 (by decide +kernel) rfl, tb_of 78 (by decide +kernel) rfl, ⟨by decide +kernel, by decide +kernel⟩, by decide⟩
abbrev mX10_foretell : MI := (yX10_foretell, cX10_foretell, 4, (some .int))
set_option maxRecDepth 20000 in
theorem ok_X10_foretell : MOk mX10_foretell := ⟨by decide +kernel, tb_of 982 (by decide +kernel) rfl, tb_of 78 (by decide +kernel) rfl, ⟨by decide +kernel, by decide +kernel⟩, by decide⟩
abbrev mX10_isIn : MI := (yX10_isIn, cX10_isIn, 4, (some .boolean))
set_option maxRecDepth 20000 in
theorem ok_X10_isIn : MOk mX10_isIn := ⟨by decide +kernel, tb_of 999 (by decide +kernel) rfl, tb_of 78 (by decide +kernel) rfl, ⟨by decide +kernel, by decide +kernel⟩, by decide⟩
abbrev mX10_isWell : MI := (yX10_isWell, cX10_isWell, 9, (some .boolean))
set_option maxRecDepth 20000 in
theorem ok_X10_isWell : MOk mX10_isWell := ⟨by decide +kernel, tb_of 1003 (by decide +kernel) rfl, tb_of 78 (by decide +kernel) rfl, ⟨by decide +kernel, by decide +kernel⟩, by decide⟩
abbrev mX10_costOf : MI := (yX10_costOf, cX10_costOf, 7, (some .long))
set_option maxRecDepth 20000 in
theorem ok_X10_costOf : MOk mX10_costOf := ⟨by decide +kernel, tb_of 1027 (by decide +kernel) rfl, tb_of 78 (by decide +kernel) rfl, ⟨by decide +kernel, by decide +kernel⟩, by decide⟩
abbrev mX10_keeps : MI := (yX10_keeps, cX10_keeps, 2, none)
set_option maxRecDepth 20000 in
theorem ok_X10_keeps : MOk mX10_keeps := ⟨by decide +kernel, tb_of 1011 (by decide +kernel) rfl, tb_of 78 (by decide +kernel) rfl, ⟨by decide +kernel, by decide +kernel⟩, by decide⟩
abbrev mX10_gives : MI := (yX10_gives, cX10_gives, 2, none)
set_option maxRecDepth 20000 in
theorem ok_X10_gives : MOk mX10_gives := ⟨by decide +kernel, tb_of 1019 (by decide +kernel) rfl, tb_of 78 (by decide +kernel) rfl, ⟨by decide +kernel, by decide +kernel⟩, by decide⟩
abbrev mX10_keepsPassed : MI := (yX10_keepsPassed, cX10_keepsPassed, 2, none)
set_option maxRecDepth 20000 in
theorem ok_X10_keepsPassed : MOk mX10_keepsPassed := ⟨by decide +kernel, tb_of 1015 (by decide +kernel) rfl, tb_of 78 (by decide +kernel) rfl, ⟨by decide +kernel, by decide +kernel⟩, by decide⟩
abbrev mX10_givesPassed : MI := (yX10_givesPassed, cX10_givesPassed, 2, none)
set_option maxRecDepth 20000 in
theorem ok_X10_givesPassed : MOk mX10_givesPassed := ⟨by decide +kernel, tb_of 1023 (by decide +kernel) rfl, tb_of 78 (by decide +kernel) rfl, ⟨by decide +kernel, by decide +kernel⟩, by decide⟩
abbrev mX10_breachOf : MI := (yX10_breachOf, cX10_breachOf, 10, (some .long))
set_option maxRecDepth 20000 in
theorem ok_X10_breachOf : MOk mX10_breachOf := ⟨by decide +kernel, tb_of 1007 (by decide +kernel) rfl, tb_of 78 (by decide +kernel) rfl, ⟨by decide +kernel, by decide +kernel⟩, by decide⟩
abbrev mX10_isPlan : MI := (yX10_isPlan, cX10_isPlan, 6, (some .boolean))
set_option maxRecDepth 20000 in
theorem ok_X10_isPlan : MOk mX10_isPlan := ⟨by decide +kernel, tb_of 995 (by decide +kernel) rfl, tb_of 78 (by decide +kernel) rfl, ⟨by decide +kernel, by decide +kernel⟩, by decide⟩
abbrev mX10_findPlan : MI := (yX10_findPlan, cX10_findPlan, 7, none)
set_option maxRecDepth 20000 in
theorem ok_X10_findPlan : MOk mX10_findPlan := ⟨by decide +kernel, tb_of 991 (by decide +kernel) rfl, tb_of 78 (by decide +kernel) rfl, ⟨by decide +kernel, by decide +kernel⟩, by decide⟩
abbrev mX10_plan : MI := (yX10_plan, cX10_plan, 2, (some .int))
set_option maxRecDepth 20000 in
theorem ok_X10_plan : MOk mX10_plan := ⟨by decide +kernel, tb_of 987 (by decide +kernel) rfl, tb_of 78 (by decide +kernel) rfl, ⟨by decide +kernel, by decide +kernel⟩, by decide⟩
abbrev mX10_planned : MI := (yX10_planned, cX10_planned, 3, (some .long))
set_option maxRecDepth 20000 in
theorem ok_X10_planned : MOk mX10_planned := ⟨by decide +kernel, tb_of 1031 (by decide +kernel) rfl, tb_of 78 (by decide +kernel) rfl, ⟨by decide +kernel, by decide +kernel⟩, by decide⟩
abbrev mX10_judge : MI := (yX10_judge, cX10_judge, 4, (some .long))
set_option maxRecDepth 20000 in
theorem ok_X10_judge : MOk mX10_judge := ⟨by decide +kernel, tb_of 1036 (by decide +kernel) rfl, tb_of 78 (by decide +kernel) rfl, ⟨by decide +kernel, by decide +kernel⟩, by decide⟩
abbrev mX10_follow : MI := (yX10_follow, cX10_follow, 4, (some .int))
set_option maxRecDepth 20000 in
theorem ok_X10_follow : MOk mX10_follow := ⟨by decide +kernel, tb_of 1041 (by decide +kernel) rfl, tb_of 78 (by decide +kernel) rfl, ⟨by decide +kernel, by decide +kernel⟩, by decide⟩
abbrev mX10_isSheet : MI := (yX10_isSheet, cX10_isSheet, 2, (some .boolean))
set_option maxRecDepth 20000 in
theorem ok_X10_isSheet : MOk mX10_isSheet := ⟨by decide +kernel, tb_of 1048 (by decide +kernel) rfl, tb_of 78 (by decide +kernel) rfl, ⟨by decide +kernel, by decide +kernel⟩, by decide⟩
abbrev mX10_sheet : MI := (yX10_sheet, cX10_sheet, 5, (some .int))
set_option maxRecDepth 20000 in
theorem ok_X10_sheet : MOk mX10_sheet := ⟨by decide +kernel, tb_of 1045 (by decide +kernel) rfl, tb_of 78 (by decide +kernel) rfl, ⟨by decide +kernel, by decide +kernel⟩, by decide⟩
abbrev mX10_lay : MI := (yX10_lay, cX10_lay, 4, (some .int))
set_option maxRecDepth 20000 in
theorem ok_X10_lay : MOk mX10_lay := ⟨by decide +kernel, tb_of 1053 (by decide +kernel) rfl, tb_of 78 (by decide +kernel) rfl, ⟨by decide +kernel, by decide +kernel⟩, by decide⟩
abbrev mX10_bars : MI := (yX10_bars, cX10_bars, 8, (some .int))
set_option maxRecDepth 20000 in
theorem ok_X10_bars : MOk mX10_bars := ⟨by decide +kernel, tb_of 1062 (by decide +kernel) rfl, tb_of 78 (by decide +kernel) rfl, ⟨by decide +kernel, by decide +kernel⟩, by decide⟩
abbrev mX10_rain : MI := (yX10_rain, cX10_rain, 8, (some .int))
set_option maxRecDepth 20000 in
theorem ok_X10_rain : MOk mX10_rain := ⟨by decide +kernel, tb_of 1057 (by decide +kernel) rfl, tb_of 78 (by decide +kernel) rfl, ⟨by decide +kernel, by decide +kernel⟩, by decide⟩
abbrev mX10_tides : MI := (yX10_tides, cX10_tides, 6, (some .int))
set_option maxRecDepth 20000 in
theorem ok_X10_tides : MOk mX10_tides := ⟨by decide +kernel, tb_of 1066 (by decide +kernel) rfl, tb_of 78 (by decide +kernel) rfl, ⟨by decide +kernel, by decide +kernel⟩, by decide⟩
abbrev mX10_count : MI := (yX10_count, cX10_count, 5, (some .int))
set_option maxRecDepth 20000 in
theorem ok_X10_count : MOk mX10_count := ⟨by decide +kernel, tb_of 1070 (by decide +kernel) rfl, tb_of 78 (by decide +kernel) rfl, ⟨by decide +kernel, by decide +kernel⟩, by decide⟩
abbrev mJ6_bitCount_0f7a4 : MI := (yJ6_bitCount_0f7a4, cJ6_bitCount_0f7a4, 1, (some .int))
set_option maxRecDepth 20000 in
theorem ok_J6_bitCount_0f7a4 : MOk mJ6_bitCount_0f7a4 := ⟨by decide +kernel, tb_of 555 (by decide +kernel) rfl, tb_of 80 (by decide +kernel) rfl, ⟨by decide +kernel, by decide +kernel⟩, by decide⟩
abbrev mJ9_floorMod_7cf53 : MI := (yJ9_floorMod_7cf53, cJ9_floorMod_7cf53, 3, (some .int))
set_option maxRecDepth 20000 in
theorem ok_J9_floorMod_7cf53 : MOk mJ9_floorMod_7cf53 := ⟨by decide +kernel, tb_of 474 (by decide +kernel) rfl, tb_of 79 (by decide +kernel) rfl, ⟨by decide +kernel, by decide +kernel⟩, by decide⟩
abbrev mJ9_max_7cf53 : MI := (yJ9_max_7cf53, cJ9_max_7cf53, 2, (some .int))
set_option maxRecDepth 20000 in
theorem ok_J9_max_7cf53 : MOk mJ9_max_7cf53 := ⟨by decide +kernel, tb_of 529 (by decide +kernel) rfl, tb_of 79 (by decide +kernel) rfl, ⟨by decide +kernel, by decide +kernel⟩, by decide⟩
abbrev mJ9_min_7cf53 : MI := (yJ9_min_7cf53, cJ9_min_7cf53, 2, (some .int))
set_option maxRecDepth 20000 in
theorem ok_J9_min_7cf53 : MOk mJ9_min_7cf53 := ⟨by decide +kernel, tb_of 539 (by decide +kernel) rfl, tb_of 79 (by decide +kernel) rfl, ⟨by decide +kernel, by decide +kernel⟩, by decide⟩
abbrev mJ9_min_f86c9 : MI := (yJ9_min_f86c9, cJ9_min_f86c9, 4, (some .long))
set_option maxRecDepth 20000 in
theorem ok_J9_min_f86c9 : MOk mJ9_min_f86c9 := ⟨by decide +kernel, tb_of 532 (by decide +kernel) rfl, tb_of 79 (by decide +kernel) rfl, ⟨by decide +kernel, by decide +kernel⟩, by decide⟩
abbrev mJ7_fill_53178 : MI := (yJ7_fill_53178, cJ7_fill_53178, 4, none)
set_option maxRecDepth 20000 in
theorem ok_J7_fill_53178 : MOk mJ7_fill_53178 := ⟨by decide +kernel, tb_of 259 (by decide +kernel) rfl, tb_of 74 (by decide +kernel) rfl, ⟨by decide +kernel, by decide +kernel⟩, by decide⟩
set_option maxRecDepth 20000 in
theorem ml_X9_39 : MLS RX9 39 mX9_within 3 := ⟨Or.inl (tb_of 391 (by decide +kernel) rfl), tb_of 392 (by decide +kernel) rfl, by decide +kernel⟩
set_option maxRecDepth 20000 in
theorem ml_X9_43 : MLS RX9 43 mX9_isHeight 1 := ⟨Or.inl (tb_of 394 (by decide +kernel) rfl), tb_of 395 (by decide +kernel) rfl, by decide +kernel⟩
set_option maxRecDepth 20000 in
theorem ml_X9_52 : MLV RX9 52 mX0_add 3 := ⟨Or.inr ⟨"LowLand", nb_of 398 (by decide +kernel) rfl⟩, tb_of 400 (by decide +kernel) rfl, tb_of 0 (by decide +kernel) rfl, by decide +kernel⟩
set_option maxRecDepth 20000 in
theorem ml_X9_58 : MLV RX9 58 mX0_has 1 := ⟨Or.inr ⟨"LowLand", nb_of 406 (by decide +kernel) rfl⟩, tb_of 408 (by decide +kernel) rfl, tb_of 1 (by decide +kernel) rfl, by decide +kernel⟩
set_option maxRecDepth 20000 in
theorem ml_X9_72 : MLV RX9 72 mX0_level 2 := ⟨Or.inr ⟨"LowLand", nb_of 415 (by decide +kernel) rfl⟩, tb_of 417 (by decide +kernel) rfl, tb_of 2 (by decide +kernel) rfl, by decide +kernel⟩
set_option maxRecDepth 20000 in
theorem ml_X9_76 : MLV RX9 76 mX0_breach 2 := ⟨Or.inr ⟨"LowLand", nb_of 419 (by decide +kernel) rfl⟩, tb_of 421 (by decide +kernel) rfl, tb_of 3 (by decide +kernel) rfl, by decide +kernel⟩
set_option maxRecDepth 20000 in
theorem ml_X9_89 : MLV RX9 89 mX7_add 4 := ⟨Or.inr ⟨"LowLand", nb_of 428 (by decide +kernel) rfl⟩, tb_of 430 (by decide +kernel) rfl, tb_of 4 (by decide +kernel) rfl, by decide +kernel⟩
set_option maxRecDepth 20000 in
theorem ml_X9_99 : MLV RX9 99 mX4_add 5 := ⟨Or.inr ⟨"LowLand", nb_of 437 (by decide +kernel) rfl⟩, tb_of 439 (by decide +kernel) rfl, tb_of 5 (by decide +kernel) rfl, by decide +kernel⟩
set_option maxRecDepth 20000 in
theorem ml_X9_108 : MLV RX9 108 mX6_add 2 := ⟨Or.inr ⟨"LowLand", nb_of 445 (by decide +kernel) rfl⟩, tb_of 447 (by decide +kernel) rfl, tb_of 6 (by decide +kernel) rfl, by decide +kernel⟩
set_option maxRecDepth 20000 in
theorem ml_X9_113 : MLV RX9 113 mX4_has 1 := ⟨Or.inr ⟨"LowLand", nb_of 453 (by decide +kernel) rfl⟩, tb_of 455 (by decide +kernel) rfl, tb_of 7 (by decide +kernel) rfl, by decide +kernel⟩
set_option maxRecDepth 20000 in
theorem ml_X9_118 : MLV RX9 118 mX4_mustStayOff 2 := ⟨Or.inr ⟨"LowLand", nb_of 457 (by decide +kernel) rfl⟩, tb_of 459 (by decide +kernel) rfl, tb_of 8 (by decide +kernel) rfl, by decide +kernel⟩
set_option maxRecDepth 20000 in
theorem ml_X9_122 : MLV RX9 122 mX4_mustRunOn 2 := ⟨Or.inr ⟨"LowLand", nb_of 475 (by decide +kernel) rfl⟩, tb_of 477 (by decide +kernel) rfl, tb_of 11 (by decide +kernel) rfl, by decide +kernel⟩
set_option maxRecDepth 20000 in
theorem ml_X9_125 : MLV RX9 125 mX4_isOn 1 := ⟨Or.inr ⟨"LowLand", nb_of 479 (by decide +kernel) rfl⟩, tb_of 463 (by decide +kernel) rfl, tb_of 9 (by decide +kernel) rfl, by decide +kernel⟩
set_option maxRecDepth 20000 in
theorem ml_X9_128 : MLV RX9 128 mX4_put 3 := ⟨Or.inr ⟨"LowLand", nb_of 480 (by decide +kernel) rfl⟩, tb_of 482 (by decide +kernel) rfl, tb_of 12 (by decide +kernel) rfl, by decide +kernel⟩
set_option maxRecDepth 20000 in
theorem ml_X9_132 : MLV RX9 132 mX6_has 1 := ⟨Or.inr ⟨"LowLand", nb_of 488 (by decide +kernel) rfl⟩, tb_of 490 (by decide +kernel) rfl, tb_of 13 (by decide +kernel) rfl, by decide +kernel⟩
set_option maxRecDepth 20000 in
theorem ml_X9_137 : MLS RX9 137 mX9_isHourOfDay 1 := ⟨Or.inl (tb_of 496 (by decide +kernel) rfl), tb_of 497 (by decide +kernel) rfl, by decide +kernel⟩
set_option maxRecDepth 20000 in
theorem ml_X9_146 : MLS RX9 146 mX9_isRain 1 := ⟨Or.inl (tb_of 507 (by decide +kernel) rfl), tb_of 508 (by decide +kernel) rfl, by decide +kernel⟩
set_option maxRecDepth 20000 in
theorem ml_X9_149 : MLV RX9 149 mX2_advance 1 := ⟨Or.inr ⟨"LowLand", nb_of 510 (by decide +kernel) rfl⟩, tb_of 512 (by decide +kernel) rfl, tb_of 14 (by decide +kernel) rfl, by decide +kernel⟩
set_option maxRecDepth 20000 in
theorem ml_X9_153 : MLV RX9 153 mX7_has 1 := ⟨Or.inr ⟨"LowLand", nb_of 568 (by decide +kernel) rfl⟩, tb_of 570 (by decide +kernel) rfl, tb_of 23 (by decide +kernel) rfl, by decide +kernel⟩
set_option maxRecDepth 20000 in
theorem ml_X9_166 : MLV RX9 166 mX8_add 0 := ⟨Or.inr ⟨"LowLand", nb_of 576 (by decide +kernel) rfl⟩, tb_of 578 (by decide +kernel) rfl, tb_of 24 (by decide +kernel) rfl, by decide +kernel⟩
set_option maxRecDepth 20000 in
theorem ml_X9_169 : MLV RX9 169 mX8_has 1 := ⟨Or.inr ⟨"LowLand", nb_of 584 (by decide +kernel) rfl⟩, tb_of 586 (by decide +kernel) rfl, tb_of 25 (by decide +kernel) rfl, by decide +kernel⟩
set_option maxRecDepth 20000 in
theorem ml_X9_174 : MLS RX9 174 mX9_isPlanned 1 := ⟨Or.inl (tb_of 592 (by decide +kernel) rfl), tb_of 593 (by decide +kernel) rfl, by decide +kernel⟩
set_option maxRecDepth 20000 in
theorem ml_X9_177 : MLV RX9 177 mX3_seek 1 := ⟨Or.inr ⟨"LowLand", nb_of 595 (by decide +kernel) rfl⟩, tb_of 597 (by decide +kernel) rfl, tb_of 26 (by decide +kernel) rfl, by decide +kernel⟩
set_option maxRecDepth 20000 in
theorem ml_X9_192 : MLV RX9 192 mX3_isPlan 2 := ⟨Or.inr ⟨"LowLand", nb_of 658 (by decide +kernel) rfl⟩, tb_of 660 (by decide +kernel) rfl, tb_of 36 (by decide +kernel) rfl, by decide +kernel⟩
set_option maxRecDepth 20000 in
theorem ml_X9_195 : MLV RX9 195 mX3_isWell 2 := ⟨Or.inr ⟨"LowLand", nb_of 666 (by decide +kernel) rfl⟩, tb_of 668 (by decide +kernel) rfl, tb_of 38 (by decide +kernel) rfl, by decide +kernel⟩
set_option maxRecDepth 20000 in
theorem ml_X9_198 : MLV RX9 198 mX3_costOf 2 := ⟨Or.inr ⟨"LowLand", nb_of 670 (by decide +kernel) rfl⟩, tb_of 672 (by decide +kernel) rfl, tb_of 39 (by decide +kernel) rfl, by decide +kernel⟩
set_option maxRecDepth 20000 in
theorem ml_X9_202 : MLV RX9 202 mX3_breachOf 2 := ⟨Or.inr ⟨"LowLand", nb_of 674 (by decide +kernel) rfl⟩, tb_of 676 (by decide +kernel) rfl, tb_of 40 (by decide +kernel) rfl, by decide +kernel⟩
set_option maxRecDepth 20000 in
theorem ml_X9_205 : MLV RX9 205 mX4_inPlans 0 := ⟨Or.inr ⟨"LowLand", nb_of 682 (by decide +kernel) rfl⟩, tb_of 617 (by decide +kernel) rfl, tb_of 29 (by decide +kernel) rfl, by decide +kernel⟩
set_option maxRecDepth 20000 in
theorem ml_X9_208 : MLV RX9 208 mX3_tells 3 := ⟨Or.inr ⟨"LowLand", nb_of 683 (by decide +kernel) rfl⟩, tb_of 627 (by decide +kernel) rfl, tb_of 31 (by decide +kernel) rfl, by decide +kernel⟩
set_option maxRecDepth 20000 in
theorem ml_X9_211 : MLS RX9 211 mX9_isSheet 1 := ⟨Or.inl (tb_of 688 (by decide +kernel) rfl), tb_of 689 (by decide +kernel) rfl, by decide +kernel⟩
set_option maxRecDepth 20000 in
theorem ml_X9_214 : MLS RX9 214 mX9_isLane 1 := ⟨Or.inl (tb_of 691 (by decide +kernel) rfl), tb_of 692 (by decide +kernel) rfl, by decide +kernel⟩
set_option maxRecDepth 20000 in
theorem ml_X9_217 : MLV RX9 217 mX5_clear 3 := ⟨Or.inr ⟨"LowLand", nb_of 694 (by decide +kernel) rfl⟩, tb_of 696 (by decide +kernel) rfl, tb_of 41 (by decide +kernel) rfl, by decide +kernel⟩
set_option maxRecDepth 20000 in
theorem ml_X9_221 : MLV RX9 221 mX5_isNothing 1 := ⟨Or.inr ⟨"LowLand", nb_of 702 (by decide +kernel) rfl⟩, tb_of 704 (by decide +kernel) rfl, tb_of 42 (by decide +kernel) rfl, by decide +kernel⟩
set_option maxRecDepth 20000 in
theorem ml_X9_224 : MLV RX9 224 mX5_hasCell 2 := ⟨Or.inr ⟨"LowLand", nb_of 706 (by decide +kernel) rfl⟩, tb_of 708 (by decide +kernel) rfl, tb_of 43 (by decide +kernel) rfl, by decide +kernel⟩
set_option maxRecDepth 20000 in
theorem ml_X9_227 : MLV RX9 227 mX5_put 3 := ⟨Or.inr ⟨"LowLand", nb_of 710 (by decide +kernel) rfl⟩, tb_of 712 (by decide +kernel) rfl, tb_of 44 (by decide +kernel) rfl, by decide +kernel⟩
set_option maxRecDepth 20000 in
theorem ml_X9_229 : MLV RX9 229 mX5_faultAs 2 := ⟨Or.inr ⟨"LowLand", nb_of 718 (by decide +kernel) rfl⟩, tb_of 720 (by decide +kernel) rfl, tb_of 45 (by decide +kernel) rfl, by decide +kernel⟩
set_option maxRecDepth 20000 in
theorem ml_X9_248 : MLV RX9 248 mX0_alarms 0 := ⟨Or.inr ⟨"LowLand", nb_of 732 (by decide +kernel) rfl⟩, tb_of 561 (by decide +kernel) rfl, tb_of 22 (by decide +kernel) rfl, by decide +kernel⟩
set_option maxRecDepth 20000 in
theorem ml_X9_257 : MLS RX9 257 mJ6_bitCount_0f7a4 1 := ⟨Or.inl (tb_of 733 (by decide +kernel) rfl), tb_of 554 (by decide +kernel) rfl, by decide +kernel⟩
set_option maxRecDepth 20000 in
theorem ml_X9_262 : MLV RX9 262 mX0_allWater 0 := ⟨Or.inr ⟨"LowLand", nb_of 734 (by decide +kernel) rfl⟩, tb_of 736 (by decide +kernel) rfl, tb_of 46 (by decide +kernel) rfl, by decide +kernel⟩
set_option maxRecDepth 20000 in
theorem ml_X9_265 : MLS RX9 265 mJ9_floorMod_7cf53 2 := ⟨Or.inl (tb_of 472 (by decide +kernel) rfl), tb_of 473 (by decide +kernel) rfl, by decide +kernel⟩
set_option maxRecDepth 20000 in
theorem ml_X0_37 : MLV RX0 37 mX0_level 2 := ⟨Or.inl (tb_of 423 (by decide +kernel) rfl), tb_of 417 (by decide +kernel) rfl, tb_of 2 (by decide +kernel) rfl, by decide +kernel⟩
set_option maxRecDepth 20000 in
theorem ml_X0_41 : MLV RX0 41 mX0_breach 2 := ⟨Or.inl (tb_of 563 (by decide +kernel) rfl), tb_of 421 (by decide +kernel) rfl, tb_of 3 (by decide +kernel) rfl, by decide +kernel⟩
set_option maxRecDepth 20000 in
theorem ml_X2_53 : MLS RX2 53 mJ7_fill_53178 2 := ⟨Or.inl (tb_of 257 (by decide +kernel) rfl), tb_of 258 (by decide +kernel) rfl, by decide +kernel⟩
set_option maxRecDepth 20000 in
theorem ml_X2_66 : MLV RX2 66 mX4_awake 2 := ⟨Or.inr ⟨"LowLand", nb_of 514 (by decide +kernel) rfl⟩, tb_of 516 (by decide +kernel) rfl, tb_of 15 (by decide +kernel) rfl, by decide +kernel⟩
set_option maxRecDepth 20000 in
theorem ml_X2_73 : MLV RX2 73 mX2_move 5 := ⟨Or.inl (tb_of 518 (by decide +kernel) rfl), tb_of 520 (by decide +kernel) rfl, tb_of 16 (by decide +kernel) rfl, by decide +kernel⟩
set_option maxRecDepth 20000 in
theorem ml_X2_86 : MLV RX2 86 mX2_drain 0 := ⟨Or.inl (tb_of 545 (by decide +kernel) rfl), tb_of 547 (by decide +kernel) rfl, tb_of 20 (by decide +kernel) rfl, by decide +kernel⟩
set_option maxRecDepth 20000 in
theorem ml_X2_92 : MLV RX2 92 mX2_cost 2 := ⟨Or.inl (tb_of 549 (by decide +kernel) rfl), tb_of 551 (by decide +kernel) rfl, tb_of 21 (by decide +kernel) rfl, by decide +kernel⟩
set_option maxRecDepth 20000 in
theorem ml_X2_95 : MLV RX2 95 mX0_alarms 0 := ⟨Or.inr ⟨"LowLand", nb_of 559 (by decide +kernel) rfl⟩, tb_of 561 (by decide +kernel) rfl, tb_of 22 (by decide +kernel) rfl, by decide +kernel⟩
set_option maxRecDepth 20000 in
theorem ml_X2_115 : MLS RX2 115 mX9_hourOfDay 1 := ⟨Or.inr ⟨"LowLand", nb_of 540 (by decide +kernel) rfl⟩, tb_of 470 (by decide +kernel) rfl, by decide +kernel⟩
set_option maxRecDepth 20000 in
theorem ml_X2_119 : MLS RX2 119 mJ6_bitCount_0f7a4 1 := ⟨Or.inl (tb_of 553 (by decide +kernel) rfl), tb_of 554 (by decide +kernel) rfl, by decide +kernel⟩
set_option maxRecDepth 20000 in
theorem ml_X2_127 : MLV RX2 127 mX2_passWeir 2 := ⟨Or.inl (tb_of 522 (by decide +kernel) rfl), tb_of 524 (by decide +kernel) rfl, tb_of 17 (by decide +kernel) rfl, by decide +kernel⟩
set_option maxRecDepth 20000 in
theorem ml_X2_131 : MLV RX2 131 mX2_passPump 2 := ⟨Or.inl (tb_of 533 (by decide +kernel) rfl), tb_of 535 (by decide +kernel) rfl, tb_of 18 (by decide +kernel) rfl, by decide +kernel⟩
set_option maxRecDepth 20000 in
theorem ml_X2_138 : MLV RX2 138 mX2_passSluice 3 := ⟨Or.inl (tb_of 541 (by decide +kernel) rfl), tb_of 543 (by decide +kernel) rfl, tb_of 19 (by decide +kernel) rfl, by decide +kernel⟩
set_option maxRecDepth 20000 in
theorem ml_X2_144 : MLV RX2 144 mX0_level 2 := ⟨Or.inr ⟨"LowLand", nb_of 526 (by decide +kernel) rfl⟩, tb_of 417 (by decide +kernel) rfl, tb_of 2 (by decide +kernel) rfl, by decide +kernel⟩
set_option maxRecDepth 20000 in
theorem ml_X2_150 : MLS RX2 150 mJ9_max_7cf53 2 := ⟨Or.inl (tb_of 527 (by decide +kernel) rfl), tb_of 528 (by decide +kernel) rfl, by decide +kernel⟩
set_option maxRecDepth 20000 in
theorem ml_X2_158 : MLS RX2 158 mJ9_min_f86c9 2 := ⟨Or.inl (tb_of 530 (by decide +kernel) rfl), tb_of 531 (by decide +kernel) rfl, by decide +kernel⟩
set_option maxRecDepth 20000 in
theorem ml_X2_165 : MLS RX2 165 mJ9_min_7cf53 2 := ⟨Or.inl (tb_of 537 (by decide +kernel) rfl), tb_of 538 (by decide +kernel) rfl, by decide +kernel⟩
set_option maxRecDepth 20000 in
theorem ml_X3_47 : MLV RX3 47 mX3_begin 0 := ⟨Or.inl (tb_of 600 (by decide +kernel) rfl), tb_of 602 (by decide +kernel) rfl, tb_of 27 (by decide +kernel) rfl, by decide +kernel⟩
set_option maxRecDepth 20000 in
theorem ml_X3_50 : MLS RX3 50 mX3_grow 5 := ⟨Or.inl (tb_of 612 (by decide +kernel) rfl), tb_of 613 (by decide +kernel) rfl, by decide +kernel⟩
set_option maxRecDepth 20000 in
theorem ml_X3_60 : MLV RX3 60 mX4_inPlans 0 := ⟨Or.inr ⟨"LowLand", nb_of 615 (by decide +kernel) rfl⟩, tb_of 617 (by decide +kernel) rfl, tb_of 29 (by decide +kernel) rfl, by decide +kernel⟩
set_option maxRecDepth 20000 in
theorem ml_X3_69 : MLV RX3 69 mX2_cost 2 := ⟨Or.inr ⟨"LowLand", nb_of 620 (by decide +kernel) rfl⟩, tb_of 551 (by decide +kernel) rfl, tb_of 21 (by decide +kernel) rfl, by decide +kernel⟩
set_option maxRecDepth 20000 in
theorem ml_X3_72 : MLV RX3 72 mX3_fits 2 := ⟨Or.inl (tb_of 621 (by decide +kernel) rfl), tb_of 623 (by decide +kernel) rfl, tb_of 30 (by decide +kernel) rfl, by decide +kernel⟩
set_option maxRecDepth 20000 in
theorem ml_X3_76 : MLV RX3 76 mX3_isBetter 3 := ⟨Or.inl (tb_of 635 (by decide +kernel) rfl), tb_of 637 (by decide +kernel) rfl, tb_of 33 (by decide +kernel) rfl, by decide +kernel⟩
set_option maxRecDepth 20000 in
theorem ml_X3_80 : MLV RX3 80 mX3_tread 2 := ⟨Or.inl (tb_of 639 (by decide +kernel) rfl), tb_of 641 (by decide +kernel) rfl, tb_of 34 (by decide +kernel) rfl, by decide +kernel⟩
set_option maxRecDepth 20000 in
theorem ml_X3_84 : MLV RX3 84 mX3_bitsOf 2 := ⟨Or.inl (tb_of 662 (by decide +kernel) rfl), tb_of 664 (by decide +kernel) rfl, tb_of 37 (by decide +kernel) rfl, by decide +kernel⟩
set_option maxRecDepth 20000 in
theorem ml_X3_87 : MLV RX3 87 mX3_tells 3 := ⟨Or.inl (tb_of 625 (by decide +kernel) rfl), tb_of 627 (by decide +kernel) rfl, tb_of 31 (by decide +kernel) rfl, by decide +kernel⟩
set_option maxRecDepth 20000 in
theorem ml_X3_91 : MLV RX3 91 mX4_pausesAt 2 := ⟨Or.inr ⟨"LowLand", nb_of 629 (by decide +kernel) rfl⟩, tb_of 467 (by decide +kernel) rfl, tb_of 10 (by decide +kernel) rfl, by decide +kernel⟩
set_option maxRecDepth 20000 in
theorem ml_X3_94 : MLV RX3 94 mX3_mayEnd 3 := ⟨Or.inl (tb_of 630 (by decide +kernel) rfl), tb_of 632 (by decide +kernel) rfl, tb_of 32 (by decide +kernel) rfl, by decide +kernel⟩
set_option maxRecDepth 20000 in
theorem ml_X3_101 : MLV RX3 101 mX4_isOn 1 := ⟨Or.inr ⟨"LowLand", nb_of 634 (by decide +kernel) rfl⟩, tb_of 463 (by decide +kernel) rfl, tb_of 9 (by decide +kernel) rfl, by decide +kernel⟩
set_option maxRecDepth 20000 in
theorem ml_X3_105 : MLV RX3 105 mX8_tried 0 := ⟨Or.inr ⟨"LowLand", nb_of 604 (by decide +kernel) rfl⟩, tb_of 606 (by decide +kernel) rfl, tb_of 28 (by decide +kernel) rfl, by decide +kernel⟩
set_option maxRecDepth 20000 in
theorem ml_X3_131 : MLV RX3 131 mX4_awake 2 := ⟨Or.inr ⟨"LowLand", nb_of 643 (by decide +kernel) rfl⟩, tb_of 516 (by decide +kernel) rfl, tb_of 15 (by decide +kernel) rfl, by decide +kernel⟩
set_option maxRecDepth 20000 in
theorem ml_X3_137 : MLV RX3 137 mX2_move 5 := ⟨Or.inr ⟨"LowLand", nb_of 644 (by decide +kernel) rfl⟩, tb_of 520 (by decide +kernel) rfl, tb_of 16 (by decide +kernel) rfl, by decide +kernel⟩
set_option maxRecDepth 20000 in
theorem ml_X3_141 : MLV RX3 141 mX0_allBreach 1 := ⟨Or.inr ⟨"LowLand", nb_of 645 (by decide +kernel) rfl⟩, tb_of 647 (by decide +kernel) rfl, tb_of 35 (by decide +kernel) rfl, by decide +kernel⟩
set_option maxRecDepth 20000 in
theorem ml_X4_37 : MLS RX4 37 mX9_hourOfDay 1 := ⟨Or.inr ⟨"LowLand", nb_of 469 (by decide +kernel) rfl⟩, tb_of 470 (by decide +kernel) rfl, by decide +kernel⟩
set_option maxRecDepth 20000 in
theorem ml_X4_41 : MLV RX4 41 mX4_isOn 1 := ⟨Or.inl (tb_of 461 (by decide +kernel) rfl), tb_of 463 (by decide +kernel) rfl, tb_of 9 (by decide +kernel) rfl, by decide +kernel⟩
set_option maxRecDepth 20000 in
theorem ml_X4_45 : MLV RX4 45 mX4_pausesAt 2 := ⟨Or.inl (tb_of 465 (by decide +kernel) rfl), tb_of 467 (by decide +kernel) rfl, tb_of 10 (by decide +kernel) rfl, by decide +kernel⟩
set_option maxRecDepth 20000 in
theorem ml_X4_49 : MLS RX4 49 mJ9_min_7cf53 2 := ⟨Or.inl (tb_of 619 (by decide +kernel) rfl), tb_of 538 (by decide +kernel) rfl, by decide +kernel⟩
set_option maxRecDepth 20000 in
theorem ml_X5_23 : MLS RX5 23 mJ7_fill_53178 2 := ⟨Or.inl (tb_of 362 (by decide +kernel) rfl), tb_of 258 (by decide +kernel) rfl, by decide +kernel⟩
set_option maxRecDepth 20000 in
theorem ml_X5_29 : MLV RX5 29 mX5_isNothing 1 := ⟨Or.inl (tb_of 722 (by decide +kernel) rfl), tb_of 704 (by decide +kernel) rfl, tb_of 42 (by decide +kernel) rfl, by decide +kernel⟩
set_option maxRecDepth 20000 in
theorem ml_X8_20 : MLS RX8 20 mJ9_max_7cf53 2 := ⟨Or.inl (tb_of 608 (by decide +kernel) rfl), tb_of 528 (by decide +kernel) rfl, by decide +kernel⟩
set_option maxRecDepth 20000 in
theorem ml_L_13 : MLV RL 13 mX9_ditch 3 := ⟨Or.inl (tb_of 387 (by decide +kernel) rfl), tb_of 388 (by decide +kernel) rfl, tb_of 389 (by decide +kernel) rfl, by decide +kernel⟩
set_option maxRecDepth 20000 in
theorem ml_L_17 : MLV RL 17 mX10_ditch 3 := ⟨Or.inl (tb_of 877 (by decide +kernel) rfl), tb_of 878 (by decide +kernel) rfl, tb_of 879 (by decide +kernel) rfl, by decide +kernel⟩
set_option maxRecDepth 20000 in
theorem ml_L_18 : MLV RL 18 mX9_band 3 := ⟨Or.inl (tb_of 402 (by decide +kernel) rfl), tb_of 403 (by decide +kernel) rfl, tb_of 404 (by decide +kernel) rfl, by decide +kernel⟩
set_option maxRecDepth 20000 in
theorem ml_L_21 : MLV RL 21 mX10_band 3 := ⟨Or.inl (tb_of 888 (by decide +kernel) rfl), tb_of 889 (by decide +kernel) rfl, tb_of 890 (by decide +kernel) rfl, by decide +kernel⟩
set_option maxRecDepth 20000 in
theorem ml_L_22 : MLV RL 22 mX9_told 2 := ⟨Or.inl (tb_of 410 (by decide +kernel) rfl), tb_of 411 (by decide +kernel) rfl, tb_of 412 (by decide +kernel) rfl, by decide +kernel⟩
set_option maxRecDepth 20000 in
theorem ml_L_26 : MLV RL 26 mX10_told 2 := ⟨Or.inl (tb_of 898 (by decide +kernel) rfl), tb_of 899 (by decide +kernel) rfl, tb_of 900 (by decide +kernel) rfl, by decide +kernel⟩
set_option maxRecDepth 20000 in
theorem ml_L_27 : MLV RL 27 mX9_weir 4 := ⟨Or.inl (tb_of 424 (by decide +kernel) rfl), tb_of 425 (by decide +kernel) rfl, tb_of 426 (by decide +kernel) rfl, by decide +kernel⟩
set_option maxRecDepth 20000 in
theorem ml_L_31 : MLV RL 31 mX10_weir 4 := ⟨Or.inl (tb_of 912 (by decide +kernel) rfl), tb_of 913 (by decide +kernel) rfl, tb_of 914 (by decide +kernel) rfl, by decide +kernel⟩
set_option maxRecDepth 20000 in
theorem ml_L_32 : MLV RL 32 mX9_pump 5 := ⟨Or.inl (tb_of 432 (by decide +kernel) rfl), tb_of 433 (by decide +kernel) rfl, tb_of 434 (by decide +kernel) rfl, by decide +kernel⟩
set_option maxRecDepth 20000 in
theorem ml_L_36 : MLV RL 36 mX10_pump 5 := ⟨Or.inl (tb_of 916 (by decide +kernel) rfl), tb_of 917 (by decide +kernel) rfl, tb_of 918 (by decide +kernel) rfl, by decide +kernel⟩
set_option maxRecDepth 20000 in
theorem ml_L_37 : MLV RL 37 mX9_sluice 2 := ⟨Or.inl (tb_of 441 (by decide +kernel) rfl), tb_of 442 (by decide +kernel) rfl, tb_of 443 (by decide +kernel) rfl, by decide +kernel⟩
set_option maxRecDepth 20000 in
theorem ml_L_40 : MLV RL 40 mX10_sluice 2 := ⟨Or.inl (tb_of 922 (by decide +kernel) rfl), tb_of 923 (by decide +kernel) rfl, tb_of 924 (by decide +kernel) rfl, by decide +kernel⟩
set_option maxRecDepth 20000 in
theorem ml_L_41 : MLV RL 41 mX9_turn 2 := ⟨Or.inl (tb_of 449 (by decide +kernel) rfl), tb_of 450 (by decide +kernel) rfl, tb_of 451 (by decide +kernel) rfl, by decide +kernel⟩
set_option maxRecDepth 20000 in
theorem ml_L_45 : MLV RL 45 mX10_turn 2 := ⟨Or.inl (tb_of 926 (by decide +kernel) rfl), tb_of 927 (by decide +kernel) rfl, tb_of 928 (by decide +kernel) rfl, by decide +kernel⟩
set_option maxRecDepth 20000 in
theorem ml_L_46 : MLV RL 46 mX9_open 2 := ⟨Or.inl (tb_of 484 (by decide +kernel) rfl), tb_of 485 (by decide +kernel) rfl, tb_of 486 (by decide +kernel) rfl, by decide +kernel⟩
set_option maxRecDepth 20000 in
theorem ml_L_49 : MLV RL 49 mX10_open 2 := ⟨Or.inl (tb_of 938 (by decide +kernel) rfl), tb_of 939 (by decide +kernel) rfl, tb_of 940 (by decide +kernel) rfl, by decide +kernel⟩
set_option maxRecDepth 20000 in
theorem ml_L_50 : MLV RL 50 mX9_tide 2 := ⟨Or.inl (tb_of 492 (by decide +kernel) rfl), tb_of 493 (by decide +kernel) rfl, tb_of 494 (by decide +kernel) rfl, by decide +kernel⟩
set_option maxRecDepth 20000 in
theorem ml_L_53 : MLV RL 53 mX10_tide 2 := ⟨Or.inl (tb_of 942 (by decide +kernel) rfl), tb_of 943 (by decide +kernel) rfl, tb_of 944 (by decide +kernel) rfl, by decide +kernel⟩
set_option maxRecDepth 20000 in
theorem ml_L_54 : MLV RL 54 mX9_price 2 := ⟨Or.inl (tb_of 499 (by decide +kernel) rfl), tb_of 500 (by decide +kernel) rfl, tb_of 501 (by decide +kernel) rfl, by decide +kernel⟩
set_option maxRecDepth 20000 in
theorem ml_L_57 : MLV RL 57 mX10_price 2 := ⟨Or.inl (tb_of 947 (by decide +kernel) rfl), tb_of 948 (by decide +kernel) rfl, tb_of 949 (by decide +kernel) rfl, by decide +kernel⟩
set_option maxRecDepth 20000 in
theorem ml_L_58 : MLV RL 58 mX9_step 1 := ⟨Or.inl (tb_of 503 (by decide +kernel) rfl), tb_of 504 (by decide +kernel) rfl, tb_of 505 (by decide +kernel) rfl, by decide +kernel⟩
set_option maxRecDepth 20000 in
theorem ml_L_62 : MLV RL 62 mX10_step 1 := ⟨Or.inl (tb_of 952 (by decide +kernel) rfl), tb_of 953 (by decide +kernel) rfl, tb_of 954 (by decide +kernel) rfl, by decide +kernel⟩
set_option maxRecDepth 20000 in
theorem ml_L_63 : MLV RL 63 mX9_passed 2 := ⟨Or.inl (tb_of 564 (by decide +kernel) rfl), tb_of 565 (by decide +kernel) rfl, tb_of 566 (by decide +kernel) rfl, by decide +kernel⟩
set_option maxRecDepth 20000 in
theorem ml_L_66 : MLV RL 66 mX10_passed 2 := ⟨Or.inl (tb_of 971 (by decide +kernel) rfl), tb_of 972 (by decide +kernel) rfl, tb_of 973 (by decide +kernel) rfl, by decide +kernel⟩
set_option maxRecDepth 20000 in
theorem ml_L_67 : MLV RL 67 mX9_world 0 := ⟨Or.inl (tb_of 572 (by decide +kernel) rfl), tb_of 573 (by decide +kernel) rfl, tb_of 574 (by decide +kernel) rfl, by decide +kernel⟩
set_option maxRecDepth 20000 in
theorem ml_L_71 : MLV RL 71 mX10_world 0 := ⟨Or.inl (tb_of 975 (by decide +kernel) rfl), tb_of 976 (by decide +kernel) rfl, tb_of 977 (by decide +kernel) rfl, by decide +kernel⟩
set_option maxRecDepth 20000 in
theorem ml_L_72 : MLV RL 72 mX9_foretell 3 := ⟨Or.inl (tb_of 580 (by decide +kernel) rfl), tb_of 581 (by decide +kernel) rfl, tb_of 582 (by decide +kernel) rfl, by decide +kernel⟩
set_option maxRecDepth 20000 in
theorem ml_L_75 : MLV RL 75 mX10_foretell 3 := ⟨Or.inl (tb_of 979 (by decide +kernel) rfl), tb_of 980 (by decide +kernel) rfl, tb_of 981 (by decide +kernel) rfl, by decide +kernel⟩
set_option maxRecDepth 20000 in
theorem ml_L_76 : MLV RL 76 mX9_plan 1 := ⟨Or.inl (tb_of 588 (by decide +kernel) rfl), tb_of 589 (by decide +kernel) rfl, tb_of 590 (by decide +kernel) rfl, by decide +kernel⟩
set_option maxRecDepth 20000 in
theorem ml_L_79 : MLV RL 79 mX10_plan 1 := ⟨Or.inl (tb_of 984 (by decide +kernel) rfl), tb_of 985 (by decide +kernel) rfl, tb_of 986 (by decide +kernel) rfl, by decide +kernel⟩
set_option maxRecDepth 20000 in
theorem ml_L_80 : MLV RL 80 mX9_planned 2 := ⟨Or.inl (tb_of 649 (by decide +kernel) rfl), tb_of 650 (by decide +kernel) rfl, tb_of 651 (by decide +kernel) rfl, by decide +kernel⟩
set_option maxRecDepth 20000 in
theorem ml_L_84 : MLV RL 84 mX10_planned 2 := ⟨Or.inl (tb_of 1028 (by decide +kernel) rfl), tb_of 1029 (by decide +kernel) rfl, tb_of 1030 (by decide +kernel) rfl, by decide +kernel⟩
set_option maxRecDepth 20000 in
theorem ml_L_85 : MLV RL 85 mX9_judge 3 := ⟨Or.inl (tb_of 654 (by decide +kernel) rfl), tb_of 655 (by decide +kernel) rfl, tb_of 656 (by decide +kernel) rfl, by decide +kernel⟩
set_option maxRecDepth 20000 in
theorem ml_L_89 : MLV RL 89 mX10_judge 3 := ⟨Or.inl (tb_of 1033 (by decide +kernel) rfl), tb_of 1034 (by decide +kernel) rfl, tb_of 1035 (by decide +kernel) rfl, by decide +kernel⟩
set_option maxRecDepth 20000 in
theorem ml_L_90 : MLV RL 90 mX9_follow 1 := ⟨Or.inl (tb_of 678 (by decide +kernel) rfl), tb_of 679 (by decide +kernel) rfl, tb_of 680 (by decide +kernel) rfl, by decide +kernel⟩
set_option maxRecDepth 20000 in
theorem ml_L_93 : MLV RL 93 mX10_follow 1 := ⟨Or.inl (tb_of 1038 (by decide +kernel) rfl), tb_of 1039 (by decide +kernel) rfl, tb_of 1040 (by decide +kernel) rfl, by decide +kernel⟩
set_option maxRecDepth 20000 in
theorem ml_L_94 : MLV RL 94 mX9_sheet 3 := ⟨Or.inl (tb_of 684 (by decide +kernel) rfl), tb_of 685 (by decide +kernel) rfl, tb_of 686 (by decide +kernel) rfl, by decide +kernel⟩
set_option maxRecDepth 20000 in
theorem ml_L_97 : MLV RL 97 mX10_sheet 3 := ⟨Or.inl (tb_of 1042 (by decide +kernel) rfl), tb_of 1043 (by decide +kernel) rfl, tb_of 1044 (by decide +kernel) rfl, by decide +kernel⟩
set_option maxRecDepth 20000 in
theorem ml_L_98 : MLV RL 98 mX9_lay 3 := ⟨Or.inl (tb_of 698 (by decide +kernel) rfl), tb_of 699 (by decide +kernel) rfl, tb_of 700 (by decide +kernel) rfl, by decide +kernel⟩
set_option maxRecDepth 20000 in
theorem ml_L_101 : MLV RL 101 mX10_lay 3 := ⟨Or.inl (tb_of 1050 (by decide +kernel) rfl), tb_of 1051 (by decide +kernel) rfl, tb_of 1052 (by decide +kernel) rfl, by decide +kernel⟩
set_option maxRecDepth 20000 in
theorem ml_L_102 : MLV RL 102 mX9_rain 4 := ⟨Or.inl (tb_of 714 (by decide +kernel) rfl), tb_of 715 (by decide +kernel) rfl, tb_of 716 (by decide +kernel) rfl, by decide +kernel⟩
set_option maxRecDepth 20000 in
theorem ml_L_105 : MLV RL 105 mX10_rain 4 := ⟨Or.inl (tb_of 1054 (by decide +kernel) rfl), tb_of 1055 (by decide +kernel) rfl, tb_of 1056 (by decide +kernel) rfl, by decide +kernel⟩
set_option maxRecDepth 20000 in
theorem ml_L_106 : MLV RL 106 mX9_tides 3 := ⟨Or.inl (tb_of 723 (by decide +kernel) rfl), tb_of 724 (by decide +kernel) rfl, tb_of 725 (by decide +kernel) rfl, by decide +kernel⟩
set_option maxRecDepth 20000 in
theorem ml_L_109 : MLV RL 109 mX10_tides 3 := ⟨Or.inl (tb_of 1063 (by decide +kernel) rfl), tb_of 1064 (by decide +kernel) rfl, tb_of 1065 (by decide +kernel) rfl, by decide +kernel⟩
set_option maxRecDepth 20000 in
theorem ml_L_110 : MLV RL 110 mX9_count 1 := ⟨Or.inl (tb_of 728 (by decide +kernel) rfl), tb_of 729 (by decide +kernel) rfl, tb_of 730 (by decide +kernel) rfl, by decide +kernel⟩
set_option maxRecDepth 20000 in
theorem ml_L_113 : MLV RL 113 mX10_count 1 := ⟨Or.inl (tb_of 1067 (by decide +kernel) rfl), tb_of 1068 (by decide +kernel) rfl, tb_of 1069 (by decide +kernel) rfl, by decide +kernel⟩
set_option maxRecDepth 20000 in
theorem ml_X10_117 : MLS RX10 117 mX10_in 3 := ⟨Or.inl (tb_of 882 (by decide +kernel) rfl), tb_of 883 (by decide +kernel) rfl, by decide +kernel⟩
set_option maxRecDepth 20000 in
theorem ml_X10_129 : MLV RX10 129 mX10_isDitch 1 := ⟨Or.inl (tb_of 892 (by decide +kernel) rfl), tb_of 894 (by decide +kernel) rfl, tb_of 47 (by decide +kernel) rfl, by decide +kernel⟩
set_option maxRecDepth 20000 in
theorem ml_X10_137 : MLV RX10 137 mX10_level 1 := ⟨Or.inl (tb_of 904 (by decide +kernel) rfl), tb_of 906 (by decide +kernel) rfl, tb_of 48 (by decide +kernel) rfl, by decide +kernel⟩
set_option maxRecDepth 20000 in
theorem ml_X10_144 : MLV RX10 144 mX10_breach 1 := ⟨Or.inl (tb_of 908 (by decide +kernel) rfl), tb_of 910 (by decide +kernel) rfl, tb_of 49 (by decide +kernel) rfl, by decide +kernel⟩
set_option maxRecDepth 20000 in
theorem ml_X10_163 : MLV RX10 163 mX10_isPaused 2 := ⟨Or.inl (tb_of 930 (by decide +kernel) rfl), tb_of 932 (by decide +kernel) rfl, tb_of 50 (by decide +kernel) rfl, by decide +kernel⟩
set_option maxRecDepth 20000 in
theorem ml_X10_167 : MLV RX10 167 mX10_turns 2 := ⟨Or.inl (tb_of 934 (by decide +kernel) rfl), tb_of 936 (by decide +kernel) rfl, tb_of 51 (by decide +kernel) rfl, by decide +kernel⟩
set_option maxRecDepth 20000 in
theorem ml_X10_175 : MLS RX10 175 mX10_less 2 := ⟨Or.inl (tb_of 964 (by decide +kernel) rfl), tb_of 965 (by decide +kernel) rfl, by decide +kernel⟩
set_option maxRecDepth 20000 in
theorem ml_X10_182 : MLV RX10 182 mX10_flows 3 := ⟨Or.inl (tb_of 960 (by decide +kernel) rfl), tb_of 962 (by decide +kernel) rfl, tb_of 53 (by decide +kernel) rfl, by decide +kernel⟩
set_option maxRecDepth 20000 in
theorem ml_X10_186 : MLV RX10 186 mX10_alarms 0 := ⟨Or.inl (tb_of 967 (by decide +kernel) rfl), tb_of 969 (by decide +kernel) rfl, tb_of 54 (by decide +kernel) rfl, by decide +kernel⟩
set_option maxRecDepth 20000 in
theorem ml_X10_190 : MLV RX10 190 mX10_steps 1 := ⟨Or.inl (tb_of 956 (by decide +kernel) rfl), tb_of 958 (by decide +kernel) rfl, tb_of 52 (by decide +kernel) rfl, by decide +kernel⟩
set_option maxRecDepth 20000 in
theorem ml_X10_198 : MLV RX10 198 mX10_isIn 3 := ⟨Or.inl (tb_of 996 (by decide +kernel) rfl), tb_of 998 (by decide +kernel) rfl, tb_of 57 (by decide +kernel) rfl, by decide +kernel⟩
set_option maxRecDepth 20000 in
theorem ml_X10_202 : MLV RX10 202 mX10_keeps 0 := ⟨Or.inl (tb_of 1008 (by decide +kernel) rfl), tb_of 1010 (by decide +kernel) rfl, tb_of 60 (by decide +kernel) rfl, by decide +kernel⟩
set_option maxRecDepth 20000 in
theorem ml_X10_205 : MLV RX10 205 mX10_keepsPassed 0 := ⟨Or.inl (tb_of 1012 (by decide +kernel) rfl), tb_of 1014 (by decide +kernel) rfl, tb_of 61 (by decide +kernel) rfl, by decide +kernel⟩
set_option maxRecDepth 20000 in
theorem ml_X10_208 : MLV RX10 208 mX10_gives 0 := ⟨Or.inl (tb_of 1016 (by decide +kernel) rfl), tb_of 1018 (by decide +kernel) rfl, tb_of 62 (by decide +kernel) rfl, by decide +kernel⟩
set_option maxRecDepth 20000 in
theorem ml_X10_211 : MLV RX10 211 mX10_givesPassed 0 := ⟨Or.inl (tb_of 1020 (by decide +kernel) rfl), tb_of 1022 (by decide +kernel) rfl, tb_of 63 (by decide +kernel) rfl, by decide +kernel⟩
set_option maxRecDepth 20000 in
theorem ml_X10_217 : MLV RX10 217 mX10_isPlan 2 := ⟨Or.inl (tb_of 992 (by decide +kernel) rfl), tb_of 994 (by decide +kernel) rfl, tb_of 56 (by decide +kernel) rfl, by decide +kernel⟩
set_option maxRecDepth 20000 in
theorem ml_X10_220 : MLV RX10 220 mX10_isWell 2 := ⟨Or.inl (tb_of 1000 (by decide +kernel) rfl), tb_of 1002 (by decide +kernel) rfl, tb_of 58 (by decide +kernel) rfl, by decide +kernel⟩
set_option maxRecDepth 20000 in
theorem ml_X10_223 : MLV RX10 223 mX10_breachOf 2 := ⟨Or.inl (tb_of 1004 (by decide +kernel) rfl), tb_of 1006 (by decide +kernel) rfl, tb_of 59 (by decide +kernel) rfl, by decide +kernel⟩
set_option maxRecDepth 20000 in
theorem ml_X10_227 : MLV RX10 227 mX10_costOf 2 := ⟨Or.inl (tb_of 1024 (by decide +kernel) rfl), tb_of 1026 (by decide +kernel) rfl, tb_of 64 (by decide +kernel) rfl, by decide +kernel⟩
set_option maxRecDepth 20000 in
theorem ml_X10_237 : MLV RX10 237 mX10_findPlan 1 := ⟨Or.inl (tb_of 988 (by decide +kernel) rfl), tb_of 990 (by decide +kernel) rfl, tb_of 55 (by decide +kernel) rfl, by decide +kernel⟩
set_option maxRecDepth 20000 in
theorem ml_X10_247 : MLS RX10 247 mX10_isSheet 2 := ⟨Or.inl (tb_of 1046 (by decide +kernel) rfl), tb_of 1047 (by decide +kernel) rfl, by decide +kernel⟩
set_option maxRecDepth 20000 in
theorem ml_X10_252 : MLV RX10 252 mX10_bars 5 := ⟨Or.inl (tb_of 1059 (by decide +kernel) rfl), tb_of 1061 (by decide +kernel) rfl, tb_of 65 (by decide +kernel) rfl, by decide +kernel⟩
set_option maxRecDepth 20000 in
theorem kc_X9_47 : Cond.constant RX9 47 (100000) ∈ TB := tb_of 397 (by decide +kernel) rfl
set_option maxRecDepth 20000 in
theorem kc_X9_68 : Cond.constant RX9 68 (-1000000) ∈ TB := tb_of 414 (by decide +kernel) rfl
set_option maxRecDepth 20000 in
theorem kc_X9_94 : Cond.constant RX9 94 (16777215) ∈ TB := tb_of 436 (by decide +kernel) rfl
set_option maxRecDepth 20000 in
theorem kc_X10_143 : Cond.constant RX10 143 (-1000000) ∈ TB := tb_of 903 (by decide +kernel) rfl
set_option maxRecDepth 20000 in
theorem kc_J6_265 : Cond.constant RJ6 265 (1431655765) ∈ TB := tb_of 556 (by decide +kernel) rfl
set_option maxRecDepth 20000 in
theorem kc_J6_266 : Cond.constant RJ6 266 (858993459) ∈ TB := tb_of 557 (by decide +kernel) rfl
set_option maxRecDepth 20000 in
theorem kc_J6_267 : Cond.constant RJ6 267 (252645135) ∈ TB := tb_of 558 (by decide +kernel) rfl
set_option maxRecDepth 20000 in
theorem kl_X9_184 : Cond.constantLong RX9 184 (-1) ∈ TB := tb_of 653 (by decide +kernel) rfl
set_option maxRecDepth 20000 in
theorem kl_X3_42 : Cond.constantLong RX3 42 (4611686018427387904) ∈ TB := tb_of 599 (by decide +kernel) rfl
set_option maxRecDepth 20000 in
theorem kl_X10_121 : Cond.constantLong RX10 121 (50) ∈ TB := tb_of 881 (by decide +kernel) rfl
set_option maxRecDepth 20000 in
theorem kl_X10_123 : Cond.constantLong RX10 123 (-500) ∈ TB := tb_of 885 (by decide +kernel) rfl
set_option maxRecDepth 20000 in
theorem kl_X10_125 : Cond.constantLong RX10 125 (500) ∈ TB := tb_of 886 (by decide +kernel) rfl
set_option maxRecDepth 20000 in
theorem kl_X10_127 : Cond.constantLong RX10 127 (100000) ∈ TB := tb_of 887 (by decide +kernel) rfl
set_option maxRecDepth 20000 in
theorem kl_X10_133 : Cond.constantLong RX10 133 (-1000) ∈ TB := tb_of 896 (by decide +kernel) rfl
set_option maxRecDepth 20000 in
theorem kl_X10_135 : Cond.constantLong RX10 135 (1000) ∈ TB := tb_of 897 (by decide +kernel) rfl
set_option maxRecDepth 20000 in
theorem kl_X10_141 : Cond.constantLong RX10 141 (4) ∈ TB := tb_of 902 (by decide +kernel) rfl
set_option maxRecDepth 20000 in
theorem kl_X10_150 : Cond.constantLong RX10 150 (6) ∈ TB := tb_of 920 (by decide +kernel) rfl
set_option maxRecDepth 20000 in
theorem kl_X10_152 : Cond.constantLong RX10 152 (16777215) ∈ TB := tb_of 921 (by decide +kernel) rfl
set_option maxRecDepth 20000 in
theorem kl_X10_171 : Cond.constantLong RX10 171 (23) ∈ TB := tb_of 946 (by decide +kernel) rfl
set_option maxRecDepth 20000 in
theorem kl_X10_173 : Cond.constantLong RX10 173 (100) ∈ TB := tb_of 951 (by decide +kernel) rfl
set_option maxRecDepth 20000 in
theorem kl_X10_196 : Cond.constantLong RX10 196 (5) ∈ TB := tb_of 983 (by decide +kernel) rfl
set_option maxRecDepth 20000 in
theorem kl_X10_241 : Cond.constantLong RX10 241 (-1) ∈ TB := tb_of 1032 (by decide +kernel) rfl
set_option maxRecDepth 20000 in
theorem kl_X10_243 : Cond.constantLong RX10 243 (2) ∈ TB := tb_of 1037 (by decide +kernel) rfl
set_option maxRecDepth 20000 in
theorem kl_X10_245 : Cond.constantLong RX10 245 (3) ∈ TB := tb_of 1049 (by decide +kernel) rfl
set_option maxRecDepth 20000 in
theorem kl_X10_250 : Cond.constantLong RX10 250 (24) ∈ TB := tb_of 1058 (by decide +kernel) rfl
set_option maxRecDepth 20000 in
theorem mc_X9_235 : Cond.methodLink RX9 235 arraycopyName ∈ TB := tb_of 727 (by decide +kernel) rfl
set_option maxRecDepth 20000 in
theorem mc_X3_122 : Cond.methodLink RX3 122 arraycopyName ∈ TB := tb_of 609 (by decide +kernel) rfl
set_option maxRecDepth 20000 in
theorem ac_nat : Cond.native arraycopyName ∈ TB := tb_of 611 (by decide +kernel) rfl
set_option maxRecDepth 20000 in
theorem ac_stat : Cond.static arraycopyName ∈ TB := tb_of 610 (by decide +kernel) rfl
set_option maxRecDepth 20000 in
theorem ac_ini : Cond.initialized "java/lang/System" ∈ TB := tb_of 81 (by decide +kernel) rfl
