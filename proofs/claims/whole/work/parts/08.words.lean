theorem lk_X11_100 : Cond.methodLink RX11 100 yX11_refuse ∈ TBL := inT3 68 rfl rfl
theorem lk_X11_104 : Cond.methodLink RX11 104 yX8_put ∈ TBL := inT3 72 rfl rfl
theorem lk_X11_108 : Cond.methodLink RX11 108 yX5_parse ∈ TBL := inT3 84 rfl rfl
theorem lk_X11_112 : Cond.methodLink RX11 112 yX7_begin ∈ TBL := inT4 21 rfl rfl
theorem lk_X11_146 : Cond.methodLink RX11 146 yX11_guestsThere ∈ TBL := inT4 40 rfl rfl
theorem lk_X11_150 : Cond.methodLink RX11 150 yX11_guestsKept ∈ TBL := inT4 48 rfl rfl
theorem lk_X11_156 : Cond.methodLink RX11 156 yX10_isBeast ∈ TBL := inT4 56 rfl rfl
theorem lk_X11_163 : Cond.methodLink RX11 163 yX8_letterOf ∈ TBL := inT4 60 rfl rfl
theorem lk_X11_167 : Cond.methodLink RX11 167 yX10_isGuest ∈ TBL := inT4 63 rfl rfl
theorem lk_X11_185 : Cond.methodLink RX11 185 yX10_isAwake ∈ TBL := inT4 71 rfl rfl
theorem lk_X11_189 : Cond.methodLink RX11 189 yX11_firstKeptBy ∈ TBL := inT4 75 rfl rfl
theorem lk_X11_210 : Cond.methodLink RX11 210 yX7_suits ∈ TBL := inT4 87 rfl rfl
theorem lk_X11_213 : Cond.methodLink RX11 213 yX4_liking ∈ TBL := inT4 91 rfl rfl
theorem lk_X11_223 : Cond.methodLink RX11 223 yX11_hoursToSee ∈ TBL := inT4 140 rfl rfl
theorem lk_X11_226 : Cond.methodLink RX11 226 yX7_copyFrom ∈ TBL := inT4 149 rfl rfl
theorem lk_X11_230 : Cond.methodLink RX11 230 yX4_playHour ∈ TBL := inT4 153 rfl rfl
theorem lk_X11_234 : Cond.methodLink RX11 234 yX4_weigh ∈ TBL := inT4 201 rfl rfl
theorem lk_X11_238 : Cond.methodLink RX11 238 yX4_choose ∈ TBL := inT4 202 rfl rfl
theorem lk_X11_245 : Cond.methodLink RX11 245 yX4_firstLonely ∈ TBL := inT4 207 rfl rfl
theorem lk_X11_249 : Cond.methodLink RX11 249 yX4_settle ∈ TBL := inT4 211 rfl rfl
theorem lk_X11_252 : Cond.methodLink RX11 252 yX7_passHour ∈ TBL := inT4 212 rfl rfl
theorem lk_X11_258 : Cond.methodLink RX11 258 yX0_find ∈ TBL := inT4 217 rfl rfl
theorem lk_X11_268 : Cond.methodLink RX11 268 yX4_findDress ∈ TBL := inT5 8 rfl rfl
theorem lk_X11_275 : Cond.methodLink RX11 275 yX8_holdsPairs ∈ TBL := inT5 20 rfl rfl
theorem lk_X11_278 : Cond.methodLink RX11 278 yX8_pairsUnlike ∈ TBL := inT5 24 rfl rfl
theorem lk_X11_282 : Cond.methodLink RX11 282 yX2_hear ∈ TBL := inT5 28 rfl rfl
theorem lk_X11_286 : Cond.methodLink RX11 286 yX2_gather ∈ TBL := inT5 36 rfl rfl
theorem lk_X11_293 : Cond.methodLink RX11 293 yX2_least ∈ TBL := inT5 50 rfl rfl
theorem lk_X11_296 : Cond.methodLink RX11 296 yX2_greatest ∈ TBL := inT5 55 rfl rfl
theorem lk_X11_299 : Cond.methodLink RX11 299 yX2_findPair ∈ TBL := inT5 64 rfl rfl
theorem lk_X11_306 : Cond.methodLink RX11 306 yX6_find ∈ TBL := inT5 77 rfl rfl
theorem lk_X11_318 : Cond.methodLink RX11 318 yX9_least ∈ TBL := inT5 108 rfl rfl
theorem lk_X11_321 : Cond.methodLink RX11 321 yX11_hoursUntilCome ∈ TBL := inT5 125 rfl rfl
theorem lk_X11_324 : Cond.methodLink RX11 324 yX11_canGoBy ∈ TBL := inT5 137 rfl rfl
theorem lk_X11_327 : Cond.methodLink RX11 327 yX11_remember ∈ TBL := inT5 141 rfl rfl
theorem lk_X11_330 : Cond.methodLink RX11 330 yX11_drawOfHundred ∈ TBL := inT5 149 rfl rfl
theorem lk_X11_336 : Cond.methodLink RX11 336 yX11_isNewTriple ∈ TBL := inT5 159 rfl rfl
theorem lk_X11_340 : Cond.methodLink RX11 340 yX11_setTriple ∈ TBL := inT5 165 rfl rfl
theorem lk_X11_344 : Cond.methodLink RX11 344 yX7_swapKnowledge ∈ TBL := inT5 174 rfl rfl
theorem lk_X11_351 : Cond.methodLink RX11 351 yX7_rowPart ∈ TBL := inT5 193 rfl rfl
theorem lk_X11_354 : Cond.methodLink RX11 354 yX3_write ∈ TBL := inT5 201 rfl rfl
theorem lk_X11_361 : Cond.methodLink RX11 361 yX3_read ∈ TBL := inT5 228 rfl rfl
theorem lk_X11_365 : Cond.methodLink RX11 365 yX10_isThere ∈ TBL := inT4 44 rfl rfl
theorem lk_X11_368 : Cond.methodLink RX11 368 yX7_moment ∈ TBL := inT4 144 rfl rfl
theorem lk_X11_371 : Cond.methodLink RX11 371 Lib.Math.min.name ∈ TBL := inT4 148 rfl rfl
theorem lk_X11_376 : Cond.methodLink RX11 376 yX4_follow ∈ TBL := inT5 129 rfl rfl
theorem lk_X11_382 : Cond.methodLink RX11 382 yX11_isTrait ∈ TBL := inT5 162 rfl rfl
theorem lk_X0_29 : Cond.methodLink RX0 29 yX0_mostFrom ∈ TBL := inT4 221 rfl rfl
theorem lk_X0_36 : Cond.methodLink RX0 36 yX0_follow ∈ TBL := inT5 0 rfl rfl
theorem lk_X0_40 : Cond.methodLink RX0 40 yX0_canBring ∈ TBL := inT4 225 rfl rfl
theorem lk_X0_44 : Cond.methodLink RX0 44 yX0_with ∈ TBL := inT4 235 rfl rfl
theorem lk_X0_48 : Cond.methodLink RX0 48 Lib.Math.max.name ∈ TBL := inT4 239 rfl rfl
theorem lk_X0_54 : Cond.methodLink RX0 54 yJ6_bitCount_0f7a4 ∈ TBL := inT4 228 rfl rfl
theorem lk_X0_63 : Cond.methodLink RX0 63 yX10_isFeared ∈ TBL := inT4 234 rfl rfl
theorem lk_X1_22 : Cond.methodLink RX1 22 yX1_operandsOf ∈ TBL := inT4 104 rfl rfl
theorem lk_X1_26 : Cond.methodLink RX1 26 yX1_pushed ∈ TBL := inT4 107 rfl rfl
theorem lk_X1_30 : Cond.methodLink RX1 30 yX1_joined ∈ TBL := inT4 110 rfl rfl
theorem lk_X1_34 : Cond.methodLink RX1 34 yJ9_floorDiv_7cf53 ∈ TBL := inT4 113 rfl rfl
theorem lk_X1_40 : Cond.methodLink RX1 40 yJ9_floorMod_7cf53 ∈ TBL := inT4 116 rfl rfl
theorem lk_X1_43 : Cond.methodLink RX1 43 Lib.Math.min.name ∈ TBL := inT4 119 rfl rfl
theorem lk_X1_46 : Cond.methodLink RX1 46 Lib.Math.max.name ∈ TBL := inT4 122 rfl rfl
theorem lk_X1_53 : Cond.methodLink RX1 53 Lib.MathLoose.min_long.x ∈ TBL := inT4 127 rfl rfl
theorem lk_X1_56 : Cond.methodLink RX1 56 Lib.MathLoose.max_long.x ∈ TBL := inT4 130 rfl rfl
theorem lk_X2_36 : Cond.methodLink RX2 36 yX2_fits ∈ TBL := inT5 40 rfl rfl
theorem lk_X2_40 : Cond.methodLink RX2 40 yX2_lead ∈ TBL := inT5 44 rfl rfl
theorem lk_X2_44 : Cond.methodLink RX2 44 yX2_digit ∈ TBL := inT5 47 rfl rfl
theorem lk_X2_48 : Cond.methodLink RX2 48 Lib.Math.min.name ∈ TBL := inT5 54 rfl rfl
theorem lk_X2_53 : Cond.methodLink RX2 53 Lib.Math.max.name ∈ TBL := inT5 59 rfl rfl
theorem lk_X2_56 : (RX2, 56, yX11_setTriple, "BeastsChoose") ∈ NSTL := List.mem_of_getElem? (i := 11) rfl
theorem lk_X2_60 : Cond.methodLink RX2 60 yX2_mostLeft ∈ TBL := inT5 69 rfl rfl
theorem lk_X3_35 : Cond.methodLink RX3 35 yX3_putPair ∈ TBL := inT5 205 rfl rfl
theorem lk_X3_42 : Cond.methodLink RX3 42 yX3_put ∈ TBL := inT5 209 rfl rfl
theorem lk_X3_51 : Cond.methodLink RX3 51 yX3_putTriple ∈ TBL := inT5 213 rfl rfl
theorem lk_X3_70 : Cond.methodLink RX3 70 yX3_check ∈ TBL := inT5 217 rfl rfl
theorem lk_X3_74 : Cond.methodLink RX3 74 yX3_sizeFor ∈ TBL := inT5 232 rfl rfl
theorem lk_X3_89 : Cond.methodLink RX3 89 yX7_forgetRows ∈ TBL := inT5 235 rfl rfl
theorem lk_X3_92 : Cond.methodLink RX3 92 yX3_takePair ∈ TBL := inT5 236 rfl rfl
theorem lk_X3_96 : Cond.methodLink RX3 96 yX3_takeByte ∈ TBL := inT6 0 rfl rfl
theorem lk_X3_99 : Cond.methodLink RX3 99 yX3_takeTriple ∈ TBL := inT6 4 rfl rfl
theorem lk_X4_26 : Cond.methodLink RX4 26 yX4_look ∈ TBL := inT4 95 rfl rfl
theorem lk_X4_40 : Cond.methodLink RX4 40 yX1_valueOf ∈ TBL := inT4 100 rfl rfl
theorem lk_X4_44 : Cond.methodLink RX4 44 yX1_joined ∈ TBL := inT4 133 rfl rfl
theorem lk_X4_48 : Cond.methodLink RX4 48 Lib.Math.min.name ∈ TBL := inT4 134 rfl rfl
theorem lk_X4_54 : Cond.methodLink RX4 54 Lib.Math.max.name ∈ TBL := inT4 135 rfl rfl
theorem lk_X4_57 : Cond.methodLink RX4 57 yX7_suits ∈ TBL := inT4 99 rfl rfl
theorem lk_X4_74 : Cond.methodLink RX4 74 yX10_isFeared ∈ TBL := inT4 183 rfl rfl
theorem lk_X4_78 : Cond.methodLink RX4 78 yX10_isAwake ∈ TBL := inT4 168 rfl rfl
theorem lk_X4_81 : Cond.methodLink RX4 81 yX10_isThere ∈ TBL := inT4 169 rfl rfl
theorem lk_X4_93 : Cond.methodLink RX4 93 yX4_weighGuest ∈ TBL := inT4 161 rfl rfl
theorem lk_X4_100 : Cond.methodLink RX4 100 yX4_canMeet ∈ TBL := inT4 165 rfl rfl
theorem lk_X4_104 : Cond.methodLink RX4 104 yX4_liking ∈ TBL := inT4 170 rfl rfl
theorem lk_X4_108 : Cond.methodLink RX4 108 yX4_mayAsk ∈ TBL := inT4 179 rfl rfl
theorem lk_X4_115 : Cond.methodLink RX4 115 yX4_favourite ∈ TBL := inT4 175 rfl rfl
theorem lk_X4_119 : Cond.methodLink RX4 119 yX4_meet ∈ TBL := inT4 188 rfl rfl
theorem lk_X4_122 : Cond.methodLink RX4 122 yX7_keepRow ∈ TBL := inT4 192 rfl rfl
theorem lk_X4_141 : Cond.methodLink RX4 141 yX4_weigh ∈ TBL := inT4 157 rfl rfl
theorem lk_X4_145 : Cond.methodLink RX4 145 yX4_choose ∈ TBL := inT4 171 rfl rfl
theorem lk_X4_148 : Cond.methodLink RX4 148 yX4_settle ∈ TBL := inT4 184 rfl rfl
theorem lk_X4_152 : Cond.methodLink RX4 152 yX7_passHour ∈ TBL := inT4 197 rfl rfl
theorem lk_X4_161 : Cond.methodLink RX4 161 Lib.Math.abs.name ∈ TBL := inT5 12 rfl rfl
theorem lk_X4_165 : (RX4, 165, yX11_setTriple, "BeastsChoose") ∈ NSTL := List.mem_of_getElem? (i := 10) rfl
theorem lk_X5_26 : Cond.methodLink RX5 26 yX10_clear ∈ TBL := inT3 88 rfl rfl
theorem lk_X5_37 : Cond.methodLink RX5 37 yX8_split ∈ TBL := inT3 92 rfl rfl
theorem lk_X5_40 : Cond.methodLink RX5 40 yX5_kind ∈ TBL := inT3 122 rfl rfl
theorem lk_X5_44 : Cond.methodLink RX5 44 yX5_fail ∈ TBL := inT3 126 rfl rfl
theorem lk_X5_48 : Cond.methodLink RX5 48 yX5_statement ∈ TBL := inT3 130 rfl rfl
theorem lk_X5_52 : Cond.methodLink RX5 52 yX5_token ∈ TBL := inT3 150 rfl rfl
theorem lk_X5_65 : Cond.methodLink RX5 65 yX5_beastStatement ∈ TBL := inT3 134 rfl rfl
theorem lk_X5_68 : Cond.methodLink RX5 68 yX5_tasteStatement ∈ TBL := inT3 165 rfl rfl
theorem lk_X5_71 : Cond.methodLink RX5 71 yX5_guestStatement ∈ TBL := inT3 177 rfl rfl
theorem lk_X5_74 : Cond.methodLink RX5 74 yX5_fearStatement ∈ TBL := inT3 185 rfl rfl
theorem lk_X5_77 : Cond.methodLink RX5 77 yX5_likesStatement ∈ TBL := inT3 197 rfl rfl
theorem lk_X5_80 : Cond.methodLink RX5 80 yX5_mayStatement ∈ TBL := inT4 13 rfl rfl
theorem lk_X5_83 : Cond.methodLink RX5 83 yX5_setting ∈ TBL := inT4 17 rfl rfl
theorem lk_X5_89 : Cond.methodLink RX5 89 yX5_newName ∈ TBL := inT3 138 rfl rfl
theorem lk_X5_95 : Cond.methodLink RX5 95 yX5_number ∈ TBL := inT3 154 rfl rfl
theorem lk_X5_99 : Cond.methodLink RX5 99 yX10_addBeast ∈ TBL := inT3 158 rfl rfl
theorem lk_X5_103 : Cond.methodLink RX5 103 yX5_knownBeast ∈ TBL := inT3 169 rfl rfl
theorem lk_X5_109 : Cond.methodLink RX5 109 yX5_triple ∈ TBL := inT3 173 rfl rfl
theorem lk_X5_119 : Cond.methodLink RX5 119 yX10_addGuest ∈ TBL := inT3 181 rfl rfl
theorem lk_X5_123 : Cond.methodLink RX5 123 yX5_knownGuest ∈ TBL := inT3 189 rfl rfl
theorem lk_X5_126 : Cond.methodLink RX5 126 yX10_isFeared ∈ TBL := inT3 193 rfl rfl
theorem lk_X5_151 : Cond.methodLink RX5 151 yX5_sum ∈ TBL := inT3 201 rfl rfl
theorem lk_X5_157 : Cond.methodLink RX5 157 yX5_test ∈ TBL := inT3 233 rfl rfl
theorem lk_X5_178 : Cond.methodLink RX5 178 yX10_beastCalled ∈ TBL := inT3 142 rfl rfl
theorem lk_X5_182 : Cond.methodLink RX5 182 yX10_guestCalled ∈ TBL := inT3 146 rfl rfl
theorem lk_X5_185 : Cond.methodLink RX5 185 yX5_product ∈ TBL := inT3 205 rfl rfl
theorem lk_X5_188 : Cond.methodLink RX5 188 yX1_add ∈ TBL := inT3 213 rfl rfl
theorem lk_X5_192 : Cond.methodLink RX5 192 yX5_part ∈ TBL := inT3 209 rfl rfl
theorem lk_X5_195 : Cond.methodLink RX5 195 yX5_opening ∈ TBL := inT3 217 rfl rfl
theorem lk_X5_198 : Cond.methodLink RX5 198 yX5_closing ∈ TBL := inT3 221 rfl rfl
theorem lk_X5_201 : Cond.methodLink RX5 201 yX5_pairOfSums ∈ TBL := inT3 225 rfl rfl
theorem lk_X5_204 : Cond.methodLink RX5 204 yX5_choice ∈ TBL := inT3 229 rfl rfl
theorem lk_X5_207 : Cond.methodLink RX5 207 yX5_scenePart ∈ TBL := inT4 9 rfl rfl
theorem lk_X5_210 : Cond.methodLink RX5 210 yX5_both ∈ TBL := inT3 237 rfl rfl
theorem lk_X5_213 : Cond.methodLink RX5 213 yX5_fact ∈ TBL := inT4 1 rfl rfl
theorem lk_X5_216 : Cond.methodLink RX5 216 yX5_comparison ∈ TBL := inT4 5 rfl rfl
theorem lk_X6_24 : Cond.methodLink RX6 24 yX6_hold ∈ TBL := inT5 81 rfl rfl
theorem lk_X6_37 : Cond.methodLink RX6 37 yX6_isLeft ∈ TBL := inT5 87 rfl rfl
theorem lk_X6_41 : Cond.methodLink RX6 41 yX6_pointed ∈ TBL := inT5 91 rfl rfl
theorem lk_X6_45 : Cond.methodLink RX6 45 yX6_leave ∈ TBL := inT5 96 rfl rfl
theorem lk_X6_52 : Cond.methodLink RX6 52 Lib.Math.max.name ∈ TBL := inT5 85 rfl rfl
theorem lk_X6_58 : Cond.methodLink RX6 58 yX4_favourite ∈ TBL := inT5 86 rfl rfl
theorem lk_X6_64 : Cond.methodLink RX6 64 yX4_liking ∈ TBL := inT5 95 rfl rfl
theorem lk_X6_68 : Cond.methodLink RX6 68 yX6_goesRound ∈ TBL := inT5 100 rfl rfl
theorem lk_X7_33 : Cond.methodLink RX7 33 yX7_forgetDay ∈ TBL := inT1 171 rfl rfl
theorem lk_X7_51 : Cond.methodLink RX7 51 arraycopyName ∈ TBL := inT4 25 rfl rfl
theorem lk_X7_60 : Cond.methodLink RX7 60 yX7_forgetRows ∈ TBL := inT4 28 rfl rfl
theorem lk_X7_69 : Cond.methodLink RX7 69 yX7_swapPlaces ∈ TBL := inT5 178 rfl rfl
theorem lk_X7_73 : Cond.methodLink RX7 73 yX7_moment ∈ TBL := inT4 196 rfl rfl
theorem lk_X8_39 : Cond.methodLink RX8 39 yX8_padded ∈ TBL := inT1 90 rfl rfl
theorem lk_X8_52 : Cond.methodLink RX8 52 yX8_skipBlanks ∈ TBL := inT3 96 rfl rfl
theorem lk_X8_55 : Cond.methodLink RX8 55 yX8_scan ∈ TBL := inT3 100 rfl rfl
theorem lk_X8_59 : Cond.methodLink RX8 59 yX8_isLetter ∈ TBL := inT3 104 rfl rfl
theorem lk_X8_63 : Cond.methodLink RX8 63 yX8_isDigit ∈ TBL := inT3 107 rfl rfl
theorem lk_X8_66 : Cond.methodLink RX8 66 yX8_badHere ∈ TBL := inT3 110 rfl rfl
theorem lk_X8_69 : Cond.methodLink RX8 69 yX8_scanWord ∈ TBL := inT3 114 rfl rfl
theorem lk_X8_72 : Cond.methodLink RX8 72 yX8_scanNumber ∈ TBL := inT3 118 rfl rfl
theorem lk_X9_18 : Cond.methodLink RX9 18 yX9_stepsTo ∈ TBL := inT5 112 rfl rfl
theorem lk_X9_22 : Cond.methodLink RX9 22 yX9_sharedByOneMore ∈ TBL := inT5 115 rfl rfl
theorem lk_X9_26 : Cond.methodLink RX9 26 Lib.Math.max.name ∈ TBL := inT5 119 rfl rfl
theorem lk_X9_32 : Cond.methodLink RX9 32 Lib.Math.min.name ∈ TBL := inT5 120 rfl rfl
theorem lk_X10_77 : (RX10, 77, yX11_setTriple, "BeastsChoose") ∈ NSTL := List.mem_of_getElem? (i := 9) rfl
theorem lk_X12_246 : Cond.methodLink RX12 246 yX12_isDefault ∈ TBL := inT6 18 rfl rfl
theorem lk_X12_250 : Cond.methodLink RX12 250 yX12_refuses ∈ TBL := inT7 20 rfl rfl
theorem lk_X12_254 : Cond.methodLink RX12 254 yX12_put ∈ TBL := inT7 24 rfl rfl
theorem lk_X12_257 : Cond.methodLink RX12 257 yX12_blame ∈ TBL := inT7 54 rfl rfl
theorem lk_X12_261 : Cond.methodLink RX12 261 yX12_isLetter ∈ TBL := inT7 40 rfl rfl
theorem lk_X12_265 : Cond.methodLink RX12 265 yX12_isDigit ∈ TBL := inT7 43 rfl rfl
theorem lk_X12_268 : Cond.methodLink RX12 268 yX12_lex ∈ TBL := inT7 50 rfl rfl
theorem lk_X12_271 : Cond.methodLink RX12 271 yX12_isSign ∈ TBL := inT7 177 rfl rfl
theorem lk_X12_274 : Cond.methodLink RX12 274 yX12_ahead ∈ TBL := inT7 36 rfl rfl
theorem lk_X12_337 : Cond.methodLink RX12 337 yX12_manyOf ∈ TBL := inT7 112 rfl rfl
theorem lk_X12_341 : Cond.methodLink RX12 341 yX12_nameOf ∈ TBL := inT7 116 rfl rfl
theorem lk_X12_345 : Cond.methodLink RX12 345 yX12_is ∈ TBL := inT7 128 rfl rfl
theorem lk_X12_349 : Cond.methodLink RX12 349 yX12_rank ∈ TBL := inT7 197 rfl rfl
theorem lk_X12_352 : Cond.methodLink RX12 352 yX12_add ∈ TBL := inT7 185 rfl rfl
theorem lk_X12_355 : Cond.methodLink RX12 355 yX12_pushes ∈ TBL := inT7 162 rfl rfl
theorem lk_X12_358 : Cond.methodLink RX12 358 yX12_isTest ∈ TBL := inT7 170 rfl rfl
theorem lk_X12_361 : Cond.methodLink RX12 361 yX12_isWord ∈ TBL := inT7 59 rfl rfl
theorem lk_X12_365 : Cond.methodLink RX12 365 yX12_holdsBack ∈ TBL := inT7 173 rfl rfl
theorem lk_X12_368 : Cond.methodLink RX12 368 yX12_opens ∈ TBL := inT7 181 rfl rfl
theorem lk_X12_371 : Cond.methodLink RX12 371 yX12_joins ∈ TBL := inT7 193 rfl rfl
theorem lk_X12_374 : Cond.methodLink RX12 374 yX12_operand ∈ TBL := inT7 166 rfl rfl
theorem lk_X12_377 : Cond.methodLink RX12 377 yX12_goesOn ∈ TBL := inT7 189 rfl rfl
theorem lk_X12_380 : Cond.methodLink RX12 380 yX12_isOwn ∈ TBL := inT7 75 rfl rfl
theorem lk_X12_383 : Cond.methodLink RX12 383 yX12_named ∈ TBL := inT7 108 rfl rfl
theorem lk_X12_387 : Cond.methodLink RX12 387 yX12_has2 ∈ TBL := inT7 139 rfl rfl
theorem lk_X12_391 : Cond.methodLink RX12 391 yX12_counts ∈ TBL := inT7 67 rfl rfl
theorem lk_X12_395 : Cond.methodLink RX12 395 yX12_fresh ∈ TBL := inT7 71 rfl rfl
theorem lk_X12_399 : Cond.methodLink RX12 399 yX12_must_ ∈ TBL := inT7 120 rfl rfl
theorem lk_X12_403 : Cond.methodLink RX12 403 yX12_number ∈ TBL := inT7 124 rfl rfl
theorem lk_X12_406 : Cond.methodLink RX12 406 yX12_askedBut ∈ TBL := inT7 135 rfl rfl
theorem lk_X12_409 : Cond.methodLink RX12 409 yX12_threes ∈ TBL := inT7 142 rfl rfl
theorem lk_X12_412 : Cond.methodLink RX12 412 yX12_reads ∈ TBL := inT7 158 rfl rfl
theorem lk_X12_416 : Cond.methodLink RX12 416 yX12_beasting ∈ TBL := inT7 63 rfl rfl
theorem lk_X12_419 : Cond.methodLink RX12 419 yX12_tasting ∈ TBL := inT7 131 rfl rfl
theorem lk_X12_422 : Cond.methodLink RX12 422 yX12_guesting ∈ TBL := inT7 146 rfl rfl
theorem lk_X12_425 : Cond.methodLink RX12 425 yX12_fearing ∈ TBL := inT7 150 rfl rfl
theorem lk_X12_428 : Cond.methodLink RX12 428 yX12_reading ∈ TBL := inT7 154 rfl rfl
theorem lk_X12_431 : Cond.methodLink RX12 431 yX12_telling ∈ TBL := inT7 200 rfl rfl
theorem lk_X12_435 : Cond.methodLink RX12 435 yX12_must ∈ TBL := inT7 208 rfl rfl
theorem lk_X12_437 : Cond.methodLink RX12 437 yX12_statement ∈ TBL := inT7 46 rfl rfl
theorem lk_X12_440 : Cond.methodLink RX12 440 yX12_finishes ∈ TBL := inT7 204 rfl rfl
theorem lk_X12_443 : Cond.methodLink RX12 443 yX12_begin ∈ TBL := inT7 212 rfl rfl
theorem lk_X12_446 : Cond.methodLink RX12 446 yX12_dawns ∈ TBL := inT7 216 rfl rfl
theorem lk_X12_449 : Cond.methodLink RX12 449 yX12_slot ∈ TBL := inT7 232 rfl rfl
theorem lk_X12_452 : Cond.methodLink RX12 452 yX12_copies ∈ TBL := inT7 236 rfl rfl
theorem lk_X12_459 : Cond.methodLink RX12 459 yX12_held ∈ TBL := inT8 80 rfl rfl
theorem lk_X12_463 : Cond.methodLink RX12 463 yX12_floor ∈ TBL := inT8 85 rfl rfl
theorem lk_X12_467 : Cond.methodLink RX12 467 yX12_two ∈ TBL := inT8 77 rfl rfl
theorem lk_X12_471 : Cond.methodLink RX12 471 yX12_look ∈ TBL := inT8 45 rfl rfl
theorem lk_X12_475 : Cond.methodLink RX12 475 yX12_tasteIn ∈ TBL := inT8 29 rfl rfl
theorem lk_X12_478 : Cond.methodLink RX12 478 yX12_suiting ∈ TBL := inT8 53 rfl rfl
theorem lk_X12_481 : Cond.methodLink RX12 481 yX12_pair ∈ TBL := inT8 65 rfl rfl
theorem lk_X12_483 : Cond.methodLink RX12 483 yX12_hourIn ∈ TBL := inT8 4 rfl rfl
theorem lk_X12_486 : Cond.methodLink RX12 486 yX12_isTold ∈ TBL := inT8 61 rfl rfl
theorem lk_X12_489 : Cond.methodLink RX12 489 yX12_tells ∈ TBL := inT8 69 rfl rfl
theorem lk_X12_492 : Cond.methodLink RX12 492 yX12_reckons ∈ TBL := inT8 73 rfl rfl
theorem lk_X12_498 : Cond.methodLink RX12 498 yX12_liked ∈ TBL := inT8 57 rfl rfl
theorem lk_X12_501 : Cond.methodLink RX12 501 yX12_isFeared ∈ TBL := inT8 113 rfl rfl
theorem lk_X12_504 : Cond.methodLink RX12 504 yX12_isThere ∈ TBL := inT8 12 rfl rfl
theorem lk_X12_507 : Cond.methodLink RX12 507 yX12_isAwake ∈ TBL := inT8 33 rfl rfl
theorem lk_X12_510 : Cond.methodLink RX12 510 yX12_isOpenTo ∈ TBL := inT8 105 rfl rfl
theorem lk_X12_513 : Cond.methodLink RX12 513 yX12_isAllowed ∈ TBL := inT8 109 rfl rfl
theorem lk_X12_517 : Cond.methodLink RX12 517 yX12_toldOf ∈ TBL := inT8 8 rfl rfl
theorem lk_X12_520 : Cond.methodLink RX12 520 yX12_wished ∈ TBL := inT8 101 rfl rfl
theorem lk_X12_524 : Cond.methodLink RX12 524 yX12_comes ∈ TBL := inT8 117 rfl rfl
theorem lk_X12_527 : Cond.methodLink RX12 527 yX12_writesDown ∈ TBL := inT8 121 rfl rfl
theorem lk_X12_533 : Cond.methodLink RX12 533 yX12_isBeast ∈ TBL := inT8 25 rfl rfl
theorem lk_X12_536 : Cond.methodLink RX12 536 yX12_isGuest ∈ TBL := inT8 41 rfl rfl
theorem lk_X12_539 : Cond.methodLink RX12 539 yX12_isAhead ∈ TBL := inT8 93 rfl rfl
theorem lk_X12_542 : Cond.methodLink RX12 542 yX12_asking ∈ TBL := inT8 97 rfl rfl
theorem lk_X12_545 : Cond.methodLink RX12 545 yX12_isOver ∈ TBL := inT8 125 rfl rfl
theorem lk_X12_548 : Cond.methodLink RX12 548 yX12_bits ∈ TBL := inT8 137 rfl rfl
theorem lk_X12_551 : Cond.methodLink RX12 551 yX12_isBest ∈ TBL := inT8 140 rfl rfl
theorem lk_X12_555 : Cond.methodLink RX12 555 yX12_digit ∈ TBL := inT8 149 rfl rfl
theorem lk_X12_558 : Cond.methodLink RX12 558 yX12_off ∈ TBL := inT8 152 rfl rfl
theorem lk_X12_561 : Cond.methodLink RX12 561 yX12_suitsBy ∈ TBL := inT8 167 rfl rfl
theorem lk_X12_564 : Cond.methodLink RX12 564 yX12_isTaste ∈ TBL := inT8 163 rfl rfl
theorem lk_X12_567 : Cond.methodLink RX12 567 yX12_tastes ∈ TBL := inT8 175 rfl rfl
theorem lk_X12_570 : Cond.methodLink RX12 570 yX12_pointed ∈ TBL := inT8 180 rfl rfl
theorem lk_X12_573 : Cond.methodLink RX12 573 yX12_isInRing ∈ TBL := inT8 184 rfl rfl
theorem lk_X12_576 : Cond.methodLink RX12 576 yX12_keeps ∈ TBL := inT8 200 rfl rfl
theorem lk_X12_587 : Cond.methodLink RX12 587 yX12_draw ∈ TBL := inT8 208 rfl rfl
theorem lk_X12_590 : Cond.methodLink RX12 590 yX12_areNine ∈ TBL := inT8 220 rfl rfl
theorem lk_X12_593 : Cond.methodLink RX12 593 yX12_writes ∈ TBL := inT9 8 rfl rfl
theorem lk_X12_596 : Cond.methodLink RX12 596 yX12_writesTwo ∈ TBL := inT9 4 rfl rfl
theorem lk_X12_599 : Cond.methodLink RX12 599 yX12_twoBytes ∈ TBL := inT9 24 rfl rfl
theorem lk_X12_602 : Cond.methodLink RX12 602 yX12_guestOn ∈ TBL := inT9 28 rfl rfl
theorem lk_X12_605 : Cond.methodLink RX12 605 yX12_beastOn ∈ TBL := inT9 32 rfl rfl
theorem lk_X12_608 : Cond.methodLink RX12 608 yX12_comesOn ∈ TBL := inT9 20 rfl rfl
theorem fl_X11_12 : zFld RX11 12 11 0 := ⟨RX11, TX11, rfl, inX11, Nat.le_of_ble_eq_true rfl, inT3 12 rfl rfl⟩
theorem fl_X11_20 : zFld RX11 20 11 1 := ⟨RX11, TX11, rfl, inX11, Nat.le_of_ble_eq_true rfl, inT3 13 rfl rfl⟩
theorem fl_X11_24 : zFld RX11 24 11 2 := ⟨RX11, TX11, rfl, inX11, Nat.le_of_ble_eq_true rfl, inT3 14 rfl rfl⟩
theorem fl_X11_28 : zFld RX11 28 11 3 := ⟨RX11, TX11, rfl, inX11, Nat.le_of_ble_eq_true rfl, inT3 15 rfl rfl⟩
theorem fl_X11_31 : zFld RX11 31 11 4 := ⟨RX11, TX11, rfl, inX11, Nat.le_of_ble_eq_true rfl, inT3 16 rfl rfl⟩
theorem fl_X11_38 : zFld RX11 38 11 5 := ⟨RX11, TX11, rfl, inX11, Nat.le_of_ble_eq_true rfl, inT3 17 rfl rfl⟩
theorem fl_X11_45 : zFld RX11 45 11 6 := ⟨RX11, TX11, rfl, inX11, Nat.le_of_ble_eq_true rfl, inT3 18 rfl rfl⟩
theorem fl_X11_52 : zFld RX11 52 11 7 := ⟨RX11, TX11, rfl, inX11, Nat.le_of_ble_eq_true rfl, inT3 19 rfl rfl⟩
theorem fl_X11_59 : zFld RX11 59 11 8 := ⟨RX11, TX11, rfl, inX11, Nat.le_of_ble_eq_true rfl, inT3 20 rfl rfl⟩
theorem fl_X11_66 : zFld RX11 66 11 9 := ⟨RX11, TX11, rfl, inX11, Nat.le_of_ble_eq_true rfl, inT3 21 rfl rfl⟩
theorem fl_X11_73 : zFld RX11 73 11 10 := ⟨RX11, TX11, rfl, inX11, Nat.le_of_ble_eq_true rfl, inT3 22 rfl rfl⟩
theorem fl_X11_77 : zFld RX11 77 11 11 := ⟨RX11, TX11, rfl, inX11, Nat.le_of_ble_eq_true rfl, inT3 23 rfl rfl⟩
theorem fl_X11_84 : zFld RX11 84 11 12 := ⟨RX11, TX11, rfl, inX11, Nat.le_of_ble_eq_true rfl, inT3 24 rfl rfl⟩
theorem fp_X11_84 : zFlp RX11 84 11 12 (.object "BeastsChoose$Zoo") := ⟨RX11, TX11, tyX11, ⟨rfl, inX11, Nat.le_of_ble_eq_true rfl, inT3 24 rfl rfl⟩, tyX11_ok, nmX11, rfl, by decide +kernel⟩
theorem fl_X11_88 : zFld RX11 88 11 13 := ⟨RX11, TX11, rfl, inX11, Nat.le_of_ble_eq_true rfl, inT3 25 rfl rfl⟩
theorem fp_X11_88 : zFlp RX11 88 11 13 (.object "BeastsChoose$Zoo") := ⟨RX11, TX11, tyX11, ⟨rfl, inX11, Nat.le_of_ble_eq_true rfl, inT3 25 rfl rfl⟩, tyX11_ok, nmX11, rfl, by decide +kernel⟩
theorem fl_X11_91 : zFld RX11 91 11 16 := ⟨RX11, TX11, rfl, inX11, Nat.le_of_ble_eq_true rfl, inT3 28 rfl rfl⟩
theorem fp_X11_91 : zFlp RX11 91 11 16 .int := ⟨RX11, TX11, tyX11, ⟨rfl, inX11, Nat.le_of_ble_eq_true rfl, inT3 28 rfl rfl⟩, tyX11_ok, nmX11, rfl, by decide +kernel⟩
theorem fl_X11_95 : zFld RX11 95 8 1 := ⟨RX8, TX8, rfl, inX8, Nat.le_of_ble_eq_true rfl, inT1 97 rfl rfl⟩
theorem fp_X11_95 : zFlp RX11 95 8 1 .int := ⟨RX8, TX8, tyX8, ⟨rfl, inX8, Nat.le_of_ble_eq_true rfl, inT1 97 rfl rfl⟩, tyX8_ok, nmX8, rfl, by decide +kernel⟩
theorem fl_X11_116 : zFld RX11 116 2 0 := ⟨RX2, TX2, rfl, inX2, Nat.le_of_ble_eq_true rfl, inT2 48 rfl rfl⟩
theorem fp_X11_116 : zFlp RX11 116 2 0 .int := ⟨RX2, TX2, tyX2, ⟨rfl, inX2, Nat.le_of_ble_eq_true rfl, inT2 48 rfl rfl⟩, tyX2_ok, nmX2, rfl, by decide +kernel⟩
theorem fl_X11_119 : zFld RX11 119 11 15 := ⟨RX11, TX11, rfl, inX11, Nat.le_of_ble_eq_true rfl, inT3 27 rfl rfl⟩
theorem fp_X11_119 : zFlp RX11 119 11 15 .int := ⟨RX11, TX11, tyX11, ⟨rfl, inX11, Nat.le_of_ble_eq_true rfl, inT3 27 rfl rfl⟩, tyX11_ok, nmX11, rfl, by decide +kernel⟩
theorem fl_X11_122 : zFld RX11 122 5 1 := ⟨RX5, TX5, rfl, inX5, Nat.le_of_ble_eq_true rfl, inT1 137 rfl rfl⟩
theorem fl_X11_125 : zFld RX11 125 5 2 := ⟨RX5, TX5, rfl, inX5, Nat.le_of_ble_eq_true rfl, inT1 139 rfl rfl⟩
theorem fl_X11_128 : zFld RX11 128 10 0 := ⟨RX10, TX10, rfl, inX10, Nat.le_of_ble_eq_true rfl, inT2 158 rfl rfl⟩
theorem fl_X11_131 : zFld RX11 131 10 1 := ⟨RX10, TX10, rfl, inX10, Nat.le_of_ble_eq_true rfl, inT2 164 rfl rfl⟩
theorem fl_X11_134 : zFld RX11 134 7 0 := ⟨RX7, TX7, rfl, inX7, Nat.le_of_ble_eq_true rfl, inT1 177 rfl rfl⟩
theorem fl_X11_137 : zFld RX11 137 7 1 := ⟨RX7, TX7, rfl, inX7, Nat.le_of_ble_eq_true rfl, inT1 181 rfl rfl⟩
theorem fl_X11_140 : zFld RX11 140 10 14 := ⟨RX10, TX10, rfl, inX10, Nat.le_of_ble_eq_true rfl, inT2 198 rfl rfl⟩
theorem fl_X11_143 : zFld RX11 143 7 2 := ⟨RX7, TX7, rfl, inX7, Nat.le_of_ble_eq_true rfl, inT1 184 rfl rfl⟩
theorem fl_X11_153 : zFld RX11 153 7 11 := ⟨RX7, TX7, rfl, inX7, Nat.le_of_ble_eq_true rfl, inT1 212 rfl rfl⟩
theorem fl_X11_160 : zFld RX11 160 10 2 := ⟨RX10, TX10, rfl, inX10, Nat.le_of_ble_eq_true rfl, inT2 167 rfl rfl⟩
theorem fl_X11_170 : zFld RX11 170 10 7 := ⟨RX10, TX10, rfl, inX10, Nat.le_of_ble_eq_true rfl, inT2 178 rfl rfl⟩
theorem fl_X11_173 : zFld RX11 173 10 3 := ⟨RX10, TX10, rfl, inX10, Nat.le_of_ble_eq_true rfl, inT2 169 rfl rfl⟩
theorem fl_X11_176 : zFld RX11 176 10 4 := ⟨RX10, TX10, rfl, inX10, Nat.le_of_ble_eq_true rfl, inT2 171 rfl rfl⟩
theorem fl_X11_179 : zFld RX11 179 10 5 := ⟨RX10, TX10, rfl, inX10, Nat.le_of_ble_eq_true rfl, inT2 173 rfl rfl⟩
theorem fl_X11_182 : zFld RX11 182 7 6 := ⟨RX7, TX7, rfl, inX7, Nat.le_of_ble_eq_true rfl, inT1 200 rfl rfl⟩
theorem fl_X11_192 : zFld RX11 192 7 3 := ⟨RX7, TX7, rfl, inX7, Nat.le_of_ble_eq_true rfl, inT1 189 rfl rfl⟩
theorem fl_X11_195 : zFld RX11 195 10 8 := ⟨RX10, TX10, rfl, inX10, Nat.le_of_ble_eq_true rfl, inT2 180 rfl rfl⟩
theorem fl_X11_198 : zFld RX11 198 10 9 := ⟨RX10, TX10, rfl, inX10, Nat.le_of_ble_eq_true rfl, inT2 182 rfl rfl⟩
theorem fl_X11_201 : zFld RX11 201 10 10 := ⟨RX10, TX10, rfl, inX10, Nat.le_of_ble_eq_true rfl, inT2 185 rfl rfl⟩
theorem fl_X11_204 : zFld RX11 204 7 5 := ⟨RX7, TX7, rfl, inX7, Nat.le_of_ble_eq_true rfl, inT1 197 rfl rfl⟩
theorem fl_X11_207 : zFld RX11 207 7 4 := ⟨RX7, TX7, rfl, inX7, Nat.le_of_ble_eq_true rfl, inT1 193 rfl rfl⟩
theorem fl_X11_217 : zFld RX11 217 7 7 := ⟨RX7, TX7, rfl, inX7, Nat.le_of_ble_eq_true rfl, inT1 204 rfl rfl⟩
theorem fl_X11_220 : zFld RX11 220 7 8 := ⟨RX7, TX7, rfl, inX7, Nat.le_of_ble_eq_true rfl, inT1 207 rfl rfl⟩
theorem fl_X11_242 : zFld RX11 242 4 1 := ⟨RX4, TX4, rfl, inX4, Nat.le_of_ble_eq_true rfl, inT2 8 rfl rfl⟩
theorem fl_X11_255 : zFld RX11 255 4 0 := ⟨RX4, TX4, rfl, inX4, Nat.le_of_ble_eq_true rfl, inT2 6 rfl rfl⟩
theorem fl_X11_262 : zFld RX11 262 0 0 := ⟨RX0, TX0, rfl, inX0, Nat.le_of_ble_eq_true rfl, inT2 30 rfl rfl⟩
theorem fl_X11_265 : zFld RX11 265 0 1 := ⟨RX0, TX0, rfl, inX0, Nat.le_of_ble_eq_true rfl, inT2 32 rfl rfl⟩
theorem fl_X11_272 : zFld RX11 272 4 2 := ⟨RX4, TX4, rfl, inX4, Nat.le_of_ble_eq_true rfl, inT2 10 rfl rfl⟩
theorem fl_X11_290 : zFld RX11 290 2 1 := ⟨RX2, TX2, rfl, inX2, Nat.le_of_ble_eq_true rfl, inT2 50 rfl rfl⟩
theorem fl_X11_303 : zFld RX11 303 2 2 := ⟨RX2, TX2, rfl, inX2, Nat.le_of_ble_eq_true rfl, inT2 52 rfl rfl⟩
theorem fl_X11_309 : zFld RX11 309 6 1 := ⟨RX6, TX6, rfl, inX6, Nat.le_of_ble_eq_true rfl, inT2 75 rfl rfl⟩
theorem fl_X11_312 : zFld RX11 312 6 2 := ⟨RX6, TX6, rfl, inX6, Nat.le_of_ble_eq_true rfl, inT2 77 rfl rfl⟩
theorem fl_X11_315 : zFld RX11 315 6 0 := ⟨RX6, TX6, rfl, inX6, Nat.le_of_ble_eq_true rfl, inT2 73 rfl rfl⟩
theorem fl_X11_333 : zFld RX11 333 10 18 := ⟨RX10, TX10, rfl, inX10, Nat.le_of_ble_eq_true rfl, inT2 212 rfl rfl⟩
theorem fl_X11_348 : zFld RX11 348 11 14 := ⟨RX11, TX11, rfl, inX11, Nat.le_of_ble_eq_true rfl, inT3 26 rfl rfl⟩
theorem fp_X11_348 : zFlp RX11 348 11 14 .int := ⟨RX11, TX11, tyX11, ⟨rfl, inX11, Nat.le_of_ble_eq_true rfl, inT3 26 rfl rfl⟩, tyX11_ok, nmX11, rfl, by decide +kernel⟩
theorem fl_X11_357 : zFld RX11 357 3 1 := ⟨RX3, TX3, rfl, inX3, Nat.le_of_ble_eq_true rfl, inT2 113 rfl rfl⟩
theorem fl_X11_358 : zFld RX11 358 3 0 := ⟨RX3, TX3, rfl, inX3, Nat.le_of_ble_eq_true rfl, inT2 111 rfl rfl⟩
theorem fl_X0_9 : zFld RX0 9 0 1 := ⟨RX0, TX0, rfl, inX0, Nat.le_of_ble_eq_true rfl, inT2 31 rfl rfl⟩
theorem fl_X0_17 : zFld RX0 17 0 2 := ⟨RX0, TX0, rfl, inX0, Nat.le_of_ble_eq_true rfl, inT2 33 rfl rfl⟩
theorem fl_X0_20 : zFld RX0 20 10 1 := ⟨RX10, TX10, rfl, inX10, Nat.le_of_ble_eq_true rfl, inT2 160 rfl rfl⟩
theorem fl_X0_26 : zFld RX0 26 10 0 := ⟨RX10, TX10, rfl, inX10, Nat.le_of_ble_eq_true rfl, inT2 155 rfl rfl⟩
theorem fl_X0_33 : zFld RX0 33 0 0 := ⟨RX0, TX0, rfl, inX0, Nat.le_of_ble_eq_true rfl, inT2 29 rfl rfl⟩
theorem fp_X0_33 : zFlp RX0 33 0 0 .int := ⟨RX0, TX0, tyX0, ⟨rfl, inX0, Nat.le_of_ble_eq_true rfl, inT2 29 rfl rfl⟩, tyX0_ok, nmX0, rfl, by decide +kernel⟩
theorem fl_X0_60 : zFld RX0 60 10 14 := ⟨RX10, TX10, rfl, inX10, Nat.le_of_ble_eq_true rfl, inT2 196 rfl rfl⟩
theorem fl_X1_9 : zFld RX1 9 1 0 := ⟨RX1, TX1, rfl, inX1, Nat.le_of_ble_eq_true rfl, inT2 140 rfl rfl⟩
theorem fl_X1_15 : zFld RX1 15 1 2 := ⟨RX1, TX1, rfl, inX1, Nat.le_of_ble_eq_true rfl, inT2 145 rfl rfl⟩
theorem fl_X1_18 : zFld RX1 18 1 1 := ⟨RX1, TX1, rfl, inX1, Nat.le_of_ble_eq_true rfl, inT2 141 rfl rfl⟩
theorem fp_X1_18 : zFlp RX1 18 1 1 .int := ⟨RX1, TX1, tyX1, ⟨rfl, inX1, Nat.le_of_ble_eq_true rfl, inT2 141 rfl rfl⟩, tyX1_ok, nmX1, rfl, by decide +kernel⟩
theorem fl_X2_9 : zFld RX2 9 2 2 := ⟨RX2, TX2, rfl, inX2, Nat.le_of_ble_eq_true rfl, inT2 51 rfl rfl⟩
theorem fl_X2_15 : zFld RX2 15 2 3 := ⟨RX2, TX2, rfl, inX2, Nat.le_of_ble_eq_true rfl, inT2 53 rfl rfl⟩
theorem fl_X2_18 : zFld RX2 18 2 4 := ⟨RX2, TX2, rfl, inX2, Nat.le_of_ble_eq_true rfl, inT2 54 rfl rfl⟩
theorem fl_X2_21 : zFld RX2 21 2 0 := ⟨RX2, TX2, rfl, inX2, Nat.le_of_ble_eq_true rfl, inT2 47 rfl rfl⟩
theorem fp_X2_21 : zFlp RX2 21 2 0 .int := ⟨RX2, TX2, tyX2, ⟨rfl, inX2, Nat.le_of_ble_eq_true rfl, inT2 47 rfl rfl⟩, tyX2_ok, nmX2, rfl, by decide +kernel⟩
theorem fl_X2_25 : zFld RX2 25 8 1 := ⟨RX8, TX8, rfl, inX8, Nat.le_of_ble_eq_true rfl, inT1 98 rfl rfl⟩
theorem fl_X2_30 : zFld RX2 30 8 0 := ⟨RX8, TX8, rfl, inX8, Nat.le_of_ble_eq_true rfl, inT1 94 rfl rfl⟩
theorem fl_X2_33 : zFld RX2 33 2 1 := ⟨RX2, TX2, rfl, inX2, Nat.le_of_ble_eq_true rfl, inT2 49 rfl rfl⟩
theorem fp_X2_33 : zFlp RX2 33 2 1 .int := ⟨RX2, TX2, tyX2, ⟨rfl, inX2, Nat.le_of_ble_eq_true rfl, inT2 49 rfl rfl⟩, tyX2_ok, nmX2, rfl, by decide +kernel⟩
theorem fl_X3_11 : zFld RX3 11 3 0 := ⟨RX3, TX3, rfl, inX3, Nat.le_of_ble_eq_true rfl, inT2 110 rfl rfl⟩
theorem fl_X3_15 : zFld RX3 15 3 2 := ⟨RX3, TX3, rfl, inX3, Nat.le_of_ble_eq_true rfl, inT2 114 rfl rfl⟩
theorem fp_X3_15 : zFlp RX3 15 3 2 (.array .int) := ⟨RX3, TX3, tyX3, ⟨rfl, inX3, Nat.le_of_ble_eq_true rfl, inT2 114 rfl rfl⟩, tyX3_ok, nmX3, rfl, by decide +kernel⟩
theorem fl_X3_18 : zFld RX3 18 10 1 := ⟨RX10, TX10, rfl, inX10, Nat.le_of_ble_eq_true rfl, inT2 161 rfl rfl⟩
theorem fl_X3_24 : zFld RX3 24 10 0 := ⟨RX10, TX10, rfl, inX10, Nat.le_of_ble_eq_true rfl, inT2 154 rfl rfl⟩
theorem fl_X3_27 : zFld RX3 27 3 1 := ⟨RX3, TX3, rfl, inX3, Nat.le_of_ble_eq_true rfl, inT2 112 rfl rfl⟩
theorem fp_X3_27 : zFlp RX3 27 3 1 .int := ⟨RX3, TX3, tyX3, ⟨rfl, inX3, Nat.le_of_ble_eq_true rfl, inT2 112 rfl rfl⟩, tyX3_ok, nmX3, rfl, by decide +kernel⟩
theorem fl_X3_30 : zFld RX3 30 7 0 := ⟨RX7, TX7, rfl, inX7, Nat.le_of_ble_eq_true rfl, inT1 176 rfl rfl⟩
theorem fp_X3_30 : zFlp RX3 30 7 0 .int := ⟨RX7, TX7, tyX7, ⟨rfl, inX7, Nat.le_of_ble_eq_true rfl, inT1 176 rfl rfl⟩, tyX7_ok, nmX7, rfl, by decide +kernel⟩
theorem fl_X3_39 : zFld RX3 39 7 1 := ⟨RX7, TX7, rfl, inX7, Nat.le_of_ble_eq_true rfl, inT1 180 rfl rfl⟩
theorem fp_X3_39 : zFlp RX3 39 7 1 .int := ⟨RX7, TX7, tyX7, ⟨rfl, inX7, Nat.le_of_ble_eq_true rfl, inT1 180 rfl rfl⟩, tyX7_ok, nmX7, rfl, by decide +kernel⟩
theorem fl_X3_45 : zFld RX3 45 7 2 := ⟨RX7, TX7, rfl, inX7, Nat.le_of_ble_eq_true rfl, inT1 183 rfl rfl⟩
theorem fp_X3_45 : zFlp RX3 45 7 2 .int := ⟨RX7, TX7, tyX7, ⟨rfl, inX7, Nat.le_of_ble_eq_true rfl, inT1 183 rfl rfl⟩, tyX7_ok, nmX7, rfl, by decide +kernel⟩
theorem fl_X3_48 : zFld RX3 48 7 3 := ⟨RX7, TX7, rfl, inX7, Nat.le_of_ble_eq_true rfl, inT1 188 rfl rfl⟩
theorem fl_X3_55 : zFld RX3 55 7 4 := ⟨RX7, TX7, rfl, inX7, Nat.le_of_ble_eq_true rfl, inT1 191 rfl rfl⟩
theorem fl_X3_58 : zFld RX3 58 7 5 := ⟨RX7, TX7, rfl, inX7, Nat.le_of_ble_eq_true rfl, inT1 195 rfl rfl⟩
theorem fl_X3_61 : zFld RX3 61 7 6 := ⟨RX7, TX7, rfl, inX7, Nat.le_of_ble_eq_true rfl, inT1 199 rfl rfl⟩
theorem fl_X3_64 : zFld RX3 64 7 7 := ⟨RX7, TX7, rfl, inX7, Nat.le_of_ble_eq_true rfl, inT1 203 rfl rfl⟩
theorem fl_X3_67 : zFld RX3 67 7 8 := ⟨RX7, TX7, rfl, inX7, Nat.le_of_ble_eq_true rfl, inT1 206 rfl rfl⟩
theorem fl_X3_78 : zFld RX3 78 8 1 := ⟨RX8, TX8, rfl, inX8, Nat.le_of_ble_eq_true rfl, inT1 100 rfl rfl⟩
theorem fl_X3_81 : zFld RX3 81 8 0 := ⟨RX8, TX8, rfl, inX8, Nat.le_of_ble_eq_true rfl, inT1 95 rfl rfl⟩
theorem fl_X3_82 : zFld RX3 82 3 3 := ⟨RX3, TX3, rfl, inX3, Nat.le_of_ble_eq_true rfl, inT2 115 rfl rfl⟩
theorem fp_X3_82 : zFlp RX3 82 3 3 .int := ⟨RX3, TX3, tyX3, ⟨rfl, inX3, Nat.le_of_ble_eq_true rfl, inT2 115 rfl rfl⟩, tyX3_ok, nmX3, rfl, by decide +kernel⟩
theorem fl_X3_85 : zFld RX3 85 3 4 := ⟨RX3, TX3, rfl, inX3, Nat.le_of_ble_eq_true rfl, inT2 116 rfl rfl⟩
theorem fp_X3_85 : zFlp RX3 85 3 4 .boolean := ⟨RX3, TX3, tyX3, ⟨rfl, inX3, Nat.le_of_ble_eq_true rfl, inT2 116 rfl rfl⟩, tyX3_ok, nmX3, rfl, by decide +kernel⟩
theorem fl_X4_9 : zFld RX4 9 4 0 := ⟨RX4, TX4, rfl, inX4, Nat.le_of_ble_eq_true rfl, inT2 5 rfl rfl⟩
theorem fl_X4_15 : zFld RX4 15 4 1 := ⟨RX4, TX4, rfl, inX4, Nat.le_of_ble_eq_true rfl, inT2 7 rfl rfl⟩
theorem fl_X4_18 : zFld RX4 18 4 2 := ⟨RX4, TX4, rfl, inX4, Nat.le_of_ble_eq_true rfl, inT2 9 rfl rfl⟩
theorem fl_X4_23 : zFld RX4 23 4 3 := ⟨RX4, TX4, rfl, inX4, Nat.le_of_ble_eq_true rfl, inT2 11 rfl rfl⟩
theorem fl_X4_30 : zFld RX4 30 10 12 := ⟨RX10, TX10, rfl, inX10, Nat.le_of_ble_eq_true rfl, inT2 190 rfl rfl⟩
theorem fl_X4_36 : zFld RX4 36 1 1 := ⟨RX1, TX1, rfl, inX1, Nat.le_of_ble_eq_true rfl, inT2 142 rfl rfl⟩
theorem fl_X4_62 : zFld RX4 62 7 7 := ⟨RX7, TX7, rfl, inX7, Nat.le_of_ble_eq_true rfl, inT1 202 rfl rfl⟩
theorem fl_X4_65 : zFld RX4 65 7 1 := ⟨RX7, TX7, rfl, inX7, Nat.le_of_ble_eq_true rfl, inT1 179 rfl rfl⟩
theorem fl_X4_68 : zFld RX4 68 7 3 := ⟨RX7, TX7, rfl, inX7, Nat.le_of_ble_eq_true rfl, inT1 187 rfl rfl⟩
theorem fl_X4_71 : zFld RX4 71 10 13 := ⟨RX10, TX10, rfl, inX10, Nat.le_of_ble_eq_true rfl, inT2 193 rfl rfl⟩
theorem fl_X4_84 : zFld RX4 84 7 4 := ⟨RX7, TX7, rfl, inX7, Nat.le_of_ble_eq_true rfl, inT1 192 rfl rfl⟩
theorem fl_X4_87 : zFld RX4 87 7 5 := ⟨RX7, TX7, rfl, inX7, Nat.le_of_ble_eq_true rfl, inT1 196 rfl rfl⟩
theorem fl_X4_90 : zFld RX4 90 10 1 := ⟨RX10, TX10, rfl, inX10, Nat.le_of_ble_eq_true rfl, inT2 163 rfl rfl⟩
theorem fl_X4_97 : zFld RX4 97 10 0 := ⟨RX10, TX10, rfl, inX10, Nat.le_of_ble_eq_true rfl, inT2 159 rfl rfl⟩
theorem fl_X4_112 : zFld RX4 112 10 14 := ⟨RX10, TX10, rfl, inX10, Nat.le_of_ble_eq_true rfl, inT2 199 rfl rfl⟩
theorem fl_X4_126 : zFld RX4 126 7 2 := ⟨RX7, TX7, rfl, inX7, Nat.le_of_ble_eq_true rfl, inT1 185 rfl rfl⟩
theorem fp_X4_126 : zFlp RX4 126 7 2 .int := ⟨RX7, TX7, tyX7, ⟨rfl, inX7, Nat.le_of_ble_eq_true rfl, inT1 185 rfl rfl⟩, tyX7_ok, nmX7, rfl, by decide +kernel⟩
theorem fl_X4_129 : zFld RX4 129 10 17 := ⟨RX10, TX10, rfl, inX10, Nat.le_of_ble_eq_true rfl, inT2 208 rfl rfl⟩
theorem fl_X4_132 : zFld RX4 132 7 8 := ⟨RX7, TX7, rfl, inX7, Nat.le_of_ble_eq_true rfl, inT1 208 rfl rfl⟩
theorem fl_X4_135 : zFld RX4 135 10 15 := ⟨RX10, TX10, rfl, inX10, Nat.le_of_ble_eq_true rfl, inT2 202 rfl rfl⟩
theorem fl_X4_138 : zFld RX4 138 10 16 := ⟨RX10, TX10, rfl, inX10, Nat.le_of_ble_eq_true rfl, inT2 205 rfl rfl⟩
theorem fl_X4_155 : zFld RX4 155 8 1 := ⟨RX8, TX8, rfl, inX8, Nat.le_of_ble_eq_true rfl, inT1 101 rfl rfl⟩
theorem fl_X4_158 : zFld RX4 158 8 0 := ⟨RX8, TX8, rfl, inX8, Nat.le_of_ble_eq_true rfl, inT1 96 rfl rfl⟩
theorem fl_X5_12 : zFld RX5 12 5 0 := ⟨RX5, TX5, rfl, inX5, Nat.le_of_ble_eq_true rfl, inT1 134 rfl rfl⟩
theorem fl_X5_18 : zFld RX5 18 5 2 := ⟨RX5, TX5, rfl, inX5, Nat.le_of_ble_eq_true rfl, inT1 138 rfl rfl⟩
theorem fp_X5_18 : zFlp RX5 18 5 2 .int := ⟨RX5, TX5, tyX5, ⟨rfl, inX5, Nat.le_of_ble_eq_true rfl, inT1 138 rfl rfl⟩, tyX5_ok, nmX5, rfl, by decide +kernel⟩
theorem fl_X5_22 : zFld RX5 22 5 3 := ⟨RX5, TX5, rfl, inX5, Nat.le_of_ble_eq_true rfl, inT1 140 rfl rfl⟩
theorem fp_X5_22 : zFlp RX5 22 5 3 (.object "BeastsChoose$Zoo") := ⟨RX5, TX5, tyX5, ⟨rfl, inX5, Nat.le_of_ble_eq_true rfl, inT1 140 rfl rfl⟩, tyX5_ok, nmX5, rfl, by decide +kernel⟩
theorem fl_X5_31 : zFld RX5 31 5 1 := ⟨RX5, TX5, rfl, inX5, Nat.le_of_ble_eq_true rfl, inT1 136 rfl rfl⟩
theorem fp_X5_31 : zFlp RX5 31 5 1 .int := ⟨RX5, TX5, tyX5, ⟨rfl, inX5, Nat.le_of_ble_eq_true rfl, inT1 136 rfl rfl⟩, tyX5_ok, nmX5, rfl, by decide +kernel⟩
theorem fl_X5_34 : zFld RX5 34 5 7 := ⟨RX5, TX5, rfl, inX5, Nat.le_of_ble_eq_true rfl, inT1 144 rfl rfl⟩
theorem fp_X5_34 : zFlp RX5 34 5 7 .int := ⟨RX5, TX5, tyX5, ⟨rfl, inX5, Nat.le_of_ble_eq_true rfl, inT1 144 rfl rfl⟩, tyX5_ok, nmX5, rfl, by decide +kernel⟩
theorem fl_X5_55 : zFld RX5 55 8 2 := ⟨RX8, TX8, rfl, inX8, Nat.le_of_ble_eq_true rfl, inT1 103 rfl rfl⟩
theorem fl_X5_59 : zFld RX5 59 8 6 := ⟨RX8, TX8, rfl, inX8, Nat.le_of_ble_eq_true rfl, inT1 109 rfl rfl⟩
theorem fl_X5_62 : zFld RX5 62 8 3 := ⟨RX8, TX8, rfl, inX8, Nat.le_of_ble_eq_true rfl, inT1 105 rfl rfl⟩
theorem fl_X5_86 : zFld RX5 86 10 0 := ⟨RX10, TX10, rfl, inX10, Nat.le_of_ble_eq_true rfl, inT2 157 rfl rfl⟩
theorem fl_X5_92 : zFld RX5 92 5 8 := ⟨RX5, TX5, rfl, inX5, Nat.le_of_ble_eq_true rfl, inT1 145 rfl rfl⟩
theorem fp_X5_92 : zFlp RX5 92 5 8 .int := ⟨RX5, TX5, tyX5, ⟨rfl, inX5, Nat.le_of_ble_eq_true rfl, inT1 145 rfl rfl⟩, tyX5_ok, nmX5, rfl, by decide +kernel⟩
theorem fl_X5_106 : zFld RX5 106 10 6 := ⟨RX10, TX10, rfl, inX10, Nat.le_of_ble_eq_true rfl, inT2 176 rfl rfl⟩
theorem fl_X5_113 : zFld RX5 113 10 1 := ⟨RX10, TX10, rfl, inX10, Nat.le_of_ble_eq_true rfl, inT2 165 rfl rfl⟩
theorem fl_X5_116 : zFld RX5 116 10 11 := ⟨RX10, TX10, rfl, inX10, Nat.le_of_ble_eq_true rfl, inT2 188 rfl rfl⟩
theorem fl_X5_129 : zFld RX5 129 10 10 := ⟨RX10, TX10, rfl, inX10, Nat.le_of_ble_eq_true rfl, inT2 184 rfl rfl⟩
theorem fl_X5_132 : zFld RX5 132 10 12 := ⟨RX10, TX10, rfl, inX10, Nat.le_of_ble_eq_true rfl, inT2 191 rfl rfl⟩
theorem fl_X5_136 : zFld RX5 136 1 1 := ⟨RX1, TX1, rfl, inX1, Nat.le_of_ble_eq_true rfl, inT2 144 rfl rfl⟩
theorem fl_X5_141 : zFld RX5 141 5 4 := ⟨RX5, TX5, rfl, inX5, Nat.le_of_ble_eq_true rfl, inT1 141 rfl rfl⟩
theorem fp_X5_141 : zFlp RX5 141 5 4 (.object "BeastsChoose$Formula") := ⟨RX5, TX5, tyX5, ⟨rfl, inX5, Nat.le_of_ble_eq_true rfl, inT1 141 rfl rfl⟩, tyX5_ok, nmX5, rfl, by decide +kernel⟩
theorem fl_X5_144 : zFld RX5 144 5 5 := ⟨RX5, TX5, rfl, inX5, Nat.le_of_ble_eq_true rfl, inT1 142 rfl rfl⟩
theorem fp_X5_144 : zFlp RX5 144 5 5 .boolean := ⟨RX5, TX5, tyX5, ⟨rfl, inX5, Nat.le_of_ble_eq_true rfl, inT1 142 rfl rfl⟩, tyX5_ok, nmX5, rfl, by decide +kernel⟩
theorem fl_X5_148 : zFld RX5 148 5 6 := ⟨RX5, TX5, rfl, inX5, Nat.le_of_ble_eq_true rfl, inT1 143 rfl rfl⟩
theorem fp_X5_148 : zFlp RX5 148 5 6 .int := ⟨RX5, TX5, tyX5, ⟨rfl, inX5, Nat.le_of_ble_eq_true rfl, inT1 143 rfl rfl⟩, tyX5_ok, nmX5, rfl, by decide +kernel⟩
theorem fl_X5_154 : zFld RX5 154 10 13 := ⟨RX10, TX10, rfl, inX10, Nat.le_of_ble_eq_true rfl, inT2 194 rfl rfl⟩
theorem fl_X5_160 : zFld RX5 160 10 14 := ⟨RX10, TX10, rfl, inX10, Nat.le_of_ble_eq_true rfl, inT2 200 rfl rfl⟩
theorem fp_X5_160 : zFlp RX5 160 10 14 .int := ⟨RX10, TX10, tyX10, ⟨rfl, inX10, Nat.le_of_ble_eq_true rfl, inT2 200 rfl rfl⟩, tyX10_ok, nmX10, rfl, by decide +kernel⟩
theorem fl_X5_163 : zFld RX5 163 10 15 := ⟨RX10, TX10, rfl, inX10, Nat.le_of_ble_eq_true rfl, inT2 203 rfl rfl⟩
theorem fp_X5_163 : zFlp RX5 163 10 15 .int := ⟨RX10, TX10, tyX10, ⟨rfl, inX10, Nat.le_of_ble_eq_true rfl, inT2 203 rfl rfl⟩, tyX10_ok, nmX10, rfl, by decide +kernel⟩
theorem fl_X5_166 : zFld RX5 166 10 16 := ⟨RX10, TX10, rfl, inX10, Nat.le_of_ble_eq_true rfl, inT2 206 rfl rfl⟩
theorem fp_X5_166 : zFlp RX5 166 10 16 .int := ⟨RX10, TX10, tyX10, ⟨rfl, inX10, Nat.le_of_ble_eq_true rfl, inT2 206 rfl rfl⟩, tyX10_ok, nmX10, rfl, by decide +kernel⟩
theorem fl_X5_169 : zFld RX5 169 10 17 := ⟨RX10, TX10, rfl, inX10, Nat.le_of_ble_eq_true rfl, inT2 209 rfl rfl⟩
theorem fp_X5_169 : zFlp RX5 169 10 17 .int := ⟨RX10, TX10, tyX10, ⟨rfl, inX10, Nat.le_of_ble_eq_true rfl, inT2 209 rfl rfl⟩, tyX10_ok, nmX10, rfl, by decide +kernel⟩
theorem fl_X5_172 : zFld RX5 172 10 18 := ⟨RX10, TX10, rfl, inX10, Nat.le_of_ble_eq_true rfl, inT2 211 rfl rfl⟩
theorem fp_X5_172 : zFlp RX5 172 10 18 .int := ⟨RX10, TX10, tyX10, ⟨rfl, inX10, Nat.le_of_ble_eq_true rfl, inT2 211 rfl rfl⟩, tyX10_ok, nmX10, rfl, by decide +kernel⟩
theorem fl_X5_175 : zFld RX5 175 8 4 := ⟨RX8, TX8, rfl, inX8, Nat.le_of_ble_eq_true rfl, inT1 107 rfl rfl⟩
theorem fl_X6_9 : zFld RX6 9 6 0 := ⟨RX6, TX6, rfl, inX6, Nat.le_of_ble_eq_true rfl, inT2 72 rfl rfl⟩
theorem fl_X6_15 : zFld RX6 15 6 1 := ⟨RX6, TX6, rfl, inX6, Nat.le_of_ble_eq_true rfl, inT2 74 rfl rfl⟩
theorem fl_X6_18 : zFld RX6 18 6 2 := ⟨RX6, TX6, rfl, inX6, Nat.le_of_ble_eq_true rfl, inT2 76 rfl rfl⟩
theorem fl_X6_21 : zFld RX6 21 6 3 := ⟨RX6, TX6, rfl, inX6, Nat.le_of_ble_eq_true rfl, inT2 78 rfl rfl⟩
theorem fl_X6_28 : zFld RX6 28 6 4 := ⟨RX6, TX6, rfl, inX6, Nat.le_of_ble_eq_true rfl, inT2 79 rfl rfl⟩
theorem fp_X6_28 : zFlp RX6 28 6 4 .int := ⟨RX6, TX6, tyX6, ⟨rfl, inX6, Nat.le_of_ble_eq_true rfl, inT2 79 rfl rfl⟩, tyX6_ok, nmX6, rfl, by decide +kernel⟩
theorem fl_X6_32 : zFld RX6 32 10 0 := ⟨RX10, TX10, rfl, inX10, Nat.le_of_ble_eq_true rfl, inT2 156 rfl rfl⟩
theorem fl_X6_49 : zFld RX6 49 10 14 := ⟨RX10, TX10, rfl, inX10, Nat.le_of_ble_eq_true rfl, inT2 197 rfl rfl⟩
theorem fl_X7_9 : zFld RX7 9 7 3 := ⟨RX7, TX7, rfl, inX7, Nat.le_of_ble_eq_true rfl, inT1 186 rfl rfl⟩
theorem fl_X7_15 : zFld RX7 15 7 4 := ⟨RX7, TX7, rfl, inX7, Nat.le_of_ble_eq_true rfl, inT1 190 rfl rfl⟩
theorem fl_X7_18 : zFld RX7 18 7 5 := ⟨RX7, TX7, rfl, inX7, Nat.le_of_ble_eq_true rfl, inT1 194 rfl rfl⟩
theorem fl_X7_21 : zFld RX7 21 7 6 := ⟨RX7, TX7, rfl, inX7, Nat.le_of_ble_eq_true rfl, inT1 198 rfl rfl⟩
theorem fl_X7_24 : zFld RX7 24 7 7 := ⟨RX7, TX7, rfl, inX7, Nat.le_of_ble_eq_true rfl, inT1 201 rfl rfl⟩
theorem fl_X7_27 : zFld RX7 27 7 8 := ⟨RX7, TX7, rfl, inX7, Nat.le_of_ble_eq_true rfl, inT1 205 rfl rfl⟩
theorem fl_X7_30 : zFld RX7 30 7 9 := ⟨RX7, TX7, rfl, inX7, Nat.le_of_ble_eq_true rfl, inT1 209 rfl rfl⟩
theorem fl_X7_36 : zFld RX7 36 7 0 := ⟨RX7, TX7, rfl, inX7, Nat.le_of_ble_eq_true rfl, inT1 175 rfl rfl⟩
theorem fp_X7_36 : zFlp RX7 36 7 0 .int := ⟨RX7, TX7, tyX7, ⟨rfl, inX7, Nat.le_of_ble_eq_true rfl, inT1 175 rfl rfl⟩, tyX7_ok, nmX7, rfl, by decide +kernel⟩
theorem fl_X7_40 : zFld RX7 40 7 1 := ⟨RX7, TX7, rfl, inX7, Nat.le_of_ble_eq_true rfl, inT1 178 rfl rfl⟩
theorem fp_X7_40 : zFlp RX7 40 7 1 .int := ⟨RX7, TX7, tyX7, ⟨rfl, inX7, Nat.le_of_ble_eq_true rfl, inT1 178 rfl rfl⟩, tyX7_ok, nmX7, rfl, by decide +kernel⟩
theorem fl_X7_43 : zFld RX7 43 7 2 := ⟨RX7, TX7, rfl, inX7, Nat.le_of_ble_eq_true rfl, inT1 182 rfl rfl⟩
theorem fp_X7_43 : zFlp RX7 43 7 2 .int := ⟨RX7, TX7, tyX7, ⟨rfl, inX7, Nat.le_of_ble_eq_true rfl, inT1 182 rfl rfl⟩, tyX7_ok, nmX7, rfl, by decide +kernel⟩
theorem fl_X7_46 : zFld RX7 46 10 11 := ⟨RX10, TX10, rfl, inX10, Nat.le_of_ble_eq_true rfl, inT2 187 rfl rfl⟩
theorem fl_X7_57 : zFld RX7 57 10 6 := ⟨RX10, TX10, rfl, inX10, Nat.le_of_ble_eq_true rfl, inT2 175 rfl rfl⟩
theorem fl_X7_63 : zFld RX7 63 7 10 := ⟨RX7, TX7, rfl, inX7, Nat.le_of_ble_eq_true rfl, inT1 210 rfl rfl⟩
theorem fp_X7_63 : zFlp RX7 63 7 10 .int := ⟨RX7, TX7, tyX7, ⟨rfl, inX7, Nat.le_of_ble_eq_true rfl, inT1 210 rfl rfl⟩, tyX7_ok, nmX7, rfl, by decide +kernel⟩
theorem fl_X7_66 : zFld RX7 66 7 11 := ⟨RX7, TX7, rfl, inX7, Nat.le_of_ble_eq_true rfl, inT1 211 rfl rfl⟩
theorem fp_X7_66 : zFlp RX7 66 7 11 .int := ⟨RX7, TX7, tyX7, ⟨rfl, inX7, Nat.le_of_ble_eq_true rfl, inT1 211 rfl rfl⟩, tyX7_ok, nmX7, rfl, by decide +kernel⟩
theorem fl_X8_11 : zFld RX8 11 8 0 := ⟨RX8, TX8, rfl, inX8, Nat.le_of_ble_eq_true rfl, inT1 93 rfl rfl⟩
theorem fl_X8_15 : zFld RX8 15 8 2 := ⟨RX8, TX8, rfl, inX8, Nat.le_of_ble_eq_true rfl, inT1 102 rfl rfl⟩
theorem fl_X8_18 : zFld RX8 18 8 3 := ⟨RX8, TX8, rfl, inX8, Nat.le_of_ble_eq_true rfl, inT1 104 rfl rfl⟩
theorem fl_X8_21 : zFld RX8 21 8 4 := ⟨RX8, TX8, rfl, inX8, Nat.le_of_ble_eq_true rfl, inT1 106 rfl rfl⟩
theorem fl_X8_24 : zFld RX8 24 8 7 := ⟨RX8, TX8, rfl, inX8, Nat.le_of_ble_eq_true rfl, inT1 111 rfl rfl⟩
theorem fl_X8_43 : zFld RX8 43 8 1 := ⟨RX8, TX8, rfl, inX8, Nat.le_of_ble_eq_true rfl, inT1 99 rfl rfl⟩
theorem fp_X8_43 : zFlp RX8 43 8 1 .int := ⟨RX8, TX8, tyX8, ⟨rfl, inX8, Nat.le_of_ble_eq_true rfl, inT1 99 rfl rfl⟩, tyX8_ok, nmX8, rfl, by decide +kernel⟩
theorem fl_X8_46 : zFld RX8 46 8 8 := ⟨RX8, TX8, rfl, inX8, Nat.le_of_ble_eq_true rfl, inT1 112 rfl rfl⟩
theorem fp_X8_46 : zFlp RX8 46 8 8 .int := ⟨RX8, TX8, tyX8, ⟨rfl, inX8, Nat.le_of_ble_eq_true rfl, inT1 112 rfl rfl⟩, tyX8_ok, nmX8, rfl, by decide +kernel⟩
theorem fl_X8_49 : zFld RX8 49 8 5 := ⟨RX8, TX8, rfl, inX8, Nat.le_of_ble_eq_true rfl, inT1 108 rfl rfl⟩
theorem fp_X8_49 : zFlp RX8 49 8 5 .int := ⟨RX8, TX8, tyX8, ⟨rfl, inX8, Nat.le_of_ble_eq_true rfl, inT1 108 rfl rfl⟩, tyX8_ok, nmX8, rfl, by decide +kernel⟩
theorem fl_X8_75 : zFld RX8 75 8 6 := ⟨RX8, TX8, rfl, inX8, Nat.le_of_ble_eq_true rfl, inT1 110 rfl rfl⟩
theorem fp_X8_75 : zFlp RX8 75 8 6 .int := ⟨RX8, TX8, tyX8, ⟨rfl, inX8, Nat.le_of_ble_eq_true rfl, inT1 110 rfl rfl⟩, tyX8_ok, nmX8, rfl, by decide +kernel⟩
theorem fl_X9_11 : zFld RX9 11 9 0 := ⟨RX9, TX9, rfl, inX9, Nat.le_of_ble_eq_true rfl, inT2 97 rfl rfl⟩
theorem fl_X9_15 : zFld RX9 15 9 1 := ⟨RX9, TX9, rfl, inX9, Nat.le_of_ble_eq_true rfl, inT2 98 rfl rfl⟩
theorem fl_X10_9 : zFld RX10 9 10 2 := ⟨RX10, TX10, rfl, inX10, Nat.le_of_ble_eq_true rfl, inT2 166 rfl rfl⟩
theorem fl_X10_15 : zFld RX10 15 10 3 := ⟨RX10, TX10, rfl, inX10, Nat.le_of_ble_eq_true rfl, inT2 168 rfl rfl⟩
theorem fl_X10_18 : zFld RX10 18 10 4 := ⟨RX10, TX10, rfl, inX10, Nat.le_of_ble_eq_true rfl, inT2 170 rfl rfl⟩
theorem fl_X10_21 : zFld RX10 21 10 5 := ⟨RX10, TX10, rfl, inX10, Nat.le_of_ble_eq_true rfl, inT2 172 rfl rfl⟩
theorem fl_X10_24 : zFld RX10 24 10 6 := ⟨RX10, TX10, rfl, inX10, Nat.le_of_ble_eq_true rfl, inT2 174 rfl rfl⟩
theorem fl_X10_27 : zFld RX10 27 10 7 := ⟨RX10, TX10, rfl, inX10, Nat.le_of_ble_eq_true rfl, inT2 177 rfl rfl⟩
theorem fl_X10_30 : zFld RX10 30 10 8 := ⟨RX10, TX10, rfl, inX10, Nat.le_of_ble_eq_true rfl, inT2 179 rfl rfl⟩
theorem fl_X10_33 : zFld RX10 33 10 9 := ⟨RX10, TX10, rfl, inX10, Nat.le_of_ble_eq_true rfl, inT2 181 rfl rfl⟩
theorem fl_X10_36 : zFld RX10 36 10 10 := ⟨RX10, TX10, rfl, inX10, Nat.le_of_ble_eq_true rfl, inT2 183 rfl rfl⟩
theorem fl_X10_45 : zFld RX10 45 10 12 := ⟨RX10, TX10, rfl, inX10, Nat.le_of_ble_eq_true rfl, inT2 189 rfl rfl⟩
theorem fl_X10_49 : zFld RX10 49 10 13 := ⟨RX10, TX10, rfl, inX10, Nat.le_of_ble_eq_true rfl, inT2 192 rfl rfl⟩
theorem fl_X10_52 : zFld RX10 52 10 14 := ⟨RX10, TX10, rfl, inX10, Nat.le_of_ble_eq_true rfl, inT2 195 rfl rfl⟩
theorem fp_X10_52 : zFlp RX10 52 10 14 .int := ⟨RX10, TX10, tyX10, ⟨rfl, inX10, Nat.le_of_ble_eq_true rfl, inT2 195 rfl rfl⟩, tyX10_ok, nmX10, rfl, by decide +kernel⟩
theorem fl_X10_56 : zFld RX10 56 10 15 := ⟨RX10, TX10, rfl, inX10, Nat.le_of_ble_eq_true rfl, inT2 201 rfl rfl⟩
theorem fp_X10_56 : zFlp RX10 56 10 15 .int := ⟨RX10, TX10, tyX10, ⟨rfl, inX10, Nat.le_of_ble_eq_true rfl, inT2 201 rfl rfl⟩, tyX10_ok, nmX10, rfl, by decide +kernel⟩
theorem fl_X10_59 : zFld RX10 59 10 16 := ⟨RX10, TX10, rfl, inX10, Nat.le_of_ble_eq_true rfl, inT2 204 rfl rfl⟩
theorem fp_X10_59 : zFlp RX10 59 10 16 .int := ⟨RX10, TX10, tyX10, ⟨rfl, inX10, Nat.le_of_ble_eq_true rfl, inT2 204 rfl rfl⟩, tyX10_ok, nmX10, rfl, by decide +kernel⟩
theorem fl_X10_62 : zFld RX10 62 10 17 := ⟨RX10, TX10, rfl, inX10, Nat.le_of_ble_eq_true rfl, inT2 207 rfl rfl⟩
theorem fp_X10_62 : zFlp RX10 62 10 17 .int := ⟨RX10, TX10, tyX10, ⟨rfl, inX10, Nat.le_of_ble_eq_true rfl, inT2 207 rfl rfl⟩, tyX10_ok, nmX10, rfl, by decide +kernel⟩
theorem fl_X10_65 : zFld RX10 65 10 0 := ⟨RX10, TX10, rfl, inX10, Nat.le_of_ble_eq_true rfl, inT2 153 rfl rfl⟩
theorem fp_X10_65 : zFlp RX10 65 10 0 .int := ⟨RX10, TX10, tyX10, ⟨rfl, inX10, Nat.le_of_ble_eq_true rfl, inT2 153 rfl rfl⟩, tyX10_ok, nmX10, rfl, by decide +kernel⟩
theorem fl_X10_68 : zFld RX10 68 10 1 := ⟨RX10, TX10, rfl, inX10, Nat.le_of_ble_eq_true rfl, inT2 162 rfl rfl⟩
theorem fp_X10_68 : zFlp RX10 68 10 1 .int := ⟨RX10, TX10, tyX10, ⟨rfl, inX10, Nat.le_of_ble_eq_true rfl, inT2 162 rfl rfl⟩, tyX10_ok, nmX10, rfl, by decide +kernel⟩
theorem fl_X10_71 : zFld RX10 71 1 1 := ⟨RX1, TX1, rfl, inX1, Nat.le_of_ble_eq_true rfl, inT2 143 rfl rfl⟩
theorem fp_X10_71 : zFlp RX10 71 1 1 .int := ⟨RX1, TX1, tyX1, ⟨rfl, inX1, Nat.le_of_ble_eq_true rfl, inT2 143 rfl rfl⟩, tyX1_ok, nmX1, rfl, by decide +kernel⟩
theorem fl_X10_74 : zFld RX10 74 10 18 := ⟨RX10, TX10, rfl, inX10, Nat.le_of_ble_eq_true rfl, inT2 210 rfl rfl⟩
theorem fp_X10_74 : zFlp RX10 74 10 18 .int := ⟨RX10, TX10, tyX10, ⟨rfl, inX10, Nat.le_of_ble_eq_true rfl, inT2 210 rfl rfl⟩, tyX10_ok, nmX10, rfl, by decide +kernel⟩
theorem fl_X12_7 : zFld RX12 7 12 0 := ⟨RX12, TX12, rfl, inX12, Nat.le_of_ble_eq_true rfl, inT6 22 rfl rfl⟩
theorem fl_X12_13 : zFld RX12 13 12 1 := ⟨RX12, TX12, rfl, inX12, Nat.le_of_ble_eq_true rfl, inT6 23 rfl rfl⟩
theorem fp_X12_13 : zFlp RX12 13 12 1 .int := ⟨RX12, TX12, tyX12, ⟨rfl, inX12, Nat.le_of_ble_eq_true rfl, inT6 23 rfl rfl⟩, tyX12_ok, nmX12, rfl, by decide +kernel⟩
theorem fl_X12_17 : zFld RX12 17 12 2 := ⟨RX12, TX12, rfl, inX12, Nat.le_of_ble_eq_true rfl, inT6 24 rfl rfl⟩
theorem fp_X12_17 : zFlp RX12 17 12 2 .int := ⟨RX12, TX12, tyX12, ⟨rfl, inX12, Nat.le_of_ble_eq_true rfl, inT6 24 rfl rfl⟩, tyX12_ok, nmX12, rfl, by decide +kernel⟩
theorem fl_X12_20 : zFld RX12 20 12 3 := ⟨RX12, TX12, rfl, inX12, Nat.le_of_ble_eq_true rfl, inT6 25 rfl rfl⟩
theorem fp_X12_20 : zFlp RX12 20 12 3 .int := ⟨RX12, TX12, tyX12, ⟨rfl, inX12, Nat.le_of_ble_eq_true rfl, inT6 25 rfl rfl⟩, tyX12_ok, nmX12, rfl, by decide +kernel⟩
theorem fl_X12_23 : zFld RX12 23 12 4 := ⟨RX12, TX12, rfl, inX12, Nat.le_of_ble_eq_true rfl, inT6 26 rfl rfl⟩
theorem fp_X12_23 : zFlp RX12 23 12 4 .int := ⟨RX12, TX12, tyX12, ⟨rfl, inX12, Nat.le_of_ble_eq_true rfl, inT6 26 rfl rfl⟩, tyX12_ok, nmX12, rfl, by decide +kernel⟩
theorem fl_X12_26 : zFld RX12 26 12 5 := ⟨RX12, TX12, rfl, inX12, Nat.le_of_ble_eq_true rfl, inT6 27 rfl rfl⟩
theorem fp_X12_26 : zFlp RX12 26 12 5 .int := ⟨RX12, TX12, tyX12, ⟨rfl, inX12, Nat.le_of_ble_eq_true rfl, inT6 27 rfl rfl⟩, tyX12_ok, nmX12, rfl, by decide +kernel⟩
theorem fl_X12_29 : zFld RX12 29 12 6 := ⟨RX12, TX12, rfl, inX12, Nat.le_of_ble_eq_true rfl, inT6 28 rfl rfl⟩
theorem fp_X12_29 : zFlp RX12 29 12 6 .int := ⟨RX12, TX12, tyX12, ⟨rfl, inX12, Nat.le_of_ble_eq_true rfl, inT6 28 rfl rfl⟩, tyX12_ok, nmX12, rfl, by decide +kernel⟩
theorem fl_X12_32 : zFld RX12 32 12 7 := ⟨RX12, TX12, rfl, inX12, Nat.le_of_ble_eq_true rfl, inT6 29 rfl rfl⟩
theorem fp_X12_32 : zFlp RX12 32 12 7 .long := ⟨RX12, TX12, tyX12, ⟨rfl, inX12, Nat.le_of_ble_eq_true rfl, inT6 29 rfl rfl⟩, tyX12_ok, nmX12, rfl, by decide +kernel⟩
theorem fl_X12_36 : zFld RX12 36 12 8 := ⟨RX12, TX12, rfl, inX12, Nat.le_of_ble_eq_true rfl, inT6 30 rfl rfl⟩
theorem fp_X12_36 : zFlp RX12 36 12 8 .int := ⟨RX12, TX12, tyX12, ⟨rfl, inX12, Nat.le_of_ble_eq_true rfl, inT6 30 rfl rfl⟩, tyX12_ok, nmX12, rfl, by decide +kernel⟩
theorem fl_X12_39 : zFld RX12 39 12 9 := ⟨RX12, TX12, rfl, inX12, Nat.le_of_ble_eq_true rfl, inT6 31 rfl rfl⟩
theorem fp_X12_39 : zFlp RX12 39 12 9 .int := ⟨RX12, TX12, tyX12, ⟨rfl, inX12, Nat.le_of_ble_eq_true rfl, inT6 31 rfl rfl⟩, tyX12_ok, nmX12, rfl, by decide +kernel⟩
theorem fl_X12_42 : zFld RX12 42 12 10 := ⟨RX12, TX12, rfl, inX12, Nat.le_of_ble_eq_true rfl, inT6 32 rfl rfl⟩
theorem fp_X12_42 : zFlp RX12 42 12 10 .int := ⟨RX12, TX12, tyX12, ⟨rfl, inX12, Nat.le_of_ble_eq_true rfl, inT6 32 rfl rfl⟩, tyX12_ok, nmX12, rfl, by decide +kernel⟩
theorem fl_X12_45 : zFld RX12 45 12 11 := ⟨RX12, TX12, rfl, inX12, Nat.le_of_ble_eq_true rfl, inT6 33 rfl rfl⟩
theorem fp_X12_45 : zFlp RX12 45 12 11 .int := ⟨RX12, TX12, tyX12, ⟨rfl, inX12, Nat.le_of_ble_eq_true rfl, inT6 33 rfl rfl⟩, tyX12_ok, nmX12, rfl, by decide +kernel⟩
theorem fl_X12_48 : zFld RX12 48 12 12 := ⟨RX12, TX12, rfl, inX12, Nat.le_of_ble_eq_true rfl, inT6 34 rfl rfl⟩
theorem fp_X12_48 : zFlp RX12 48 12 12 .int := ⟨RX12, TX12, tyX12, ⟨rfl, inX12, Nat.le_of_ble_eq_true rfl, inT6 34 rfl rfl⟩, tyX12_ok, nmX12, rfl, by decide +kernel⟩
theorem fl_X12_51 : zFld RX12 51 12 13 := ⟨RX12, TX12, rfl, inX12, Nat.le_of_ble_eq_true rfl, inT6 35 rfl rfl⟩
theorem fp_X12_51 : zFlp RX12 51 12 13 .int := ⟨RX12, TX12, tyX12, ⟨rfl, inX12, Nat.le_of_ble_eq_true rfl, inT6 35 rfl rfl⟩, tyX12_ok, nmX12, rfl, by decide +kernel⟩
theorem fl_X12_54 : zFld RX12 54 12 14 := ⟨RX12, TX12, rfl, inX12, Nat.le_of_ble_eq_true rfl, inT6 36 rfl rfl⟩
theorem fl_X12_57 : zFld RX12 57 12 15 := ⟨RX12, TX12, rfl, inX12, Nat.le_of_ble_eq_true rfl, inT6 37 rfl rfl⟩
theorem fl_X12_60 : zFld RX12 60 12 16 := ⟨RX12, TX12, rfl, inX12, Nat.le_of_ble_eq_true rfl, inT6 38 rfl rfl⟩
theorem fl_X12_63 : zFld RX12 63 12 17 := ⟨RX12, TX12, rfl, inX12, Nat.le_of_ble_eq_true rfl, inT6 39 rfl rfl⟩
theorem fl_X12_66 : zFld RX12 66 12 18 := ⟨RX12, TX12, rfl, inX12, Nat.le_of_ble_eq_true rfl, inT6 40 rfl rfl⟩
theorem fl_X12_69 : zFld RX12 69 12 19 := ⟨RX12, TX12, rfl, inX12, Nat.le_of_ble_eq_true rfl, inT6 41 rfl rfl⟩
theorem fl_X12_72 : zFld RX12 72 12 20 := ⟨RX12, TX12, rfl, inX12, Nat.le_of_ble_eq_true rfl, inT6 42 rfl rfl⟩
theorem fl_X12_75 : zFld RX12 75 12 21 := ⟨RX12, TX12, rfl, inX12, Nat.le_of_ble_eq_true rfl, inT6 43 rfl rfl⟩
theorem fl_X12_78 : zFld RX12 78 12 22 := ⟨RX12, TX12, rfl, inX12, Nat.le_of_ble_eq_true rfl, inT6 44 rfl rfl⟩
theorem fl_X12_81 : zFld RX12 81 12 23 := ⟨RX12, TX12, rfl, inX12, Nat.le_of_ble_eq_true rfl, inT6 45 rfl rfl⟩
theorem fl_X12_84 : zFld RX12 84 12 24 := ⟨RX12, TX12, rfl, inX12, Nat.le_of_ble_eq_true rfl, inT6 46 rfl rfl⟩
theorem fl_X12_87 : zFld RX12 87 12 25 := ⟨RX12, TX12, rfl, inX12, Nat.le_of_ble_eq_true rfl, inT6 47 rfl rfl⟩
theorem fl_X12_90 : zFld RX12 90 12 26 := ⟨RX12, TX12, rfl, inX12, Nat.le_of_ble_eq_true rfl, inT6 48 rfl rfl⟩
theorem fl_X12_93 : zFld RX12 93 12 27 := ⟨RX12, TX12, rfl, inX12, Nat.le_of_ble_eq_true rfl, inT6 49 rfl rfl⟩
theorem fl_X12_96 : zFld RX12 96 12 28 := ⟨RX12, TX12, rfl, inX12, Nat.le_of_ble_eq_true rfl, inT6 50 rfl rfl⟩
theorem fl_X12_99 : zFld RX12 99 12 29 := ⟨RX12, TX12, rfl, inX12, Nat.le_of_ble_eq_true rfl, inT6 51 rfl rfl⟩
theorem fl_X12_103 : zFld RX12 103 12 30 := ⟨RX12, TX12, rfl, inX12, Nat.le_of_ble_eq_true rfl, inT6 52 rfl rfl⟩
theorem fl_X12_106 : zFld RX12 106 12 31 := ⟨RX12, TX12, rfl, inX12, Nat.le_of_ble_eq_true rfl, inT6 53 rfl rfl⟩
theorem fp_X12_106 : zFlp RX12 106 12 31 .int := ⟨RX12, TX12, tyX12, ⟨rfl, inX12, Nat.le_of_ble_eq_true rfl, inT6 53 rfl rfl⟩, tyX12_ok, nmX12, rfl, by decide +kernel⟩
theorem fl_X12_109 : zFld RX12 109 12 32 := ⟨RX12, TX12, rfl, inX12, Nat.le_of_ble_eq_true rfl, inT6 54 rfl rfl⟩
theorem fp_X12_109 : zFlp RX12 109 12 32 .int := ⟨RX12, TX12, tyX12, ⟨rfl, inX12, Nat.le_of_ble_eq_true rfl, inT6 54 rfl rfl⟩, tyX12_ok, nmX12, rfl, by decide +kernel⟩
theorem fl_X12_112 : zFld RX12 112 12 33 := ⟨RX12, TX12, rfl, inX12, Nat.le_of_ble_eq_true rfl, inT6 55 rfl rfl⟩
theorem fp_X12_112 : zFlp RX12 112 12 33 .boolean := ⟨RX12, TX12, tyX12, ⟨rfl, inX12, Nat.le_of_ble_eq_true rfl, inT6 55 rfl rfl⟩, tyX12_ok, nmX12, rfl, by decide +kernel⟩
theorem fl_X12_116 : zFld RX12 116 12 34 := ⟨RX12, TX12, rfl, inX12, Nat.le_of_ble_eq_true rfl, inT6 56 rfl rfl⟩
theorem fl_X12_119 : zFld RX12 119 12 35 := ⟨RX12, TX12, rfl, inX12, Nat.le_of_ble_eq_true rfl, inT6 57 rfl rfl⟩
theorem fl_X12_122 : zFld RX12 122 12 36 := ⟨RX12, TX12, rfl, inX12, Nat.le_of_ble_eq_true rfl, inT6 58 rfl rfl⟩
theorem fl_X12_126 : zFld RX12 126 12 37 := ⟨RX12, TX12, rfl, inX12, Nat.le_of_ble_eq_true rfl, inT6 59 rfl rfl⟩
theorem fl_X12_129 : zFld RX12 129 12 38 := ⟨RX12, TX12, rfl, inX12, Nat.le_of_ble_eq_true rfl, inT6 60 rfl rfl⟩
theorem fl_X12_132 : zFld RX12 132 12 39 := ⟨RX12, TX12, rfl, inX12, Nat.le_of_ble_eq_true rfl, inT6 61 rfl rfl⟩
theorem fp_X12_132 : zFlp RX12 132 12 39 .int := ⟨RX12, TX12, tyX12, ⟨rfl, inX12, Nat.le_of_ble_eq_true rfl, inT6 61 rfl rfl⟩, tyX12_ok, nmX12, rfl, by decide +kernel⟩
theorem fl_X12_135 : zFld RX12 135 12 40 := ⟨RX12, TX12, rfl, inX12, Nat.le_of_ble_eq_true rfl, inT6 62 rfl rfl⟩
theorem fp_X12_135 : zFlp RX12 135 12 40 .int := ⟨RX12, TX12, tyX12, ⟨rfl, inX12, Nat.le_of_ble_eq_true rfl, inT6 62 rfl rfl⟩, tyX12_ok, nmX12, rfl, by decide +kernel⟩
theorem fl_X12_138 : zFld RX12 138 12 41 := ⟨RX12, TX12, rfl, inX12, Nat.le_of_ble_eq_true rfl, inT6 63 rfl rfl⟩
theorem fl_X12_141 : zFld RX12 141 12 42 := ⟨RX12, TX12, rfl, inX12, Nat.le_of_ble_eq_true rfl, inT6 64 rfl rfl⟩
theorem fp_X12_141 : zFlp RX12 141 12 42 .int := ⟨RX12, TX12, tyX12, ⟨rfl, inX12, Nat.le_of_ble_eq_true rfl, inT6 64 rfl rfl⟩, tyX12_ok, nmX12, rfl, by decide +kernel⟩
theorem fl_X12_144 : zFld RX12 144 12 43 := ⟨RX12, TX12, rfl, inX12, Nat.le_of_ble_eq_true rfl, inT6 65 rfl rfl⟩
theorem fp_X12_144 : zFlp RX12 144 12 43 .boolean := ⟨RX12, TX12, tyX12, ⟨rfl, inX12, Nat.le_of_ble_eq_true rfl, inT6 65 rfl rfl⟩, tyX12_ok, nmX12, rfl, by decide +kernel⟩
theorem fl_X12_147 : zFld RX12 147 12 44 := ⟨RX12, TX12, rfl, inX12, Nat.le_of_ble_eq_true rfl, inT6 66 rfl rfl⟩
theorem fl_X12_150 : zFld RX12 150 12 45 := ⟨RX12, TX12, rfl, inX12, Nat.le_of_ble_eq_true rfl, inT6 67 rfl rfl⟩
theorem fl_X12_153 : zFld RX12 153 12 46 := ⟨RX12, TX12, rfl, inX12, Nat.le_of_ble_eq_true rfl, inT6 68 rfl rfl⟩
theorem fl_X12_156 : zFld RX12 156 12 47 := ⟨RX12, TX12, rfl, inX12, Nat.le_of_ble_eq_true rfl, inT6 69 rfl rfl⟩
theorem fl_X12_159 : zFld RX12 159 12 48 := ⟨RX12, TX12, rfl, inX12, Nat.le_of_ble_eq_true rfl, inT6 70 rfl rfl⟩
theorem fl_X12_162 : zFld RX12 162 12 49 := ⟨RX12, TX12, rfl, inX12, Nat.le_of_ble_eq_true rfl, inT6 71 rfl rfl⟩
theorem fl_X12_165 : zFld RX12 165 12 50 := ⟨RX12, TX12, rfl, inX12, Nat.le_of_ble_eq_true rfl, inT6 72 rfl rfl⟩
theorem fl_X12_168 : zFld RX12 168 12 51 := ⟨RX12, TX12, rfl, inX12, Nat.le_of_ble_eq_true rfl, inT6 73 rfl rfl⟩
theorem fl_X12_171 : zFld RX12 171 12 52 := ⟨RX12, TX12, rfl, inX12, Nat.le_of_ble_eq_true rfl, inT6 74 rfl rfl⟩
theorem fl_X12_174 : zFld RX12 174 12 53 := ⟨RX12, TX12, rfl, inX12, Nat.le_of_ble_eq_true rfl, inT6 75 rfl rfl⟩
theorem fl_X12_177 : zFld RX12 177 12 54 := ⟨RX12, TX12, rfl, inX12, Nat.le_of_ble_eq_true rfl, inT6 76 rfl rfl⟩
theorem fl_X12_180 : zFld RX12 180 12 55 := ⟨RX12, TX12, rfl, inX12, Nat.le_of_ble_eq_true rfl, inT6 77 rfl rfl⟩
theorem fl_X12_183 : zFld RX12 183 12 56 := ⟨RX12, TX12, rfl, inX12, Nat.le_of_ble_eq_true rfl, inT6 78 rfl rfl⟩
theorem fp_X12_183 : zFlp RX12 183 12 56 .int := ⟨RX12, TX12, tyX12, ⟨rfl, inX12, Nat.le_of_ble_eq_true rfl, inT6 78 rfl rfl⟩, tyX12_ok, nmX12, rfl, by decide +kernel⟩
theorem fl_X12_186 : zFld RX12 186 12 57 := ⟨RX12, TX12, rfl, inX12, Nat.le_of_ble_eq_true rfl, inT6 79 rfl rfl⟩
theorem fp_X12_186 : zFlp RX12 186 12 57 .int := ⟨RX12, TX12, tyX12, ⟨rfl, inX12, Nat.le_of_ble_eq_true rfl, inT6 79 rfl rfl⟩, tyX12_ok, nmX12, rfl, by decide +kernel⟩
theorem fl_X12_189 : zFld RX12 189 12 58 := ⟨RX12, TX12, rfl, inX12, Nat.le_of_ble_eq_true rfl, inT6 80 rfl rfl⟩
theorem fp_X12_189 : zFlp RX12 189 12 58 .long := ⟨RX12, TX12, tyX12, ⟨rfl, inX12, Nat.le_of_ble_eq_true rfl, inT6 80 rfl rfl⟩, tyX12_ok, nmX12, rfl, by decide +kernel⟩
theorem fl_X12_192 : zFld RX12 192 12 59 := ⟨RX12, TX12, rfl, inX12, Nat.le_of_ble_eq_true rfl, inT6 81 rfl rfl⟩
theorem fl_X12_195 : zFld RX12 195 12 60 := ⟨RX12, TX12, rfl, inX12, Nat.le_of_ble_eq_true rfl, inT6 82 rfl rfl⟩
theorem fl_X12_198 : zFld RX12 198 12 61 := ⟨RX12, TX12, rfl, inX12, Nat.le_of_ble_eq_true rfl, inT6 83 rfl rfl⟩
theorem fl_X12_201 : zFld RX12 201 12 62 := ⟨RX12, TX12, rfl, inX12, Nat.le_of_ble_eq_true rfl, inT6 84 rfl rfl⟩
theorem fl_X12_204 : zFld RX12 204 12 63 := ⟨RX12, TX12, rfl, inX12, Nat.le_of_ble_eq_true rfl, inT6 85 rfl rfl⟩
theorem fl_X12_207 : zFld RX12 207 12 64 := ⟨RX12, TX12, rfl, inX12, Nat.le_of_ble_eq_true rfl, inT6 86 rfl rfl⟩
theorem fl_X12_210 : zFld RX12 210 12 65 := ⟨RX12, TX12, rfl, inX12, Nat.le_of_ble_eq_true rfl, inT6 87 rfl rfl⟩
theorem fp_X12_210 : zFlp RX12 210 12 65 .int := ⟨RX12, TX12, tyX12, ⟨rfl, inX12, Nat.le_of_ble_eq_true rfl, inT6 87 rfl rfl⟩, tyX12_ok, nmX12, rfl, by decide +kernel⟩
theorem fl_X12_213 : zFld RX12 213 12 66 := ⟨RX12, TX12, rfl, inX12, Nat.le_of_ble_eq_true rfl, inT6 88 rfl rfl⟩
theorem fl_X12_216 : zFld RX12 216 12 67 := ⟨RX12, TX12, rfl, inX12, Nat.le_of_ble_eq_true rfl, inT6 89 rfl rfl⟩
theorem fl_X12_219 : zFld RX12 219 12 68 := ⟨RX12, TX12, rfl, inX12, Nat.le_of_ble_eq_true rfl, inT6 90 rfl rfl⟩
theorem fl_X12_222 : zFld RX12 222 12 69 := ⟨RX12, TX12, rfl, inX12, Nat.le_of_ble_eq_true rfl, inT6 91 rfl rfl⟩
theorem fl_X12_225 : zFld RX12 225 12 70 := ⟨RX12, TX12, rfl, inX12, Nat.le_of_ble_eq_true rfl, inT6 92 rfl rfl⟩
theorem fl_X12_228 : zFld RX12 228 12 71 := ⟨RX12, TX12, rfl, inX12, Nat.le_of_ble_eq_true rfl, inT6 93 rfl rfl⟩
theorem fl_X12_231 : zFld RX12 231 12 72 := ⟨RX12, TX12, rfl, inX12, Nat.le_of_ble_eq_true rfl, inT6 94 rfl rfl⟩
theorem fl_X12_234 : zFld RX12 234 12 73 := ⟨RX12, TX12, rfl, inX12, Nat.le_of_ble_eq_true rfl, inT6 95 rfl rfl⟩
theorem fl_X12_237 : zFld RX12 237 12 74 := ⟨RX12, TX12, rfl, inX12, Nat.le_of_ble_eq_true rfl, inT6 96 rfl rfl⟩
theorem fl_X12_240 : zFld RX12 240 12 75 := ⟨RX12, TX12, rfl, inX12, Nat.le_of_ble_eq_true rfl, inT6 97 rfl rfl⟩
theorem fl_X12_243 : zFld RX12 243 12 76 := ⟨RX12, TX12, rfl, inX12, Nat.le_of_ble_eq_true rfl, inT6 98 rfl rfl⟩
theorem fp_X12_243 : zFlp RX12 243 12 76 .int := ⟨RX12, TX12, tyX12, ⟨rfl, inX12, Nat.le_of_ble_eq_true rfl, inT6 98 rfl rfl⟩, tyX12_ok, nmX12, rfl, by decide +kernel⟩
theorem cn_X11_380 : Cond.constant RX11 380 (Int32.ofInt 1103515245) ∈ TBL := inT5 153 rfl rfl
theorem cn_X11_381 : Cond.constant RX11 381 (Int32.ofInt 2147483647) ∈ TBL := inT5 154 rfl rfl
theorem cn_X1_49 : Cond.constantLong RX1 49 (Int64.ofInt (-1000000)) ∈ TBL := inT4 125 rfl rfl
theorem cn_X1_51 : Cond.constantLong RX1 51 (Int64.ofInt 1000000) ∈ TBL := inT4 126 rfl rfl
theorem cn_X12_277 : Cond.constantLong RX12 277 (Int64.ofInt 422607680372) ∈ TBL := inT7 58 rfl rfl
theorem cn_X12_279 : Cond.constantLong RX12 279 (Int64.ofInt 512735536499) ∈ TBL := inT7 79 rfl rfl
theorem cn_X12_281 : Cond.constantLong RX12 281 (Int64.ofInt 29807) ∈ TBL := inT7 80 rfl rfl
theorem cn_X12_283 : Cond.constantLong RX12 283 (Int64.ofInt 24948) ∈ TBL := inT7 81 rfl rfl
theorem cn_X12_285 : Cond.constantLong RX12 285 (Int64.ofInt 499851162725) ∈ TBL := inT7 82 rfl rfl
theorem cn_X12_287 : Cond.constantLong RX12 287 (Int64.ofInt 444351214452) ∈ TBL := inT7 83 rfl rfl
theorem cn_X12_289 : Cond.constantLong RX12 289 (Int64.ofInt 427071202675) ∈ TBL := inT7 84 rfl rfl
theorem cn_X12_291 : Cond.constantLong RX12 291 (Int64.ofInt 439787549299) ∈ TBL := inT7 85 rfl rfl
theorem cn_X12_293 : Cond.constantLong RX12 293 (Int64.ofInt 465625113971) ∈ TBL := inT7 86 rfl rfl
theorem cn_X12_295 : Cond.constantLong RX12 295 (Int64.ofInt 7168377) ∈ TBL := inT7 87 rfl rfl
theorem cn_X12_297 : Cond.constantLong RX12 297 (Int64.ofInt 129138533167731) ∈ TBL := inT7 88 rfl rfl
theorem cn_X12_299 : Cond.constantLong RX12 299 (Int64.ofInt 422776563059) ∈ TBL := inT7 89 rfl rfl
theorem cn_X12_301 : Cond.constantLong RX12 301 (Int64.ofInt 461262647411) ∈ TBL := inT7 90 rfl rfl
theorem cn_X12_303 : Cond.constantLong RX12 303 (Int64.ofInt 6710629) ∈ TBL := inT7 91 rfl rfl
theorem cn_X12_305 : Cond.constantLong RX12 305 (Int64.ofInt 1918986606) ∈ TBL := inT7 92 rfl rfl
theorem cn_X12_307 : Cond.constantLong RX12 307 (Int64.ofInt 495891084403) ∈ TBL := inT7 93 rfl rfl
theorem cn_X12_309 : Cond.constantLong RX12 309 (Int64.ofInt 7561591) ∈ TBL := inT7 94 rfl rfl
theorem cn_X12_311 : Cond.constantLong RX12 311 (Int64.ofInt 1752135026) ∈ TBL := inT7 95 rfl rfl
theorem cn_X12_313 : Cond.constantLong RX12 313 (Int64.ofInt 465726040947) ∈ TBL := inT7 96 rfl rfl
theorem cn_X12_315 : Cond.constantLong RX12 315 (Int64.ofInt 495756602476) ∈ TBL := inT7 97 rfl rfl
theorem cn_X12_317 : Cond.constantLong RX12 317 (Int64.ofInt 1952541803) ∈ TBL := inT7 98 rfl rfl
theorem cn_X12_319 : Cond.constantLong RX12 319 (Int64.ofInt 119200029437543) ∈ TBL := inT7 99 rfl rfl
theorem cn_X12_321 : Cond.constantLong RX12 321 (Int64.ofInt 1718773093) ∈ TBL := inT7 100 rfl rfl
theorem cn_X12_323 : Cond.constantLong RX12 323 (Int64.ofInt 26982) ∈ TBL := inT7 101 rfl rfl
theorem cn_X12_325 : Cond.constantLong RX12 325 (Int64.ofInt 28530) ∈ TBL := inT7 102 rfl rfl
theorem cn_X12_327 : Cond.constantLong RX12 327 (Int64.ofInt 6385252) ∈ TBL := inT7 103 rfl rfl
theorem cn_X12_329 : Cond.constantLong RX12 329 (Int64.ofInt 7237492) ∈ TBL := inT7 104 rfl rfl
theorem cn_X12_331 : Cond.constantLong RX12 331 (Int64.ofInt 6384748) ∈ TBL := inT7 105 rfl rfl
theorem cn_X12_333 : Cond.constantLong RX12 333 (Int64.ofInt 7170414) ∈ TBL := inT7 106 rfl rfl
theorem cn_X12_335 : Cond.constantLong RX12 335 (Int64.ofInt 7168376) ∈ TBL := inT7 107 rfl rfl
theorem cn_X12_455 : Cond.constantLong RX12 455 (Int64.ofInt 1000000) ∈ TBL := inT8 83 rfl rfl
theorem cn_X12_457 : Cond.constantLong RX12 457 (Int64.ofInt (-1000000)) ∈ TBL := inT8 84 rfl rfl
theorem cn_X12_496 : Cond.constantLong RX12 496 (Int64.ofInt 999) ∈ TBL := inT8 88 rfl rfl
theorem cn_X12_531 : Cond.constantLong RX12 531 (Int64.ofInt 255) ∈ TBL := inT8 20 rfl rfl
theorem cn_X12_554 : Cond.constant RX12 554 (Int32.ofInt 100000000) ∈ TBL := inT8 148 rfl rfl
theorem cn_X12_579 : Cond.constantLong RX12 579 (Int64.ofInt 1103515245) ∈ TBL := inT8 212 rfl rfl
theorem cn_X12_581 : Cond.constantLong RX12 581 (Int64.ofInt 12345) ∈ TBL := inT8 213 rfl rfl
theorem cn_X12_583 : Cond.constantLong RX12 583 (Int64.ofInt 2147483648) ∈ TBL := inT8 214 rfl rfl
theorem cn_X12_585 : Cond.constantLong RX12 585 (Int64.ofInt 64) ∈ TBL := inT8 215 rfl rfl
theorem cn_J6_265 : Cond.constant RJ6 265 (Int32.ofInt 1431655765) ∈ TBL := inT4 231 rfl rfl
theorem cn_J6_266 : Cond.constant RJ6 266 (Int32.ofInt 858993459) ∈ TBL := inT4 232 rfl rfl
theorem cn_J6_267 : Cond.constant RJ6 267 (Int32.ofInt 252645135) ∈ TBL := inT4 233 rfl rfl
theorem mf_J6_bitCount_0f7a4 : zMf yJ6_bitCount_0f7a4 cJ6_bitCount_0f7a4 1 (some .int) 1 := ⟨inT1 20 rfl rfl, inT4 230 rfl rfl, ⟨by decide +kernel, by decide +kernel, by decide +kernel⟩, Nat.le_of_ble_eq_true rfl, by decide +kernel⟩
theorem ms_J6_bitCount_0f7a4 : Cond.static yJ6_bitCount_0f7a4 ∈ TBL := inT4 229 rfl rfl
theorem mfc_J9_abs_0f7a4 : Cond.code Lib.Math.abs.name Lib.Math.abs.code 1 (some .int) ∈ TBL := inT5 14 rfl rfl
theorem mfi_J9_abs_0f7a4 : Cond.initialized "java/lang/Math" ∈ TBL := inT1 19 rfl rfl
theorem ms_J9_abs_0f7a4 : Cond.static Lib.Math.abs.name ∈ TBL := inT5 13 rfl rfl
theorem mf_J9_floorDiv_7cf53 : zMf yJ9_floorDiv_7cf53 cJ9_floorDiv_7cf53 3 (some .int) 2 := ⟨inT1 19 rfl rfl, inT4 115 rfl rfl, ⟨by decide +kernel, by decide +kernel, by decide +kernel⟩, Nat.le_of_ble_eq_true rfl, by decide +kernel⟩
theorem ms_J9_floorDiv_7cf53 : Cond.static yJ9_floorDiv_7cf53 ∈ TBL := inT4 114 rfl rfl
theorem mf_J9_floorMod_7cf53 : zMf yJ9_floorMod_7cf53 cJ9_floorMod_7cf53 3 (some .int) 2 := ⟨inT1 19 rfl rfl, inT4 118 rfl rfl, ⟨by decide +kernel, by decide +kernel, by decide +kernel⟩, Nat.le_of_ble_eq_true rfl, by decide +kernel⟩
theorem ms_J9_floorMod_7cf53 : Cond.static yJ9_floorMod_7cf53 ∈ TBL := inT4 117 rfl rfl
theorem mfc_J9_max_7cf53 : Cond.code Lib.Math.max.name Lib.Math.max.code 2 (some .int) ∈ TBL := inT4 124 rfl rfl
theorem mfi_J9_max_7cf53 : Cond.initialized "java/lang/Math" ∈ TBL := inT1 19 rfl rfl
theorem ms_J9_max_7cf53 : Cond.static Lib.Math.max.name ∈ TBL := inT4 123 rfl rfl
theorem mfc_J9_max_f86c9 : Cond.code Lib.MathLoose.max_long.x Lib.MathLoose.max_long.code 4 (some .long) ∈ TBL := inT4 132 rfl rfl
theorem mfi_J9_max_f86c9 : Cond.initialized "java/lang/Math" ∈ TBL := inT1 19 rfl rfl
theorem ms_J9_max_f86c9 : Cond.static Lib.MathLoose.max_long.x ∈ TBL := inT4 131 rfl rfl
theorem mfc_J9_min_7cf53 : Cond.code Lib.Math.min.name Lib.Math.min.code 2 (some .int) ∈ TBL := inT4 121 rfl rfl
theorem mfi_J9_min_7cf53 : Cond.initialized "java/lang/Math" ∈ TBL := inT1 19 rfl rfl
theorem ms_J9_min_7cf53 : Cond.static Lib.Math.min.name ∈ TBL := inT4 120 rfl rfl
theorem mfc_J9_min_f86c9 : Cond.code Lib.MathLoose.min_long.x Lib.MathLoose.min_long.code 4 (some .long) ∈ TBL := inT4 129 rfl rfl
theorem mfi_J9_min_f86c9 : Cond.initialized "java/lang/Math" ∈ TBL := inT1 19 rfl rfl
theorem ms_J9_min_f86c9 : Cond.static Lib.MathLoose.min_long.x ∈ TBL := inT4 128 rfl rfl
theorem mf_X0_canBring : zMf yX0_canBring cX0_canBring 5 (some .boolean) 5 := ⟨inT1 10 rfl rfl, inT4 227 rfl rfl, ⟨by decide +kernel, by decide +kernel, by decide +kernel⟩, Nat.le_of_ble_eq_true rfl, by decide +kernel⟩
theorem ms_X0_canBring : Cond.static yX0_canBring ∈ TBL := inT4 226 rfl rfl
theorem mf_X0_find : zMf yX0_find cX0_find 6 none 2 := ⟨inT1 10 rfl rfl, inT4 220 rfl rfl, ⟨by decide +kernel, by decide +kernel, by decide +kernel⟩, Nat.le_of_ble_eq_true rfl, by decide +kernel⟩
theorem mf_X0_follow : zMf yX0_follow cX0_follow 6 none 2 := ⟨inT1 10 rfl rfl, inT5 3 rfl rfl, ⟨by decide +kernel, by decide +kernel, by decide +kernel⟩, Nat.le_of_ble_eq_true rfl, by decide +kernel⟩
theorem mf_X0_mostFrom : zMf yX0_mostFrom cX0_mostFrom 7 (some .int) 4 := ⟨inT1 10 rfl rfl, inT4 224 rfl rfl, ⟨by decide +kernel, by decide +kernel, by decide +kernel⟩, Nat.le_of_ble_eq_true rfl, by decide +kernel⟩
theorem mf_X0_with : zMf yX0_with cX0_with 5 (some .int) 4 := ⟨inT1 10 rfl rfl, inT4 238 rfl rfl, ⟨by decide +kernel, by decide +kernel, by decide +kernel⟩, Nat.le_of_ble_eq_true rfl, by decide +kernel⟩
theorem mf_X10_addBeast : zMf yX10_addBeast cX10_addBeast 5 none 4 := ⟨inT1 15 rfl rfl, inT3 161 rfl rfl, ⟨by decide +kernel, by decide +kernel, by decide +kernel⟩, Nat.le_of_ble_eq_true rfl, by decide +kernel⟩
theorem mf_X10_addGuest : zMf yX10_addGuest cX10_addGuest 4 none 3 := ⟨inT1 15 rfl rfl, inT3 184 rfl rfl, ⟨by decide +kernel, by decide +kernel, by decide +kernel⟩, Nat.le_of_ble_eq_true rfl, by decide +kernel⟩
theorem mf_X10_beastCalled : zMf yX10_beastCalled cX10_beastCalled 3 (some .int) 1 := ⟨inT1 15 rfl rfl, inT3 145 rfl rfl, ⟨by decide +kernel, by decide +kernel, by decide +kernel⟩, Nat.le_of_ble_eq_true rfl, by decide +kernel⟩
theorem mf_X10_clear : zMf yX10_clear cX10_clear 1 none 0 := ⟨inT1 15 rfl rfl, inT3 91 rfl rfl, ⟨by decide +kernel, by decide +kernel, by decide +kernel⟩, Nat.le_of_ble_eq_true rfl, by decide +kernel⟩
theorem mf_X10_guestCalled : zMf yX10_guestCalled cX10_guestCalled 3 (some .int) 1 := ⟨inT1 15 rfl rfl, inT3 149 rfl rfl, ⟨by decide +kernel, by decide +kernel, by decide +kernel⟩, Nat.le_of_ble_eq_true rfl, by decide +kernel⟩
theorem mf_X10_isAwake : zMf yX10_isAwake cX10_isAwake 3 (some .boolean) 2 := ⟨inT1 15 rfl rfl, inT4 74 rfl rfl, ⟨by decide +kernel, by decide +kernel, by decide +kernel⟩, Nat.le_of_ble_eq_true rfl, by decide +kernel⟩
theorem mf_X10_isBeast : zMf yX10_isBeast cX10_isBeast 2 (some .boolean) 1 := ⟨inT1 15 rfl rfl, inT4 59 rfl rfl, ⟨by decide +kernel, by decide +kernel, by decide +kernel⟩, Nat.le_of_ble_eq_true rfl, by decide +kernel⟩
theorem mf_X10_isFeared : zMf yX10_isFeared cX10_isFeared 3 (some .boolean) 2 := ⟨inT1 15 rfl rfl, inT3 196 rfl rfl, ⟨by decide +kernel, by decide +kernel, by decide +kernel⟩, Nat.le_of_ble_eq_true rfl, by decide +kernel⟩
theorem mf_X10_isGuest : zMf yX10_isGuest cX10_isGuest 2 (some .boolean) 1 := ⟨inT1 15 rfl rfl, inT4 66 rfl rfl, ⟨by decide +kernel, by decide +kernel, by decide +kernel⟩, Nat.le_of_ble_eq_true rfl, by decide +kernel⟩
theorem mf_X10_isThere : zMf yX10_isThere cX10_isThere 3 (some .boolean) 2 := ⟨inT1 15 rfl rfl, inT4 47 rfl rfl, ⟨by decide +kernel, by decide +kernel, by decide +kernel⟩, Nat.le_of_ble_eq_true rfl, by decide +kernel⟩
theorem mf_X11_alone : zMf yX11_alone cX11_alone 5 (some .int) 1 := ⟨inT1 1 rfl rfl, inT4 206 rfl rfl, ⟨by decide +kernel, by decide +kernel, by decide +kernel⟩, Nat.le_of_ble_eq_true rfl, by decide +kernel⟩
theorem mf_X11_asks : zMf yX11_asks cX11_asks 4 (some .int) 2 := ⟨inT1 1 rfl rfl, inT4 139 rfl rfl, ⟨by decide +kernel, by decide +kernel, by decide +kernel⟩, Nat.le_of_ble_eq_true rfl, by decide +kernel⟩
theorem mf_X11_beast : zMf yX11_beast cX11_beast 3 (some .int) 2 := ⟨inT1 1 rfl rfl, inT4 70 rfl rfl, ⟨by decide +kernel, by decide +kernel, by decide +kernel⟩, Nat.le_of_ble_eq_true rfl, by decide +kernel⟩
theorem mf_X11_between : zMf yX11_between cX11_between 5 (some .int) 3 := ⟨inT1 1 rfl rfl, inT4 86 rfl rfl, ⟨by decide +kernel, by decide +kernel, by decide +kernel⟩, Nat.le_of_ble_eq_true rfl, by decide +kernel⟩
theorem mf_X11_bring : zMf yX11_bring cX11_bring 2 (some .int) 1 := ⟨inT1 1 rfl rfl, inT4 216 rfl rfl, ⟨by decide +kernel, by decide +kernel, by decide +kernel⟩, Nat.le_of_ble_eq_true rfl, by decide +kernel⟩
theorem mf_X11_canGoBy : zMf yX11_canGoBy cX11_canGoBy 2 (some .boolean) 1 := ⟨inT1 1 rfl rfl, inT5 140 rfl rfl, ⟨by decide +kernel, by decide +kernel, by decide +kernel⟩, Nat.le_of_ble_eq_true rfl, by decide +kernel⟩
theorem mf_X11_chance : zMf yX11_chance cX11_chance 4 (some .int) 1 := ⟨inT1 1 rfl rfl, inT5 148 rfl rfl, ⟨by decide +kernel, by decide +kernel, by decide +kernel⟩, Nat.le_of_ble_eq_true rfl, by decide +kernel⟩
theorem mf_X11_change : zMf yX11_change cX11_change 5 (some .boolean) 4 := ⟨inT1 1 rfl rfl, inT5 158 rfl rfl, ⟨by decide +kernel, by decide +kernel, by decide +kernel⟩, Nat.le_of_ble_eq_true rfl, by decide +kernel⟩
theorem mf_X11_drawOfHundred : zMf yX11_drawOfHundred cX11_drawOfHundred 1 (some .int) 0 := ⟨inT1 1 rfl rfl, inT5 152 rfl rfl, ⟨by decide +kernel, by decide +kernel, by decide +kernel⟩, Nat.le_of_ble_eq_true rfl, by decide +kernel⟩
theorem mf_X11_dress : zMf yX11_dress cX11_dress 4 (some .int) 3 := ⟨inT1 1 rfl rfl, inT5 7 rfl rfl, ⟨by decide +kernel, by decide +kernel, by decide +kernel⟩, Nat.le_of_ble_eq_true rfl, by decide +kernel⟩
theorem mf_X11_end : zMf yX11_end cX11_end 2 (some .boolean) 1 := ⟨inT1 1 rfl rfl, inT3 79 rfl rfl, ⟨by decide +kernel, by decide +kernel, by decide +kernel⟩, Nat.le_of_ble_eq_true rfl, by decide +kernel⟩
theorem mf_X11_fault : zMf yX11_fault cX11_fault 2 (some .int) 1 := ⟨inT1 1 rfl rfl, inT4 35 rfl rfl, ⟨by decide +kernel, by decide +kernel, by decide +kernel⟩, Nat.le_of_ble_eq_true rfl, by decide +kernel⟩
theorem mf_X11_feed : zMf yX11_feed cX11_feed 6 (some .int) 5 := ⟨inT1 1 rfl rfl, inT3 67 rfl rfl, ⟨by decide +kernel, by decide +kernel, by decide +kernel⟩, Nat.le_of_ble_eq_true rfl, by decide +kernel⟩
theorem mf_X11_firstKeptBy : zMf yX11_firstKeptBy cX11_firstKeptBy 3 (some .int) 1 := ⟨inT1 1 rfl rfl, inT4 78 rfl rfl, ⟨by decide +kernel, by decide +kernel, by decide +kernel⟩, Nat.le_of_ble_eq_true rfl, by decide +kernel⟩
theorem mf_X11_guest : zMf yX11_guest cX11_guest 3 (some .int) 2 := ⟨inT1 1 rfl rfl, inT4 82 rfl rfl, ⟨by decide +kernel, by decide +kernel, by decide +kernel⟩, Nat.le_of_ble_eq_true rfl, by decide +kernel⟩
theorem mf_X11_guestsKept : zMf yX11_guestsKept cX11_guestsKept 3 (some .int) 0 := ⟨inT1 1 rfl rfl, inT4 51 rfl rfl, ⟨by decide +kernel, by decide +kernel, by decide +kernel⟩, Nat.le_of_ble_eq_true rfl, by decide +kernel⟩
theorem mf_X11_guestsThere : zMf yX11_guestsThere cX11_guestsThere 3 (some .int) 0 := ⟨inT1 1 rfl rfl, inT4 43 rfl rfl, ⟨by decide +kernel, by decide +kernel, by decide +kernel⟩, Nat.le_of_ble_eq_true rfl, by decide +kernel⟩
theorem mf_X11_has : zMf yX11_has cX11_has 2 (some .int) 1 := ⟨inT1 1 rfl rfl, inT4 39 rfl rfl, ⟨by decide +kernel, by decide +kernel, by decide +kernel⟩, Nat.le_of_ble_eq_true rfl, by decide +kernel⟩
theorem mf_X11_hours : zMf yX11_hours cX11_hours 4 (some .int) 1 := ⟨inT1 1 rfl rfl, inT5 136 rfl rfl, ⟨by decide +kernel, by decide +kernel, by decide +kernel⟩, Nat.le_of_ble_eq_true rfl, by decide +kernel⟩
theorem mf_X11_hoursToSee : zMf yX11_hoursToSee cX11_hoursToSee 1 (some .int) 0 := ⟨inT1 1 rfl rfl, inT4 143 rfl rfl, ⟨by decide +kernel, by decide +kernel, by decide +kernel⟩, Nat.le_of_ble_eq_true rfl, by decide +kernel⟩
theorem mf_X11_hoursUntilCome : zMf yX11_hoursUntilCome cX11_hoursUntilCome 4 (some .int) 0 := ⟨inT1 1 rfl rfl, inT5 128 rfl rfl, ⟨by decide +kernel, by decide +kernel, by decide +kernel⟩, Nat.le_of_ble_eq_true rfl, by decide +kernel⟩
theorem mf_X11_image : zMf yX11_image cX11_image 1 (some .int) 0 := ⟨inT1 1 rfl rfl, inT5 200 rfl rfl, ⟨by decide +kernel, by decide +kernel, by decide +kernel⟩, Nat.le_of_ble_eq_true rfl, by decide +kernel⟩
theorem mf_X11_isNewTriple : zMf yX11_isNewTriple cX11_isNewTriple 5 (some .boolean) 5 := ⟨inT1 1 rfl rfl, inT5 161 rfl rfl, ⟨by decide +kernel, by decide +kernel, by decide +kernel⟩, Nat.le_of_ble_eq_true rfl, by decide +kernel⟩
theorem ms_X11_isNewTriple : Cond.static yX11_isNewTriple ∈ TBL := inT5 160 rfl rfl
theorem mf_X11_isTrait : zMf yX11_isTrait cX11_isTrait 1 (some .boolean) 1 := ⟨inT1 1 rfl rfl, inT5 164 rfl rfl, ⟨by decide +kernel, by decide +kernel, by decide +kernel⟩, Nat.le_of_ble_eq_true rfl, by decide +kernel⟩
theorem ms_X11_isTrait : Cond.static yX11_isTrait ∈ TBL := inT5 163 rfl rfl
theorem mf_X11_kept : zMf yX11_kept cX11_kept 3 (some .int) 2 := ⟨inT1 1 rfl rfl, inT5 192 rfl rfl, ⟨by decide +kernel, by decide +kernel, by decide +kernel⟩, Nat.le_of_ble_eq_true rfl, by decide +kernel⟩
theorem mf_X11_letter : zMf yX11_letter cX11_letter 4 (some .int) 3 := ⟨inT1 1 rfl rfl, inT4 55 rfl rfl, ⟨by decide +kernel, by decide +kernel, by decide +kernel⟩, Nat.le_of_ble_eq_true rfl, by decide +kernel⟩
theorem mf_X11_octet : zMf yX11_octet cX11_octet 2 (some .int) 1 := ⟨inT1 1 rfl rfl, inT5 223 rfl rfl, ⟨by decide +kernel, by decide +kernel, by decide +kernel⟩, Nat.le_of_ble_eq_true rfl, by decide +kernel⟩
theorem mf_X11_on : zMf yX11_on cX11_on 2 (some .boolean) 0 := ⟨inT1 1 rfl rfl, inT5 227 rfl rfl, ⟨by decide +kernel, by decide +kernel, by decide +kernel⟩, Nat.le_of_ble_eq_true rfl, by decide +kernel⟩
theorem mf_X11_refuse : zMf yX11_refuse cX11_refuse 2 (some .int) 1 := ⟨inT1 1 rfl rfl, inT3 71 rfl rfl, ⟨by decide +kernel, by decide +kernel, by decide +kernel⟩, Nat.le_of_ble_eq_true rfl, by decide +kernel⟩
theorem mf_X11_remember : zMf yX11_remember cX11_remember 1 none 0 := ⟨inT1 1 rfl rfl, inT5 144 rfl rfl, ⟨by decide +kernel, by decide +kernel, by decide +kernel⟩, Nat.le_of_ble_eq_true rfl, by decide +kernel⟩
theorem mf_X11_round : zMf yX11_round cX11_round 3 (some .int) 2 := ⟨inT1 1 rfl rfl, inT5 76 rfl rfl, ⟨by decide +kernel, by decide +kernel, by decide +kernel⟩, Nat.le_of_ble_eq_true rfl, by decide +kernel⟩
theorem mf_X11_seed : zMf yX11_seed cX11_seed 2 (some .boolean) 1 := ⟨inT1 1 rfl rfl, inT5 188 rfl rfl, ⟨by decide +kernel, by decide +kernel, by decide +kernel⟩, Nat.le_of_ble_eq_true rfl, by decide +kernel⟩
theorem mf_X11_send : zMf yX11_send cX11_send 2 (some .int) 1 := ⟨inT1 1 rfl rfl, inT5 63 rfl rfl, ⟨by decide +kernel, by decide +kernel, by decide +kernel⟩, Nat.le_of_ble_eq_true rfl, by decide +kernel⟩
theorem mf_X11_setTriple : zMf yX11_setTriple cX11_setTriple 5 none 5 := ⟨inT1 1 rfl rfl, inT3 164 rfl rfl, ⟨by decide +kernel, by decide +kernel, by decide +kernel⟩, Nat.le_of_ble_eq_true rfl, by decide +kernel⟩
theorem ms_X11_setTriple : Cond.static yX11_setTriple ∈ TBL := inT3 163 rfl rfl
theorem mf_X11_status : zMf yX11_status cX11_status 2 (some .int) 1 := ⟨inT1 1 rfl rfl, inT6 11 rfl rfl, ⟨by decide +kernel, by decide +kernel, by decide +kernel⟩, Nat.le_of_ble_eq_true rfl, by decide +kernel⟩
theorem mf_X11_swap : zMf yX11_swap cX11_swap 3 (some .boolean) 2 := ⟨inT1 1 rfl rfl, inT5 173 rfl rfl, ⟨by decide +kernel, by decide +kernel, by decide +kernel⟩, Nat.le_of_ble_eq_true rfl, by decide +kernel⟩
theorem mf_X11_tastes : zMf yX11_tastes cX11_tastes 2 (some .int) 1 := ⟨inT1 1 rfl rfl, inT5 35 rfl rfl, ⟨by decide +kernel, by decide +kernel, by decide +kernel⟩, Nat.le_of_ble_eq_true rfl, by decide +kernel⟩
theorem mf_X11_tell : zMf yX11_tell cX11_tell 2 (some .int) 0 := ⟨inT1 1 rfl rfl, inT5 19 rfl rfl, ⟨by decide +kernel, by decide +kernel, by decide +kernel⟩, Nat.le_of_ble_eq_true rfl, by decide +kernel⟩
theorem mf_X11_torn : zMf yX11_torn cX11_torn 3 (some .int) 0 := ⟨inT1 1 rfl rfl, inT5 124 rfl rfl, ⟨by decide +kernel, by decide +kernel, by decide +kernel⟩, Nat.le_of_ble_eq_true rfl, by decide +kernel⟩
theorem mf_X11_train : zMf yX11_train cX11_train 5 (some .boolean) 4 := ⟨inT1 1 rfl rfl, inT5 169 rfl rfl, ⟨by decide +kernel, by decide +kernel, by decide +kernel⟩, Nat.le_of_ble_eq_true rfl, by decide +kernel⟩
theorem mf_X11_undo : zMf yX11_undo cX11_undo 1 (some .boolean) 0 := ⟨inT1 1 rfl rfl, inT5 184 rfl rfl, ⟨by decide +kernel, by decide +kernel, by decide +kernel⟩, Nat.le_of_ble_eq_true rfl, by decide +kernel⟩
theorem mf_X11_walk : zMf yX11_walk cX11_walk 3 (some .int) 2 := ⟨inT1 1 rfl rfl, inT5 107 rfl rfl, ⟨by decide +kernel, by decide +kernel, by decide +kernel⟩, Nat.le_of_ble_eq_true rfl, by decide +kernel⟩
theorem mf_X11_zoo : zMf yX11_zoo cX11_zoo 3 (some .int) 0 := ⟨inT1 1 rfl rfl, inT3 83 rfl rfl, ⟨by decide +kernel, by decide +kernel, by decide +kernel⟩, Nat.le_of_ble_eq_true rfl, by decide +kernel⟩
theorem mf_X12_add : zMf yX12_add cX12_add 3 none 2 := ⟨inT1 17 rfl rfl, inT7 188 rfl rfl, ⟨by decide +kernel, by decide +kernel, by decide +kernel⟩, Nat.le_of_ble_eq_true rfl, by decide +kernel⟩
theorem mf_X12_ahead : zMf yX12_ahead cX12_ahead 6 none 0 := ⟨inT1 17 rfl rfl, inT7 39 rfl rfl, ⟨by decide +kernel, by decide +kernel, by decide +kernel⟩, Nat.le_of_ble_eq_true rfl, by decide +kernel⟩
theorem mf_X12_alone : zMf yX12_alone cX12_alone 4 (some .int) 1 := ⟨inT1 17 rfl rfl, inT8 132 rfl rfl, ⟨by decide +kernel, by decide +kernel, by decide +kernel⟩, Nat.le_of_ble_eq_true rfl, by decide +kernel⟩
theorem mf_X12_areNine : zMf yX12_areNine cX12_areNine 4 (some .boolean) 3 := ⟨inT1 17 rfl rfl, inT8 223 rfl rfl, ⟨by decide +kernel, by decide +kernel, by decide +kernel⟩, Nat.le_of_ble_eq_true rfl, by decide +kernel⟩
theorem mf_X12_askedBut : zMf yX12_askedBut cX12_askedBut 4 (some .int) 2 := ⟨inT1 17 rfl rfl, inT7 138 rfl rfl, ⟨by decide +kernel, by decide +kernel, by decide +kernel⟩, Nat.le_of_ble_eq_true rfl, by decide +kernel⟩
theorem mf_X12_asking : zMf yX12_asking cX12_asking 6 (some .int) 1 := ⟨inT1 17 rfl rfl, inT8 100 rfl rfl, ⟨by decide +kernel, by decide +kernel, by decide +kernel⟩, Nat.le_of_ble_eq_true rfl, by decide +kernel⟩
theorem mf_X12_asks : zMf yX12_asks cX12_asks 4 (some .int) 2 := ⟨inT1 17 rfl rfl, inT8 92 rfl rfl, ⟨by decide +kernel, by decide +kernel, by decide +kernel⟩, Nat.le_of_ble_eq_true rfl, by decide +kernel⟩
theorem mf_X12_beast : zMf yX12_beast cX12_beast 4 (some .int) 2 := ⟨inT1 17 rfl rfl, inT8 24 rfl rfl, ⟨by decide +kernel, by decide +kernel, by decide +kernel⟩, Nat.le_of_ble_eq_true rfl, by decide +kernel⟩
theorem mf_X12_beastOn : zMf yX12_beastOn cX12_beastOn 7 (some .boolean) 2 := ⟨inT1 17 rfl rfl, inT9 35 rfl rfl, ⟨by decide +kernel, by decide +kernel, by decide +kernel⟩, Nat.le_of_ble_eq_true rfl, by decide +kernel⟩
theorem mf_X12_beasting : zMf yX12_beasting cX12_beasting 3 none 0 := ⟨inT1 17 rfl rfl, inT7 66 rfl rfl, ⟨by decide +kernel, by decide +kernel, by decide +kernel⟩, Nat.le_of_ble_eq_true rfl, by decide +kernel⟩
theorem mf_X12_begin : zMf yX12_begin cX12_begin 2 none 0 := ⟨inT1 17 rfl rfl, inT7 215 rfl rfl, ⟨by decide +kernel, by decide +kernel, by decide +kernel⟩, Nat.le_of_ble_eq_true rfl, by decide +kernel⟩
theorem mf_X12_between : zMf yX12_between cX12_between 4 (some .int) 3 := ⟨inT1 17 rfl rfl, inT8 52 rfl rfl, ⟨by decide +kernel, by decide +kernel, by decide +kernel⟩, Nat.le_of_ble_eq_true rfl, by decide +kernel⟩
theorem mf_X12_bits : zMf yX12_bits cX12_bits 3 (some .int) 1 := ⟨inT1 17 rfl rfl, inT8 139 rfl rfl, ⟨by decide +kernel, by decide +kernel, by decide +kernel⟩, Nat.le_of_ble_eq_true rfl, by decide +kernel⟩
theorem ms_X12_bits : Cond.static yX12_bits ∈ TBL := inT8 138 rfl rfl
theorem mf_X12_blame : zMf yX12_blame cX12_blame 3 none 2 := ⟨inT1 17 rfl rfl, inT7 57 rfl rfl, ⟨by decide +kernel, by decide +kernel, by decide +kernel⟩, Nat.le_of_ble_eq_true rfl, by decide +kernel⟩
theorem mf_X12_bring : zMf yX12_bring cX12_bring 8 (some .int) 1 := ⟨inT1 17 rfl rfl, inT8 136 rfl rfl, ⟨by decide +kernel, by decide +kernel, by decide +kernel⟩, Nat.le_of_ble_eq_true rfl, by decide +kernel⟩
theorem mf_X12_chance : zMf yX12_chance cX12_chance 5 (some .int) 1 := ⟨inT1 17 rfl rfl, inT8 207 rfl rfl, ⟨by decide +kernel, by decide +kernel, by decide +kernel⟩, Nat.le_of_ble_eq_true rfl, by decide +kernel⟩
theorem mf_X12_change : zMf yX12_change cX12_change 5 (some .boolean) 4 := ⟨inT1 17 rfl rfl, inT8 219 rfl rfl, ⟨by decide +kernel, by decide +kernel, by decide +kernel⟩, Nat.le_of_ble_eq_true rfl, by decide +kernel⟩
theorem mf_X12_comes : zMf yX12_comes cX12_comes 5 (some .int) 3 := ⟨inT1 17 rfl rfl, inT8 120 rfl rfl, ⟨by decide +kernel, by decide +kernel, by decide +kernel⟩, Nat.le_of_ble_eq_true rfl, by decide +kernel⟩
theorem mf_X12_comesOn : zMf yX12_comesOn cX12_comesOn 6 (some .boolean) 1 := ⟨inT1 17 rfl rfl, inT9 23 rfl rfl, ⟨by decide +kernel, by decide +kernel, by decide +kernel⟩, Nat.le_of_ble_eq_true rfl, by decide +kernel⟩
theorem mf_X12_copies : zMf yX12_copies cX12_copies 4 none 2 := ⟨inT1 17 rfl rfl, inT7 239 rfl rfl, ⟨by decide +kernel, by decide +kernel, by decide +kernel⟩, Nat.le_of_ble_eq_true rfl, by decide +kernel⟩
theorem mf_X12_counts : zMf yX12_counts cX12_counts 2 (some .boolean) 1 := ⟨inT1 17 rfl rfl, inT7 70 rfl rfl, ⟨by decide +kernel, by decide +kernel, by decide +kernel⟩, Nat.le_of_ble_eq_true rfl, by decide +kernel⟩
theorem mf_X12_dawns : zMf yX12_dawns cX12_dawns 3 none 1 := ⟨inT1 17 rfl rfl, inT7 219 rfl rfl, ⟨by decide +kernel, by decide +kernel, by decide +kernel⟩, Nat.le_of_ble_eq_true rfl, by decide +kernel⟩
theorem mf_X12_digit : zMf yX12_digit cX12_digit 2 (some .int) 2 := ⟨inT1 17 rfl rfl, inT8 151 rfl rfl, ⟨by decide +kernel, by decide +kernel, by decide +kernel⟩, Nat.le_of_ble_eq_true rfl, by decide +kernel⟩
theorem ms_X12_digit : Cond.static yX12_digit ∈ TBL := inT8 150 rfl rfl
theorem mf_X12_draw : zMf yX12_draw cX12_draw 2 (some .int) 1 := ⟨inT1 17 rfl rfl, inT8 211 rfl rfl, ⟨by decide +kernel, by decide +kernel, by decide +kernel⟩, Nat.le_of_ble_eq_true rfl, by decide +kernel⟩
theorem mf_X12_dress : zMf yX12_dress cX12_dress 9 (some .int) 3 := ⟨inT1 17 rfl rfl, inT8 147 rfl rfl, ⟨by decide +kernel, by decide +kernel, by decide +kernel⟩, Nat.le_of_ble_eq_true rfl, by decide +kernel⟩
theorem mf_X12_end : zMf yX12_end cX12_end 2 (some .boolean) 1 := ⟨inT1 17 rfl rfl, inT7 31 rfl rfl, ⟨by decide +kernel, by decide +kernel, by decide +kernel⟩, Nat.le_of_ble_eq_true rfl, by decide +kernel⟩
theorem mf_X12_fault : zMf yX12_fault cX12_fault 2 (some .int) 1 := ⟨inT1 17 rfl rfl, inT7 223 rfl rfl, ⟨by decide +kernel, by decide +kernel, by decide +kernel⟩, Nat.le_of_ble_eq_true rfl, by decide +kernel⟩
theorem mf_X12_fearing : zMf yX12_fearing cX12_fearing 3 none 0 := ⟨inT1 17 rfl rfl, inT7 153 rfl rfl, ⟨by decide +kernel, by decide +kernel, by decide +kernel⟩, Nat.le_of_ble_eq_true rfl, by decide +kernel⟩
theorem mf_X12_feed : zMf yX12_feed cX12_feed 6 (some .int) 5 := ⟨inT1 17 rfl rfl, inT7 19 rfl rfl, ⟨by decide +kernel, by decide +kernel, by decide +kernel⟩, Nat.le_of_ble_eq_true rfl, by decide +kernel⟩
theorem mf_X12_finishes : zMf yX12_finishes cX12_finishes 3 none 1 := ⟨inT1 17 rfl rfl, inT7 207 rfl rfl, ⟨by decide +kernel, by decide +kernel, by decide +kernel⟩, Nat.le_of_ble_eq_true rfl, by decide +kernel⟩
theorem mf_X12_floor : zMf yX12_floor cX12_floor 6 (some .long) 2 := ⟨inT1 17 rfl rfl, inT8 87 rfl rfl, ⟨by decide +kernel, by decide +kernel, by decide +kernel⟩, Nat.le_of_ble_eq_true rfl, by decide +kernel⟩
theorem ms_X12_floor : Cond.static yX12_floor ∈ TBL := inT8 86 rfl rfl
theorem mf_X12_fresh : zMf yX12_fresh cX12_fresh 3 (some .long) 0 := ⟨inT1 17 rfl rfl, inT7 74 rfl rfl, ⟨by decide +kernel, by decide +kernel, by decide +kernel⟩, Nat.le_of_ble_eq_true rfl, by decide +kernel⟩
theorem mf_X12_goesOn : zMf yX12_goesOn cX12_goesOn 5 (some .boolean) 0 := ⟨inT1 17 rfl rfl, inT7 192 rfl rfl, ⟨by decide +kernel, by decide +kernel, by decide +kernel⟩, Nat.le_of_ble_eq_true rfl, by decide +kernel⟩
theorem mf_X12_guest : zMf yX12_guest cX12_guest 3 (some .int) 2 := ⟨inT1 17 rfl rfl, inT8 40 rfl rfl, ⟨by decide +kernel, by decide +kernel, by decide +kernel⟩, Nat.le_of_ble_eq_true rfl, by decide +kernel⟩
theorem mf_X12_guestOn : zMf yX12_guestOn cX12_guestOn 4 (some .boolean) 2 := ⟨inT1 17 rfl rfl, inT9 31 rfl rfl, ⟨by decide +kernel, by decide +kernel, by decide +kernel⟩, Nat.le_of_ble_eq_true rfl, by decide +kernel⟩
theorem mf_X12_guesting : zMf yX12_guesting cX12_guesting 3 none 0 := ⟨inT1 17 rfl rfl, inT7 149 rfl rfl, ⟨by decide +kernel, by decide +kernel, by decide +kernel⟩, Nat.le_of_ble_eq_true rfl, by decide +kernel⟩
theorem mf_X12_has : zMf yX12_has cX12_has 4 (some .int) 1 := ⟨inT1 17 rfl rfl, inT8 3 rfl rfl, ⟨by decide +kernel, by decide +kernel, by decide +kernel⟩, Nat.le_of_ble_eq_true rfl, by decide +kernel⟩
theorem mf_X12_has2 : zMf yX12_has2 cX12_has2 2 (some .boolean) 2 := ⟨inT1 17 rfl rfl, inT7 141 rfl rfl, ⟨by decide +kernel, by decide +kernel, by decide +kernel⟩, Nat.le_of_ble_eq_true rfl, by decide +kernel⟩
theorem ms_X12_has2 : Cond.static yX12_has2 ∈ TBL := inT7 140 rfl rfl
theorem mf_X12_held : zMf yX12_held cX12_held 2 (some .long) 1 := ⟨inT1 17 rfl rfl, inT8 82 rfl rfl, ⟨by decide +kernel, by decide +kernel, by decide +kernel⟩, Nat.le_of_ble_eq_true rfl, by decide +kernel⟩
theorem ms_X12_held : Cond.static yX12_held ∈ TBL := inT8 81 rfl rfl
theorem mf_X12_holdsBack : zMf yX12_holdsBack cX12_holdsBack 2 none 1 := ⟨inT1 17 rfl rfl, inT7 176 rfl rfl, ⟨by decide +kernel, by decide +kernel, by decide +kernel⟩, Nat.le_of_ble_eq_true rfl, by decide +kernel⟩
theorem mf_X12_hourIn : zMf yX12_hourIn cX12_hourIn 2 (some .int) 1 := ⟨inT1 17 rfl rfl, inT8 7 rfl rfl, ⟨by decide +kernel, by decide +kernel, by decide +kernel⟩, Nat.le_of_ble_eq_true rfl, by decide +kernel⟩
theorem mf_X12_hours : zMf yX12_hours cX12_hours 4 (some .int) 1 := ⟨inT1 17 rfl rfl, inT8 199 rfl rfl, ⟨by decide +kernel, by decide +kernel, by decide +kernel⟩, Nat.le_of_ble_eq_true rfl, by decide +kernel⟩
theorem mf_X12_image : zMf yX12_image cX12_image 3 (some .int) 0 := ⟨inT1 17 rfl rfl, inT9 3 rfl rfl, ⟨by decide +kernel, by decide +kernel, by decide +kernel⟩, Nat.le_of_ble_eq_true rfl, by decide +kernel⟩
theorem mf_X12_is : zMf yX12_is cX12_is 3 (some .boolean) 3 := ⟨inT1 17 rfl rfl, inT7 130 rfl rfl, ⟨by decide +kernel, by decide +kernel, by decide +kernel⟩, Nat.le_of_ble_eq_true rfl, by decide +kernel⟩
theorem ms_X12_is : Cond.static yX12_is ∈ TBL := inT7 129 rfl rfl
theorem mf_X12_isAhead : zMf yX12_isAhead cX12_isAhead 4 (some .boolean) 3 := ⟨inT1 17 rfl rfl, inT8 96 rfl rfl, ⟨by decide +kernel, by decide +kernel, by decide +kernel⟩, Nat.le_of_ble_eq_true rfl, by decide +kernel⟩
theorem mf_X12_isAllowed : zMf yX12_isAllowed cX12_isAllowed 6 (some .boolean) 4 := ⟨inT1 17 rfl rfl, inT8 112 rfl rfl, ⟨by decide +kernel, by decide +kernel, by decide +kernel⟩, Nat.le_of_ble_eq_true rfl, by decide +kernel⟩
theorem mf_X12_isAwake : zMf yX12_isAwake cX12_isAwake 3 (some .boolean) 2 := ⟨inT1 17 rfl rfl, inT8 36 rfl rfl, ⟨by decide +kernel, by decide +kernel, by decide +kernel⟩, Nat.le_of_ble_eq_true rfl, by decide +kernel⟩
theorem mf_X12_isBeast : zMf yX12_isBeast cX12_isBeast 2 (some .boolean) 1 := ⟨inT1 17 rfl rfl, inT8 28 rfl rfl, ⟨by decide +kernel, by decide +kernel, by decide +kernel⟩, Nat.le_of_ble_eq_true rfl, by decide +kernel⟩
theorem mf_X12_isBest : zMf yX12_isBest cX12_isBest 4 (some .boolean) 3 := ⟨inT1 17 rfl rfl, inT8 143 rfl rfl, ⟨by decide +kernel, by decide +kernel, by decide +kernel⟩, Nat.le_of_ble_eq_true rfl, by decide +kernel⟩
theorem mf_X12_isDefault : zMf yX12_isDefault cX12_isDefault 2 none 1 := ⟨inT1 17 rfl rfl, inT6 21 rfl rfl, ⟨by decide +kernel, by decide +kernel, by decide +kernel⟩, Nat.le_of_ble_eq_true rfl, by decide +kernel⟩
theorem mf_X12_isDigit : zMf yX12_isDigit cX12_isDigit 1 (some .boolean) 1 := ⟨inT1 17 rfl rfl, inT7 45 rfl rfl, ⟨by decide +kernel, by decide +kernel, by decide +kernel⟩, Nat.le_of_ble_eq_true rfl, by decide +kernel⟩
theorem ms_X12_isDigit : Cond.static yX12_isDigit ∈ TBL := inT7 44 rfl rfl
theorem mf_X12_isFeared : zMf yX12_isFeared cX12_isFeared 3 (some .boolean) 2 := ⟨inT1 17 rfl rfl, inT8 116 rfl rfl, ⟨by decide +kernel, by decide +kernel, by decide +kernel⟩, Nat.le_of_ble_eq_true rfl, by decide +kernel⟩
theorem mf_X12_isGuest : zMf yX12_isGuest cX12_isGuest 2 (some .boolean) 1 := ⟨inT1 17 rfl rfl, inT8 44 rfl rfl, ⟨by decide +kernel, by decide +kernel, by decide +kernel⟩, Nat.le_of_ble_eq_true rfl, by decide +kernel⟩
theorem mf_X12_isInRing : zMf yX12_isInRing cX12_isInRing 4 (some .boolean) 1 := ⟨inT1 17 rfl rfl, inT8 187 rfl rfl, ⟨by decide +kernel, by decide +kernel, by decide +kernel⟩, Nat.le_of_ble_eq_true rfl, by decide +kernel⟩
theorem mf_X12_isLetter : zMf yX12_isLetter cX12_isLetter 1 (some .boolean) 1 := ⟨inT1 17 rfl rfl, inT7 42 rfl rfl, ⟨by decide +kernel, by decide +kernel, by decide +kernel⟩, Nat.le_of_ble_eq_true rfl, by decide +kernel⟩
theorem ms_X12_isLetter : Cond.static yX12_isLetter ∈ TBL := inT7 41 rfl rfl
theorem mf_X12_isOpenTo : zMf yX12_isOpenTo cX12_isOpenTo 4 (some .boolean) 3 := ⟨inT1 17 rfl rfl, inT8 108 rfl rfl, ⟨by decide +kernel, by decide +kernel, by decide +kernel⟩, Nat.le_of_ble_eq_true rfl, by decide +kernel⟩
theorem mf_X12_isOver : zMf yX12_isOver cX12_isOver 2 none 1 := ⟨inT1 17 rfl rfl, inT8 128 rfl rfl, ⟨by decide +kernel, by decide +kernel, by decide +kernel⟩, Nat.le_of_ble_eq_true rfl, by decide +kernel⟩
theorem mf_X12_isOwn : zMf yX12_isOwn cX12_isOwn 3 (some .boolean) 1 := ⟨inT1 17 rfl rfl, inT7 78 rfl rfl, ⟨by decide +kernel, by decide +kernel, by decide +kernel⟩, Nat.le_of_ble_eq_true rfl, by decide +kernel⟩
theorem mf_X12_isSign : zMf yX12_isSign cX12_isSign 2 (some .boolean) 1 := ⟨inT1 17 rfl rfl, inT7 180 rfl rfl, ⟨by decide +kernel, by decide +kernel, by decide +kernel⟩, Nat.le_of_ble_eq_true rfl, by decide +kernel⟩
theorem mf_X12_isTaste : zMf yX12_isTaste cX12_isTaste 3 (some .boolean) 1 := ⟨inT1 17 rfl rfl, inT8 166 rfl rfl, ⟨by decide +kernel, by decide +kernel, by decide +kernel⟩, Nat.le_of_ble_eq_true rfl, by decide +kernel⟩
theorem mf_X12_isTest : zMf yX12_isTest cX12_isTest 1 (some .boolean) 1 := ⟨inT1 17 rfl rfl, inT7 172 rfl rfl, ⟨by decide +kernel, by decide +kernel, by decide +kernel⟩, Nat.le_of_ble_eq_true rfl, by decide +kernel⟩
theorem ms_X12_isTest : Cond.static yX12_isTest ∈ TBL := inT7 171 rfl rfl
theorem mf_X12_isThere : zMf yX12_isThere cX12_isThere 3 (some .boolean) 2 := ⟨inT1 17 rfl rfl, inT8 15 rfl rfl, ⟨by decide +kernel, by decide +kernel, by decide +kernel⟩, Nat.le_of_ble_eq_true rfl, by decide +kernel⟩
theorem mf_X12_isTold : zMf yX12_isTold cX12_isTold 2 (some .boolean) 1 := ⟨inT1 17 rfl rfl, inT8 64 rfl rfl, ⟨by decide +kernel, by decide +kernel, by decide +kernel⟩, Nat.le_of_ble_eq_true rfl, by decide +kernel⟩
theorem mf_X12_isWord : zMf yX12_isWord cX12_isWord 3 (some .boolean) 1 := ⟨inT1 17 rfl rfl, inT7 62 rfl rfl, ⟨by decide +kernel, by decide +kernel, by decide +kernel⟩, Nat.le_of_ble_eq_true rfl, by decide +kernel⟩
theorem mf_X12_joins : zMf yX12_joins cX12_joins 2 none 1 := ⟨inT1 17 rfl rfl, inT7 196 rfl rfl, ⟨by decide +kernel, by decide +kernel, by decide +kernel⟩, Nat.le_of_ble_eq_true rfl, by decide +kernel⟩
theorem mf_X12_keeps : zMf yX12_keeps cX12_keeps 1 none 0 := ⟨inT1 17 rfl rfl, inT8 203 rfl rfl, ⟨by decide +kernel, by decide +kernel, by decide +kernel⟩, Nat.le_of_ble_eq_true rfl, by decide +kernel⟩
theorem mf_X12_kept : zMf yX12_kept cX12_kept 3 (some .int) 2 := ⟨inT1 17 rfl rfl, inT8 239 rfl rfl, ⟨by decide +kernel, by decide +kernel, by decide +kernel⟩, Nat.le_of_ble_eq_true rfl, by decide +kernel⟩
theorem mf_X12_letter : zMf yX12_letter cX12_letter 9 (some .int) 3 := ⟨inT1 17 rfl rfl, inT8 19 rfl rfl, ⟨by decide +kernel, by decide +kernel, by decide +kernel⟩, Nat.le_of_ble_eq_true rfl, by decide +kernel⟩
theorem mf_X12_lex : zMf yX12_lex cX12_lex 1 none 0 := ⟨inT1 17 rfl rfl, inT7 53 rfl rfl, ⟨by decide +kernel, by decide +kernel, by decide +kernel⟩, Nat.le_of_ble_eq_true rfl, by decide +kernel⟩
theorem mf_X12_liked : zMf yX12_liked cX12_liked 6 (some .int) 3 := ⟨inT1 17 rfl rfl, inT8 60 rfl rfl, ⟨by decide +kernel, by decide +kernel, by decide +kernel⟩, Nat.le_of_ble_eq_true rfl, by decide +kernel⟩
theorem mf_X12_look : zMf yX12_look cX12_look 4 (some .int) 3 := ⟨inT1 17 rfl rfl, inT8 48 rfl rfl, ⟨by decide +kernel, by decide +kernel, by decide +kernel⟩, Nat.le_of_ble_eq_true rfl, by decide +kernel⟩
theorem mf_X12_manyOf : zMf yX12_manyOf cX12_manyOf 3 (some .int) 2 := ⟨inT1 17 rfl rfl, inT7 115 rfl rfl, ⟨by decide +kernel, by decide +kernel, by decide +kernel⟩, Nat.le_of_ble_eq_true rfl, by decide +kernel⟩
theorem mf_X12_must : zMf yX12_must cX12_must 2 none 1 := ⟨inT1 17 rfl rfl, inT7 211 rfl rfl, ⟨by decide +kernel, by decide +kernel, by decide +kernel⟩, Nat.le_of_ble_eq_true rfl, by decide +kernel⟩
theorem mf_X12_must_ : zMf yX12_must_ cX12_must_ 3 none 1 := ⟨inT1 17 rfl rfl, inT7 123 rfl rfl, ⟨by decide +kernel, by decide +kernel, by decide +kernel⟩, Nat.le_of_ble_eq_true rfl, by decide +kernel⟩
theorem mf_X12_nameOf : zMf yX12_nameOf cX12_nameOf 4 (some .long) 3 := ⟨inT1 17 rfl rfl, inT7 119 rfl rfl, ⟨by decide +kernel, by decide +kernel, by decide +kernel⟩, Nat.le_of_ble_eq_true rfl, by decide +kernel⟩
theorem mf_X12_named : zMf yX12_named cX12_named 5 (some .int) 2 := ⟨inT1 17 rfl rfl, inT7 111 rfl rfl, ⟨by decide +kernel, by decide +kernel, by decide +kernel⟩, Nat.le_of_ble_eq_true rfl, by decide +kernel⟩
theorem mf_X12_number : zMf yX12_number cX12_number 4 (some .int) 2 := ⟨inT1 17 rfl rfl, inT7 127 rfl rfl, ⟨by decide +kernel, by decide +kernel, by decide +kernel⟩, Nat.le_of_ble_eq_true rfl, by decide +kernel⟩
theorem mf_X12_octet : zMf yX12_octet cX12_octet 2 (some .int) 1 := ⟨inT1 17 rfl rfl, inT9 15 rfl rfl, ⟨by decide +kernel, by decide +kernel, by decide +kernel⟩, Nat.le_of_ble_eq_true rfl, by decide +kernel⟩
theorem mf_X12_off : zMf yX12_off cX12_off 2 (some .int) 2 := ⟨inT1 17 rfl rfl, inT8 154 rfl rfl, ⟨by decide +kernel, by decide +kernel, by decide +kernel⟩, Nat.le_of_ble_eq_true rfl, by decide +kernel⟩
theorem ms_X12_off : Cond.static yX12_off ∈ TBL := inT8 153 rfl rfl
theorem mf_X12_on : zMf yX12_on cX12_on 2 (some .boolean) 0 := ⟨inT1 17 rfl rfl, inT9 19 rfl rfl, ⟨by decide +kernel, by decide +kernel, by decide +kernel⟩, Nat.le_of_ble_eq_true rfl, by decide +kernel⟩
theorem mf_X12_opens : zMf yX12_opens cX12_opens 2 none 1 := ⟨inT1 17 rfl rfl, inT7 184 rfl rfl, ⟨by decide +kernel, by decide +kernel, by decide +kernel⟩, Nat.le_of_ble_eq_true rfl, by decide +kernel⟩
theorem mf_X12_operand : zMf yX12_operand cX12_operand 4 (some .boolean) 0 := ⟨inT1 17 rfl rfl, inT7 169 rfl rfl, ⟨by decide +kernel, by decide +kernel, by decide +kernel⟩, Nat.le_of_ble_eq_true rfl, by decide +kernel⟩
theorem mf_X12_pair : zMf yX12_pair cX12_pair 4 (some .int) 3 := ⟨inT1 17 rfl rfl, inT8 68 rfl rfl, ⟨by decide +kernel, by decide +kernel, by decide +kernel⟩, Nat.le_of_ble_eq_true rfl, by decide +kernel⟩
theorem mf_X12_pointed : zMf yX12_pointed cX12_pointed 5 (some .int) 2 := ⟨inT1 17 rfl rfl, inT8 183 rfl rfl, ⟨by decide +kernel, by decide +kernel, by decide +kernel⟩, Nat.le_of_ble_eq_true rfl, by decide +kernel⟩
theorem mf_X12_pushes : zMf yX12_pushes cX12_pushes 2 none 1 := ⟨inT1 17 rfl rfl, inT7 165 rfl rfl, ⟨by decide +kernel, by decide +kernel, by decide +kernel⟩, Nat.le_of_ble_eq_true rfl, by decide +kernel⟩
theorem mf_X12_put : zMf yX12_put cX12_put 3 none 1 := ⟨inT1 17 rfl rfl, inT7 27 rfl rfl, ⟨by decide +kernel, by decide +kernel, by decide +kernel⟩, Nat.le_of_ble_eq_true rfl, by decide +kernel⟩
theorem mf_X12_rank : zMf yX12_rank cX12_rank 1 (some .int) 1 := ⟨inT1 17 rfl rfl, inT7 199 rfl rfl, ⟨by decide +kernel, by decide +kernel, by decide +kernel⟩, Nat.le_of_ble_eq_true rfl, by decide +kernel⟩
theorem ms_X12_rank : Cond.static yX12_rank ∈ TBL := inT7 198 rfl rfl
theorem mf_X12_reading : zMf yX12_reading cX12_reading 3 none 1 := ⟨inT1 17 rfl rfl, inT7 157 rfl rfl, ⟨by decide +kernel, by decide +kernel, by decide +kernel⟩, Nat.le_of_ble_eq_true rfl, by decide +kernel⟩
theorem mf_X12_reads : zMf yX12_reads cX12_reads 3 none 1 := ⟨inT1 17 rfl rfl, inT7 161 rfl rfl, ⟨by decide +kernel, by decide +kernel, by decide +kernel⟩, Nat.le_of_ble_eq_true rfl, by decide +kernel⟩
theorem mf_X12_reckons : zMf yX12_reckons cX12_reckons 5 (some .long) 1 := ⟨inT1 17 rfl rfl, inT8 76 rfl rfl, ⟨by decide +kernel, by decide +kernel, by decide +kernel⟩, Nat.le_of_ble_eq_true rfl, by decide +kernel⟩
theorem mf_X12_refuses : zMf yX12_refuses cX12_refuses 2 (some .int) 1 := ⟨inT1 17 rfl rfl, inT7 23 rfl rfl, ⟨by decide +kernel, by decide +kernel, by decide +kernel⟩, Nat.le_of_ble_eq_true rfl, by decide +kernel⟩
theorem mf_X12_round : zMf yX12_round cX12_round 7 (some .int) 2 := ⟨inT1 17 rfl rfl, inT8 179 rfl rfl, ⟨by decide +kernel, by decide +kernel, by decide +kernel⟩, Nat.le_of_ble_eq_true rfl, by decide +kernel⟩
theorem mf_X12_seed : zMf yX12_seed cX12_seed 2 (some .boolean) 1 := ⟨inT1 17 rfl rfl, inT8 235 rfl rfl, ⟨by decide +kernel, by decide +kernel, by decide +kernel⟩, Nat.le_of_ble_eq_true rfl, by decide +kernel⟩
theorem mf_X12_send : zMf yX12_send cX12_send 9 (some .int) 1 := ⟨inT1 17 rfl rfl, inT8 174 rfl rfl, ⟨by decide +kernel, by decide +kernel, by decide +kernel⟩, Nat.le_of_ble_eq_true rfl, by decide +kernel⟩
theorem mf_X12_slot : zMf yX12_slot cX12_slot 2 (some .int) 1 := ⟨inT1 17 rfl rfl, inT7 235 rfl rfl, ⟨by decide +kernel, by decide +kernel, by decide +kernel⟩, Nat.le_of_ble_eq_true rfl, by decide +kernel⟩
theorem mf_X12_statement : zMf yX12_statement cX12_statement 1 none 0 := ⟨inT1 17 rfl rfl, inT7 49 rfl rfl, ⟨by decide +kernel, by decide +kernel, by decide +kernel⟩, Nat.le_of_ble_eq_true rfl, by decide +kernel⟩
theorem mf_X12_status : zMf yX12_status cX12_status 2 (some .int) 1 := ⟨inT1 17 rfl rfl, inT7 227 rfl rfl, ⟨by decide +kernel, by decide +kernel, by decide +kernel⟩, Nat.le_of_ble_eq_true rfl, by decide +kernel⟩
theorem mf_X12_suiting : zMf yX12_suiting cX12_suiting 6 (some .int) 3 := ⟨inT1 17 rfl rfl, inT8 56 rfl rfl, ⟨by decide +kernel, by decide +kernel, by decide +kernel⟩, Nat.le_of_ble_eq_true rfl, by decide +kernel⟩
theorem mf_X12_suitsBy : zMf yX12_suitsBy cX12_suitsBy 5 (some .int) 2 := ⟨inT1 17 rfl rfl, inT8 170 rfl rfl, ⟨by decide +kernel, by decide +kernel, by decide +kernel⟩, Nat.le_of_ble_eq_true rfl, by decide +kernel⟩
theorem mf_X12_swap : zMf yX12_swap cX12_swap 8 (some .boolean) 2 := ⟨inT1 17 rfl rfl, inT8 231 rfl rfl, ⟨by decide +kernel, by decide +kernel, by decide +kernel⟩, Nat.le_of_ble_eq_true rfl, by decide +kernel⟩
theorem mf_X12_tasteIn : zMf yX12_tasteIn cX12_tasteIn 4 (some .int) 3 := ⟨inT1 17 rfl rfl, inT8 32 rfl rfl, ⟨by decide +kernel, by decide +kernel, by decide +kernel⟩, Nat.le_of_ble_eq_true rfl, by decide +kernel⟩
theorem mf_X12_tastes : zMf yX12_tastes cX12_tastes 7 (some .int) 1 := ⟨inT1 17 rfl rfl, inT8 162 rfl rfl, ⟨by decide +kernel, by decide +kernel, by decide +kernel⟩, Nat.le_of_ble_eq_true rfl, by decide +kernel⟩
theorem mf_X12_tasting : zMf yX12_tasting cX12_tasting 3 none 0 := ⟨inT1 17 rfl rfl, inT7 134 rfl rfl, ⟨by decide +kernel, by decide +kernel, by decide +kernel⟩, Nat.le_of_ble_eq_true rfl, by decide +kernel⟩
theorem mf_X12_tell : zMf yX12_tell cX12_tell 4 (some .int) 0 := ⟨inT1 17 rfl rfl, inT8 158 rfl rfl, ⟨by decide +kernel, by decide +kernel, by decide +kernel⟩, Nat.le_of_ble_eq_true rfl, by decide +kernel⟩
theorem mf_X12_telling : zMf yX12_telling cX12_telling 5 none 3 := ⟨inT1 17 rfl rfl, inT7 203 rfl rfl, ⟨by decide +kernel, by decide +kernel, by decide +kernel⟩, Nat.le_of_ble_eq_true rfl, by decide +kernel⟩
theorem mf_X12_tells : zMf yX12_tells cX12_tells 4 none 3 := ⟨inT1 17 rfl rfl, inT8 72 rfl rfl, ⟨by decide +kernel, by decide +kernel, by decide +kernel⟩, Nat.le_of_ble_eq_true rfl, by decide +kernel⟩
theorem mf_X12_threes : zMf yX12_threes cX12_threes 2 none 0 := ⟨inT1 17 rfl rfl, inT7 145 rfl rfl, ⟨by decide +kernel, by decide +kernel, by decide +kernel⟩, Nat.le_of_ble_eq_true rfl, by decide +kernel⟩
theorem mf_X12_toldOf : zMf yX12_toldOf cX12_toldOf 2 (some .int) 1 := ⟨inT1 17 rfl rfl, inT8 11 rfl rfl, ⟨by decide +kernel, by decide +kernel, by decide +kernel⟩, Nat.le_of_ble_eq_true rfl, by decide +kernel⟩
theorem mf_X12_torn : zMf yX12_torn cX12_torn 6 (some .int) 0 := ⟨inT1 17 rfl rfl, inT8 195 rfl rfl, ⟨by decide +kernel, by decide +kernel, by decide +kernel⟩, Nat.le_of_ble_eq_true rfl, by decide +kernel⟩
theorem mf_X12_train : zMf yX12_train cX12_train 5 (some .boolean) 4 := ⟨inT1 17 rfl rfl, inT8 227 rfl rfl, ⟨by decide +kernel, by decide +kernel, by decide +kernel⟩, Nat.le_of_ble_eq_true rfl, by decide +kernel⟩
theorem mf_X12_two : zMf yX12_two cX12_two 5 (some .long) 3 := ⟨inT1 17 rfl rfl, inT8 79 rfl rfl, ⟨by decide +kernel, by decide +kernel, by decide +kernel⟩, Nat.le_of_ble_eq_true rfl, by decide +kernel⟩
theorem ms_X12_two : Cond.static yX12_two ∈ TBL := inT8 78 rfl rfl
theorem mf_X12_twoBytes : zMf yX12_twoBytes cX12_twoBytes 2 (some .int) 1 := ⟨inT1 17 rfl rfl, inT9 27 rfl rfl, ⟨by decide +kernel, by decide +kernel, by decide +kernel⟩, Nat.le_of_ble_eq_true rfl, by decide +kernel⟩
theorem mf_X12_undo : zMf yX12_undo cX12_undo 1 (some .boolean) 0 := ⟨inT1 17 rfl rfl, inT7 231 rfl rfl, ⟨by decide +kernel, by decide +kernel, by decide +kernel⟩, Nat.le_of_ble_eq_true rfl, by decide +kernel⟩
theorem mf_X12_walk : zMf yX12_walk cX12_walk 9 (some .int) 2 := ⟨inT1 17 rfl rfl, inT8 191 rfl rfl, ⟨by decide +kernel, by decide +kernel, by decide +kernel⟩, Nat.le_of_ble_eq_true rfl, by decide +kernel⟩
theorem mf_X12_wished : zMf yX12_wished cX12_wished 8 (some .int) 4 := ⟨inT1 17 rfl rfl, inT8 104 rfl rfl, ⟨by decide +kernel, by decide +kernel, by decide +kernel⟩, Nat.le_of_ble_eq_true rfl, by decide +kernel⟩
theorem mf_X12_writes : zMf yX12_writes cX12_writes 2 none 1 := ⟨inT1 17 rfl rfl, inT9 11 rfl rfl, ⟨by decide +kernel, by decide +kernel, by decide +kernel⟩, Nat.le_of_ble_eq_true rfl, by decide +kernel⟩
theorem mf_X12_writesDown : zMf yX12_writesDown cX12_writesDown 6 none 4 := ⟨inT1 17 rfl rfl, inT8 124 rfl rfl, ⟨by decide +kernel, by decide +kernel, by decide +kernel⟩, Nat.le_of_ble_eq_true rfl, by decide +kernel⟩
theorem mf_X12_writesTwo : zMf yX12_writesTwo cX12_writesTwo 2 none 1 := ⟨inT1 17 rfl rfl, inT9 7 rfl rfl, ⟨by decide +kernel, by decide +kernel, by decide +kernel⟩, Nat.le_of_ble_eq_true rfl, by decide +kernel⟩
theorem mf_X12_zoo : zMf yX12_zoo cX12_zoo 2 (some .int) 0 := ⟨inT1 17 rfl rfl, inT7 35 rfl rfl, ⟨by decide +kernel, by decide +kernel, by decide +kernel⟩, Nat.le_of_ble_eq_true rfl, by decide +kernel⟩
theorem mf_X1_add : zMf yX1_add cX1_add 3 none 2 := ⟨inT1 16 rfl rfl, inT3 216 rfl rfl, ⟨by decide +kernel, by decide +kernel, by decide +kernel⟩, Nat.le_of_ble_eq_true rfl, by decide +kernel⟩
theorem mf_X1_joined : zMf yX1_joined cX1_joined 5 (some .int) 3 := ⟨inT1 16 rfl rfl, inT4 112 rfl rfl, ⟨by decide +kernel, by decide +kernel, by decide +kernel⟩, Nat.le_of_ble_eq_true rfl, by decide +kernel⟩
theorem ms_X1_joined : Cond.static yX1_joined ∈ TBL := inT4 111 rfl rfl
theorem mf_X1_operandsOf : zMf yX1_operandsOf cX1_operandsOf 1 (some .int) 1 := ⟨inT1 16 rfl rfl, inT4 106 rfl rfl, ⟨by decide +kernel, by decide +kernel, by decide +kernel⟩, Nat.le_of_ble_eq_true rfl, by decide +kernel⟩
theorem ms_X1_operandsOf : Cond.static yX1_operandsOf ∈ TBL := inT4 105 rfl rfl
theorem mf_X1_pushed : zMf yX1_pushed cX1_pushed 3 (some .int) 3 := ⟨inT1 16 rfl rfl, inT4 109 rfl rfl, ⟨by decide +kernel, by decide +kernel, by decide +kernel⟩, Nat.le_of_ble_eq_true rfl, by decide +kernel⟩
theorem ms_X1_pushed : Cond.static yX1_pushed ∈ TBL := inT4 108 rfl rfl
theorem mf_X1_valueOf : zMf yX1_valueOf cX1_valueOf 7 (some .int) 1 := ⟨inT1 16 rfl rfl, inT4 103 rfl rfl, ⟨by decide +kernel, by decide +kernel, by decide +kernel⟩, Nat.le_of_ble_eq_true rfl, by decide +kernel⟩
theorem mf_X2_digit : zMf yX2_digit cX2_digit 2 (some .int) 2 := ⟨inT1 11 rfl rfl, inT5 49 rfl rfl, ⟨by decide +kernel, by decide +kernel, by decide +kernel⟩, Nat.le_of_ble_eq_true rfl, by decide +kernel⟩
theorem ms_X2_digit : Cond.static yX2_digit ∈ TBL := inT5 48 rfl rfl
theorem mf_X2_findPair : zMf yX2_findPair cX2_findPair 6 none 2 := ⟨inT1 11 rfl rfl, inT5 67 rfl rfl, ⟨by decide +kernel, by decide +kernel, by decide +kernel⟩, Nat.le_of_ble_eq_true rfl, by decide +kernel⟩
theorem mf_X2_fits : zMf yX2_fits cX2_fits 4 (some .boolean) 2 := ⟨inT1 11 rfl rfl, inT5 43 rfl rfl, ⟨by decide +kernel, by decide +kernel, by decide +kernel⟩, Nat.le_of_ble_eq_true rfl, by decide +kernel⟩
theorem mf_X2_gather : zMf yX2_gather cX2_gather 3 none 1 := ⟨inT1 11 rfl rfl, inT5 39 rfl rfl, ⟨by decide +kernel, by decide +kernel, by decide +kernel⟩, Nat.le_of_ble_eq_true rfl, by decide +kernel⟩
theorem mf_X2_greatest : zMf yX2_greatest cX2_greatest 4 (some .int) 1 := ⟨inT1 11 rfl rfl, inT5 58 rfl rfl, ⟨by decide +kernel, by decide +kernel, by decide +kernel⟩, Nat.le_of_ble_eq_true rfl, by decide +kernel⟩
theorem mf_X2_hear : zMf yX2_hear cX2_hear 3 none 1 := ⟨inT1 11 rfl rfl, inT5 31 rfl rfl, ⟨by decide +kernel, by decide +kernel, by decide +kernel⟩, Nat.le_of_ble_eq_true rfl, by decide +kernel⟩
theorem mf_X2_lead : zMf yX2_lead cX2_lead 6 (some .int) 4 := ⟨inT1 11 rfl rfl, inT5 46 rfl rfl, ⟨by decide +kernel, by decide +kernel, by decide +kernel⟩, Nat.le_of_ble_eq_true rfl, by decide +kernel⟩
theorem ms_X2_lead : Cond.static yX2_lead ∈ TBL := inT5 45 rfl rfl
theorem mf_X2_least : zMf yX2_least cX2_least 5 (some .int) 1 := ⟨inT1 11 rfl rfl, inT5 53 rfl rfl, ⟨by decide +kernel, by decide +kernel, by decide +kernel⟩, Nat.le_of_ble_eq_true rfl, by decide +kernel⟩
theorem mf_X2_mostLeft : zMf yX2_mostLeft cX2_mostLeft 8 (some .int) 3 := ⟨inT1 11 rfl rfl, inT5 72 rfl rfl, ⟨by decide +kernel, by decide +kernel, by decide +kernel⟩, Nat.le_of_ble_eq_true rfl, by decide +kernel⟩
theorem mf_X3_check : zMf yX3_check cX3_check 4 (some .int) 2 := ⟨inT1 14 rfl rfl, inT5 219 rfl rfl, ⟨by decide +kernel, by decide +kernel, by decide +kernel⟩, Nat.le_of_ble_eq_true rfl, by decide +kernel⟩
theorem ms_X3_check : Cond.static yX3_check ∈ TBL := inT5 218 rfl rfl
theorem mf_X3_put : zMf yX3_put cX3_put 2 none 1 := ⟨inT1 14 rfl rfl, inT5 212 rfl rfl, ⟨by decide +kernel, by decide +kernel, by decide +kernel⟩, Nat.le_of_ble_eq_true rfl, by decide +kernel⟩
theorem mf_X3_putPair : zMf yX3_putPair cX3_putPair 2 none 1 := ⟨inT1 14 rfl rfl, inT5 208 rfl rfl, ⟨by decide +kernel, by decide +kernel, by decide +kernel⟩, Nat.le_of_ble_eq_true rfl, by decide +kernel⟩
theorem mf_X3_putTriple : zMf yX3_putTriple cX3_putTriple 4 none 2 := ⟨inT1 14 rfl rfl, inT5 216 rfl rfl, ⟨by decide +kernel, by decide +kernel, by decide +kernel⟩, Nat.le_of_ble_eq_true rfl, by decide +kernel⟩
theorem mf_X3_read : zMf yX3_read cX3_read 8 (some .boolean) 3 := ⟨inT1 14 rfl rfl, inT5 231 rfl rfl, ⟨by decide +kernel, by decide +kernel, by decide +kernel⟩, Nat.le_of_ble_eq_true rfl, by decide +kernel⟩
theorem mf_X3_sizeFor : zMf yX3_sizeFor cX3_sizeFor 1 (some .int) 1 := ⟨inT1 14 rfl rfl, inT5 234 rfl rfl, ⟨by decide +kernel, by decide +kernel, by decide +kernel⟩, Nat.le_of_ble_eq_true rfl, by decide +kernel⟩
theorem ms_X3_sizeFor : Cond.static yX3_sizeFor ∈ TBL := inT5 233 rfl rfl
theorem mf_X3_takeByte : zMf yX3_takeByte cX3_takeByte 3 (some .int) 1 := ⟨inT1 14 rfl rfl, inT6 3 rfl rfl, ⟨by decide +kernel, by decide +kernel, by decide +kernel⟩, Nat.le_of_ble_eq_true rfl, by decide +kernel⟩
theorem mf_X3_takePair : zMf yX3_takePair cX3_takePair 4 (some .int) 1 := ⟨inT1 14 rfl rfl, inT5 239 rfl rfl, ⟨by decide +kernel, by decide +kernel, by decide +kernel⟩, Nat.le_of_ble_eq_true rfl, by decide +kernel⟩
theorem mf_X3_takeTriple : zMf yX3_takeTriple cX3_takeTriple 4 none 2 := ⟨inT1 14 rfl rfl, inT6 7 rfl rfl, ⟨by decide +kernel, by decide +kernel, by decide +kernel⟩, Nat.le_of_ble_eq_true rfl, by decide +kernel⟩
theorem mf_X3_write : zMf yX3_write cX3_write 5 none 2 := ⟨inT1 14 rfl rfl, inT5 204 rfl rfl, ⟨by decide +kernel, by decide +kernel, by decide +kernel⟩, Nat.le_of_ble_eq_true rfl, by decide +kernel⟩
theorem mf_X4_canMeet : zMf yX4_canMeet cX4_canMeet 4 (some .boolean) 4 := ⟨inT1 9 rfl rfl, inT4 167 rfl rfl, ⟨by decide +kernel, by decide +kernel, by decide +kernel⟩, Nat.le_of_ble_eq_true rfl, by decide +kernel⟩
theorem ms_X4_canMeet : Cond.static yX4_canMeet ∈ TBL := inT4 166 rfl rfl
theorem mf_X4_choose : zMf yX4_choose cX4_choose 7 none 3 := ⟨inT1 9 rfl rfl, inT4 174 rfl rfl, ⟨by decide +kernel, by decide +kernel, by decide +kernel⟩, Nat.le_of_ble_eq_true rfl, by decide +kernel⟩
theorem mf_X4_favourite : zMf yX4_favourite cX4_favourite 10 (some .int) 5 := ⟨inT1 9 rfl rfl, inT4 178 rfl rfl, ⟨by decide +kernel, by decide +kernel, by decide +kernel⟩, Nat.le_of_ble_eq_true rfl, by decide +kernel⟩
theorem mf_X4_findDress : zMf yX4_findDress cX4_findDress 11 none 4 := ⟨inT1 9 rfl rfl, inT5 11 rfl rfl, ⟨by decide +kernel, by decide +kernel, by decide +kernel⟩, Nat.le_of_ble_eq_true rfl, by decide +kernel⟩
theorem mf_X4_firstLonely : zMf yX4_firstLonely cX4_firstLonely 4 (some .int) 2 := ⟨inT1 9 rfl rfl, inT4 210 rfl rfl, ⟨by decide +kernel, by decide +kernel, by decide +kernel⟩, Nat.le_of_ble_eq_true rfl, by decide +kernel⟩
theorem mf_X4_follow : zMf yX4_follow cX4_follow 7 (some .int) 3 := ⟨inT1 9 rfl rfl, inT5 132 rfl rfl, ⟨by decide +kernel, by decide +kernel, by decide +kernel⟩, Nat.le_of_ble_eq_true rfl, by decide +kernel⟩
theorem mf_X4_liking : zMf yX4_liking cX4_liking 6 (some .int) 4 := ⟨inT1 9 rfl rfl, inT4 94 rfl rfl, ⟨by decide +kernel, by decide +kernel, by decide +kernel⟩, Nat.le_of_ble_eq_true rfl, by decide +kernel⟩
theorem mf_X4_look : zMf yX4_look cX4_look 5 none 3 := ⟨inT1 9 rfl rfl, inT4 98 rfl rfl, ⟨by decide +kernel, by decide +kernel, by decide +kernel⟩, Nat.le_of_ble_eq_true rfl, by decide +kernel⟩
theorem mf_X4_mayAsk : zMf yX4_mayAsk cX4_mayAsk 6 (some .boolean) 5 := ⟨inT1 9 rfl rfl, inT4 182 rfl rfl, ⟨by decide +kernel, by decide +kernel, by decide +kernel⟩, Nat.le_of_ble_eq_true rfl, by decide +kernel⟩
theorem mf_X4_meet : zMf yX4_meet cX4_meet 6 (some .int) 4 := ⟨inT1 9 rfl rfl, inT4 191 rfl rfl, ⟨by decide +kernel, by decide +kernel, by decide +kernel⟩, Nat.le_of_ble_eq_true rfl, by decide +kernel⟩
theorem mf_X4_playHour : zMf yX4_playHour cX4_playHour 4 (some .int) 2 := ⟨inT1 9 rfl rfl, inT4 156 rfl rfl, ⟨by decide +kernel, by decide +kernel, by decide +kernel⟩, Nat.le_of_ble_eq_true rfl, by decide +kernel⟩
theorem mf_X4_settle : zMf yX4_settle cX4_settle 5 (some .int) 2 := ⟨inT1 9 rfl rfl, inT4 187 rfl rfl, ⟨by decide +kernel, by decide +kernel, by decide +kernel⟩, Nat.le_of_ble_eq_true rfl, by decide +kernel⟩
theorem mf_X4_weigh : zMf yX4_weigh cX4_weigh 4 none 2 := ⟨inT1 9 rfl rfl, inT4 160 rfl rfl, ⟨by decide +kernel, by decide +kernel, by decide +kernel⟩, Nat.le_of_ble_eq_true rfl, by decide +kernel⟩
theorem mf_X4_weighGuest : zMf yX4_weighGuest cX4_weighGuest 5 none 3 := ⟨inT1 9 rfl rfl, inT4 164 rfl rfl, ⟨by decide +kernel, by decide +kernel, by decide +kernel⟩, Nat.le_of_ble_eq_true rfl, by decide +kernel⟩
theorem mf_X5_beastStatement : zMf yX5_beastStatement cX5_beastStatement 4 (some .boolean) 0 := ⟨inT1 2 rfl rfl, inT3 137 rfl rfl, ⟨by decide +kernel, by decide +kernel, by decide +kernel⟩, Nat.le_of_ble_eq_true rfl, by decide +kernel⟩
theorem mf_X5_both : zMf yX5_both cX5_both 2 (some .boolean) 0 := ⟨inT1 2 rfl rfl, inT4 0 rfl rfl, ⟨by decide +kernel, by decide +kernel, by decide +kernel⟩, Nat.le_of_ble_eq_true rfl, by decide +kernel⟩
theorem mf_X5_choice : zMf yX5_choice cX5_choice 1 (some .boolean) 0 := ⟨inT1 2 rfl rfl, inT3 232 rfl rfl, ⟨by decide +kernel, by decide +kernel, by decide +kernel⟩, Nat.le_of_ble_eq_true rfl, by decide +kernel⟩
theorem mf_X5_closing : zMf yX5_closing cX5_closing 2 (some .boolean) 1 := ⟨inT1 2 rfl rfl, inT3 224 rfl rfl, ⟨by decide +kernel, by decide +kernel, by decide +kernel⟩, Nat.le_of_ble_eq_true rfl, by decide +kernel⟩
theorem mf_X5_comparison : zMf yX5_comparison cX5_comparison 2 (some .boolean) 0 := ⟨inT1 2 rfl rfl, inT4 8 rfl rfl, ⟨by decide +kernel, by decide +kernel, by decide +kernel⟩, Nat.le_of_ble_eq_true rfl, by decide +kernel⟩
theorem mf_X5_fact : zMf yX5_fact cX5_fact 1 (some .boolean) 0 := ⟨inT1 2 rfl rfl, inT4 4 rfl rfl, ⟨by decide +kernel, by decide +kernel, by decide +kernel⟩, Nat.le_of_ble_eq_true rfl, by decide +kernel⟩
theorem mf_X5_fail : zMf yX5_fail cX5_fail 2 (some .boolean) 1 := ⟨inT1 2 rfl rfl, inT3 129 rfl rfl, ⟨by decide +kernel, by decide +kernel, by decide +kernel⟩, Nat.le_of_ble_eq_true rfl, by decide +kernel⟩
theorem mf_X5_fearStatement : zMf yX5_fearStatement cX5_fearStatement 2 (some .boolean) 0 := ⟨inT1 2 rfl rfl, inT3 188 rfl rfl, ⟨by decide +kernel, by decide +kernel, by decide +kernel⟩, Nat.le_of_ble_eq_true rfl, by decide +kernel⟩
theorem mf_X5_guestStatement : zMf yX5_guestStatement cX5_guestStatement 3 (some .boolean) 0 := ⟨inT1 2 rfl rfl, inT3 180 rfl rfl, ⟨by decide +kernel, by decide +kernel, by decide +kernel⟩, Nat.le_of_ble_eq_true rfl, by decide +kernel⟩
theorem mf_X5_kind : zMf yX5_kind cX5_kind 1 (some .int) 0 := ⟨inT1 2 rfl rfl, inT3 125 rfl rfl, ⟨by decide +kernel, by decide +kernel, by decide +kernel⟩, Nat.le_of_ble_eq_true rfl, by decide +kernel⟩
theorem mf_X5_knownBeast : zMf yX5_knownBeast cX5_knownBeast 1 (some .boolean) 0 := ⟨inT1 2 rfl rfl, inT3 172 rfl rfl, ⟨by decide +kernel, by decide +kernel, by decide +kernel⟩, Nat.le_of_ble_eq_true rfl, by decide +kernel⟩
theorem mf_X5_knownGuest : zMf yX5_knownGuest cX5_knownGuest 1 (some .boolean) 0 := ⟨inT1 2 rfl rfl, inT3 192 rfl rfl, ⟨by decide +kernel, by decide +kernel, by decide +kernel⟩, Nat.le_of_ble_eq_true rfl, by decide +kernel⟩
theorem mf_X5_likesStatement : zMf yX5_likesStatement cX5_likesStatement 1 (some .boolean) 0 := ⟨inT1 2 rfl rfl, inT3 200 rfl rfl, ⟨by decide +kernel, by decide +kernel, by decide +kernel⟩, Nat.le_of_ble_eq_true rfl, by decide +kernel⟩
theorem mf_X5_mayStatement : zMf yX5_mayStatement cX5_mayStatement 1 (some .boolean) 0 := ⟨inT1 2 rfl rfl, inT4 16 rfl rfl, ⟨by decide +kernel, by decide +kernel, by decide +kernel⟩, Nat.le_of_ble_eq_true rfl, by decide +kernel⟩
theorem mf_X5_newName : zMf yX5_newName cX5_newName 1 (some .boolean) 0 := ⟨inT1 2 rfl rfl, inT3 141 rfl rfl, ⟨by decide +kernel, by decide +kernel, by decide +kernel⟩, Nat.le_of_ble_eq_true rfl, by decide +kernel⟩
theorem mf_X5_number : zMf yX5_number cX5_number 3 (some .boolean) 2 := ⟨inT1 2 rfl rfl, inT3 157 rfl rfl, ⟨by decide +kernel, by decide +kernel, by decide +kernel⟩, Nat.le_of_ble_eq_true rfl, by decide +kernel⟩
theorem mf_X5_opening : zMf yX5_opening cX5_opening 2 (some .boolean) 1 := ⟨inT1 2 rfl rfl, inT3 220 rfl rfl, ⟨by decide +kernel, by decide +kernel, by decide +kernel⟩, Nat.le_of_ble_eq_true rfl, by decide +kernel⟩
theorem mf_X5_pairOfSums : zMf yX5_pairOfSums cX5_pairOfSums 2 (some .boolean) 1 := ⟨inT1 2 rfl rfl, inT3 228 rfl rfl, ⟨by decide +kernel, by decide +kernel, by decide +kernel⟩, Nat.le_of_ble_eq_true rfl, by decide +kernel⟩
theorem mf_X5_parse : zMf yX5_parse cX5_parse 3 (some .int) 1 := ⟨inT1 2 rfl rfl, inT3 87 rfl rfl, ⟨by decide +kernel, by decide +kernel, by decide +kernel⟩, Nat.le_of_ble_eq_true rfl, by decide +kernel⟩
theorem mf_X5_part : zMf yX5_part cX5_part 1 (some .boolean) 0 := ⟨inT1 2 rfl rfl, inT3 212 rfl rfl, ⟨by decide +kernel, by decide +kernel, by decide +kernel⟩, Nat.le_of_ble_eq_true rfl, by decide +kernel⟩
theorem mf_X5_product : zMf yX5_product cX5_product 3 (some .boolean) 0 := ⟨inT1 2 rfl rfl, inT3 208 rfl rfl, ⟨by decide +kernel, by decide +kernel, by decide +kernel⟩, Nat.le_of_ble_eq_true rfl, by decide +kernel⟩
theorem mf_X5_scenePart : zMf yX5_scenePart cX5_scenePart 3 (some .boolean) 0 := ⟨inT1 2 rfl rfl, inT4 12 rfl rfl, ⟨by decide +kernel, by decide +kernel, by decide +kernel⟩, Nat.le_of_ble_eq_true rfl, by decide +kernel⟩
theorem mf_X5_setting : zMf yX5_setting cX5_setting 2 (some .boolean) 1 := ⟨inT1 2 rfl rfl, inT4 20 rfl rfl, ⟨by decide +kernel, by decide +kernel, by decide +kernel⟩, Nat.le_of_ble_eq_true rfl, by decide +kernel⟩
theorem mf_X5_statement : zMf yX5_statement cX5_statement 1 (some .boolean) 0 := ⟨inT1 2 rfl rfl, inT3 133 rfl rfl, ⟨by decide +kernel, by decide +kernel, by decide +kernel⟩, Nat.le_of_ble_eq_true rfl, by decide +kernel⟩
theorem mf_X5_sum : zMf yX5_sum cX5_sum 3 (some .boolean) 0 := ⟨inT1 2 rfl rfl, inT3 204 rfl rfl, ⟨by decide +kernel, by decide +kernel, by decide +kernel⟩, Nat.le_of_ble_eq_true rfl, by decide +kernel⟩
theorem mf_X5_tasteStatement : zMf yX5_tasteStatement cX5_tasteStatement 1 (some .boolean) 0 := ⟨inT1 2 rfl rfl, inT3 168 rfl rfl, ⟨by decide +kernel, by decide +kernel, by decide +kernel⟩, Nat.le_of_ble_eq_true rfl, by decide +kernel⟩
theorem mf_X5_test : zMf yX5_test cX5_test 2 (some .boolean) 0 := ⟨inT1 2 rfl rfl, inT3 236 rfl rfl, ⟨by decide +kernel, by decide +kernel, by decide +kernel⟩, Nat.le_of_ble_eq_true rfl, by decide +kernel⟩
theorem mf_X5_token : zMf yX5_token cX5_token 2 (some .boolean) 1 := ⟨inT1 2 rfl rfl, inT3 153 rfl rfl, ⟨by decide +kernel, by decide +kernel, by decide +kernel⟩, Nat.le_of_ble_eq_true rfl, by decide +kernel⟩
theorem mf_X5_triple : zMf yX5_triple cX5_triple 4 (some .boolean) 2 := ⟨inT1 2 rfl rfl, inT3 176 rfl rfl, ⟨by decide +kernel, by decide +kernel, by decide +kernel⟩, Nat.le_of_ble_eq_true rfl, by decide +kernel⟩
theorem mf_X6_find : zMf yX6_find cX6_find 6 none 3 := ⟨inT1 12 rfl rfl, inT5 80 rfl rfl, ⟨by decide +kernel, by decide +kernel, by decide +kernel⟩, Nat.le_of_ble_eq_true rfl, by decide +kernel⟩
theorem mf_X6_goesRound : zMf yX6_goesRound cX6_goesRound 4 (some .boolean) 1 := ⟨inT1 12 rfl rfl, inT5 103 rfl rfl, ⟨by decide +kernel, by decide +kernel, by decide +kernel⟩, Nat.le_of_ble_eq_true rfl, by decide +kernel⟩
theorem mf_X6_hold : zMf yX6_hold cX6_hold 5 none 3 := ⟨inT1 12 rfl rfl, inT5 84 rfl rfl, ⟨by decide +kernel, by decide +kernel, by decide +kernel⟩, Nat.le_of_ble_eq_true rfl, by decide +kernel⟩
theorem mf_X6_isLeft : zMf yX6_isLeft cX6_isLeft 2 (some .boolean) 1 := ⟨inT1 12 rfl rfl, inT5 90 rfl rfl, ⟨by decide +kernel, by decide +kernel, by decide +kernel⟩, Nat.le_of_ble_eq_true rfl, by decide +kernel⟩
theorem mf_X6_leave : zMf yX6_leave cX6_leave 5 none 2 := ⟨inT1 12 rfl rfl, inT5 99 rfl rfl, ⟨by decide +kernel, by decide +kernel, by decide +kernel⟩, Nat.le_of_ble_eq_true rfl, by decide +kernel⟩
theorem mf_X6_pointed : zMf yX6_pointed cX6_pointed 9 (some .int) 4 := ⟨inT1 12 rfl rfl, inT5 94 rfl rfl, ⟨by decide +kernel, by decide +kernel, by decide +kernel⟩, Nat.le_of_ble_eq_true rfl, by decide +kernel⟩
theorem mf_X7_begin : zMf yX7_begin cX7_begin 3 none 1 := ⟨inT1 8 rfl rfl, inT4 24 rfl rfl, ⟨by decide +kernel, by decide +kernel, by decide +kernel⟩, Nat.le_of_ble_eq_true rfl, by decide +kernel⟩
theorem mf_X7_copyFrom : zMf yX7_copyFrom cX7_copyFrom 2 none 1 := ⟨inT1 8 rfl rfl, inT4 152 rfl rfl, ⟨by decide +kernel, by decide +kernel, by decide +kernel⟩, Nat.le_of_ble_eq_true rfl, by decide +kernel⟩
theorem mf_X7_forgetDay : zMf yX7_forgetDay cX7_forgetDay 2 none 0 := ⟨inT1 8 rfl rfl, inT1 174 rfl rfl, ⟨by decide +kernel, by decide +kernel, by decide +kernel⟩, Nat.le_of_ble_eq_true rfl, by decide +kernel⟩
theorem mf_X7_forgetRows : zMf yX7_forgetRows cX7_forgetRows 1 none 0 := ⟨inT1 8 rfl rfl, inT4 31 rfl rfl, ⟨by decide +kernel, by decide +kernel, by decide +kernel⟩, Nat.le_of_ble_eq_true rfl, by decide +kernel⟩
theorem mf_X7_keepRow : zMf yX7_keepRow cX7_keepRow 5 none 3 := ⟨inT1 8 rfl rfl, inT4 195 rfl rfl, ⟨by decide +kernel, by decide +kernel, by decide +kernel⟩, Nat.le_of_ble_eq_true rfl, by decide +kernel⟩
theorem mf_X7_moment : zMf yX7_moment cX7_moment 1 (some .int) 0 := ⟨inT1 8 rfl rfl, inT4 147 rfl rfl, ⟨by decide +kernel, by decide +kernel, by decide +kernel⟩, Nat.le_of_ble_eq_true rfl, by decide +kernel⟩
theorem mf_X7_passHour : zMf yX7_passHour cX7_passHour 1 none 0 := ⟨inT1 8 rfl rfl, inT4 200 rfl rfl, ⟨by decide +kernel, by decide +kernel, by decide +kernel⟩, Nat.le_of_ble_eq_true rfl, by decide +kernel⟩
theorem mf_X7_rowPart : zMf yX7_rowPart cX7_rowPart 6 (some .int) 2 := ⟨inT1 8 rfl rfl, inT5 196 rfl rfl, ⟨by decide +kernel, by decide +kernel, by decide +kernel⟩, Nat.le_of_ble_eq_true rfl, by decide +kernel⟩
theorem mf_X7_suits : zMf yX7_suits cX7_suits 5 (some .int) 2 := ⟨inT1 8 rfl rfl, inT4 90 rfl rfl, ⟨by decide +kernel, by decide +kernel, by decide +kernel⟩, Nat.le_of_ble_eq_true rfl, by decide +kernel⟩
theorem mf_X7_swapKnowledge : zMf yX7_swapKnowledge cX7_swapKnowledge 4 none 2 := ⟨inT1 8 rfl rfl, inT5 177 rfl rfl, ⟨by decide +kernel, by decide +kernel, by decide +kernel⟩, Nat.le_of_ble_eq_true rfl, by decide +kernel⟩
theorem mf_X7_swapPlaces : zMf yX7_swapPlaces cX7_swapPlaces 4 none 3 := ⟨inT1 8 rfl rfl, inT5 180 rfl rfl, ⟨by decide +kernel, by decide +kernel, by decide +kernel⟩, Nat.le_of_ble_eq_true rfl, by decide +kernel⟩
theorem ms_X7_swapPlaces : Cond.static yX7_swapPlaces ∈ TBL := inT5 179 rfl rfl
theorem mf_X8_badHere : zMf yX8_badHere cX8_badHere 1 (some .int) 0 := ⟨inT1 3 rfl rfl, inT3 113 rfl rfl, ⟨by decide +kernel, by decide +kernel, by decide +kernel⟩, Nat.le_of_ble_eq_true rfl, by decide +kernel⟩
theorem mf_X8_holdsPairs : zMf yX8_holdsPairs cX8_holdsPairs 4 (some .boolean) 2 := ⟨inT1 3 rfl rfl, inT5 23 rfl rfl, ⟨by decide +kernel, by decide +kernel, by decide +kernel⟩, Nat.le_of_ble_eq_true rfl, by decide +kernel⟩
theorem mf_X8_isDigit : zMf yX8_isDigit cX8_isDigit 1 (some .boolean) 1 := ⟨inT1 3 rfl rfl, inT3 109 rfl rfl, ⟨by decide +kernel, by decide +kernel, by decide +kernel⟩, Nat.le_of_ble_eq_true rfl, by decide +kernel⟩
theorem ms_X8_isDigit : Cond.static yX8_isDigit ∈ TBL := inT3 108 rfl rfl
theorem mf_X8_isLetter : zMf yX8_isLetter cX8_isLetter 1 (some .boolean) 1 := ⟨inT1 3 rfl rfl, inT3 106 rfl rfl, ⟨by decide +kernel, by decide +kernel, by decide +kernel⟩, Nat.le_of_ble_eq_true rfl, by decide +kernel⟩
theorem ms_X8_isLetter : Cond.static yX8_isLetter ∈ TBL := inT3 105 rfl rfl
theorem mf_X8_letterOf : zMf yX8_letterOf cX8_letterOf 4 (some .int) 2 := ⟨inT1 3 rfl rfl, inT4 62 rfl rfl, ⟨by decide +kernel, by decide +kernel, by decide +kernel⟩, Nat.le_of_ble_eq_true rfl, by decide +kernel⟩
theorem ms_X8_letterOf : Cond.static yX8_letterOf ∈ TBL := inT4 61 rfl rfl
theorem mf_X8_padded : zMf yX8_padded cX8_padded 4 (some .int) 2 := ⟨inT1 3 rfl rfl, inT1 92 rfl rfl, ⟨by decide +kernel, by decide +kernel, by decide +kernel⟩, Nat.le_of_ble_eq_true rfl, by decide +kernel⟩
theorem ms_X8_padded : Cond.static yX8_padded ∈ TBL := inT1 91 rfl rfl
theorem mf_X8_pairsUnlike : zMf yX8_pairsUnlike cX8_pairsUnlike 2 (some .boolean) 0 := ⟨inT1 3 rfl rfl, inT5 27 rfl rfl, ⟨by decide +kernel, by decide +kernel, by decide +kernel⟩, Nat.le_of_ble_eq_true rfl, by decide +kernel⟩
theorem mf_X8_put : zMf yX8_put cX8_put 3 none 1 := ⟨inT1 3 rfl rfl, inT3 75 rfl rfl, ⟨by decide +kernel, by decide +kernel, by decide +kernel⟩, Nat.le_of_ble_eq_true rfl, by decide +kernel⟩
theorem mf_X8_scan : zMf yX8_scan cX8_scan 3 (some .int) 1 := ⟨inT1 3 rfl rfl, inT3 103 rfl rfl, ⟨by decide +kernel, by decide +kernel, by decide +kernel⟩, Nat.le_of_ble_eq_true rfl, by decide +kernel⟩
theorem mf_X8_scanNumber : zMf yX8_scanNumber cX8_scanNumber 3 (some .int) 0 := ⟨inT1 3 rfl rfl, inT3 121 rfl rfl, ⟨by decide +kernel, by decide +kernel, by decide +kernel⟩, Nat.le_of_ble_eq_true rfl, by decide +kernel⟩
theorem mf_X8_scanWord : zMf yX8_scanWord cX8_scanWord 4 (some .int) 0 := ⟨inT1 3 rfl rfl, inT3 117 rfl rfl, ⟨by decide +kernel, by decide +kernel, by decide +kernel⟩, Nat.le_of_ble_eq_true rfl, by decide +kernel⟩
theorem mf_X8_skipBlanks : zMf yX8_skipBlanks cX8_skipBlanks 1 none 0 := ⟨inT1 3 rfl rfl, inT3 99 rfl rfl, ⟨by decide +kernel, by decide +kernel, by decide +kernel⟩, Nat.le_of_ble_eq_true rfl, by decide +kernel⟩
theorem mf_X8_split : zMf yX8_split cX8_split 4 none 0 := ⟨inT1 3 rfl rfl, inT3 95 rfl rfl, ⟨by decide +kernel, by decide +kernel, by decide +kernel⟩, Nat.le_of_ble_eq_true rfl, by decide +kernel⟩
theorem mf_X9_least : zMf yX9_least cX9_least 6 (some .int) 3 := ⟨inT1 13 rfl rfl, inT5 111 rfl rfl, ⟨by decide +kernel, by decide +kernel, by decide +kernel⟩, Nat.le_of_ble_eq_true rfl, by decide +kernel⟩
theorem mf_X9_sharedByOneMore : zMf yX9_sharedByOneMore cX9_sharedByOneMore 4 (some .int) 1 := ⟨inT1 13 rfl rfl, inT5 118 rfl rfl, ⟨by decide +kernel, by decide +kernel, by decide +kernel⟩, Nat.le_of_ble_eq_true rfl, by decide +kernel⟩
theorem mf_X9_stepsTo : zMf yX9_stepsTo cX9_stepsTo 4 (some .int) 2 := ⟨inT1 13 rfl rfl, inT5 114 rfl rfl, ⟨by decide +kernel, by decide +kernel, by decide +kernel⟩, Nat.le_of_ble_eq_true rfl, by decide +kernel⟩
theorem ms_X9_stepsTo : Cond.static yX9_stepsTo ∈ TBL := inT5 113 rfl rfl
theorem mv_X0_find : zMv 0 yX0_find := ⟨inT4 218 rfl rfl, inT4 219 rfl rfl, TX0, rfl⟩
theorem mv_X0_follow : zMv 0 yX0_follow := ⟨inT5 2 rfl rfl, inTs (n := 3) (List.mem_of_getElem? (i := 45) rfl), TX0, rfl⟩
theorem mv_X0_mostFrom : zMv 0 yX0_mostFrom := ⟨inT4 223 rfl rfl, inTs (n := 3) (List.mem_of_getElem? (i := 43) rfl), TX0, rfl⟩
theorem mv_X0_with : zMv 0 yX0_with := ⟨inT4 237 rfl rfl, inTs (n := 3) (List.mem_of_getElem? (i := 44) rfl), TX0, rfl⟩
theorem mv_X10_addBeast : zMv 10 yX10_addBeast := ⟨inT3 159 rfl rfl, inT3 160 rfl rfl, TX10, rfl⟩
theorem mv_X10_addGuest : zMv 10 yX10_addGuest := ⟨inT3 182 rfl rfl, inT3 183 rfl rfl, TX10, rfl⟩
theorem mv_X10_beastCalled : zMv 10 yX10_beastCalled := ⟨inT3 143 rfl rfl, inT3 144 rfl rfl, TX10, rfl⟩
theorem mv_X10_clear : zMv 10 yX10_clear := ⟨inT3 89 rfl rfl, inT3 90 rfl rfl, TX10, rfl⟩
theorem mv_X10_guestCalled : zMv 10 yX10_guestCalled := ⟨inT3 147 rfl rfl, inT3 148 rfl rfl, TX10, rfl⟩
theorem mv_X10_isAwake : zMv 10 yX10_isAwake := ⟨inT4 72 rfl rfl, inT4 73 rfl rfl, TX10, rfl⟩
theorem mv_X10_isBeast : zMv 10 yX10_isBeast := ⟨inT4 57 rfl rfl, inT4 58 rfl rfl, TX10, rfl⟩
theorem mv_X10_isFeared : zMv 10 yX10_isFeared := ⟨inT3 194 rfl rfl, inT3 195 rfl rfl, TX10, rfl⟩
theorem mv_X10_isGuest : zMv 10 yX10_isGuest := ⟨inT4 64 rfl rfl, inT4 65 rfl rfl, TX10, rfl⟩
theorem mv_X10_isThere : zMv 10 yX10_isThere := ⟨inT4 45 rfl rfl, inT4 46 rfl rfl, TX10, rfl⟩
theorem mv_X11_canGoBy : zMv 11 yX11_canGoBy := ⟨inT5 139 rfl rfl, inTs (n := 17) (List.mem_of_getElem? (i := 55) rfl), TX11, rfl⟩
theorem mv_X11_drawOfHundred : zMv 11 yX11_drawOfHundred := ⟨inT5 151 rfl rfl, inTs (n := 17) (List.mem_of_getElem? (i := 57) rfl), TX11, rfl⟩
theorem mv_X11_firstKeptBy : zMv 11 yX11_firstKeptBy := ⟨inT4 77 rfl rfl, inTs (n := 17) (List.mem_of_getElem? (i := 37) rfl), TX11, rfl⟩
theorem mv_X11_guestsKept : zMv 11 yX11_guestsKept := ⟨inT4 50 rfl rfl, inTs (n := 17) (List.mem_of_getElem? (i := 36) rfl), TX11, rfl⟩
theorem mv_X11_guestsThere : zMv 11 yX11_guestsThere := ⟨inT4 42 rfl rfl, inTs (n := 17) (List.mem_of_getElem? (i := 35) rfl), TX11, rfl⟩
theorem mv_X11_hoursToSee : zMv 11 yX11_hoursToSee := ⟨inT4 142 rfl rfl, inTs (n := 17) (List.mem_of_getElem? (i := 39) rfl), TX11, rfl⟩
theorem mv_X11_hoursUntilCome : zMv 11 yX11_hoursUntilCome := ⟨inT5 127 rfl rfl, inTs (n := 17) (List.mem_of_getElem? (i := 54) rfl), TX11, rfl⟩
theorem mv_X11_refuse : zMv 11 yX11_refuse := ⟨inT3 70 rfl rfl, inTs (n := 17) (List.mem_of_getElem? (i := 1) rfl), TX11, rfl⟩
theorem mv_X11_remember : zMv 11 yX11_remember := ⟨inT5 143 rfl rfl, inTs (n := 17) (List.mem_of_getElem? (i := 56) rfl), TX11, rfl⟩
theorem mv_X12_add : zMv 12 yX12_add := ⟨inT7 187 rfl rfl, inTs (n := 77) (List.mem_of_getElem? (i := 93) rfl), TX12, rfl⟩
theorem mv_X12_ahead : zMv 12 yX12_ahead := ⟨inT7 38 rfl rfl, inTs (n := 77) (List.mem_of_getElem? (i := 67) rfl), TX12, rfl⟩
theorem mv_X12_areNine : zMv 12 yX12_areNine := ⟨inT8 222 rfl rfl, inTs (n := 77) (List.mem_of_getElem? (i := 133) rfl), TX12, rfl⟩
theorem mv_X12_askedBut : zMv 12 yX12_askedBut := ⟨inT7 137 rfl rfl, inTs (n := 77) (List.mem_of_getElem? (i := 82) rfl), TX12, rfl⟩
theorem mv_X12_asking : zMv 12 yX12_asking := ⟨inT8 99 rfl rfl, inTs (n := 77) (List.mem_of_getElem? (i := 118) rfl), TX12, rfl⟩
theorem mv_X12_beastOn : zMv 12 yX12_beastOn := ⟨inT9 34 rfl rfl, inTs (n := 77) (List.mem_of_getElem? (i := 139) rfl), TX12, rfl⟩
theorem mv_X12_beasting : zMv 12 yX12_beasting := ⟨inT7 65 rfl rfl, inTs (n := 77) (List.mem_of_getElem? (i := 72) rfl), TX12, rfl⟩
theorem mv_X12_begin : zMv 12 yX12_begin := ⟨inT7 214 rfl rfl, inTs (n := 77) (List.mem_of_getElem? (i := 99) rfl), TX12, rfl⟩
theorem mv_X12_blame : zMv 12 yX12_blame := ⟨inT7 56 rfl rfl, inTs (n := 77) (List.mem_of_getElem? (i := 70) rfl), TX12, rfl⟩
theorem mv_X12_comes : zMv 12 yX12_comes := ⟨inT8 119 rfl rfl, inTs (n := 77) (List.mem_of_getElem? (i := 123) rfl), TX12, rfl⟩
theorem mv_X12_comesOn : zMv 12 yX12_comesOn := ⟨inT9 22 rfl rfl, inTs (n := 77) (List.mem_of_getElem? (i := 136) rfl), TX12, rfl⟩
theorem mv_X12_copies : zMv 12 yX12_copies := ⟨inT7 238 rfl rfl, inTs (n := 77) (List.mem_of_getElem? (i := 102) rfl), TX12, rfl⟩
theorem mv_X12_counts : zMv 12 yX12_counts := ⟨inT7 69 rfl rfl, inTs (n := 77) (List.mem_of_getElem? (i := 73) rfl), TX12, rfl⟩
theorem mv_X12_dawns : zMv 12 yX12_dawns := ⟨inT7 218 rfl rfl, inTs (n := 77) (List.mem_of_getElem? (i := 100) rfl), TX12, rfl⟩
theorem mv_X12_draw : zMv 12 yX12_draw := ⟨inT8 210 rfl rfl, inTs (n := 77) (List.mem_of_getElem? (i := 132) rfl), TX12, rfl⟩
theorem mv_X12_fearing : zMv 12 yX12_fearing := ⟨inT7 152 rfl rfl, inTs (n := 77) (List.mem_of_getElem? (i := 85) rfl), TX12, rfl⟩
theorem mv_X12_finishes : zMv 12 yX12_finishes := ⟨inT7 206 rfl rfl, inTs (n := 77) (List.mem_of_getElem? (i := 97) rfl), TX12, rfl⟩
theorem mv_X12_fresh : zMv 12 yX12_fresh := ⟨inT7 73 rfl rfl, inTs (n := 77) (List.mem_of_getElem? (i := 74) rfl), TX12, rfl⟩
theorem mv_X12_goesOn : zMv 12 yX12_goesOn := ⟨inT7 191 rfl rfl, inTs (n := 77) (List.mem_of_getElem? (i := 94) rfl), TX12, rfl⟩
theorem mv_X12_guestOn : zMv 12 yX12_guestOn := ⟨inT9 30 rfl rfl, inTs (n := 77) (List.mem_of_getElem? (i := 138) rfl), TX12, rfl⟩
theorem mv_X12_guesting : zMv 12 yX12_guesting := ⟨inT7 148 rfl rfl, inTs (n := 77) (List.mem_of_getElem? (i := 84) rfl), TX12, rfl⟩
theorem mv_X12_holdsBack : zMv 12 yX12_holdsBack := ⟨inT7 175 rfl rfl, inTs (n := 77) (List.mem_of_getElem? (i := 90) rfl), TX12, rfl⟩
theorem mv_X12_hourIn : zMv 12 yX12_hourIn := ⟨inT8 6 rfl rfl, inTs (n := 77) (List.mem_of_getElem? (i := 103) rfl), TX12, rfl⟩
theorem mv_X12_isAhead : zMv 12 yX12_isAhead := ⟨inT8 95 rfl rfl, inTs (n := 77) (List.mem_of_getElem? (i := 117) rfl), TX12, rfl⟩
theorem mv_X12_isAllowed : zMv 12 yX12_isAllowed := ⟨inT8 111 rfl rfl, inTs (n := 77) (List.mem_of_getElem? (i := 121) rfl), TX12, rfl⟩
theorem mv_X12_isAwake : zMv 12 yX12_isAwake := ⟨inT8 35 rfl rfl, inTs (n := 77) (List.mem_of_getElem? (i := 108) rfl), TX12, rfl⟩
theorem mv_X12_isBeast : zMv 12 yX12_isBeast := ⟨inT8 27 rfl rfl, inTs (n := 77) (List.mem_of_getElem? (i := 106) rfl), TX12, rfl⟩
theorem mv_X12_isBest : zMv 12 yX12_isBest := ⟨inT8 142 rfl rfl, inTs (n := 77) (List.mem_of_getElem? (i := 126) rfl), TX12, rfl⟩
theorem mv_X12_isDefault : zMv 12 yX12_isDefault := ⟨inT6 20 rfl rfl, inTs (n := 77) (List.mem_of_getElem? (i := 64) rfl), TX12, rfl⟩
theorem mv_X12_isFeared : zMv 12 yX12_isFeared := ⟨inT8 115 rfl rfl, inTs (n := 77) (List.mem_of_getElem? (i := 122) rfl), TX12, rfl⟩
theorem mv_X12_isGuest : zMv 12 yX12_isGuest := ⟨inT8 43 rfl rfl, inTs (n := 77) (List.mem_of_getElem? (i := 109) rfl), TX12, rfl⟩
theorem mv_X12_isInRing : zMv 12 yX12_isInRing := ⟨inT8 186 rfl rfl, inTs (n := 77) (List.mem_of_getElem? (i := 130) rfl), TX12, rfl⟩
theorem mv_X12_isOpenTo : zMv 12 yX12_isOpenTo := ⟨inT8 107 rfl rfl, inTs (n := 77) (List.mem_of_getElem? (i := 120) rfl), TX12, rfl⟩
theorem mv_X12_isOver : zMv 12 yX12_isOver := ⟨inT8 127 rfl rfl, inTs (n := 77) (List.mem_of_getElem? (i := 125) rfl), TX12, rfl⟩
theorem mv_X12_isOwn : zMv 12 yX12_isOwn := ⟨inT7 77 rfl rfl, inTs (n := 77) (List.mem_of_getElem? (i := 75) rfl), TX12, rfl⟩
theorem mv_X12_isSign : zMv 12 yX12_isSign := ⟨inT7 179 rfl rfl, inTs (n := 77) (List.mem_of_getElem? (i := 91) rfl), TX12, rfl⟩
theorem mv_X12_isTaste : zMv 12 yX12_isTaste := ⟨inT8 165 rfl rfl, inTs (n := 77) (List.mem_of_getElem? (i := 127) rfl), TX12, rfl⟩
theorem mv_X12_isThere : zMv 12 yX12_isThere := ⟨inT8 14 rfl rfl, inTs (n := 77) (List.mem_of_getElem? (i := 105) rfl), TX12, rfl⟩
theorem mv_X12_isTold : zMv 12 yX12_isTold := ⟨inT8 63 rfl rfl, inTs (n := 77) (List.mem_of_getElem? (i := 113) rfl), TX12, rfl⟩
theorem mv_X12_isWord : zMv 12 yX12_isWord := ⟨inT7 61 rfl rfl, inTs (n := 77) (List.mem_of_getElem? (i := 71) rfl), TX12, rfl⟩
theorem mv_X12_joins : zMv 12 yX12_joins := ⟨inT7 195 rfl rfl, inTs (n := 77) (List.mem_of_getElem? (i := 95) rfl), TX12, rfl⟩
theorem mv_X12_keeps : zMv 12 yX12_keeps := ⟨inT8 202 rfl rfl, inTs (n := 77) (List.mem_of_getElem? (i := 131) rfl), TX12, rfl⟩
theorem mv_X12_lex : zMv 12 yX12_lex := ⟨inT7 52 rfl rfl, inTs (n := 77) (List.mem_of_getElem? (i := 69) rfl), TX12, rfl⟩
theorem mv_X12_liked : zMv 12 yX12_liked := ⟨inT8 59 rfl rfl, inTs (n := 77) (List.mem_of_getElem? (i := 112) rfl), TX12, rfl⟩
theorem mv_X12_look : zMv 12 yX12_look := ⟨inT8 47 rfl rfl, inTs (n := 77) (List.mem_of_getElem? (i := 110) rfl), TX12, rfl⟩
theorem mv_X12_manyOf : zMv 12 yX12_manyOf := ⟨inT7 114 rfl rfl, inTs (n := 77) (List.mem_of_getElem? (i := 77) rfl), TX12, rfl⟩
theorem mv_X12_must : zMv 12 yX12_must := ⟨inT7 210 rfl rfl, inTs (n := 77) (List.mem_of_getElem? (i := 98) rfl), TX12, rfl⟩
theorem mv_X12_must_ : zMv 12 yX12_must_ := ⟨inT7 122 rfl rfl, inTs (n := 77) (List.mem_of_getElem? (i := 79) rfl), TX12, rfl⟩
theorem mv_X12_nameOf : zMv 12 yX12_nameOf := ⟨inT7 118 rfl rfl, inTs (n := 77) (List.mem_of_getElem? (i := 78) rfl), TX12, rfl⟩
theorem mv_X12_named : zMv 12 yX12_named := ⟨inT7 110 rfl rfl, inTs (n := 77) (List.mem_of_getElem? (i := 76) rfl), TX12, rfl⟩
theorem mv_X12_number : zMv 12 yX12_number := ⟨inT7 126 rfl rfl, inTs (n := 77) (List.mem_of_getElem? (i := 80) rfl), TX12, rfl⟩
theorem mv_X12_opens : zMv 12 yX12_opens := ⟨inT7 183 rfl rfl, inTs (n := 77) (List.mem_of_getElem? (i := 92) rfl), TX12, rfl⟩
theorem mv_X12_operand : zMv 12 yX12_operand := ⟨inT7 168 rfl rfl, inTs (n := 77) (List.mem_of_getElem? (i := 89) rfl), TX12, rfl⟩
theorem mv_X12_pair : zMv 12 yX12_pair := ⟨inT8 67 rfl rfl, inTs (n := 77) (List.mem_of_getElem? (i := 114) rfl), TX12, rfl⟩
theorem mv_X12_pointed : zMv 12 yX12_pointed := ⟨inT8 182 rfl rfl, inTs (n := 77) (List.mem_of_getElem? (i := 129) rfl), TX12, rfl⟩
theorem mv_X12_pushes : zMv 12 yX12_pushes := ⟨inT7 164 rfl rfl, inTs (n := 77) (List.mem_of_getElem? (i := 88) rfl), TX12, rfl⟩
theorem mv_X12_put : zMv 12 yX12_put := ⟨inT7 26 rfl rfl, inTs (n := 77) (List.mem_of_getElem? (i := 66) rfl), TX12, rfl⟩
theorem mv_X12_reading : zMv 12 yX12_reading := ⟨inT7 156 rfl rfl, inTs (n := 77) (List.mem_of_getElem? (i := 86) rfl), TX12, rfl⟩
theorem mv_X12_reads : zMv 12 yX12_reads := ⟨inT7 160 rfl rfl, inTs (n := 77) (List.mem_of_getElem? (i := 87) rfl), TX12, rfl⟩
theorem mv_X12_reckons : zMv 12 yX12_reckons := ⟨inT8 75 rfl rfl, inTs (n := 77) (List.mem_of_getElem? (i := 116) rfl), TX12, rfl⟩
theorem mv_X12_refuses : zMv 12 yX12_refuses := ⟨inT7 22 rfl rfl, inTs (n := 77) (List.mem_of_getElem? (i := 65) rfl), TX12, rfl⟩
theorem mv_X12_slot : zMv 12 yX12_slot := ⟨inT7 234 rfl rfl, inTs (n := 77) (List.mem_of_getElem? (i := 101) rfl), TX12, rfl⟩
theorem mv_X12_statement : zMv 12 yX12_statement := ⟨inT7 48 rfl rfl, inTs (n := 77) (List.mem_of_getElem? (i := 68) rfl), TX12, rfl⟩
theorem mv_X12_suiting : zMv 12 yX12_suiting := ⟨inT8 55 rfl rfl, inTs (n := 77) (List.mem_of_getElem? (i := 111) rfl), TX12, rfl⟩
theorem mv_X12_suitsBy : zMv 12 yX12_suitsBy := ⟨inT8 169 rfl rfl, inTs (n := 77) (List.mem_of_getElem? (i := 128) rfl), TX12, rfl⟩
theorem mv_X12_tasteIn : zMv 12 yX12_tasteIn := ⟨inT8 31 rfl rfl, inTs (n := 77) (List.mem_of_getElem? (i := 107) rfl), TX12, rfl⟩
theorem mv_X12_tastes : zMv 12 yX12_tastes := ⟨inT8 160 rfl rfl, inT8 161 rfl rfl, TX12, rfl⟩
theorem mv_X12_tasting : zMv 12 yX12_tasting := ⟨inT7 133 rfl rfl, inTs (n := 77) (List.mem_of_getElem? (i := 81) rfl), TX12, rfl⟩
theorem mv_X12_telling : zMv 12 yX12_telling := ⟨inT7 202 rfl rfl, inTs (n := 77) (List.mem_of_getElem? (i := 96) rfl), TX12, rfl⟩
theorem mv_X12_tells : zMv 12 yX12_tells := ⟨inT8 71 rfl rfl, inTs (n := 77) (List.mem_of_getElem? (i := 115) rfl), TX12, rfl⟩
theorem mv_X12_threes : zMv 12 yX12_threes := ⟨inT7 144 rfl rfl, inTs (n := 77) (List.mem_of_getElem? (i := 83) rfl), TX12, rfl⟩
theorem mv_X12_toldOf : zMv 12 yX12_toldOf := ⟨inT8 10 rfl rfl, inTs (n := 77) (List.mem_of_getElem? (i := 104) rfl), TX12, rfl⟩
theorem mv_X12_twoBytes : zMv 12 yX12_twoBytes := ⟨inT9 26 rfl rfl, inTs (n := 77) (List.mem_of_getElem? (i := 137) rfl), TX12, rfl⟩
theorem mv_X12_wished : zMv 12 yX12_wished := ⟨inT8 103 rfl rfl, inTs (n := 77) (List.mem_of_getElem? (i := 119) rfl), TX12, rfl⟩
theorem mv_X12_writes : zMv 12 yX12_writes := ⟨inT9 10 rfl rfl, inTs (n := 77) (List.mem_of_getElem? (i := 135) rfl), TX12, rfl⟩
theorem mv_X12_writesDown : zMv 12 yX12_writesDown := ⟨inT8 123 rfl rfl, inTs (n := 77) (List.mem_of_getElem? (i := 124) rfl), TX12, rfl⟩
theorem mv_X12_writesTwo : zMv 12 yX12_writesTwo := ⟨inT9 6 rfl rfl, inTs (n := 77) (List.mem_of_getElem? (i := 134) rfl), TX12, rfl⟩
theorem mv_X1_add : zMv 1 yX1_add := ⟨inT3 214 rfl rfl, inT3 215 rfl rfl, TX1, rfl⟩
theorem mv_X1_valueOf : zMv 1 yX1_valueOf := ⟨inT4 101 rfl rfl, inT4 102 rfl rfl, TX1, rfl⟩
theorem mv_X2_findPair : zMv 2 yX2_findPair := ⟨inT5 65 rfl rfl, inT5 66 rfl rfl, TX2, rfl⟩
theorem mv_X2_fits : zMv 2 yX2_fits := ⟨inT5 42 rfl rfl, inTs (n := 5) (List.mem_of_getElem? (i := 46) rfl), TX2, rfl⟩
theorem mv_X2_gather : zMv 2 yX2_gather := ⟨inT5 37 rfl rfl, inT5 38 rfl rfl, TX2, rfl⟩
theorem mv_X2_greatest : zMv 2 yX2_greatest := ⟨inT5 56 rfl rfl, inT5 57 rfl rfl, TX2, rfl⟩
theorem mv_X2_hear : zMv 2 yX2_hear := ⟨inT5 29 rfl rfl, inT5 30 rfl rfl, TX2, rfl⟩
theorem mv_X2_least : zMv 2 yX2_least := ⟨inT5 51 rfl rfl, inT5 52 rfl rfl, TX2, rfl⟩
theorem mv_X2_mostLeft : zMv 2 yX2_mostLeft := ⟨inT5 71 rfl rfl, inTs (n := 5) (List.mem_of_getElem? (i := 47) rfl), TX2, rfl⟩
theorem mv_X3_put : zMv 3 yX3_put := ⟨inT5 211 rfl rfl, inTs (n := 5) (List.mem_of_getElem? (i := 59) rfl), TX3, rfl⟩
theorem mv_X3_putPair : zMv 3 yX3_putPair := ⟨inT5 207 rfl rfl, inTs (n := 5) (List.mem_of_getElem? (i := 58) rfl), TX3, rfl⟩
theorem mv_X3_putTriple : zMv 3 yX3_putTriple := ⟨inT5 215 rfl rfl, inTs (n := 5) (List.mem_of_getElem? (i := 60) rfl), TX3, rfl⟩
theorem mv_X3_read : zMv 3 yX3_read := ⟨inT5 229 rfl rfl, inT5 230 rfl rfl, TX3, rfl⟩
theorem mv_X3_takeByte : zMv 3 yX3_takeByte := ⟨inT6 2 rfl rfl, inTs (n := 5) (List.mem_of_getElem? (i := 62) rfl), TX3, rfl⟩
theorem mv_X3_takePair : zMv 3 yX3_takePair := ⟨inT5 238 rfl rfl, inTs (n := 5) (List.mem_of_getElem? (i := 61) rfl), TX3, rfl⟩
theorem mv_X3_takeTriple : zMv 3 yX3_takeTriple := ⟨inT6 6 rfl rfl, inTs (n := 5) (List.mem_of_getElem? (i := 63) rfl), TX3, rfl⟩
theorem mv_X3_write : zMv 3 yX3_write := ⟨inT5 202 rfl rfl, inT5 203 rfl rfl, TX3, rfl⟩
theorem mv_X4_choose : zMv 4 yX4_choose := ⟨inT4 172 rfl rfl, inT4 173 rfl rfl, TX4, rfl⟩
theorem mv_X4_favourite : zMv 4 yX4_favourite := ⟨inT4 176 rfl rfl, inT4 177 rfl rfl, TX4, rfl⟩
theorem mv_X4_findDress : zMv 4 yX4_findDress := ⟨inT5 9 rfl rfl, inT5 10 rfl rfl, TX4, rfl⟩
theorem mv_X4_firstLonely : zMv 4 yX4_firstLonely := ⟨inT4 208 rfl rfl, inT4 209 rfl rfl, TX4, rfl⟩
theorem mv_X4_follow : zMv 4 yX4_follow := ⟨inT5 130 rfl rfl, inT5 131 rfl rfl, TX4, rfl⟩
theorem mv_X4_liking : zMv 4 yX4_liking := ⟨inT4 92 rfl rfl, inT4 93 rfl rfl, TX4, rfl⟩
theorem mv_X4_look : zMv 4 yX4_look := ⟨inT4 97 rfl rfl, inTs (n := 4) (List.mem_of_getElem? (i := 38) rfl), TX4, rfl⟩
theorem mv_X4_mayAsk : zMv 4 yX4_mayAsk := ⟨inT4 181 rfl rfl, inTs (n := 4) (List.mem_of_getElem? (i := 41) rfl), TX4, rfl⟩
theorem mv_X4_meet : zMv 4 yX4_meet := ⟨inT4 190 rfl rfl, inTs (n := 4) (List.mem_of_getElem? (i := 42) rfl), TX4, rfl⟩
theorem mv_X4_playHour : zMv 4 yX4_playHour := ⟨inT4 154 rfl rfl, inT4 155 rfl rfl, TX4, rfl⟩
theorem mv_X4_settle : zMv 4 yX4_settle := ⟨inT4 185 rfl rfl, inT4 186 rfl rfl, TX4, rfl⟩
theorem mv_X4_weigh : zMv 4 yX4_weigh := ⟨inT4 158 rfl rfl, inT4 159 rfl rfl, TX4, rfl⟩
theorem mv_X4_weighGuest : zMv 4 yX4_weighGuest := ⟨inT4 163 rfl rfl, inTs (n := 4) (List.mem_of_getElem? (i := 40) rfl), TX4, rfl⟩
theorem mv_X5_beastStatement : zMv 5 yX5_beastStatement := ⟨inT3 136 rfl rfl, inTs (n := 9) (List.mem_of_getElem? (i := 10) rfl), TX5, rfl⟩
theorem mv_X5_both : zMv 5 yX5_both := ⟨inT3 239 rfl rfl, inTs (n := 9) (List.mem_of_getElem? (i := 29) rfl), TX5, rfl⟩
theorem mv_X5_choice : zMv 5 yX5_choice := ⟨inT3 231 rfl rfl, inTs (n := 9) (List.mem_of_getElem? (i := 27) rfl), TX5, rfl⟩
theorem mv_X5_closing : zMv 5 yX5_closing := ⟨inT3 223 rfl rfl, inTs (n := 9) (List.mem_of_getElem? (i := 25) rfl), TX5, rfl⟩
theorem mv_X5_comparison : zMv 5 yX5_comparison := ⟨inT4 7 rfl rfl, inTs (n := 9) (List.mem_of_getElem? (i := 31) rfl), TX5, rfl⟩
theorem mv_X5_fact : zMv 5 yX5_fact := ⟨inT4 3 rfl rfl, inTs (n := 9) (List.mem_of_getElem? (i := 30) rfl), TX5, rfl⟩
theorem mv_X5_fail : zMv 5 yX5_fail := ⟨inT3 128 rfl rfl, inTs (n := 9) (List.mem_of_getElem? (i := 8) rfl), TX5, rfl⟩
theorem mv_X5_fearStatement : zMv 5 yX5_fearStatement := ⟨inT3 187 rfl rfl, inTs (n := 9) (List.mem_of_getElem? (i := 18) rfl), TX5, rfl⟩
theorem mv_X5_guestStatement : zMv 5 yX5_guestStatement := ⟨inT3 179 rfl rfl, inTs (n := 9) (List.mem_of_getElem? (i := 17) rfl), TX5, rfl⟩
theorem mv_X5_kind : zMv 5 yX5_kind := ⟨inT3 124 rfl rfl, inTs (n := 9) (List.mem_of_getElem? (i := 7) rfl), TX5, rfl⟩
theorem mv_X5_knownBeast : zMv 5 yX5_knownBeast := ⟨inT3 171 rfl rfl, inTs (n := 9) (List.mem_of_getElem? (i := 15) rfl), TX5, rfl⟩
theorem mv_X5_knownGuest : zMv 5 yX5_knownGuest := ⟨inT3 191 rfl rfl, inTs (n := 9) (List.mem_of_getElem? (i := 19) rfl), TX5, rfl⟩
theorem mv_X5_likesStatement : zMv 5 yX5_likesStatement := ⟨inT3 199 rfl rfl, inTs (n := 9) (List.mem_of_getElem? (i := 20) rfl), TX5, rfl⟩
theorem mv_X5_mayStatement : zMv 5 yX5_mayStatement := ⟨inT4 15 rfl rfl, inTs (n := 9) (List.mem_of_getElem? (i := 33) rfl), TX5, rfl⟩
theorem mv_X5_newName : zMv 5 yX5_newName := ⟨inT3 140 rfl rfl, inTs (n := 9) (List.mem_of_getElem? (i := 11) rfl), TX5, rfl⟩
theorem mv_X5_number : zMv 5 yX5_number := ⟨inT3 156 rfl rfl, inTs (n := 9) (List.mem_of_getElem? (i := 13) rfl), TX5, rfl⟩
theorem mv_X5_opening : zMv 5 yX5_opening := ⟨inT3 219 rfl rfl, inTs (n := 9) (List.mem_of_getElem? (i := 24) rfl), TX5, rfl⟩
theorem mv_X5_pairOfSums : zMv 5 yX5_pairOfSums := ⟨inT3 227 rfl rfl, inTs (n := 9) (List.mem_of_getElem? (i := 26) rfl), TX5, rfl⟩
theorem mv_X5_parse : zMv 5 yX5_parse := ⟨inT3 85 rfl rfl, inT3 86 rfl rfl, TX5, rfl⟩
theorem mv_X5_part : zMv 5 yX5_part := ⟨inT3 211 rfl rfl, inTs (n := 9) (List.mem_of_getElem? (i := 23) rfl), TX5, rfl⟩
theorem mv_X5_product : zMv 5 yX5_product := ⟨inT3 207 rfl rfl, inTs (n := 9) (List.mem_of_getElem? (i := 22) rfl), TX5, rfl⟩
theorem mv_X5_scenePart : zMv 5 yX5_scenePart := ⟨inT4 11 rfl rfl, inTs (n := 9) (List.mem_of_getElem? (i := 32) rfl), TX5, rfl⟩
theorem mv_X5_setting : zMv 5 yX5_setting := ⟨inT4 19 rfl rfl, inTs (n := 9) (List.mem_of_getElem? (i := 34) rfl), TX5, rfl⟩
theorem mv_X5_statement : zMv 5 yX5_statement := ⟨inT3 132 rfl rfl, inTs (n := 9) (List.mem_of_getElem? (i := 9) rfl), TX5, rfl⟩
theorem mv_X5_sum : zMv 5 yX5_sum := ⟨inT3 203 rfl rfl, inTs (n := 9) (List.mem_of_getElem? (i := 21) rfl), TX5, rfl⟩
theorem mv_X5_tasteStatement : zMv 5 yX5_tasteStatement := ⟨inT3 167 rfl rfl, inTs (n := 9) (List.mem_of_getElem? (i := 14) rfl), TX5, rfl⟩
theorem mv_X5_test : zMv 5 yX5_test := ⟨inT3 235 rfl rfl, inTs (n := 9) (List.mem_of_getElem? (i := 28) rfl), TX5, rfl⟩
theorem mv_X5_token : zMv 5 yX5_token := ⟨inT3 152 rfl rfl, inTs (n := 9) (List.mem_of_getElem? (i := 12) rfl), TX5, rfl⟩
theorem mv_X5_triple : zMv 5 yX5_triple := ⟨inT3 175 rfl rfl, inTs (n := 9) (List.mem_of_getElem? (i := 16) rfl), TX5, rfl⟩
theorem mv_X6_find : zMv 6 yX6_find := ⟨inT5 78 rfl rfl, inT5 79 rfl rfl, TX6, rfl⟩
theorem mv_X6_goesRound : zMv 6 yX6_goesRound := ⟨inT5 102 rfl rfl, inTs (n := 5) (List.mem_of_getElem? (i := 52) rfl), TX6, rfl⟩
theorem mv_X6_hold : zMv 6 yX6_hold := ⟨inT5 83 rfl rfl, inTs (n := 5) (List.mem_of_getElem? (i := 48) rfl), TX6, rfl⟩
theorem mv_X6_isLeft : zMv 6 yX6_isLeft := ⟨inT5 89 rfl rfl, inTs (n := 5) (List.mem_of_getElem? (i := 49) rfl), TX6, rfl⟩
theorem mv_X6_leave : zMv 6 yX6_leave := ⟨inT5 98 rfl rfl, inTs (n := 5) (List.mem_of_getElem? (i := 51) rfl), TX6, rfl⟩
theorem mv_X6_pointed : zMv 6 yX6_pointed := ⟨inT5 93 rfl rfl, inTs (n := 5) (List.mem_of_getElem? (i := 50) rfl), TX6, rfl⟩
theorem mv_X7_begin : zMv 7 yX7_begin := ⟨inT4 22 rfl rfl, inT4 23 rfl rfl, TX7, rfl⟩
theorem mv_X7_copyFrom : zMv 7 yX7_copyFrom := ⟨inT4 150 rfl rfl, inT4 151 rfl rfl, TX7, rfl⟩
theorem mv_X7_forgetDay : zMv 7 yX7_forgetDay := ⟨inT1 173 rfl rfl, inTs (n := 12) (List.mem_of_getElem? (i := 0) rfl), TX7, rfl⟩
theorem mv_X7_forgetRows : zMv 7 yX7_forgetRows := ⟨inT4 29 rfl rfl, inT4 30 rfl rfl, TX7, rfl⟩
theorem mv_X7_keepRow : zMv 7 yX7_keepRow := ⟨inT4 193 rfl rfl, inT4 194 rfl rfl, TX7, rfl⟩
theorem mv_X7_moment : zMv 7 yX7_moment := ⟨inT4 145 rfl rfl, inT4 146 rfl rfl, TX7, rfl⟩
theorem mv_X7_passHour : zMv 7 yX7_passHour := ⟨inT4 198 rfl rfl, inT4 199 rfl rfl, TX7, rfl⟩
theorem mv_X7_rowPart : zMv 7 yX7_rowPart := ⟨inT5 194 rfl rfl, inT5 195 rfl rfl, TX7, rfl⟩
theorem mv_X7_suits : zMv 7 yX7_suits := ⟨inT4 88 rfl rfl, inT4 89 rfl rfl, TX7, rfl⟩
theorem mv_X7_swapKnowledge : zMv 7 yX7_swapKnowledge := ⟨inT5 175 rfl rfl, inT5 176 rfl rfl, TX7, rfl⟩
theorem mv_X8_badHere : zMv 8 yX8_badHere := ⟨inT3 112 rfl rfl, inTs (n := 9) (List.mem_of_getElem? (i := 4) rfl), TX8, rfl⟩
theorem mv_X8_holdsPairs : zMv 8 yX8_holdsPairs := ⟨inT5 21 rfl rfl, inT5 22 rfl rfl, TX8, rfl⟩
theorem mv_X8_pairsUnlike : zMv 8 yX8_pairsUnlike := ⟨inT5 25 rfl rfl, inT5 26 rfl rfl, TX8, rfl⟩
theorem mv_X8_put : zMv 8 yX8_put := ⟨inT3 73 rfl rfl, inT3 74 rfl rfl, TX8, rfl⟩
theorem mv_X8_scan : zMv 8 yX8_scan := ⟨inT3 102 rfl rfl, inTs (n := 9) (List.mem_of_getElem? (i := 3) rfl), TX8, rfl⟩
theorem mv_X8_scanNumber : zMv 8 yX8_scanNumber := ⟨inT3 120 rfl rfl, inTs (n := 9) (List.mem_of_getElem? (i := 6) rfl), TX8, rfl⟩
theorem mv_X8_scanWord : zMv 8 yX8_scanWord := ⟨inT3 116 rfl rfl, inTs (n := 9) (List.mem_of_getElem? (i := 5) rfl), TX8, rfl⟩
theorem mv_X8_skipBlanks : zMv 8 yX8_skipBlanks := ⟨inT3 98 rfl rfl, inTs (n := 9) (List.mem_of_getElem? (i := 2) rfl), TX8, rfl⟩
theorem mv_X8_split : zMv 8 yX8_split := ⟨inT3 93 rfl rfl, inT3 94 rfl rfl, TX8, rfl⟩
theorem mv_X9_least : zMv 9 yX9_least := ⟨inT5 109 rfl rfl, inT5 110 rfl rfl, TX9, rfl⟩
theorem mv_X9_sharedByOneMore : zMv 9 yX9_sharedByOneMore := ⟨inT5 117 rfl rfl, inTs (n := 2) (List.mem_of_getElem? (i := 53) rfl), TX9, rfl⟩
theorem wnat : Cond.native arraycopyName ∈ TBL := inT4 27 rfl rfl
theorem wsta : Cond.static arraycopyName ∈ TBL := inT4 26 rfl rfl
theorem wini : Cond.initialized "java/lang/System" ∈ TBL := inT1 18 rfl rfl
theorem id_lt {z : Nat} {s : Nat} (h : kdC z = (0, s)) : z < 2147483647 := Nat.lt_trans (kdC_lt (by rw [h]; simp)) (by decide)
theorem ida_lt {z n : Nat} (h : kdC z = (1, n)) : z < 2147483647 := Nat.lt_trans (kdC_lt (by rw [h]; simp)) (by decide)
theorem cI_len {z n : Nat} (h : kdC z = (1, n)) : cI (n : Int) := by
  have hl : z < 249 := kdC_lt (by rw [h]; simp)
  have hh : ∀ z, z < 249 → (kdC z).2 < 2147483648 := by decide +kernel
  have := hh z hl
  rw [h] at this
  unfold cI
  dsimp only at this
  omega
