theorem kb_Mo_init_0 : decode prog_10_method_1_code 0 = .ok (.aload_n 0, 1) := by decide +kernel
theorem kb_Mo_init_1 : decode prog_10_method_1_code 1 = .ok (.invokespecial 1, 3) := by decide +kernel
theorem kb_Mo_init_4 : decode prog_10_method_1_code 4 = .ok (.aload_n 0, 1) := by decide +kernel
theorem kb_Mo_init_5 : decode prog_10_method_1_code 5 = .ok (.sipush 600, 3) := by decide +kernel
theorem kb_Mo_init_8 : decode prog_10_method_1_code 8 = .ok (.newarray .byte, 2) := by decide +kernel
theorem kb_Mo_init_10 : decode prog_10_method_1_code 10 = .ok (.putfield 7, 3) := by decide +kernel
theorem kb_Mo_init_13 : decode prog_10_method_1_code 13 = .ok (.aload_n 0, 1) := by decide +kernel
theorem kb_Mo_init_14 : decode prog_10_method_1_code 14 = .ok (.sipush 602, 3) := by decide +kernel
theorem kb_Mo_init_17 : decode prog_10_method_1_code 17 = .ok (.newarray .int, 2) := by decide +kernel
theorem kb_Mo_init_19 : decode prog_10_method_1_code 19 = .ok (.putfield 13, 3) := by decide +kernel
theorem kb_Mo_init_22 : decode prog_10_method_1_code 22 = .ok (.aload_n 0, 1) := by decide +kernel
theorem kb_Mo_init_23 : decode prog_10_method_1_code 23 = .ok (.sipush 602, 3) := by decide +kernel
theorem kb_Mo_init_26 : decode prog_10_method_1_code 26 = .ok (.newarray .int, 2) := by decide +kernel
theorem kb_Mo_init_28 : decode prog_10_method_1_code 28 = .ok (.putfield 17, 3) := by decide +kernel
theorem kb_Mo_init_31 : decode prog_10_method_1_code 31 = .ok (.aload_n 0, 1) := by decide +kernel
theorem kb_Mo_init_32 : decode prog_10_method_1_code 32 = .ok (.iconst (-1), 1) := by decide +kernel
theorem kb_Mo_init_33 : decode prog_10_method_1_code 33 = .ok (.putfield 20, 3) := by decide +kernel
theorem kb_Mo_init_36 : decode prog_10_method_1_code 36 = .ok (.aload_n 0, 1) := by decide +kernel
theorem kb_Mo_init_37 : decode prog_10_method_1_code 37 = .ok (.bipush 17, 2) := by decide +kernel
theorem kb_Mo_init_39 : decode prog_10_method_1_code 39 = .ok (.newarray .int, 2) := by decide +kernel
theorem kb_Mo_init_41 : decode prog_10_method_1_code 41 = .ok (.putfield 24, 3) := by decide +kernel
theorem kb_Mo_init_44 : decode prog_10_method_1_code 44 = .ok (.aload_n 0, 1) := by decide +kernel
theorem kb_Mo_init_45 : decode prog_10_method_1_code 45 = .ok (.bipush 51, 2) := by decide +kernel
theorem kb_Mo_init_47 : decode prog_10_method_1_code 47 = .ok (.newarray .int, 2) := by decide +kernel
theorem kb_Mo_init_49 : decode prog_10_method_1_code 49 = .ok (.putfield 27, 3) := by decide +kernel
theorem kb_Mo_init_52 : decode prog_10_method_1_code 52 = .ok (.aload_n 0, 1) := by decide +kernel
theorem kb_Mo_init_53 : decode prog_10_method_1_code 53 = .ok (.bipush 17, 2) := by decide +kernel
theorem kb_Mo_init_55 : decode prog_10_method_1_code 55 = .ok (.newarray .int, 2) := by decide +kernel
theorem kb_Mo_init_57 : decode prog_10_method_1_code 57 = .ok (.putfield 30, 3) := by decide +kernel
theorem kb_Mo_init_60 : decode prog_10_method_1_code 60 = .ok (.aload_n 0, 1) := by decide +kernel
theorem kb_Mo_init_61 : decode prog_10_method_1_code 61 = .ok (.bipush 85, 2) := by decide +kernel
theorem kb_Mo_init_63 : decode prog_10_method_1_code 63 = .ok (.newarray .int, 2) := by decide +kernel
theorem kb_Mo_init_65 : decode prog_10_method_1_code 65 = .ok (.putfield 33, 3) := by decide +kernel
theorem kb_Mo_init_68 : decode prog_10_method_1_code 68 = .ok (.aload_n 0, 1) := by decide +kernel
theorem kb_Mo_init_69 : decode prog_10_method_1_code 69 = .ok (.bipush 85, 2) := by decide +kernel
theorem kb_Mo_init_71 : decode prog_10_method_1_code 71 = .ok (.newarray .int, 2) := by decide +kernel
theorem kb_Mo_init_73 : decode prog_10_method_1_code 73 = .ok (.putfield 36, 3) := by decide +kernel
theorem kb_Mo_init_76 : decode prog_10_method_1_code 76 = .ok (.aload_n 0, 1) := by decide +kernel
theorem kb_Mo_init_77 : decode prog_10_method_1_code 77 = .ok (.sipush 255, 3) := by decide +kernel
theorem kb_Mo_init_80 : decode prog_10_method_1_code 80 = .ok (.newarray .int, 2) := by decide +kernel
theorem kb_Mo_init_82 : decode prog_10_method_1_code 82 = .ok (.putfield 39, 3) := by decide +kernel
theorem kb_Mo_init_85 : decode prog_10_method_1_code 85 = .ok (.aload_n 0, 1) := by decide +kernel
theorem kb_Mo_init_86 : decode prog_10_method_1_code 86 = .ok (.bipush 17, 2) := by decide +kernel
theorem kb_Mo_init_88 : decode prog_10_method_1_code 88 = .ok (.newarray .boolean, 2) := by decide +kernel
theorem kb_Mo_init_90 : decode prog_10_method_1_code 90 = .ok (.putfield 42, 3) := by decide +kernel
theorem kb_Mo_init_93 : decode prog_10_method_1_code 93 = .ok (.aload_n 0, 1) := by decide +kernel
theorem kb_Mo_init_94 : decode prog_10_method_1_code 94 = .ok (.bipush 17, 2) := by decide +kernel
theorem kb_Mo_init_96 : decode prog_10_method_1_code 96 = .ok (.newarray .int, 2) := by decide +kernel
theorem kb_Mo_init_98 : decode prog_10_method_1_code 98 = .ok (.putfield 46, 3) := by decide +kernel
theorem kb_Mo_init_101 : decode prog_10_method_1_code 101 = .ok (.aload_n 0, 1) := by decide +kernel
theorem kb_Mo_init_102 : decode prog_10_method_1_code 102 = .ok (.bipush 9, 2) := by decide +kernel
theorem kb_Mo_init_104 : decode prog_10_method_1_code 104 = .ok (.newarray .int, 2) := by decide +kernel
theorem kb_Mo_init_106 : decode prog_10_method_1_code 106 = .ok (.putfield 49, 3) := by decide +kernel
theorem kb_Mo_init_109 : decode prog_10_method_1_code 109 = .ok (.aload_n 0, 1) := by decide +kernel
theorem kb_Mo_init_110 : decode prog_10_method_1_code 110 = .ok (.bipush 9, 2) := by decide +kernel
theorem kb_Mo_init_112 : decode prog_10_method_1_code 112 = .ok (.newarray .int, 2) := by decide +kernel
theorem kb_Mo_init_114 : decode prog_10_method_1_code 114 = .ok (.putfield 52, 3) := by decide +kernel
theorem kb_Mo_init_117 : decode prog_10_method_1_code 117 = .ok (.aload_n 0, 1) := by decide +kernel
theorem kb_Mo_init_118 : decode prog_10_method_1_code 118 = .ok (.bipush 9, 2) := by decide +kernel
theorem kb_Mo_init_120 : decode prog_10_method_1_code 120 = .ok (.newarray .boolean, 2) := by decide +kernel
theorem kb_Mo_init_122 : decode prog_10_method_1_code 122 = .ok (.putfield 55, 3) := by decide +kernel
theorem kb_Mo_init_125 : decode prog_10_method_1_code 125 = .ok (.aload_n 0, 1) := by decide +kernel
theorem kb_Mo_init_126 : decode prog_10_method_1_code 126 = .ok (.bipush 9, 2) := by decide +kernel
theorem kb_Mo_init_128 : decode prog_10_method_1_code 128 = .ok (.newarray .int, 2) := by decide +kernel
theorem kb_Mo_init_130 : decode prog_10_method_1_code 130 = .ok (.putfield 58, 3) := by decide +kernel
theorem kb_Mo_init_133 : decode prog_10_method_1_code 133 = .ok (.aload_n 0, 1) := by decide +kernel
theorem kb_Mo_init_134 : decode prog_10_method_1_code 134 = .ok (.bipush 64, 2) := by decide +kernel
theorem kb_Mo_init_136 : decode prog_10_method_1_code 136 = .ok (.newarray .boolean, 2) := by decide +kernel
theorem kb_Mo_init_138 : decode prog_10_method_1_code 138 = .ok (.putfield 61, 3) := by decide +kernel
theorem kb_Mo_init_141 : decode prog_10_method_1_code 141 = .ok (.aload_n 0, 1) := by decide +kernel
theorem kb_Mo_init_142 : decode prog_10_method_1_code 142 = .ok (.bipush 8, 2) := by decide +kernel
theorem kb_Mo_init_144 : decode prog_10_method_1_code 144 = .ok (.newarray .boolean, 2) := by decide +kernel
theorem kb_Mo_init_146 : decode prog_10_method_1_code 146 = .ok (.putfield 64, 3) := by decide +kernel
theorem kb_Mo_init_149 : decode prog_10_method_1_code 149 = .ok (.aload_n 0, 1) := by decide +kernel
theorem kb_Mo_init_150 : decode prog_10_method_1_code 150 = .ok (.sipush 960, 3) := by decide +kernel
theorem kb_Mo_init_153 : decode prog_10_method_1_code 153 = .ok (.newarray .int, 2) := by decide +kernel
theorem kb_Mo_init_155 : decode prog_10_method_1_code 155 = .ok (.putfield 67, 3) := by decide +kernel
theorem kb_Mo_init_158 : decode prog_10_method_1_code 158 = .ok (.aload_n 0, 1) := by decide +kernel
theorem kb_Mo_init_159 : decode prog_10_method_1_code 159 = .ok (.sipush 320, 3) := by decide +kernel
theorem kb_Mo_init_162 : decode prog_10_method_1_code 162 = .ok (.newarray .int, 2) := by decide +kernel
theorem kb_Mo_init_164 : decode prog_10_method_1_code 164 = .ok (.putfield 70, 3) := by decide +kernel
theorem kb_Mo_init_167 : decode prog_10_method_1_code 167 = .ok (.aload_n 0, 1) := by decide +kernel
theorem kb_Mo_init_168 : decode prog_10_method_1_code 168 = .ok (.bipush 8, 2) := by decide +kernel
theorem kb_Mo_init_170 : decode prog_10_method_1_code 170 = .ok (.newarray .int, 2) := by decide +kernel
theorem kb_Mo_init_172 : decode prog_10_method_1_code 172 = .ok (.putfield 73, 3) := by decide +kernel
theorem kb_Mo_init_175 : decode prog_10_method_1_code 175 = .ok (.aload_n 0, 1) := by decide +kernel
theorem kb_Mo_init_176 : decode prog_10_method_1_code 176 = .ok (.sipush 960, 3) := by decide +kernel
theorem kb_Mo_init_179 : decode prog_10_method_1_code 179 = .ok (.newarray .int, 2) := by decide +kernel
theorem kb_Mo_init_181 : decode prog_10_method_1_code 181 = .ok (.putfield 76, 3) := by decide +kernel
theorem kb_Mo_init_184 : decode prog_10_method_1_code 184 = .ok (.aload_n 0, 1) := by decide +kernel
theorem kb_Mo_init_185 : decode prog_10_method_1_code 185 = .ok (.sipush 320, 3) := by decide +kernel
theorem kb_Mo_init_188 : decode prog_10_method_1_code 188 = .ok (.newarray .int, 2) := by decide +kernel
theorem kb_Mo_init_190 : decode prog_10_method_1_code 190 = .ok (.putfield 79, 3) := by decide +kernel
theorem kb_Mo_init_193 : decode prog_10_method_1_code 193 = .ok (.aload_n 0, 1) := by decide +kernel
theorem kb_Mo_init_194 : decode prog_10_method_1_code 194 = .ok (.bipush 8, 2) := by decide +kernel
theorem kb_Mo_init_196 : decode prog_10_method_1_code 196 = .ok (.newarray .int, 2) := by decide +kernel
theorem kb_Mo_init_198 : decode prog_10_method_1_code 198 = .ok (.putfield 82, 3) := by decide +kernel
theorem kb_Mo_init_201 : decode prog_10_method_1_code 201 = .ok (.aload_n 0, 1) := by decide +kernel
theorem kb_Mo_init_202 : decode prog_10_method_1_code 202 = .ok (.sipush 300, 3) := by decide +kernel
theorem kb_Mo_init_205 : decode prog_10_method_1_code 205 = .ok (.newarray .int, 2) := by decide +kernel
theorem kb_Mo_init_207 : decode prog_10_method_1_code 207 = .ok (.putfield 85, 3) := by decide +kernel
theorem kb_Mo_init_210 : decode prog_10_method_1_code 210 = .ok (.aload_n 0, 1) := by decide +kernel
theorem kb_Mo_init_211 : decode prog_10_method_1_code 211 = .ok (.sipush 1800, 3) := by decide +kernel
theorem kb_Mo_init_214 : decode prog_10_method_1_code 214 = .ok (.newarray .int, 2) := by decide +kernel
theorem kb_Mo_init_216 : decode prog_10_method_1_code 216 = .ok (.putfield 88, 3) := by decide +kernel
theorem kb_Mo_init_219 : decode prog_10_method_1_code 219 = .ok (.aload_n 0, 1) := by decide +kernel
theorem kb_Mo_init_220 : decode prog_10_method_1_code 220 = .ok (.bipush 6, 2) := by decide +kernel
theorem kb_Mo_init_222 : decode prog_10_method_1_code 222 = .ok (.newarray .int, 2) := by decide +kernel
theorem kb_Mo_init_224 : decode prog_10_method_1_code 224 = .ok (.putfield 91, 3) := by decide +kernel
theorem kb_Mo_init_227 : decode prog_10_method_1_code 227 = .ok (.aload_n 0, 1) := by decide +kernel
theorem kb_Mo_init_228 : decode prog_10_method_1_code 228 = .ok (.sipush 3300, 3) := by decide +kernel
theorem kb_Mo_init_231 : decode prog_10_method_1_code 231 = .ok (.newarray .int, 2) := by decide +kernel
theorem kb_Mo_init_233 : decode prog_10_method_1_code 233 = .ok (.putfield 94, 3) := by decide +kernel
theorem kb_Mo_init_236 : decode prog_10_method_1_code 236 = .ok (.aload_n 0, 1) := by decide +kernel
theorem kb_Mo_init_237 : decode prog_10_method_1_code 237 = .ok (.bipush 104, 2) := by decide +kernel
theorem kb_Mo_init_239 : decode prog_10_method_1_code 239 = .ok (.newarray .int, 2) := by decide +kernel
theorem kb_Mo_init_241 : decode prog_10_method_1_code 241 = .ok (.putfield 97, 3) := by decide +kernel
theorem kb_Mo_init_244 : decode prog_10_method_1_code 244 = .ok (.aload_n 0, 1) := by decide +kernel
theorem kb_Mo_init_245 : decode prog_10_method_1_code 245 = .ok (.iconst 4, 1) := by decide +kernel
theorem kb_Mo_init_246 : decode prog_10_method_1_code 246 = .ok (.newarray .int, 2) := by decide +kernel
theorem kb_Mo_init_248 : decode prog_10_method_1_code 248 = .ok (.putfield 100, 3) := by decide +kernel
theorem kb_Mo_init_251 : decode prog_10_method_1_code 251 = .ok (.aload_n 0, 1) := by decide +kernel
theorem kb_Mo_init_252 : decode prog_10_method_1_code 252 = .ok (.iconst 3, 1) := by decide +kernel
theorem kb_Mo_init_253 : decode prog_10_method_1_code 253 = .ok (.newarray .int, 2) := by decide +kernel
theorem kb_Mo_init_255 : decode prog_10_method_1_code 255 = .ok (.putfield 103, 3) := by decide +kernel
theorem kb_Mo_init_258 : decode prog_10_method_1_code 258 = .ok (.aload_n 0, 1) := by decide +kernel
theorem kb_Mo_init_259 : decode prog_10_method_1_code 259 = .ok (.bipush 120, 2) := by decide +kernel
theorem kb_Mo_init_261 : decode prog_10_method_1_code 261 = .ok (.newarray .int, 2) := by decide +kernel
theorem kb_Mo_init_263 : decode prog_10_method_1_code 263 = .ok (.putfield 106, 3) := by decide +kernel
theorem kb_Mo_init_266 : decode prog_10_method_1_code 266 = .ok (.aload_n 0, 1) := by decide +kernel
theorem kb_Mo_init_267 : decode prog_10_method_1_code 267 = .ok (.bipush 40, 2) := by decide +kernel
theorem kb_Mo_init_269 : decode prog_10_method_1_code 269 = .ok (.newarray .int, 2) := by decide +kernel
theorem kb_Mo_init_271 : decode prog_10_method_1_code 271 = .ok (.putfield 109, 3) := by decide +kernel
theorem kb_Mo_init_274 : decode prog_10_method_1_code 274 = .ok (.aload_n 0, 1) := by decide +kernel
theorem kb_Mo_init_275 : decode prog_10_method_1_code 275 = .ok (.sipush 300, 3) := by decide +kernel
theorem kb_Mo_init_278 : decode prog_10_method_1_code 278 = .ok (.newarray .int, 2) := by decide +kernel
theorem kb_Mo_init_280 : decode prog_10_method_1_code 280 = .ok (.putfield 112, 3) := by decide +kernel
theorem kb_Mo_init_283 : decode prog_10_method_1_code 283 = .ok (.aload_n 0, 1) := by decide +kernel
theorem kb_Mo_init_284 : decode prog_10_method_1_code 284 = .ok (.bipush 8, 2) := by decide +kernel
theorem kb_Mo_init_286 : decode prog_10_method_1_code 286 = .ok (.newarray .int, 2) := by decide +kernel
theorem kb_Mo_init_288 : decode prog_10_method_1_code 288 = .ok (.putfield 115, 3) := by decide +kernel
theorem kb_Mo_init_291 : decode prog_10_method_1_code 291 = .ok (.aload_n 0, 1) := by decide +kernel
theorem kb_Mo_init_292 : decode prog_10_method_1_code 292 = .ok (.bipush 26, 2) := by decide +kernel
theorem kb_Mo_init_294 : decode prog_10_method_1_code 294 = .ok (.newarray .int, 2) := by decide +kernel
theorem kb_Mo_init_296 : decode prog_10_method_1_code 296 = .ok (.putfield 118, 3) := by decide +kernel
theorem kb_Mo_init_299 : decode prog_10_method_1_code 299 = .ok (.return_, 1) := by decide +kernel
theorem kb_Mo_isIn_0 : decode prog_10_method_2_code 0 = .ok (.iload_n 0, 1) := by decide +kernel
theorem kb_Mo_isIn_1 : decode prog_10_method_2_code 1 = .ok (.iload_n 1, 1) := by decide +kernel
theorem kb_Mo_isIn_2 : decode prog_10_method_2_code 2 = .ok (.if_icmp .lt 12, 3) := by decide +kernel
theorem kb_Mo_isIn_5 : decode prog_10_method_2_code 5 = .ok (.iload_n 0, 1) := by decide +kernel
theorem kb_Mo_isIn_6 : decode prog_10_method_2_code 6 = .ok (.iload_n 2, 1) := by decide +kernel
theorem kb_Mo_isIn_7 : decode prog_10_method_2_code 7 = .ok (.if_icmp .gt 7, 3) := by decide +kernel
theorem kb_Mo_isIn_10 : decode prog_10_method_2_code 10 = .ok (.iconst 1, 1) := by decide +kernel
theorem kb_Mo_isIn_11 : decode prog_10_method_2_code 11 = .ok (.goto 4, 3) := by decide +kernel
theorem kb_Mo_isIn_14 : decode prog_10_method_2_code 14 = .ok (.iconst 0, 1) := by decide +kernel
theorem kb_Mo_isIn_15 : decode prog_10_method_2_code 15 = .ok (.ireturn, 1) := by decide +kernel
theorem kb_Mo_wrong_0 : decode prog_10_method_3_code 0 = .ok (.aload_n 0, 1) := by decide +kernel
theorem kb_Mo_wrong_1 : decode prog_10_method_3_code 1 = .ok (.getfield 121, 3) := by decide +kernel
theorem kb_Mo_wrong_4 : decode prog_10_method_3_code 4 = .ok (.ifCond .ne 21, 3) := by decide +kernel
theorem kb_Mo_wrong_7 : decode prog_10_method_3_code 7 = .ok (.aload_n 0, 1) := by decide +kernel
theorem kb_Mo_wrong_8 : decode prog_10_method_3_code 8 = .ok (.iload_n 1, 1) := by decide +kernel
theorem kb_Mo_wrong_9 : decode prog_10_method_3_code 9 = .ok (.putfield 121, 3) := by decide +kernel
theorem kb_Mo_wrong_12 : decode prog_10_method_3_code 12 = .ok (.aload_n 0, 1) := by decide +kernel
theorem kb_Mo_wrong_13 : decode prog_10_method_3_code 13 = .ok (.aload_n 0, 1) := by decide +kernel
theorem kb_Mo_wrong_14 : decode prog_10_method_3_code 14 = .ok (.getfield 17, 3) := by decide +kernel
theorem kb_Mo_wrong_17 : decode prog_10_method_3_code 17 = .ok (.aload_n 0, 1) := by decide +kernel
theorem kb_Mo_wrong_18 : decode prog_10_method_3_code 18 = .ok (.getfield 124, 3) := by decide +kernel
theorem kb_Mo_wrong_21 : decode prog_10_method_3_code 21 = .ok (.iaload, 1) := by decide +kernel
theorem kb_Mo_wrong_22 : decode prog_10_method_3_code 22 = .ok (.putfield 20, 3) := by decide +kernel
theorem kb_Mo_wrong_25 : decode prog_10_method_3_code 25 = .ok (.return_, 1) := by decide +kernel
theorem kb_Mo_sign_0 : decode prog_10_method_4_code 0 = .ok (.aload_n 0, 1) := by decide +kernel
theorem kb_Mo_sign_1 : decode prog_10_method_4_code 1 = .ok (.getfield 13, 3) := by decide +kernel
theorem kb_Mo_sign_4 : decode prog_10_method_4_code 4 = .ok (.aload_n 0, 1) := by decide +kernel
theorem kb_Mo_sign_5 : decode prog_10_method_4_code 5 = .ok (.getfield 124, 3) := by decide +kernel
theorem kb_Mo_sign_8 : decode prog_10_method_4_code 8 = .ok (.iaload, 1) := by decide +kernel
theorem kb_Mo_sign_9 : decode prog_10_method_4_code 9 = .ok (.ireturn, 1) := by decide +kernel
theorem kb_Mo_take_0 : decode prog_10_method_5_code 0 = .ok (.aload_n 0, 1) := by decide +kernel
theorem kb_Mo_take_1 : decode prog_10_method_5_code 1 = .ok (.getfield 121, 3) := by decide +kernel
theorem kb_Mo_take_4 : decode prog_10_method_5_code 4 = .ok (.ifCond .ne 16, 3) := by decide +kernel
theorem kb_Mo_take_7 : decode prog_10_method_5_code 7 = .ok (.aload_n 0, 1) := by decide +kernel
theorem kb_Mo_take_8 : decode prog_10_method_5_code 8 = .ok (.invokevirtual 127, 3) := by decide +kernel
theorem kb_Mo_take_11 : decode prog_10_method_5_code 11 = .ok (.iload_n 1, 1) := by decide +kernel
theorem kb_Mo_take_12 : decode prog_10_method_5_code 12 = .ok (.if_icmp .eq 8, 3) := by decide +kernel
theorem kb_Mo_take_15 : decode prog_10_method_5_code 15 = .ok (.aload_n 0, 1) := by decide +kernel
theorem kb_Mo_take_16 : decode prog_10_method_5_code 16 = .ok (.iconst 1, 1) := by decide +kernel
theorem kb_Mo_take_17 : decode prog_10_method_5_code 17 = .ok (.invokevirtual 131, 3) := by decide +kernel
theorem kb_Mo_take_20 : decode prog_10_method_5_code 20 = .ok (.aload_n 0, 1) := by decide +kernel
theorem kb_Mo_take_21 : decode prog_10_method_5_code 21 = .ok (.dup, 1) := by decide +kernel
theorem kb_Mo_take_22 : decode prog_10_method_5_code 22 = .ok (.getfield 124, 3) := by decide +kernel
theorem kb_Mo_take_25 : decode prog_10_method_5_code 25 = .ok (.aload_n 0, 1) := by decide +kernel
theorem kb_Mo_take_26 : decode prog_10_method_5_code 26 = .ok (.getfield 121, 3) := by decide +kernel
theorem kb_Mo_take_29 : decode prog_10_method_5_code 29 = .ok (.ifCond .ne 7, 3) := by decide +kernel
theorem kb_Mo_take_32 : decode prog_10_method_5_code 32 = .ok (.iconst 1, 1) := by decide +kernel
theorem kb_Mo_take_33 : decode prog_10_method_5_code 33 = .ok (.goto 4, 3) := by decide +kernel
theorem kb_Mo_take_36 : decode prog_10_method_5_code 36 = .ok (.iconst 0, 1) := by decide +kernel
theorem kb_Mo_take_37 : decode prog_10_method_5_code 37 = .ok (.iadd, 1) := by decide +kernel
theorem kb_Mo_take_38 : decode prog_10_method_5_code 38 = .ok (.putfield 124, 3) := by decide +kernel
theorem kb_Mo_take_41 : decode prog_10_method_5_code 41 = .ok (.return_, 1) := by decide +kernel
theorem kb_Mo_count_0 : decode prog_10_method_6_code 0 = .ok (.iconst 0, 1) := by decide +kernel
theorem kb_Mo_count_1 : decode prog_10_method_6_code 1 = .ok (.istore_n 1, 1) := by decide +kernel
theorem kb_Mo_count_2 : decode prog_10_method_6_code 2 = .ok (.iconst 0, 1) := by decide +kernel
theorem kb_Mo_count_3 : decode prog_10_method_6_code 3 = .ok (.istore_n 2, 1) := by decide +kernel
theorem kb_Mo_count_4 : decode prog_10_method_6_code 4 = .ok (.iload_n 2, 1) := by decide +kernel
theorem kb_Mo_count_5 : decode prog_10_method_6_code 5 = .ok (.bipush 26, 2) := by decide +kernel
theorem kb_Mo_count_7 : decode prog_10_method_6_code 7 = .ok (.if_icmp .ge 17, 3) := by decide +kernel
theorem kb_Mo_count_10 : decode prog_10_method_6_code 10 = .ok (.iload_n 1, 1) := by decide +kernel
theorem kb_Mo_count_11 : decode prog_10_method_6_code 11 = .ok (.iload_n 0, 1) := by decide +kernel
theorem kb_Mo_count_12 : decode prog_10_method_6_code 12 = .ok (.iload_n 2, 1) := by decide +kernel
theorem kb_Mo_count_13 : decode prog_10_method_6_code 13 = .ok (.ishr, 1) := by decide +kernel
theorem kb_Mo_count_14 : decode prog_10_method_6_code 14 = .ok (.iconst 1, 1) := by decide +kernel
theorem kb_Mo_count_15 : decode prog_10_method_6_code 15 = .ok (.iand, 1) := by decide +kernel
theorem kb_Mo_count_16 : decode prog_10_method_6_code 16 = .ok (.iadd, 1) := by decide +kernel
theorem kb_Mo_count_17 : decode prog_10_method_6_code 17 = .ok (.istore_n 1, 1) := by decide +kernel
theorem kb_Mo_count_18 : decode prog_10_method_6_code 18 = .ok (.iinc 2 1, 3) := by decide +kernel
theorem kb_Mo_count_21 : decode prog_10_method_6_code 21 = .ok (.goto (-17), 3) := by decide +kernel
theorem kb_Mo_count_24 : decode prog_10_method_6_code 24 = .ok (.iload_n 1, 1) := by decide +kernel
theorem kb_Mo_count_25 : decode prog_10_method_6_code 25 = .ok (.ireturn, 1) := by decide +kernel
theorem kb_Mo_isName_0 : decode prog_10_method_7_code 0 = .ok (.iload_n 0, 1) := by decide +kernel
theorem kb_Mo_isName_1 : decode prog_10_method_7_code 1 = .ok (.bipush 97, 2) := by decide +kernel
theorem kb_Mo_isName_3 : decode prog_10_method_7_code 3 = .ok (.if_icmp .lt 13, 3) := by decide +kernel
theorem kb_Mo_isName_6 : decode prog_10_method_7_code 6 = .ok (.iload_n 0, 1) := by decide +kernel
theorem kb_Mo_isName_7 : decode prog_10_method_7_code 7 = .ok (.bipush 122, 2) := by decide +kernel
theorem kb_Mo_isName_9 : decode prog_10_method_7_code 9 = .ok (.if_icmp .gt 7, 3) := by decide +kernel
theorem kb_Mo_isName_12 : decode prog_10_method_7_code 12 = .ok (.iconst 1, 1) := by decide +kernel
theorem kb_Mo_isName_13 : decode prog_10_method_7_code 13 = .ok (.goto 4, 3) := by decide +kernel
theorem kb_Mo_isName_16 : decode prog_10_method_7_code 16 = .ok (.iconst 0, 1) := by decide +kernel
theorem kb_Mo_isName_17 : decode prog_10_method_7_code 17 = .ok (.ireturn, 1) := by decide +kernel
theorem kb_Mo_isVariable_0 : decode prog_10_method_8_code 0 = .ok (.iload_n 0, 1) := by decide +kernel
theorem kb_Mo_isVariable_1 : decode prog_10_method_8_code 1 = .ok (.bipush 65, 2) := by decide +kernel
theorem kb_Mo_isVariable_3 : decode prog_10_method_8_code 3 = .ok (.if_icmp .lt 13, 3) := by decide +kernel
theorem kb_Mo_isVariable_6 : decode prog_10_method_8_code 6 = .ok (.iload_n 0, 1) := by decide +kernel
theorem kb_Mo_isVariable_7 : decode prog_10_method_8_code 7 = .ok (.bipush 90, 2) := by decide +kernel
theorem kb_Mo_isVariable_9 : decode prog_10_method_8_code 9 = .ok (.if_icmp .gt 7, 3) := by decide +kernel
theorem kb_Mo_isVariable_12 : decode prog_10_method_8_code 12 = .ok (.iconst 1, 1) := by decide +kernel
theorem kb_Mo_isVariable_13 : decode prog_10_method_8_code 13 = .ok (.goto 4, 3) := by decide +kernel
theorem kb_Mo_isVariable_16 : decode prog_10_method_8_code 16 = .ok (.iconst 0, 1) := by decide +kernel
theorem kb_Mo_isVariable_17 : decode prog_10_method_8_code 17 = .ok (.ireturn, 1) := by decide +kernel
theorem kb_Mo_isDigit_0 : decode prog_10_method_9_code 0 = .ok (.iload_n 0, 1) := by decide +kernel
theorem kb_Mo_isDigit_1 : decode prog_10_method_9_code 1 = .ok (.bipush 48, 2) := by decide +kernel
theorem kb_Mo_isDigit_3 : decode prog_10_method_9_code 3 = .ok (.if_icmp .lt 13, 3) := by decide +kernel
theorem kb_Mo_isDigit_6 : decode prog_10_method_9_code 6 = .ok (.iload_n 0, 1) := by decide +kernel
theorem kb_Mo_isDigit_7 : decode prog_10_method_9_code 7 = .ok (.bipush 57, 2) := by decide +kernel
theorem kb_Mo_isDigit_9 : decode prog_10_method_9_code 9 = .ok (.if_icmp .gt 7, 3) := by decide +kernel
theorem kb_Mo_isDigit_12 : decode prog_10_method_9_code 12 = .ok (.iconst 1, 1) := by decide +kernel
theorem kb_Mo_isDigit_13 : decode prog_10_method_9_code 13 = .ok (.goto 4, 3) := by decide +kernel
theorem kb_Mo_isDigit_16 : decode prog_10_method_9_code 16 = .ok (.iconst 0, 1) := by decide +kernel
theorem kb_Mo_isDigit_17 : decode prog_10_method_9_code 17 = .ok (.ireturn, 1) := by decide +kernel
theorem kb_Mo_relationAt_0 : decode prog_10_method_10_code 0 = .ok (.aload_n 0, 1) := by decide +kernel
theorem kb_Mo_relationAt_1 : decode prog_10_method_10_code 1 = .ok (.invokevirtual 127, 3) := by decide +kernel
theorem kb_Mo_relationAt_4 : decode prog_10_method_10_code 4 = .ok (.invokestatic 135, 3) := by decide +kernel
theorem kb_Mo_relationAt_7 : decode prog_10_method_10_code 7 = .ok (.ifCond .ne 10, 3) := by decide +kernel
theorem kb_Mo_relationAt_10 : decode prog_10_method_10_code 10 = .ok (.aload_n 0, 1) := by decide +kernel
theorem kb_Mo_relationAt_11 : decode prog_10_method_10_code 11 = .ok (.iconst 1, 1) := by decide +kernel
theorem kb_Mo_relationAt_12 : decode prog_10_method_10_code 12 = .ok (.invokevirtual 131, 3) := by decide +kernel
theorem kb_Mo_relationAt_15 : decode prog_10_method_10_code 15 = .ok (.iconst 0, 1) := by decide +kernel
theorem kb_Mo_relationAt_16 : decode prog_10_method_10_code 16 = .ok (.ireturn, 1) := by decide +kernel
theorem kb_Mo_relationAt_17 : decode prog_10_method_10_code 17 = .ok (.iconst (-1), 1) := by decide +kernel
theorem kb_Mo_relationAt_18 : decode prog_10_method_10_code 18 = .ok (.istore_n 1, 1) := by decide +kernel
theorem kb_Mo_relationAt_19 : decode prog_10_method_10_code 19 = .ok (.iconst 0, 1) := by decide +kernel
theorem kb_Mo_relationAt_20 : decode prog_10_method_10_code 20 = .ok (.istore_n 2, 1) := by decide +kernel
theorem kb_Mo_relationAt_21 : decode prog_10_method_10_code 21 = .ok (.iload_n 2, 1) := by decide +kernel
theorem kb_Mo_relationAt_22 : decode prog_10_method_10_code 22 = .ok (.aload_n 0, 1) := by decide +kernel
theorem kb_Mo_relationAt_23 : decode prog_10_method_10_code 23 = .ok (.getfield 139, 3) := by decide +kernel
theorem kb_Mo_relationAt_26 : decode prog_10_method_10_code 26 = .ok (.if_icmp .ge 28, 3) := by decide +kernel
theorem kb_Mo_relationAt_29 : decode prog_10_method_10_code 29 = .ok (.aload_n 0, 1) := by decide +kernel
theorem kb_Mo_relationAt_30 : decode prog_10_method_10_code 30 = .ok (.getfield 49, 3) := by decide +kernel
theorem kb_Mo_relationAt_33 : decode prog_10_method_10_code 33 = .ok (.iload_n 2, 1) := by decide +kernel
theorem kb_Mo_relationAt_34 : decode prog_10_method_10_code 34 = .ok (.iaload, 1) := by decide +kernel
theorem kb_Mo_relationAt_35 : decode prog_10_method_10_code 35 = .ok (.aload_n 0, 1) := by decide +kernel
theorem kb_Mo_relationAt_36 : decode prog_10_method_10_code 36 = .ok (.invokevirtual 127, 3) := by decide +kernel
theorem kb_Mo_relationAt_39 : decode prog_10_method_10_code 39 = .ok (.if_icmp .ne 7, 3) := by decide +kernel
theorem kb_Mo_relationAt_42 : decode prog_10_method_10_code 42 = .ok (.iload_n 2, 1) := by decide +kernel
theorem kb_Mo_relationAt_43 : decode prog_10_method_10_code 43 = .ok (.goto 4, 3) := by decide +kernel
theorem kb_Mo_relationAt_46 : decode prog_10_method_10_code 46 = .ok (.iload_n 1, 1) := by decide +kernel
theorem kb_Mo_relationAt_47 : decode prog_10_method_10_code 47 = .ok (.istore_n 1, 1) := by decide +kernel
theorem kb_Mo_relationAt_48 : decode prog_10_method_10_code 48 = .ok (.iinc 2 1, 3) := by decide +kernel
theorem kb_Mo_relationAt_51 : decode prog_10_method_10_code 51 = .ok (.goto (-30), 3) := by decide +kernel
theorem kb_Mo_relationAt_54 : decode prog_10_method_10_code 54 = .ok (.iload_n 1, 1) := by decide +kernel
theorem kb_Mo_relationAt_55 : decode prog_10_method_10_code 55 = .ok (.iconst (-1), 1) := by decide +kernel
theorem kb_Mo_relationAt_56 : decode prog_10_method_10_code 56 = .ok (.if_icmp .ne 67, 3) := by decide +kernel
theorem kb_Mo_relationAt_59 : decode prog_10_method_10_code 59 = .ok (.aload_n 0, 1) := by decide +kernel
theorem kb_Mo_relationAt_60 : decode prog_10_method_10_code 60 = .ok (.getfield 139, 3) := by decide +kernel
theorem kb_Mo_relationAt_63 : decode prog_10_method_10_code 63 = .ok (.bipush 8, 2) := by decide +kernel
theorem kb_Mo_relationAt_65 : decode prog_10_method_10_code 65 = .ok (.if_icmp .ne 10, 3) := by decide +kernel
theorem kb_Mo_relationAt_68 : decode prog_10_method_10_code 68 = .ok (.aload_n 0, 1) := by decide +kernel
theorem kb_Mo_relationAt_69 : decode prog_10_method_10_code 69 = .ok (.iconst 3, 1) := by decide +kernel
theorem kb_Mo_relationAt_70 : decode prog_10_method_10_code 70 = .ok (.invokevirtual 131, 3) := by decide +kernel
theorem kb_Mo_relationAt_73 : decode prog_10_method_10_code 73 = .ok (.iconst 0, 1) := by decide +kernel
theorem kb_Mo_relationAt_74 : decode prog_10_method_10_code 74 = .ok (.ireturn, 1) := by decide +kernel
theorem kb_Mo_relationAt_75 : decode prog_10_method_10_code 75 = .ok (.aload_n 0, 1) := by decide +kernel
theorem kb_Mo_relationAt_76 : decode prog_10_method_10_code 76 = .ok (.getfield 139, 3) := by decide +kernel
theorem kb_Mo_relationAt_79 : decode prog_10_method_10_code 79 = .ok (.istore_n 1, 1) := by decide +kernel
theorem kb_Mo_relationAt_80 : decode prog_10_method_10_code 80 = .ok (.aload_n 0, 1) := by decide +kernel
theorem kb_Mo_relationAt_81 : decode prog_10_method_10_code 81 = .ok (.getfield 49, 3) := by decide +kernel
theorem kb_Mo_relationAt_84 : decode prog_10_method_10_code 84 = .ok (.aload_n 0, 1) := by decide +kernel
theorem kb_Mo_relationAt_85 : decode prog_10_method_10_code 85 = .ok (.getfield 139, 3) := by decide +kernel
theorem kb_Mo_relationAt_88 : decode prog_10_method_10_code 88 = .ok (.aload_n 0, 1) := by decide +kernel
theorem kb_Mo_relationAt_89 : decode prog_10_method_10_code 89 = .ok (.invokevirtual 127, 3) := by decide +kernel
theorem kb_Mo_relationAt_92 : decode prog_10_method_10_code 92 = .ok (.iastore, 1) := by decide +kernel
theorem kb_Mo_relationAt_93 : decode prog_10_method_10_code 93 = .ok (.aload_n 0, 1) := by decide +kernel
theorem kb_Mo_relationAt_94 : decode prog_10_method_10_code 94 = .ok (.getfield 52, 3) := by decide +kernel
theorem kb_Mo_relationAt_97 : decode prog_10_method_10_code 97 = .ok (.aload_n 0, 1) := by decide +kernel
theorem kb_Mo_relationAt_98 : decode prog_10_method_10_code 98 = .ok (.getfield 139, 3) := by decide +kernel
theorem kb_Mo_relationAt_101 : decode prog_10_method_10_code 101 = .ok (.iconst 0, 1) := by decide +kernel
theorem kb_Mo_relationAt_102 : decode prog_10_method_10_code 102 = .ok (.iastore, 1) := by decide +kernel
theorem kb_Mo_relationAt_103 : decode prog_10_method_10_code 103 = .ok (.aload_n 0, 1) := by decide +kernel
theorem kb_Mo_relationAt_104 : decode prog_10_method_10_code 104 = .ok (.getfield 55, 3) := by decide +kernel
theorem kb_Mo_relationAt_107 : decode prog_10_method_10_code 107 = .ok (.aload_n 0, 1) := by decide +kernel
theorem kb_Mo_relationAt_108 : decode prog_10_method_10_code 108 = .ok (.getfield 139, 3) := by decide +kernel
theorem kb_Mo_relationAt_111 : decode prog_10_method_10_code 111 = .ok (.iconst 0, 1) := by decide +kernel
theorem kb_Mo_relationAt_112 : decode prog_10_method_10_code 112 = .ok (.bastore, 1) := by decide +kernel
theorem kb_Mo_relationAt_113 : decode prog_10_method_10_code 113 = .ok (.aload_n 0, 1) := by decide +kernel
theorem kb_Mo_relationAt_114 : decode prog_10_method_10_code 114 = .ok (.dup, 1) := by decide +kernel
theorem kb_Mo_relationAt_115 : decode prog_10_method_10_code 115 = .ok (.getfield 139, 3) := by decide +kernel
theorem kb_Mo_relationAt_118 : decode prog_10_method_10_code 118 = .ok (.iconst 1, 1) := by decide +kernel
theorem kb_Mo_relationAt_119 : decode prog_10_method_10_code 119 = .ok (.iadd, 1) := by decide +kernel
theorem kb_Mo_relationAt_120 : decode prog_10_method_10_code 120 = .ok (.putfield 139, 3) := by decide +kernel
theorem kb_Mo_relationAt_123 : decode prog_10_method_10_code 123 = .ok (.aload_n 0, 1) := by decide +kernel
theorem kb_Mo_relationAt_124 : decode prog_10_method_10_code 124 = .ok (.dup, 1) := by decide +kernel
theorem kb_Mo_relationAt_125 : decode prog_10_method_10_code 125 = .ok (.getfield 124, 3) := by decide +kernel
theorem kb_Mo_relationAt_128 : decode prog_10_method_10_code 128 = .ok (.iconst 1, 1) := by decide +kernel
theorem kb_Mo_relationAt_129 : decode prog_10_method_10_code 129 = .ok (.iadd, 1) := by decide +kernel
theorem kb_Mo_relationAt_130 : decode prog_10_method_10_code 130 = .ok (.putfield 124, 3) := by decide +kernel
theorem kb_Mo_relationAt_133 : decode prog_10_method_10_code 133 = .ok (.iload_n 1, 1) := by decide +kernel
theorem kb_Mo_relationAt_134 : decode prog_10_method_10_code 134 = .ok (.ireturn, 1) := by decide +kernel
theorem kb_Mo_term_0 : decode prog_10_method_11_code 0 = .ok (.aload_n 0, 1) := by decide +kernel
theorem kb_Mo_term_1 : decode prog_10_method_11_code 1 = .ok (.invokevirtual 127, 3) := by decide +kernel
theorem kb_Mo_term_4 : decode prog_10_method_11_code 4 = .ok (.istore_n 2, 1) := by decide +kernel
theorem kb_Mo_term_5 : decode prog_10_method_11_code 5 = .ok (.iload_n 2, 1) := by decide +kernel
theorem kb_Mo_term_6 : decode prog_10_method_11_code 6 = .ok (.invokestatic 142, 3) := by decide +kernel
theorem kb_Mo_term_9 : decode prog_10_method_11_code 9 = .ok (.ifCond .eq 67, 3) := by decide +kernel
theorem kb_Mo_term_12 : decode prog_10_method_11_code 12 = .ok (.iconst 1, 1) := by decide +kernel
theorem kb_Mo_term_13 : decode prog_10_method_11_code 13 = .ok (.iload_n 2, 1) := by decide +kernel
theorem kb_Mo_term_14 : decode prog_10_method_11_code 14 = .ok (.bipush 65, 2) := by decide +kernel
theorem kb_Mo_term_16 : decode prog_10_method_11_code 16 = .ok (.isub, 1) := by decide +kernel
theorem kb_Mo_term_17 : decode prog_10_method_11_code 17 = .ok (.ishl, 1) := by decide +kernel
theorem kb_Mo_term_18 : decode prog_10_method_11_code 18 = .ok (.istore_n 3, 1) := by decide +kernel
theorem kb_Mo_term_19 : decode prog_10_method_11_code 19 = .ok (.aload_n 0, 1) := by decide +kernel
theorem kb_Mo_term_20 : decode prog_10_method_11_code 20 = .ok (.getfield 46, 3) := by decide +kernel
theorem kb_Mo_term_23 : decode prog_10_method_11_code 23 = .ok (.iload_n 1, 1) := by decide +kernel
theorem kb_Mo_term_24 : decode prog_10_method_11_code 24 = .ok (.iaload, 1) := by decide +kernel
theorem kb_Mo_term_25 : decode prog_10_method_11_code 25 = .ok (.iload_n 3, 1) := by decide +kernel
theorem kb_Mo_term_26 : decode prog_10_method_11_code 26 = .ok (.iand, 1) := by decide +kernel
theorem kb_Mo_term_27 : decode prog_10_method_11_code 27 = .ok (.ifCond .ne 24, 3) := by decide +kernel
theorem kb_Mo_term_30 : decode prog_10_method_11_code 30 = .ok (.aload_n 0, 1) := by decide +kernel
theorem kb_Mo_term_31 : decode prog_10_method_11_code 31 = .ok (.getfield 46, 3) := by decide +kernel
theorem kb_Mo_term_34 : decode prog_10_method_11_code 34 = .ok (.iload_n 1, 1) := by decide +kernel
theorem kb_Mo_term_35 : decode prog_10_method_11_code 35 = .ok (.iaload, 1) := by decide +kernel
theorem kb_Mo_term_36 : decode prog_10_method_11_code 36 = .ok (.invokestatic 145, 3) := by decide +kernel
theorem kb_Mo_term_39 : decode prog_10_method_11_code 39 = .ok (.bipush 6, 2) := by decide +kernel
theorem kb_Mo_term_41 : decode prog_10_method_11_code 41 = .ok (.if_icmp .ne 10, 3) := by decide +kernel
theorem kb_Mo_term_44 : decode prog_10_method_11_code 44 = .ok (.aload_n 0, 1) := by decide +kernel
theorem kb_Mo_term_45 : decode prog_10_method_11_code 45 = .ok (.iconst 3, 1) := by decide +kernel
theorem kb_Mo_term_46 : decode prog_10_method_11_code 46 = .ok (.invokevirtual 131, 3) := by decide +kernel
theorem kb_Mo_term_49 : decode prog_10_method_11_code 49 = .ok (.iconst 0, 1) := by decide +kernel
theorem kb_Mo_term_50 : decode prog_10_method_11_code 50 = .ok (.ireturn, 1) := by decide +kernel
theorem kb_Mo_term_51 : decode prog_10_method_11_code 51 = .ok (.aload_n 0, 1) := by decide +kernel
theorem kb_Mo_term_52 : decode prog_10_method_11_code 52 = .ok (.getfield 46, 3) := by decide +kernel
theorem kb_Mo_term_55 : decode prog_10_method_11_code 55 = .ok (.iload_n 1, 1) := by decide +kernel
theorem kb_Mo_term_56 : decode prog_10_method_11_code 56 = .ok (.dup2, 1) := by decide +kernel
theorem kb_Mo_term_57 : decode prog_10_method_11_code 57 = .ok (.iaload, 1) := by decide +kernel
theorem kb_Mo_term_58 : decode prog_10_method_11_code 58 = .ok (.iload_n 3, 1) := by decide +kernel
theorem kb_Mo_term_59 : decode prog_10_method_11_code 59 = .ok (.ior, 1) := by decide +kernel
theorem kb_Mo_term_60 : decode prog_10_method_11_code 60 = .ok (.iastore, 1) := by decide +kernel
theorem kb_Mo_term_61 : decode prog_10_method_11_code 61 = .ok (.aload_n 0, 1) := by decide +kernel
theorem kb_Mo_term_62 : decode prog_10_method_11_code 62 = .ok (.dup, 1) := by decide +kernel
theorem kb_Mo_term_63 : decode prog_10_method_11_code 63 = .ok (.getfield 124, 3) := by decide +kernel
theorem kb_Mo_term_66 : decode prog_10_method_11_code 66 = .ok (.iconst 1, 1) := by decide +kernel
theorem kb_Mo_term_67 : decode prog_10_method_11_code 67 = .ok (.iadd, 1) := by decide +kernel
theorem kb_Mo_term_68 : decode prog_10_method_11_code 68 = .ok (.putfield 124, 3) := by decide +kernel
theorem kb_Mo_term_71 : decode prog_10_method_11_code 71 = .ok (.iload_n 2, 1) := by decide +kernel
theorem kb_Mo_term_72 : decode prog_10_method_11_code 72 = .ok (.bipush 65, 2) := by decide +kernel
theorem kb_Mo_term_74 : decode prog_10_method_11_code 74 = .ok (.isub, 1) := by decide +kernel
theorem kb_Mo_term_75 : decode prog_10_method_11_code 75 = .ok (.ireturn, 1) := by decide +kernel
theorem kb_Mo_term_76 : decode prog_10_method_11_code 76 = .ok (.iload_n 2, 1) := by decide +kernel
theorem kb_Mo_term_77 : decode prog_10_method_11_code 77 = .ok (.invokestatic 149, 3) := by decide +kernel
theorem kb_Mo_term_80 : decode prog_10_method_11_code 80 = .ok (.ifCond .ne 10, 3) := by decide +kernel
theorem kb_Mo_term_83 : decode prog_10_method_11_code 83 = .ok (.aload_n 0, 1) := by decide +kernel
theorem kb_Mo_term_84 : decode prog_10_method_11_code 84 = .ok (.iconst 1, 1) := by decide +kernel
theorem kb_Mo_term_85 : decode prog_10_method_11_code 85 = .ok (.invokevirtual 131, 3) := by decide +kernel
theorem kb_Mo_term_88 : decode prog_10_method_11_code 88 = .ok (.iconst 0, 1) := by decide +kernel
theorem kb_Mo_term_89 : decode prog_10_method_11_code 89 = .ok (.ireturn, 1) := by decide +kernel
theorem kb_Mo_term_90 : decode prog_10_method_11_code 90 = .ok (.iconst 0, 1) := by decide +kernel
theorem kb_Mo_term_91 : decode prog_10_method_11_code 91 = .ok (.istore_n 3, 1) := by decide +kernel
theorem kb_Mo_term_92 : decode prog_10_method_11_code 92 = .ok (.iconst 0, 1) := by decide +kernel
theorem kb_Mo_term_93 : decode prog_10_method_11_code 93 = .ok (.istore 4, 2) := by decide +kernel
theorem kb_Mo_term_95 : decode prog_10_method_11_code 95 = .ok (.iload 4, 2) := by decide +kernel
theorem kb_Mo_term_97 : decode prog_10_method_11_code 97 = .ok (.iconst 3, 1) := by decide +kernel
theorem kb_Mo_term_98 : decode prog_10_method_11_code 98 = .ok (.if_icmp .ge 72, 3) := by decide +kernel
theorem kb_Mo_term_101 : decode prog_10_method_11_code 101 = .ok (.aload_n 0, 1) := by decide +kernel
theorem kb_Mo_term_102 : decode prog_10_method_11_code 102 = .ok (.invokevirtual 127, 3) := by decide +kernel
theorem kb_Mo_term_105 : decode prog_10_method_11_code 105 = .ok (.invokestatic 149, 3) := by decide +kernel
theorem kb_Mo_term_108 : decode prog_10_method_11_code 108 = .ok (.ifCond .eq 62, 3) := by decide +kernel
theorem kb_Mo_term_111 : decode prog_10_method_11_code 111 = .ok (.iload 4, 2) := by decide +kernel
theorem kb_Mo_term_113 : decode prog_10_method_11_code 113 = .ok (.ifCond .eq 28, 3) := by decide +kernel
theorem kb_Mo_term_116 : decode prog_10_method_11_code 116 = .ok (.aload_n 0, 1) := by decide +kernel
theorem kb_Mo_term_117 : decode prog_10_method_11_code 117 = .ok (.getfield 17, 3) := by decide +kernel
theorem kb_Mo_term_120 : decode prog_10_method_11_code 120 = .ok (.aload_n 0, 1) := by decide +kernel
theorem kb_Mo_term_121 : decode prog_10_method_11_code 121 = .ok (.getfield 124, 3) := by decide +kernel
theorem kb_Mo_term_124 : decode prog_10_method_11_code 124 = .ok (.iaload, 1) := by decide +kernel
theorem kb_Mo_term_125 : decode prog_10_method_11_code 125 = .ok (.aload_n 0, 1) := by decide +kernel
theorem kb_Mo_term_126 : decode prog_10_method_11_code 126 = .ok (.getfield 17, 3) := by decide +kernel
theorem kb_Mo_term_129 : decode prog_10_method_11_code 129 = .ok (.aload_n 0, 1) := by decide +kernel
theorem kb_Mo_term_130 : decode prog_10_method_11_code 130 = .ok (.getfield 124, 3) := by decide +kernel
theorem kb_Mo_term_133 : decode prog_10_method_11_code 133 = .ok (.iconst 1, 1) := by decide +kernel
theorem kb_Mo_term_134 : decode prog_10_method_11_code 134 = .ok (.isub, 1) := by decide +kernel
theorem kb_Mo_term_135 : decode prog_10_method_11_code 135 = .ok (.iaload, 1) := by decide +kernel
theorem kb_Mo_term_136 : decode prog_10_method_11_code 136 = .ok (.iconst 1, 1) := by decide +kernel
theorem kb_Mo_term_137 : decode prog_10_method_11_code 137 = .ok (.iadd, 1) := by decide +kernel
theorem kb_Mo_term_138 : decode prog_10_method_11_code 138 = .ok (.if_icmp .ne 32, 3) := by decide +kernel
theorem kb_Mo_term_141 : decode prog_10_method_11_code 141 = .ok (.bipush 10, 2) := by decide +kernel
theorem kb_Mo_term_143 : decode prog_10_method_11_code 143 = .ok (.iload_n 3, 1) := by decide +kernel
theorem kb_Mo_term_144 : decode prog_10_method_11_code 144 = .ok (.imul, 1) := by decide +kernel
theorem kb_Mo_term_145 : decode prog_10_method_11_code 145 = .ok (.aload_n 0, 1) := by decide +kernel
theorem kb_Mo_term_146 : decode prog_10_method_11_code 146 = .ok (.invokevirtual 127, 3) := by decide +kernel
theorem kb_Mo_term_149 : decode prog_10_method_11_code 149 = .ok (.iadd, 1) := by decide +kernel
theorem kb_Mo_term_150 : decode prog_10_method_11_code 150 = .ok (.bipush 48, 2) := by decide +kernel
theorem kb_Mo_term_152 : decode prog_10_method_11_code 152 = .ok (.isub, 1) := by decide +kernel
theorem kb_Mo_term_153 : decode prog_10_method_11_code 153 = .ok (.istore_n 3, 1) := by decide +kernel
theorem kb_Mo_term_154 : decode prog_10_method_11_code 154 = .ok (.aload_n 0, 1) := by decide +kernel
theorem kb_Mo_term_155 : decode prog_10_method_11_code 155 = .ok (.dup, 1) := by decide +kernel
theorem kb_Mo_term_156 : decode prog_10_method_11_code 156 = .ok (.getfield 124, 3) := by decide +kernel
theorem kb_Mo_term_159 : decode prog_10_method_11_code 159 = .ok (.iconst 1, 1) := by decide +kernel
theorem kb_Mo_term_160 : decode prog_10_method_11_code 160 = .ok (.iadd, 1) := by decide +kernel
theorem kb_Mo_term_161 : decode prog_10_method_11_code 161 = .ok (.putfield 124, 3) := by decide +kernel
theorem kb_Mo_term_164 : decode prog_10_method_11_code 164 = .ok (.iinc 4 1, 3) := by decide +kernel
theorem kb_Mo_term_167 : decode prog_10_method_11_code 167 = .ok (.goto (-72), 3) := by decide +kernel
theorem kb_Mo_term_170 : decode prog_10_method_11_code 170 = .ok (.bipush 100, 2) := by decide +kernel
theorem kb_Mo_term_172 : decode prog_10_method_11_code 172 = .ok (.iload_n 3, 1) := by decide +kernel
theorem kb_Mo_term_173 : decode prog_10_method_11_code 173 = .ok (.iadd, 1) := by decide +kernel
theorem kb_Mo_term_174 : decode prog_10_method_11_code 174 = .ok (.ireturn, 1) := by decide +kernel
theorem kb_Mo_terms_0 : decode prog_10_method_12_code 0 = .ok (.aload_n 0, 1) := by decide +kernel
theorem kb_Mo_terms_1 : decode prog_10_method_12_code 1 = .ok (.bipush 40, 2) := by decide +kernel
theorem kb_Mo_terms_3 : decode prog_10_method_12_code 3 = .ok (.invokevirtual 152, 3) := by decide +kernel
theorem kb_Mo_terms_6 : decode prog_10_method_12_code 6 = .ok (.iconst 0, 1) := by decide +kernel
theorem kb_Mo_terms_7 : decode prog_10_method_12_code 7 = .ok (.istore 6, 2) := by decide +kernel
theorem kb_Mo_terms_9 : decode prog_10_method_12_code 9 = .ok (.aload_n 0, 1) := by decide +kernel
theorem kb_Mo_terms_10 : decode prog_10_method_12_code 10 = .ok (.getfield 121, 3) := by decide +kernel
theorem kb_Mo_terms_13 : decode prog_10_method_12_code 13 = .ok (.ifCond .ne 7, 3) := by decide +kernel
theorem kb_Mo_terms_16 : decode prog_10_method_12_code 16 = .ok (.iconst 1, 1) := by decide +kernel
theorem kb_Mo_terms_17 : decode prog_10_method_12_code 17 = .ok (.goto 4, 3) := by decide +kernel
theorem kb_Mo_terms_20 : decode prog_10_method_12_code 20 = .ok (.iconst 0, 1) := by decide +kernel
theorem kb_Mo_terms_21 : decode prog_10_method_12_code 21 = .ok (.istore 7, 2) := by decide +kernel
theorem kb_Mo_terms_23 : decode prog_10_method_12_code 23 = .ok (.iconst 0, 1) := by decide +kernel
theorem kb_Mo_terms_24 : decode prog_10_method_12_code 24 = .ok (.istore 8, 2) := by decide +kernel
theorem kb_Mo_terms_26 : decode prog_10_method_12_code 26 = .ok (.iconst 0, 1) := by decide +kernel
theorem kb_Mo_terms_27 : decode prog_10_method_12_code 27 = .ok (.istore 9, 2) := by decide +kernel
theorem kb_Mo_terms_29 : decode prog_10_method_12_code 29 = .ok (.iload 9, 2) := by decide +kernel
theorem kb_Mo_terms_31 : decode prog_10_method_12_code 31 = .ok (.iconst 3, 1) := by decide +kernel
theorem kb_Mo_terms_32 : decode prog_10_method_12_code 32 = .ok (.if_icmp .ge 18, 3) := by decide +kernel
theorem kb_Mo_terms_35 : decode prog_10_method_12_code 35 = .ok (.aload_n 3, 1) := by decide +kernel
theorem kb_Mo_terms_36 : decode prog_10_method_12_code 36 = .ok (.iload 4, 2) := by decide +kernel
theorem kb_Mo_terms_38 : decode prog_10_method_12_code 38 = .ok (.iload 9, 2) := by decide +kernel
theorem kb_Mo_terms_40 : decode prog_10_method_12_code 40 = .ok (.iadd, 1) := by decide +kernel
theorem kb_Mo_terms_41 : decode prog_10_method_12_code 41 = .ok (.bipush 100, 2) := by decide +kernel
theorem kb_Mo_terms_43 : decode prog_10_method_12_code 43 = .ok (.iastore, 1) := by decide +kernel
theorem kb_Mo_terms_44 : decode prog_10_method_12_code 44 = .ok (.iinc 9 1, 3) := by decide +kernel
theorem kb_Mo_terms_47 : decode prog_10_method_12_code 47 = .ok (.goto (-18), 3) := by decide +kernel
theorem kb_Mo_terms_50 : decode prog_10_method_12_code 50 = .ok (.iload 7, 2) := by decide +kernel
theorem kb_Mo_terms_52 : decode prog_10_method_12_code 52 = .ok (.ifCond .eq 113, 3) := by decide +kernel
theorem kb_Mo_terms_55 : decode prog_10_method_12_code 55 = .ok (.iload 5, 2) := by decide +kernel
theorem kb_Mo_terms_57 : decode prog_10_method_12_code 57 = .ok (.ifCond .eq 37, 3) := by decide +kernel
theorem kb_Mo_terms_60 : decode prog_10_method_12_code 60 = .ok (.aload_n 0, 1) := by decide +kernel
theorem kb_Mo_terms_61 : decode prog_10_method_12_code 61 = .ok (.invokevirtual 127, 3) := by decide +kernel
theorem kb_Mo_terms_64 : decode prog_10_method_12_code 64 = .ok (.bipush 35, 2) := by decide +kernel
theorem kb_Mo_terms_66 : decode prog_10_method_12_code 66 = .ok (.if_icmp .ne 28, 3) := by decide +kernel
theorem kb_Mo_terms_69 : decode prog_10_method_12_code 69 = .ok (.aload_n 3, 1) := by decide +kernel
theorem kb_Mo_terms_70 : decode prog_10_method_12_code 70 = .ok (.iload 4, 2) := by decide +kernel
theorem kb_Mo_terms_72 : decode prog_10_method_12_code 72 = .ok (.iload 6, 2) := by decide +kernel
theorem kb_Mo_terms_74 : decode prog_10_method_12_code 74 = .ok (.iadd, 1) := by decide +kernel
theorem kb_Mo_terms_75 : decode prog_10_method_12_code 75 = .ok (.bipush 99, 2) := by decide +kernel
theorem kb_Mo_terms_77 : decode prog_10_method_12_code 77 = .ok (.iastore, 1) := by decide +kernel
theorem kb_Mo_terms_78 : decode prog_10_method_12_code 78 = .ok (.aload_n 0, 1) := by decide +kernel
theorem kb_Mo_terms_79 : decode prog_10_method_12_code 79 = .ok (.dup, 1) := by decide +kernel
theorem kb_Mo_terms_80 : decode prog_10_method_12_code 80 = .ok (.getfield 124, 3) := by decide +kernel
theorem kb_Mo_terms_83 : decode prog_10_method_12_code 83 = .ok (.iconst 1, 1) := by decide +kernel
theorem kb_Mo_terms_84 : decode prog_10_method_12_code 84 = .ok (.iadd, 1) := by decide +kernel
theorem kb_Mo_terms_85 : decode prog_10_method_12_code 85 = .ok (.putfield 124, 3) := by decide +kernel
theorem kb_Mo_terms_88 : decode prog_10_method_12_code 88 = .ok (.iconst 1, 1) := by decide +kernel
theorem kb_Mo_terms_89 : decode prog_10_method_12_code 89 = .ok (.istore 8, 2) := by decide +kernel
theorem kb_Mo_terms_91 : decode prog_10_method_12_code 91 = .ok (.goto 15, 3) := by decide +kernel
theorem kb_Mo_terms_94 : decode prog_10_method_12_code 94 = .ok (.aload_n 3, 1) := by decide +kernel
theorem kb_Mo_terms_95 : decode prog_10_method_12_code 95 = .ok (.iload 4, 2) := by decide +kernel
theorem kb_Mo_terms_97 : decode prog_10_method_12_code 97 = .ok (.iload 6, 2) := by decide +kernel
theorem kb_Mo_terms_99 : decode prog_10_method_12_code 99 = .ok (.iadd, 1) := by decide +kernel
theorem kb_Mo_terms_100 : decode prog_10_method_12_code 100 = .ok (.aload_n 0, 1) := by decide +kernel
theorem kb_Mo_terms_101 : decode prog_10_method_12_code 101 = .ok (.iload_n 1, 1) := by decide +kernel
theorem kb_Mo_terms_102 : decode prog_10_method_12_code 102 = .ok (.invokevirtual 155, 3) := by decide +kernel
theorem kb_Mo_terms_105 : decode prog_10_method_12_code 105 = .ok (.iastore, 1) := by decide +kernel
theorem kb_Mo_terms_106 : decode prog_10_method_12_code 106 = .ok (.iinc 6 1, 3) := by decide +kernel
theorem kb_Mo_terms_109 : decode prog_10_method_12_code 109 = .ok (.aload_n 0, 1) := by decide +kernel
theorem kb_Mo_terms_110 : decode prog_10_method_12_code 110 = .ok (.getfield 121, 3) := by decide +kernel
theorem kb_Mo_terms_113 : decode prog_10_method_12_code 113 = .ok (.ifCond .ne 27, 3) := by decide +kernel
theorem kb_Mo_terms_116 : decode prog_10_method_12_code 116 = .ok (.iload 8, 2) := by decide +kernel
theorem kb_Mo_terms_118 : decode prog_10_method_12_code 118 = .ok (.ifCond .ne 22, 3) := by decide +kernel
theorem kb_Mo_terms_121 : decode prog_10_method_12_code 121 = .ok (.iload 6, 2) := by decide +kernel
theorem kb_Mo_terms_123 : decode prog_10_method_12_code 123 = .ok (.iconst 3, 1) := by decide +kernel
theorem kb_Mo_terms_124 : decode prog_10_method_12_code 124 = .ok (.if_icmp .ge 16, 3) := by decide +kernel
theorem kb_Mo_terms_127 : decode prog_10_method_12_code 127 = .ok (.aload_n 0, 1) := by decide +kernel
theorem kb_Mo_terms_128 : decode prog_10_method_12_code 128 = .ok (.invokevirtual 127, 3) := by decide +kernel
theorem kb_Mo_terms_131 : decode prog_10_method_12_code 131 = .ok (.bipush 44, 2) := by decide +kernel
theorem kb_Mo_terms_133 : decode prog_10_method_12_code 133 = .ok (.if_icmp .ne 7, 3) := by decide +kernel
theorem kb_Mo_terms_136 : decode prog_10_method_12_code 136 = .ok (.iconst 1, 1) := by decide +kernel
theorem kb_Mo_terms_137 : decode prog_10_method_12_code 137 = .ok (.goto 4, 3) := by decide +kernel
theorem kb_Mo_terms_140 : decode prog_10_method_12_code 140 = .ok (.iconst 0, 1) := by decide +kernel
theorem kb_Mo_terms_141 : decode prog_10_method_12_code 141 = .ok (.istore 7, 2) := by decide +kernel
theorem kb_Mo_terms_143 : decode prog_10_method_12_code 143 = .ok (.aload_n 0, 1) := by decide +kernel
theorem kb_Mo_terms_144 : decode prog_10_method_12_code 144 = .ok (.dup, 1) := by decide +kernel
theorem kb_Mo_terms_145 : decode prog_10_method_12_code 145 = .ok (.getfield 124, 3) := by decide +kernel
theorem kb_Mo_terms_148 : decode prog_10_method_12_code 148 = .ok (.iload 7, 2) := by decide +kernel
theorem kb_Mo_terms_150 : decode prog_10_method_12_code 150 = .ok (.ifCond .eq 7, 3) := by decide +kernel
theorem kb_Mo_terms_153 : decode prog_10_method_12_code 153 = .ok (.iconst 1, 1) := by decide +kernel
theorem kb_Mo_terms_154 : decode prog_10_method_12_code 154 = .ok (.goto 4, 3) := by decide +kernel
theorem kb_Mo_terms_157 : decode prog_10_method_12_code 157 = .ok (.iconst 0, 1) := by decide +kernel
theorem kb_Mo_terms_158 : decode prog_10_method_12_code 158 = .ok (.iadd, 1) := by decide +kernel
theorem kb_Mo_terms_159 : decode prog_10_method_12_code 159 = .ok (.putfield 124, 3) := by decide +kernel
theorem kb_Mo_terms_162 : decode prog_10_method_12_code 162 = .ok (.goto (-112), 3) := by decide +kernel
theorem kb_Mo_terms_165 : decode prog_10_method_12_code 165 = .ok (.aload_n 0, 1) := by decide +kernel
theorem kb_Mo_terms_166 : decode prog_10_method_12_code 166 = .ok (.getfield 121, 3) := by decide +kernel
theorem kb_Mo_terms_169 : decode prog_10_method_12_code 169 = .ok (.ifCond .ne 37, 3) := by decide +kernel
theorem kb_Mo_terms_172 : decode prog_10_method_12_code 172 = .ok (.aload_n 0, 1) := by decide +kernel
theorem kb_Mo_terms_173 : decode prog_10_method_12_code 173 = .ok (.invokevirtual 127, 3) := by decide +kernel
theorem kb_Mo_terms_176 : decode prog_10_method_12_code 176 = .ok (.bipush 41, 2) := by decide +kernel
theorem kb_Mo_terms_178 : decode prog_10_method_12_code 178 = .ok (.if_icmp .ne 28, 3) := by decide +kernel
theorem kb_Mo_terms_181 : decode prog_10_method_12_code 181 = .ok (.aload_n 0, 1) := by decide +kernel
theorem kb_Mo_terms_182 : decode prog_10_method_12_code 182 = .ok (.getfield 52, 3) := by decide +kernel
theorem kb_Mo_terms_185 : decode prog_10_method_12_code 185 = .ok (.iload_n 2, 1) := by decide +kernel
theorem kb_Mo_terms_186 : decode prog_10_method_12_code 186 = .ok (.iaload, 1) := by decide +kernel
theorem kb_Mo_terms_187 : decode prog_10_method_12_code 187 = .ok (.ifCond .eq 19, 3) := by decide +kernel
theorem kb_Mo_terms_190 : decode prog_10_method_12_code 190 = .ok (.aload_n 0, 1) := by decide +kernel
theorem kb_Mo_terms_191 : decode prog_10_method_12_code 191 = .ok (.getfield 52, 3) := by decide +kernel
theorem kb_Mo_terms_194 : decode prog_10_method_12_code 194 = .ok (.iload_n 2, 1) := by decide +kernel
theorem kb_Mo_terms_195 : decode prog_10_method_12_code 195 = .ok (.iaload, 1) := by decide +kernel
theorem kb_Mo_terms_196 : decode prog_10_method_12_code 196 = .ok (.iload 6, 2) := by decide +kernel
theorem kb_Mo_terms_198 : decode prog_10_method_12_code 198 = .ok (.if_icmp .eq 8, 3) := by decide +kernel
theorem kb_Mo_terms_201 : decode prog_10_method_12_code 201 = .ok (.aload_n 0, 1) := by decide +kernel
theorem kb_Mo_terms_202 : decode prog_10_method_12_code 202 = .ok (.iconst 2, 1) := by decide +kernel
theorem kb_Mo_terms_203 : decode prog_10_method_12_code 203 = .ok (.invokevirtual 131, 3) := by decide +kernel
theorem kb_Mo_terms_206 : decode prog_10_method_12_code 206 = .ok (.aload_n 0, 1) := by decide +kernel
theorem kb_Mo_terms_207 : decode prog_10_method_12_code 207 = .ok (.bipush 41, 2) := by decide +kernel
theorem kb_Mo_terms_209 : decode prog_10_method_12_code 209 = .ok (.invokevirtual 152, 3) := by decide +kernel
theorem kb_Mo_terms_212 : decode prog_10_method_12_code 212 = .ok (.aload_n 0, 1) := by decide +kernel
theorem kb_Mo_terms_213 : decode prog_10_method_12_code 213 = .ok (.getfield 121, 3) := by decide +kernel
theorem kb_Mo_terms_216 : decode prog_10_method_12_code 216 = .ok (.ifCond .ne 11, 3) := by decide +kernel
theorem kb_Mo_terms_219 : decode prog_10_method_12_code 219 = .ok (.aload_n 0, 1) := by decide +kernel
theorem kb_Mo_terms_220 : decode prog_10_method_12_code 220 = .ok (.getfield 52, 3) := by decide +kernel
theorem kb_Mo_terms_223 : decode prog_10_method_12_code 223 = .ok (.iload_n 2, 1) := by decide +kernel
theorem kb_Mo_terms_224 : decode prog_10_method_12_code 224 = .ok (.iload 6, 2) := by decide +kernel
theorem kb_Mo_terms_226 : decode prog_10_method_12_code 226 = .ok (.iastore, 1) := by decide +kernel
theorem kb_Mo_terms_227 : decode prog_10_method_12_code 227 = .ok (.aload_n 0, 1) := by decide +kernel
theorem kb_Mo_terms_228 : decode prog_10_method_12_code 228 = .ok (.getfield 42, 3) := by decide +kernel
theorem kb_Mo_terms_231 : decode prog_10_method_12_code 231 = .ok (.iload_n 1, 1) := by decide +kernel
theorem kb_Mo_terms_232 : decode prog_10_method_12_code 232 = .ok (.aload_n 0, 1) := by decide +kernel
theorem kb_Mo_terms_233 : decode prog_10_method_12_code 233 = .ok (.getfield 42, 3) := by decide +kernel
theorem kb_Mo_terms_236 : decode prog_10_method_12_code 236 = .ok (.iload_n 1, 1) := by decide +kernel
theorem kb_Mo_terms_237 : decode prog_10_method_12_code 237 = .ok (.baload, 1) := by decide +kernel
theorem kb_Mo_terms_238 : decode prog_10_method_12_code 238 = .ok (.ifCond .ne 8, 3) := by decide +kernel
theorem kb_Mo_terms_241 : decode prog_10_method_12_code 241 = .ok (.iload 8, 2) := by decide +kernel
theorem kb_Mo_terms_243 : decode prog_10_method_12_code 243 = .ok (.ifCond .eq 7, 3) := by decide +kernel
theorem kb_Mo_terms_246 : decode prog_10_method_12_code 246 = .ok (.iconst 1, 1) := by decide +kernel
theorem kb_Mo_terms_247 : decode prog_10_method_12_code 247 = .ok (.goto 4, 3) := by decide +kernel
theorem kb_Mo_terms_250 : decode prog_10_method_12_code 250 = .ok (.iconst 0, 1) := by decide +kernel
theorem kb_Mo_terms_251 : decode prog_10_method_12_code 251 = .ok (.bastore, 1) := by decide +kernel
theorem kb_Mo_terms_252 : decode prog_10_method_12_code 252 = .ok (.return_, 1) := by decide +kernel
theorem kb_Mo_literal_0 : decode prog_10_method_13_code 0 = .ok (.aload_n 0, 1) := by decide +kernel
theorem kb_Mo_literal_1 : decode prog_10_method_13_code 1 = .ok (.getfield 30, 3) := by decide +kernel
theorem kb_Mo_literal_4 : decode prog_10_method_13_code 4 = .ok (.iload_n 1, 1) := by decide +kernel
theorem kb_Mo_literal_5 : decode prog_10_method_13_code 5 = .ok (.iaload, 1) := by decide +kernel
theorem kb_Mo_literal_6 : decode prog_10_method_13_code 6 = .ok (.istore_n 2, 1) := by decide +kernel
theorem kb_Mo_literal_7 : decode prog_10_method_13_code 7 = .ok (.iconst 5, 1) := by decide +kernel
theorem kb_Mo_literal_8 : decode prog_10_method_13_code 8 = .ok (.iload_n 1, 1) := by decide +kernel
theorem kb_Mo_literal_9 : decode prog_10_method_13_code 9 = .ok (.imul, 1) := by decide +kernel
theorem kb_Mo_literal_10 : decode prog_10_method_13_code 10 = .ok (.iload_n 2, 1) := by decide +kernel
theorem kb_Mo_literal_11 : decode prog_10_method_13_code 11 = .ok (.iadd, 1) := by decide +kernel
theorem kb_Mo_literal_12 : decode prog_10_method_13_code 12 = .ok (.istore_n 3, 1) := by decide +kernel
theorem kb_Mo_literal_13 : decode prog_10_method_13_code 13 = .ok (.aload_n 0, 1) := by decide +kernel
theorem kb_Mo_literal_14 : decode prog_10_method_13_code 14 = .ok (.invokevirtual 127, 3) := by decide +kernel
theorem kb_Mo_literal_17 : decode prog_10_method_13_code 17 = .ok (.istore 4, 2) := by decide +kernel
theorem kb_Mo_literal_19 : decode prog_10_method_13_code 19 = .ok (.iload 4, 2) := by decide +kernel
theorem kb_Mo_literal_21 : decode prog_10_method_13_code 21 = .ok (.invokestatic 135, 3) := by decide +kernel
theorem kb_Mo_literal_24 : decode prog_10_method_13_code 24 = .ok (.ifCond .ne 26, 3) := by decide +kernel
theorem kb_Mo_literal_27 : decode prog_10_method_13_code 27 = .ok (.iload 4, 2) := by decide +kernel
theorem kb_Mo_literal_29 : decode prog_10_method_13_code 29 = .ok (.bipush 126, 2) := by decide +kernel
theorem kb_Mo_literal_31 : decode prog_10_method_13_code 31 = .ok (.if_icmp .eq 19, 3) := by decide +kernel
theorem kb_Mo_literal_34 : decode prog_10_method_13_code 34 = .ok (.iload 4, 2) := by decide +kernel
theorem kb_Mo_literal_36 : decode prog_10_method_13_code 36 = .ok (.invokestatic 142, 3) := by decide +kernel
theorem kb_Mo_literal_39 : decode prog_10_method_13_code 39 = .ok (.ifCond .ne 11, 3) := by decide +kernel
theorem kb_Mo_literal_42 : decode prog_10_method_13_code 42 = .ok (.iload 4, 2) := by decide +kernel
theorem kb_Mo_literal_44 : decode prog_10_method_13_code 44 = .ok (.invokestatic 149, 3) := by decide +kernel
theorem kb_Mo_literal_47 : decode prog_10_method_13_code 47 = .ok (.ifCond .eq 7, 3) := by decide +kernel
theorem kb_Mo_literal_50 : decode prog_10_method_13_code 50 = .ok (.iconst 1, 1) := by decide +kernel
theorem kb_Mo_literal_51 : decode prog_10_method_13_code 51 = .ok (.goto 4, 3) := by decide +kernel
theorem kb_Mo_literal_54 : decode prog_10_method_13_code 54 = .ok (.iconst 0, 1) := by decide +kernel
theorem kb_Mo_literal_55 : decode prog_10_method_13_code 55 = .ok (.istore 5, 2) := by decide +kernel
theorem kb_Mo_literal_57 : decode prog_10_method_13_code 57 = .ok (.iload 5, 2) := by decide +kernel
theorem kb_Mo_literal_59 : decode prog_10_method_13_code 59 = .ok (.ifCond .ne 9, 3) := by decide +kernel
theorem kb_Mo_literal_62 : decode prog_10_method_13_code 62 = .ok (.aload_n 0, 1) := by decide +kernel
theorem kb_Mo_literal_63 : decode prog_10_method_13_code 63 = .ok (.iconst 1, 1) := by decide +kernel
theorem kb_Mo_literal_64 : decode prog_10_method_13_code 64 = .ok (.invokevirtual 131, 3) := by decide +kernel
theorem kb_Mo_literal_67 : decode prog_10_method_13_code 67 = .ok (.return_, 1) := by decide +kernel
theorem kb_Mo_literal_68 : decode prog_10_method_13_code 68 = .ok (.iconst 0, 1) := by decide +kernel
theorem kb_Mo_literal_69 : decode prog_10_method_13_code 69 = .ok (.istore 6, 2) := by decide +kernel
theorem kb_Mo_literal_71 : decode prog_10_method_13_code 71 = .ok (.iconst 0, 1) := by decide +kernel
theorem kb_Mo_literal_72 : decode prog_10_method_13_code 72 = .ok (.istore 7, 2) := by decide +kernel
theorem kb_Mo_literal_74 : decode prog_10_method_13_code 74 = .ok (.iload 7, 2) := by decide +kernel
theorem kb_Mo_literal_76 : decode prog_10_method_13_code 76 = .ok (.iload_n 2, 1) := by decide +kernel
theorem kb_Mo_literal_77 : decode prog_10_method_13_code 77 = .ok (.if_icmp .ge 33, 3) := by decide +kernel
theorem kb_Mo_literal_80 : decode prog_10_method_13_code 80 = .ok (.iload 6, 2) := by decide +kernel
theorem kb_Mo_literal_82 : decode prog_10_method_13_code 82 = .ok (.aload_n 0, 1) := by decide +kernel
theorem kb_Mo_literal_83 : decode prog_10_method_13_code 83 = .ok (.getfield 33, 3) := by decide +kernel
theorem kb_Mo_literal_86 : decode prog_10_method_13_code 86 = .ok (.iconst 5, 1) := by decide +kernel
theorem kb_Mo_literal_87 : decode prog_10_method_13_code 87 = .ok (.iload_n 1, 1) := by decide +kernel
theorem kb_Mo_literal_88 : decode prog_10_method_13_code 88 = .ok (.imul, 1) := by decide +kernel
theorem kb_Mo_literal_89 : decode prog_10_method_13_code 89 = .ok (.iload 7, 2) := by decide +kernel
theorem kb_Mo_literal_91 : decode prog_10_method_13_code 91 = .ok (.iadd, 1) := by decide +kernel
theorem kb_Mo_literal_92 : decode prog_10_method_13_code 92 = .ok (.iaload, 1) := by decide +kernel
theorem kb_Mo_literal_93 : decode prog_10_method_13_code 93 = .ok (.ifCond .ne 7, 3) := by decide +kernel
theorem kb_Mo_literal_96 : decode prog_10_method_13_code 96 = .ok (.iconst 1, 1) := by decide +kernel
theorem kb_Mo_literal_97 : decode prog_10_method_13_code 97 = .ok (.goto 4, 3) := by decide +kernel
theorem kb_Mo_literal_100 : decode prog_10_method_13_code 100 = .ok (.iconst 0, 1) := by decide +kernel
theorem kb_Mo_literal_101 : decode prog_10_method_13_code 101 = .ok (.iadd, 1) := by decide +kernel
theorem kb_Mo_literal_102 : decode prog_10_method_13_code 102 = .ok (.istore 6, 2) := by decide +kernel
theorem kb_Mo_literal_104 : decode prog_10_method_13_code 104 = .ok (.iinc 7 1, 3) := by decide +kernel
theorem kb_Mo_literal_107 : decode prog_10_method_13_code 107 = .ok (.goto (-33), 3) := by decide +kernel
theorem kb_Mo_literal_110 : decode prog_10_method_13_code 110 = .ok (.iload_n 2, 1) := by decide +kernel
theorem kb_Mo_literal_111 : decode prog_10_method_13_code 111 = .ok (.iconst 5, 1) := by decide +kernel
theorem kb_Mo_literal_112 : decode prog_10_method_13_code 112 = .ok (.if_icmp .eq 17, 3) := by decide +kernel
theorem kb_Mo_literal_115 : decode prog_10_method_13_code 115 = .ok (.iload 4, 2) := by decide +kernel
theorem kb_Mo_literal_117 : decode prog_10_method_13_code 117 = .ok (.invokestatic 135, 3) := by decide +kernel
theorem kb_Mo_literal_120 : decode prog_10_method_13_code 120 = .ok (.ifCond .eq 15, 3) := by decide +kernel
theorem kb_Mo_literal_123 : decode prog_10_method_13_code 123 = .ok (.iload 6, 2) := by decide +kernel
theorem kb_Mo_literal_125 : decode prog_10_method_13_code 125 = .ok (.iconst 3, 1) := by decide +kernel
theorem kb_Mo_literal_126 : decode prog_10_method_13_code 126 = .ok (.if_icmp .ne 9, 3) := by decide +kernel
theorem kb_Mo_literal_129 : decode prog_10_method_13_code 129 = .ok (.aload_n 0, 1) := by decide +kernel
theorem kb_Mo_literal_130 : decode prog_10_method_13_code 130 = .ok (.iconst 3, 1) := by decide +kernel
theorem kb_Mo_literal_131 : decode prog_10_method_13_code 131 = .ok (.invokevirtual 131, 3) := by decide +kernel
theorem kb_Mo_literal_134 : decode prog_10_method_13_code 134 = .ok (.return_, 1) := by decide +kernel
theorem kb_Mo_literal_135 : decode prog_10_method_13_code 135 = .ok (.iload 4, 2) := by decide +kernel
theorem kb_Mo_literal_137 : decode prog_10_method_13_code 137 = .ok (.invokestatic 135, 3) := by decide +kernel
theorem kb_Mo_literal_140 : decode prog_10_method_13_code 140 = .ok (.ifCond .ne 10, 3) := by decide +kernel
theorem kb_Mo_literal_143 : decode prog_10_method_13_code 143 = .ok (.iload 4, 2) := by decide +kernel
theorem kb_Mo_literal_145 : decode prog_10_method_13_code 145 = .ok (.bipush 126, 2) := by decide +kernel
theorem kb_Mo_literal_147 : decode prog_10_method_13_code 147 = .ok (.if_icmp .ne 81, 3) := by decide +kernel
theorem kb_Mo_literal_150 : decode prog_10_method_13_code 150 = .ok (.aload_n 0, 1) := by decide +kernel
theorem kb_Mo_literal_151 : decode prog_10_method_13_code 151 = .ok (.getfield 33, 3) := by decide +kernel
theorem kb_Mo_literal_154 : decode prog_10_method_13_code 154 = .ok (.iload_n 3, 1) := by decide +kernel
theorem kb_Mo_literal_155 : decode prog_10_method_13_code 155 = .ok (.iload 4, 2) := by decide +kernel
theorem kb_Mo_literal_157 : decode prog_10_method_13_code 157 = .ok (.bipush 126, 2) := by decide +kernel
theorem kb_Mo_literal_159 : decode prog_10_method_13_code 159 = .ok (.if_icmp .ne 7, 3) := by decide +kernel
theorem kb_Mo_literal_162 : decode prog_10_method_13_code 162 = .ok (.iconst 1, 1) := by decide +kernel
theorem kb_Mo_literal_163 : decode prog_10_method_13_code 163 = .ok (.goto 4, 3) := by decide +kernel
theorem kb_Mo_literal_166 : decode prog_10_method_13_code 166 = .ok (.iconst 0, 1) := by decide +kernel
theorem kb_Mo_literal_167 : decode prog_10_method_13_code 167 = .ok (.iastore, 1) := by decide +kernel
theorem kb_Mo_literal_168 : decode prog_10_method_13_code 168 = .ok (.aload_n 0, 1) := by decide +kernel
theorem kb_Mo_literal_169 : decode prog_10_method_13_code 169 = .ok (.dup, 1) := by decide +kernel
theorem kb_Mo_literal_170 : decode prog_10_method_13_code 170 = .ok (.getfield 124, 3) := by decide +kernel
theorem kb_Mo_literal_173 : decode prog_10_method_13_code 173 = .ok (.iload 4, 2) := by decide +kernel
theorem kb_Mo_literal_175 : decode prog_10_method_13_code 175 = .ok (.bipush 126, 2) := by decide +kernel
theorem kb_Mo_literal_177 : decode prog_10_method_13_code 177 = .ok (.if_icmp .ne 7, 3) := by decide +kernel
theorem kb_Mo_literal_180 : decode prog_10_method_13_code 180 = .ok (.iconst 1, 1) := by decide +kernel
theorem kb_Mo_literal_181 : decode prog_10_method_13_code 181 = .ok (.goto 4, 3) := by decide +kernel
theorem kb_Mo_literal_184 : decode prog_10_method_13_code 184 = .ok (.iconst 0, 1) := by decide +kernel
theorem kb_Mo_literal_185 : decode prog_10_method_13_code 185 = .ok (.iadd, 1) := by decide +kernel
theorem kb_Mo_literal_186 : decode prog_10_method_13_code 186 = .ok (.putfield 124, 3) := by decide +kernel
theorem kb_Mo_literal_189 : decode prog_10_method_13_code 189 = .ok (.aload_n 0, 1) := by decide +kernel
theorem kb_Mo_literal_190 : decode prog_10_method_13_code 190 = .ok (.getfield 36, 3) := by decide +kernel
theorem kb_Mo_literal_193 : decode prog_10_method_13_code 193 = .ok (.iload_n 3, 1) := by decide +kernel
theorem kb_Mo_literal_194 : decode prog_10_method_13_code 194 = .ok (.aload_n 0, 1) := by decide +kernel
theorem kb_Mo_literal_195 : decode prog_10_method_13_code 195 = .ok (.invokevirtual 158, 3) := by decide +kernel
theorem kb_Mo_literal_198 : decode prog_10_method_13_code 198 = .ok (.iastore, 1) := by decide +kernel
theorem kb_Mo_literal_199 : decode prog_10_method_13_code 199 = .ok (.aload_n 0, 1) := by decide +kernel
theorem kb_Mo_literal_200 : decode prog_10_method_13_code 200 = .ok (.getfield 121, 3) := by decide +kernel
theorem kb_Mo_literal_203 : decode prog_10_method_13_code 203 = .ok (.ifCond .ne 149, 3) := by decide +kernel
theorem kb_Mo_literal_206 : decode prog_10_method_13_code 206 = .ok (.aload_n 0, 1) := by decide +kernel
theorem kb_Mo_literal_207 : decode prog_10_method_13_code 207 = .ok (.iload_n 1, 1) := by decide +kernel
theorem kb_Mo_literal_208 : decode prog_10_method_13_code 208 = .ok (.aload_n 0, 1) := by decide +kernel
theorem kb_Mo_literal_209 : decode prog_10_method_13_code 209 = .ok (.getfield 36, 3) := by decide +kernel
theorem kb_Mo_literal_212 : decode prog_10_method_13_code 212 = .ok (.iload_n 3, 1) := by decide +kernel
theorem kb_Mo_literal_213 : decode prog_10_method_13_code 213 = .ok (.iaload, 1) := by decide +kernel
theorem kb_Mo_literal_214 : decode prog_10_method_13_code 214 = .ok (.aload_n 0, 1) := by decide +kernel
theorem kb_Mo_literal_215 : decode prog_10_method_13_code 215 = .ok (.getfield 39, 3) := by decide +kernel
theorem kb_Mo_literal_218 : decode prog_10_method_13_code 218 = .ok (.iconst 3, 1) := by decide +kernel
theorem kb_Mo_literal_219 : decode prog_10_method_13_code 219 = .ok (.iload_n 3, 1) := by decide +kernel
theorem kb_Mo_literal_220 : decode prog_10_method_13_code 220 = .ok (.imul, 1) := by decide +kernel
theorem kb_Mo_literal_221 : decode prog_10_method_13_code 221 = .ok (.iconst 0, 1) := by decide +kernel
theorem kb_Mo_literal_222 : decode prog_10_method_13_code 222 = .ok (.invokevirtual 161, 3) := by decide +kernel
theorem kb_Mo_literal_225 : decode prog_10_method_13_code 225 = .ok (.goto 127, 3) := by decide +kernel
theorem kb_Mo_literal_228 : decode prog_10_method_13_code 228 = .ok (.aload_n 0, 1) := by decide +kernel
theorem kb_Mo_literal_229 : decode prog_10_method_13_code 229 = .ok (.getfield 33, 3) := by decide +kernel
theorem kb_Mo_literal_232 : decode prog_10_method_13_code 232 = .ok (.iload_n 3, 1) := by decide +kernel
theorem kb_Mo_literal_233 : decode prog_10_method_13_code 233 = .ok (.iconst 2, 1) := by decide +kernel
theorem kb_Mo_literal_234 : decode prog_10_method_13_code 234 = .ok (.iastore, 1) := by decide +kernel
theorem kb_Mo_literal_235 : decode prog_10_method_13_code 235 = .ok (.aload_n 0, 1) := by decide +kernel
theorem kb_Mo_literal_236 : decode prog_10_method_13_code 236 = .ok (.getfield 39, 3) := by decide +kernel
theorem kb_Mo_literal_239 : decode prog_10_method_13_code 239 = .ok (.iconst 3, 1) := by decide +kernel
theorem kb_Mo_literal_240 : decode prog_10_method_13_code 240 = .ok (.iload_n 3, 1) := by decide +kernel
theorem kb_Mo_literal_241 : decode prog_10_method_13_code 241 = .ok (.imul, 1) := by decide +kernel
theorem kb_Mo_literal_242 : decode prog_10_method_13_code 242 = .ok (.aload_n 0, 1) := by decide +kernel
theorem kb_Mo_literal_243 : decode prog_10_method_13_code 243 = .ok (.iload_n 1, 1) := by decide +kernel
theorem kb_Mo_literal_244 : decode prog_10_method_13_code 244 = .ok (.invokevirtual 155, 3) := by decide +kernel
theorem kb_Mo_literal_247 : decode prog_10_method_13_code 247 = .ok (.iastore, 1) := by decide +kernel
theorem kb_Mo_literal_248 : decode prog_10_method_13_code 248 = .ok (.aload_n 0, 1) := by decide +kernel
theorem kb_Mo_literal_249 : decode prog_10_method_13_code 249 = .ok (.getfield 121, 3) := by decide +kernel
theorem kb_Mo_literal_252 : decode prog_10_method_13_code 252 = .ok (.ifCond .ne 35, 3) := by decide +kernel
theorem kb_Mo_literal_255 : decode prog_10_method_13_code 255 = .ok (.aload_n 0, 1) := by decide +kernel
theorem kb_Mo_literal_256 : decode prog_10_method_13_code 256 = .ok (.invokevirtual 127, 3) := by decide +kernel
theorem kb_Mo_literal_259 : decode prog_10_method_13_code 259 = .ok (.bipush 60, 2) := by decide +kernel
theorem kb_Mo_literal_261 : decode prog_10_method_13_code 261 = .ok (.if_icmp .eq 26, 3) := by decide +kernel
theorem kb_Mo_literal_264 : decode prog_10_method_13_code 264 = .ok (.aload_n 0, 1) := by decide +kernel
theorem kb_Mo_literal_265 : decode prog_10_method_13_code 265 = .ok (.invokevirtual 127, 3) := by decide +kernel
theorem kb_Mo_literal_268 : decode prog_10_method_13_code 268 = .ok (.bipush 61, 2) := by decide +kernel
theorem kb_Mo_literal_270 : decode prog_10_method_13_code 270 = .ok (.if_icmp .eq 17, 3) := by decide +kernel
theorem kb_Mo_literal_273 : decode prog_10_method_13_code 273 = .ok (.aload_n 0, 1) := by decide +kernel
theorem kb_Mo_literal_274 : decode prog_10_method_13_code 274 = .ok (.invokevirtual 127, 3) := by decide +kernel
theorem kb_Mo_literal_277 : decode prog_10_method_13_code 277 = .ok (.bipush 33, 2) := by decide +kernel
theorem kb_Mo_literal_279 : decode prog_10_method_13_code 279 = .ok (.if_icmp .eq 8, 3) := by decide +kernel
theorem kb_Mo_literal_282 : decode prog_10_method_13_code 282 = .ok (.aload_n 0, 1) := by decide +kernel
theorem kb_Mo_literal_283 : decode prog_10_method_13_code 283 = .ok (.iconst 1, 1) := by decide +kernel
theorem kb_Mo_literal_284 : decode prog_10_method_13_code 284 = .ok (.invokevirtual 131, 3) := by decide +kernel
theorem kb_Mo_literal_287 : decode prog_10_method_13_code 287 = .ok (.aload_n 0, 1) := by decide +kernel
theorem kb_Mo_literal_288 : decode prog_10_method_13_code 288 = .ok (.getfield 36, 3) := by decide +kernel
theorem kb_Mo_literal_291 : decode prog_10_method_13_code 291 = .ok (.iload_n 3, 1) := by decide +kernel
theorem kb_Mo_literal_292 : decode prog_10_method_13_code 292 = .ok (.aload_n 0, 1) := by decide +kernel
theorem kb_Mo_literal_293 : decode prog_10_method_13_code 293 = .ok (.invokevirtual 127, 3) := by decide +kernel
theorem kb_Mo_literal_296 : decode prog_10_method_13_code 296 = .ok (.iastore, 1) := by decide +kernel
theorem kb_Mo_literal_297 : decode prog_10_method_13_code 297 = .ok (.aload_n 0, 1) := by decide +kernel
theorem kb_Mo_literal_298 : decode prog_10_method_13_code 298 = .ok (.dup, 1) := by decide +kernel
theorem kb_Mo_literal_299 : decode prog_10_method_13_code 299 = .ok (.getfield 124, 3) := by decide +kernel
theorem kb_Mo_literal_302 : decode prog_10_method_13_code 302 = .ok (.aload_n 0, 1) := by decide +kernel
theorem kb_Mo_literal_303 : decode prog_10_method_13_code 303 = .ok (.getfield 121, 3) := by decide +kernel
theorem kb_Mo_literal_306 : decode prog_10_method_13_code 306 = .ok (.ifCond .ne 7, 3) := by decide +kernel
theorem kb_Mo_literal_309 : decode prog_10_method_13_code 309 = .ok (.iconst 1, 1) := by decide +kernel
theorem kb_Mo_literal_310 : decode prog_10_method_13_code 310 = .ok (.goto 4, 3) := by decide +kernel
theorem kb_Mo_literal_313 : decode prog_10_method_13_code 313 = .ok (.iconst 0, 1) := by decide +kernel
theorem kb_Mo_literal_314 : decode prog_10_method_13_code 314 = .ok (.iadd, 1) := by decide +kernel
theorem kb_Mo_literal_315 : decode prog_10_method_13_code 315 = .ok (.putfield 124, 3) := by decide +kernel
theorem kb_Mo_literal_318 : decode prog_10_method_13_code 318 = .ok (.aload_n 0, 1) := by decide +kernel
theorem kb_Mo_literal_319 : decode prog_10_method_13_code 319 = .ok (.getfield 121, 3) := by decide +kernel
theorem kb_Mo_literal_322 : decode prog_10_method_13_code 322 = .ok (.ifCond .ne 18, 3) := by decide +kernel
theorem kb_Mo_literal_325 : decode prog_10_method_13_code 325 = .ok (.aload_n 0, 1) := by decide +kernel
theorem kb_Mo_literal_326 : decode prog_10_method_13_code 326 = .ok (.getfield 39, 3) := by decide +kernel
theorem kb_Mo_literal_329 : decode prog_10_method_13_code 329 = .ok (.iconst 3, 1) := by decide +kernel
theorem kb_Mo_literal_330 : decode prog_10_method_13_code 330 = .ok (.iload_n 3, 1) := by decide +kernel
theorem kb_Mo_literal_331 : decode prog_10_method_13_code 331 = .ok (.imul, 1) := by decide +kernel
theorem kb_Mo_literal_332 : decode prog_10_method_13_code 332 = .ok (.iconst 1, 1) := by decide +kernel
theorem kb_Mo_literal_333 : decode prog_10_method_13_code 333 = .ok (.iadd, 1) := by decide +kernel
theorem kb_Mo_literal_334 : decode prog_10_method_13_code 334 = .ok (.aload_n 0, 1) := by decide +kernel
theorem kb_Mo_literal_335 : decode prog_10_method_13_code 335 = .ok (.iload_n 1, 1) := by decide +kernel
theorem kb_Mo_literal_336 : decode prog_10_method_13_code 336 = .ok (.invokevirtual 155, 3) := by decide +kernel
theorem kb_Mo_literal_339 : decode prog_10_method_13_code 339 = .ok (.iastore, 1) := by decide +kernel
theorem kb_Mo_literal_340 : decode prog_10_method_13_code 340 = .ok (.aload_n 0, 1) := by decide +kernel
theorem kb_Mo_literal_341 : decode prog_10_method_13_code 341 = .ok (.getfield 39, 3) := by decide +kernel
theorem kb_Mo_literal_344 : decode prog_10_method_13_code 344 = .ok (.iconst 3, 1) := by decide +kernel
theorem kb_Mo_literal_345 : decode prog_10_method_13_code 345 = .ok (.iload_n 3, 1) := by decide +kernel
theorem kb_Mo_literal_346 : decode prog_10_method_13_code 346 = .ok (.imul, 1) := by decide +kernel
theorem kb_Mo_literal_347 : decode prog_10_method_13_code 347 = .ok (.iconst 2, 1) := by decide +kernel
theorem kb_Mo_literal_348 : decode prog_10_method_13_code 348 = .ok (.iadd, 1) := by decide +kernel
theorem kb_Mo_literal_349 : decode prog_10_method_13_code 349 = .ok (.bipush 100, 2) := by decide +kernel
theorem kb_Mo_literal_351 : decode prog_10_method_13_code 351 = .ok (.iastore, 1) := by decide +kernel
theorem kb_Mo_literal_352 : decode prog_10_method_13_code 352 = .ok (.aload_n 0, 1) := by decide +kernel
theorem kb_Mo_literal_353 : decode prog_10_method_13_code 353 = .ok (.getfield 30, 3) := by decide +kernel
theorem kb_Mo_literal_356 : decode prog_10_method_13_code 356 = .ok (.iload_n 1, 1) := by decide +kernel
theorem kb_Mo_literal_357 : decode prog_10_method_13_code 357 = .ok (.dup2, 1) := by decide +kernel
theorem kb_Mo_literal_358 : decode prog_10_method_13_code 358 = .ok (.iaload, 1) := by decide +kernel
theorem kb_Mo_literal_359 : decode prog_10_method_13_code 359 = .ok (.iconst 1, 1) := by decide +kernel
theorem kb_Mo_literal_360 : decode prog_10_method_13_code 360 = .ok (.iadd, 1) := by decide +kernel
theorem kb_Mo_literal_361 : decode prog_10_method_13_code 361 = .ok (.iastore, 1) := by decide +kernel
theorem kb_Mo_literal_362 : decode prog_10_method_13_code 362 = .ok (.return_, 1) := by decide +kernel
theorem kb_Mo_lettersOf_0 : decode prog_10_method_14_code 0 = .ok (.iconst 0, 1) := by decide +kernel
theorem kb_Mo_lettersOf_1 : decode prog_10_method_14_code 1 = .ok (.istore_n 2, 1) := by decide +kernel
theorem kb_Mo_lettersOf_2 : decode prog_10_method_14_code 2 = .ok (.iconst 0, 1) := by decide +kernel
theorem kb_Mo_lettersOf_3 : decode prog_10_method_14_code 3 = .ok (.istore_n 3, 1) := by decide +kernel
theorem kb_Mo_lettersOf_4 : decode prog_10_method_14_code 4 = .ok (.iload_n 3, 1) := by decide +kernel
theorem kb_Mo_lettersOf_5 : decode prog_10_method_14_code 5 = .ok (.iconst 3, 1) := by decide +kernel
theorem kb_Mo_lettersOf_6 : decode prog_10_method_14_code 6 = .ok (.if_icmp .ge 33, 3) := by decide +kernel
theorem kb_Mo_lettersOf_9 : decode prog_10_method_14_code 9 = .ok (.iload_n 2, 1) := by decide +kernel
theorem kb_Mo_lettersOf_10 : decode prog_10_method_14_code 10 = .ok (.aload_n 0, 1) := by decide +kernel
theorem kb_Mo_lettersOf_11 : decode prog_10_method_14_code 11 = .ok (.iload_n 1, 1) := by decide +kernel
theorem kb_Mo_lettersOf_12 : decode prog_10_method_14_code 12 = .ok (.iload_n 3, 1) := by decide +kernel
theorem kb_Mo_lettersOf_13 : decode prog_10_method_14_code 13 = .ok (.iadd, 1) := by decide +kernel
theorem kb_Mo_lettersOf_14 : decode prog_10_method_14_code 14 = .ok (.iaload, 1) := by decide +kernel
theorem kb_Mo_lettersOf_15 : decode prog_10_method_14_code 15 = .ok (.bipush 26, 2) := by decide +kernel
theorem kb_Mo_lettersOf_17 : decode prog_10_method_14_code 17 = .ok (.if_icmp .ge 13, 3) := by decide +kernel
theorem kb_Mo_lettersOf_20 : decode prog_10_method_14_code 20 = .ok (.iconst 1, 1) := by decide +kernel
theorem kb_Mo_lettersOf_21 : decode prog_10_method_14_code 21 = .ok (.aload_n 0, 1) := by decide +kernel
theorem kb_Mo_lettersOf_22 : decode prog_10_method_14_code 22 = .ok (.iload_n 1, 1) := by decide +kernel
theorem kb_Mo_lettersOf_23 : decode prog_10_method_14_code 23 = .ok (.iload_n 3, 1) := by decide +kernel
theorem kb_Mo_lettersOf_24 : decode prog_10_method_14_code 24 = .ok (.iadd, 1) := by decide +kernel
theorem kb_Mo_lettersOf_25 : decode prog_10_method_14_code 25 = .ok (.iaload, 1) := by decide +kernel
theorem kb_Mo_lettersOf_26 : decode prog_10_method_14_code 26 = .ok (.ishl, 1) := by decide +kernel
theorem kb_Mo_lettersOf_27 : decode prog_10_method_14_code 27 = .ok (.goto 4, 3) := by decide +kernel
theorem kb_Mo_lettersOf_30 : decode prog_10_method_14_code 30 = .ok (.iconst 0, 1) := by decide +kernel
theorem kb_Mo_lettersOf_31 : decode prog_10_method_14_code 31 = .ok (.ior, 1) := by decide +kernel
theorem kb_Mo_lettersOf_32 : decode prog_10_method_14_code 32 = .ok (.istore_n 2, 1) := by decide +kernel
theorem kb_Mo_lettersOf_33 : decode prog_10_method_14_code 33 = .ok (.iinc 3 1, 3) := by decide +kernel
theorem kb_Mo_lettersOf_36 : decode prog_10_method_14_code 36 = .ok (.goto (-32), 3) := by decide +kernel
theorem kb_Mo_lettersOf_39 : decode prog_10_method_14_code 39 = .ok (.iload_n 2, 1) := by decide +kernel
theorem kb_Mo_lettersOf_40 : decode prog_10_method_14_code 40 = .ok (.ireturn, 1) := by decide +kernel
theorem kb_Mo_rule_0 : decode prog_10_method_15_code 0 = .ok (.aload_n 0, 1) := by decide +kernel
theorem kb_Mo_rule_1 : decode prog_10_method_15_code 1 = .ok (.getfield 164, 3) := by decide +kernel
theorem kb_Mo_rule_4 : decode prog_10_method_15_code 4 = .ok (.istore_n 1, 1) := by decide +kernel
theorem kb_Mo_rule_5 : decode prog_10_method_15_code 5 = .ok (.aload_n 0, 1) := by decide +kernel
theorem kb_Mo_rule_6 : decode prog_10_method_15_code 6 = .ok (.getfield 30, 3) := by decide +kernel
theorem kb_Mo_rule_9 : decode prog_10_method_15_code 9 = .ok (.iload_n 1, 1) := by decide +kernel
theorem kb_Mo_rule_10 : decode prog_10_method_15_code 10 = .ok (.iconst 0, 1) := by decide +kernel
theorem kb_Mo_rule_11 : decode prog_10_method_15_code 11 = .ok (.iastore, 1) := by decide +kernel
theorem kb_Mo_rule_12 : decode prog_10_method_15_code 12 = .ok (.aload_n 0, 1) := by decide +kernel
theorem kb_Mo_rule_13 : decode prog_10_method_15_code 13 = .ok (.getfield 46, 3) := by decide +kernel
theorem kb_Mo_rule_16 : decode prog_10_method_15_code 16 = .ok (.iload_n 1, 1) := by decide +kernel
theorem kb_Mo_rule_17 : decode prog_10_method_15_code 17 = .ok (.iconst 0, 1) := by decide +kernel
theorem kb_Mo_rule_18 : decode prog_10_method_15_code 18 = .ok (.iastore, 1) := by decide +kernel
theorem kb_Mo_rule_19 : decode prog_10_method_15_code 19 = .ok (.aload_n 0, 1) := by decide +kernel
theorem kb_Mo_rule_20 : decode prog_10_method_15_code 20 = .ok (.getfield 42, 3) := by decide +kernel
theorem kb_Mo_rule_23 : decode prog_10_method_15_code 23 = .ok (.iload_n 1, 1) := by decide +kernel
theorem kb_Mo_rule_24 : decode prog_10_method_15_code 24 = .ok (.iconst 0, 1) := by decide +kernel
theorem kb_Mo_rule_25 : decode prog_10_method_15_code 25 = .ok (.bastore, 1) := by decide +kernel
theorem kb_Mo_rule_26 : decode prog_10_method_15_code 26 = .ok (.aload_n 0, 1) := by decide +kernel
theorem kb_Mo_rule_27 : decode prog_10_method_15_code 27 = .ok (.invokevirtual 127, 3) := by decide +kernel
theorem kb_Mo_rule_30 : decode prog_10_method_15_code 30 = .ok (.invokestatic 135, 3) := by decide +kernel
theorem kb_Mo_rule_33 : decode prog_10_method_15_code 33 = .ok (.ifCond .eq 15, 3) := by decide +kernel
theorem kb_Mo_rule_36 : decode prog_10_method_15_code 36 = .ok (.iload_n 1, 1) := by decide +kernel
theorem kb_Mo_rule_37 : decode prog_10_method_15_code 37 = .ok (.bipush 16, 2) := by decide +kernel
theorem kb_Mo_rule_39 : decode prog_10_method_15_code 39 = .ok (.if_icmp .ne 9, 3) := by decide +kernel
theorem kb_Mo_rule_42 : decode prog_10_method_15_code 42 = .ok (.aload_n 0, 1) := by decide +kernel
theorem kb_Mo_rule_43 : decode prog_10_method_15_code 43 = .ok (.iconst 3, 1) := by decide +kernel
theorem kb_Mo_rule_44 : decode prog_10_method_15_code 44 = .ok (.invokevirtual 131, 3) := by decide +kernel
theorem kb_Mo_rule_47 : decode prog_10_method_15_code 47 = .ok (.return_, 1) := by decide +kernel
theorem kb_Mo_rule_48 : decode prog_10_method_15_code 48 = .ok (.aload_n 0, 1) := by decide +kernel
theorem kb_Mo_rule_49 : decode prog_10_method_15_code 49 = .ok (.getfield 24, 3) := by decide +kernel
theorem kb_Mo_rule_52 : decode prog_10_method_15_code 52 = .ok (.iload_n 1, 1) := by decide +kernel
theorem kb_Mo_rule_53 : decode prog_10_method_15_code 53 = .ok (.aload_n 0, 1) := by decide +kernel
theorem kb_Mo_rule_54 : decode prog_10_method_15_code 54 = .ok (.invokevirtual 158, 3) := by decide +kernel
theorem kb_Mo_rule_57 : decode prog_10_method_15_code 57 = .ok (.iastore, 1) := by decide +kernel
theorem kb_Mo_rule_58 : decode prog_10_method_15_code 58 = .ok (.aload_n 0, 1) := by decide +kernel
theorem kb_Mo_rule_59 : decode prog_10_method_15_code 59 = .ok (.getfield 121, 3) := by decide +kernel
theorem kb_Mo_rule_62 : decode prog_10_method_15_code 62 = .ok (.ifCond .eq 4, 3) := by decide +kernel
theorem kb_Mo_rule_65 : decode prog_10_method_15_code 65 = .ok (.return_, 1) := by decide +kernel
theorem kb_Mo_rule_66 : decode prog_10_method_15_code 66 = .ok (.aload_n 0, 1) := by decide +kernel
theorem kb_Mo_rule_67 : decode prog_10_method_15_code 67 = .ok (.iload_n 1, 1) := by decide +kernel
theorem kb_Mo_rule_68 : decode prog_10_method_15_code 68 = .ok (.aload_n 0, 1) := by decide +kernel
theorem kb_Mo_rule_69 : decode prog_10_method_15_code 69 = .ok (.getfield 24, 3) := by decide +kernel
theorem kb_Mo_rule_72 : decode prog_10_method_15_code 72 = .ok (.iload_n 1, 1) := by decide +kernel
theorem kb_Mo_rule_73 : decode prog_10_method_15_code 73 = .ok (.iaload, 1) := by decide +kernel
theorem kb_Mo_rule_74 : decode prog_10_method_15_code 74 = .ok (.aload_n 0, 1) := by decide +kernel
theorem kb_Mo_rule_75 : decode prog_10_method_15_code 75 = .ok (.getfield 27, 3) := by decide +kernel
theorem kb_Mo_rule_78 : decode prog_10_method_15_code 78 = .ok (.iconst 3, 1) := by decide +kernel
theorem kb_Mo_rule_79 : decode prog_10_method_15_code 79 = .ok (.iload_n 1, 1) := by decide +kernel
theorem kb_Mo_rule_80 : decode prog_10_method_15_code 80 = .ok (.imul, 1) := by decide +kernel
theorem kb_Mo_rule_81 : decode prog_10_method_15_code 81 = .ok (.iconst 1, 1) := by decide +kernel
theorem kb_Mo_rule_82 : decode prog_10_method_15_code 82 = .ok (.invokevirtual 161, 3) := by decide +kernel
theorem kb_Mo_rule_85 : decode prog_10_method_15_code 85 = .ok (.aload_n 0, 1) := by decide +kernel
theorem kb_Mo_rule_86 : decode prog_10_method_15_code 86 = .ok (.getfield 121, 3) := by decide +kernel
theorem kb_Mo_rule_89 : decode prog_10_method_15_code 89 = .ok (.ifCond .ne 74, 3) := by decide +kernel
theorem kb_Mo_rule_92 : decode prog_10_method_15_code 92 = .ok (.aload_n 0, 1) := by decide +kernel
theorem kb_Mo_rule_93 : decode prog_10_method_15_code 93 = .ok (.invokevirtual 127, 3) := by decide +kernel
theorem kb_Mo_rule_96 : decode prog_10_method_15_code 96 = .ok (.bipush 58, 2) := by decide +kernel
theorem kb_Mo_rule_98 : decode prog_10_method_15_code 98 = .ok (.if_icmp .ne 65, 3) := by decide +kernel
theorem kb_Mo_rule_101 : decode prog_10_method_15_code 101 = .ok (.aload_n 0, 1) := by decide +kernel
theorem kb_Mo_rule_102 : decode prog_10_method_15_code 102 = .ok (.dup, 1) := by decide +kernel
theorem kb_Mo_rule_103 : decode prog_10_method_15_code 103 = .ok (.getfield 124, 3) := by decide +kernel
theorem kb_Mo_rule_106 : decode prog_10_method_15_code 106 = .ok (.iconst 1, 1) := by decide +kernel
theorem kb_Mo_rule_107 : decode prog_10_method_15_code 107 = .ok (.iadd, 1) := by decide +kernel
theorem kb_Mo_rule_108 : decode prog_10_method_15_code 108 = .ok (.putfield 124, 3) := by decide +kernel
theorem kb_Mo_rule_111 : decode prog_10_method_15_code 111 = .ok (.aload_n 0, 1) := by decide +kernel
theorem kb_Mo_rule_112 : decode prog_10_method_15_code 112 = .ok (.bipush 45, 2) := by decide +kernel
theorem kb_Mo_rule_114 : decode prog_10_method_15_code 114 = .ok (.invokevirtual 152, 3) := by decide +kernel
theorem kb_Mo_rule_117 : decode prog_10_method_15_code 117 = .ok (.aload_n 0, 1) := by decide +kernel
theorem kb_Mo_rule_118 : decode prog_10_method_15_code 118 = .ok (.getfield 121, 3) := by decide +kernel
theorem kb_Mo_rule_121 : decode prog_10_method_15_code 121 = .ok (.ifCond .ne 8, 3) := by decide +kernel
theorem kb_Mo_rule_124 : decode prog_10_method_15_code 124 = .ok (.aload_n 0, 1) := by decide +kernel
theorem kb_Mo_rule_125 : decode prog_10_method_15_code 125 = .ok (.iload_n 1, 1) := by decide +kernel
theorem kb_Mo_rule_126 : decode prog_10_method_15_code 126 = .ok (.invokevirtual 167, 3) := by decide +kernel
theorem kb_Mo_rule_129 : decode prog_10_method_15_code 129 = .ok (.aload_n 0, 1) := by decide +kernel
theorem kb_Mo_rule_130 : decode prog_10_method_15_code 130 = .ok (.getfield 121, 3) := by decide +kernel
theorem kb_Mo_rule_133 : decode prog_10_method_15_code 133 = .ok (.ifCond .ne 30, 3) := by decide +kernel
theorem kb_Mo_rule_136 : decode prog_10_method_15_code 136 = .ok (.aload_n 0, 1) := by decide +kernel
theorem kb_Mo_rule_137 : decode prog_10_method_15_code 137 = .ok (.invokevirtual 127, 3) := by decide +kernel
theorem kb_Mo_rule_140 : decode prog_10_method_15_code 140 = .ok (.bipush 44, 2) := by decide +kernel
theorem kb_Mo_rule_142 : decode prog_10_method_15_code 142 = .ok (.if_icmp .ne 21, 3) := by decide +kernel
theorem kb_Mo_rule_145 : decode prog_10_method_15_code 145 = .ok (.aload_n 0, 1) := by decide +kernel
theorem kb_Mo_rule_146 : decode prog_10_method_15_code 146 = .ok (.dup, 1) := by decide +kernel
theorem kb_Mo_rule_147 : decode prog_10_method_15_code 147 = .ok (.getfield 124, 3) := by decide +kernel
theorem kb_Mo_rule_150 : decode prog_10_method_15_code 150 = .ok (.iconst 1, 1) := by decide +kernel
theorem kb_Mo_rule_151 : decode prog_10_method_15_code 151 = .ok (.iadd, 1) := by decide +kernel
theorem kb_Mo_rule_152 : decode prog_10_method_15_code 152 = .ok (.putfield 124, 3) := by decide +kernel
theorem kb_Mo_rule_155 : decode prog_10_method_15_code 155 = .ok (.aload_n 0, 1) := by decide +kernel
theorem kb_Mo_rule_156 : decode prog_10_method_15_code 156 = .ok (.iload_n 1, 1) := by decide +kernel
theorem kb_Mo_rule_157 : decode prog_10_method_15_code 157 = .ok (.invokevirtual 167, 3) := by decide +kernel
theorem kb_Mo_rule_160 : decode prog_10_method_15_code 160 = .ok (.goto (-31), 3) := by decide +kernel
theorem kb_Mo_rule_163 : decode prog_10_method_15_code 163 = .ok (.aload_n 0, 1) := by decide +kernel
theorem kb_Mo_rule_164 : decode prog_10_method_15_code 164 = .ok (.getfield 121, 3) := by decide +kernel
theorem kb_Mo_rule_167 : decode prog_10_method_15_code 167 = .ok (.ifCond .ne 17, 3) := by decide +kernel
theorem kb_Mo_rule_170 : decode prog_10_method_15_code 170 = .ok (.aload_n 0, 1) := by decide +kernel
theorem kb_Mo_rule_171 : decode prog_10_method_15_code 171 = .ok (.invokevirtual 127, 3) := by decide +kernel
theorem kb_Mo_rule_174 : decode prog_10_method_15_code 174 = .ok (.bipush 46, 2) := by decide +kernel
theorem kb_Mo_rule_176 : decode prog_10_method_15_code 176 = .ok (.if_icmp .eq 8, 3) := by decide +kernel
theorem kb_Mo_rule_179 : decode prog_10_method_15_code 179 = .ok (.aload_n 0, 1) := by decide +kernel
theorem kb_Mo_rule_180 : decode prog_10_method_15_code 180 = .ok (.iconst 1, 1) := by decide +kernel
theorem kb_Mo_rule_181 : decode prog_10_method_15_code 181 = .ok (.invokevirtual 131, 3) := by decide +kernel
theorem kb_Mo_rule_184 : decode prog_10_method_15_code 184 = .ok (.aload_n 0, 1) := by decide +kernel
theorem kb_Mo_rule_185 : decode prog_10_method_15_code 185 = .ok (.getfield 121, 3) := by decide +kernel
theorem kb_Mo_rule_188 : decode prog_10_method_15_code 188 = .ok (.ifCond .ne 8, 3) := by decide +kernel
theorem kb_Mo_rule_191 : decode prog_10_method_15_code 191 = .ok (.aload_n 0, 1) := by decide +kernel
theorem kb_Mo_rule_192 : decode prog_10_method_15_code 192 = .ok (.iload_n 1, 1) := by decide +kernel
theorem kb_Mo_rule_193 : decode prog_10_method_15_code 193 = .ok (.invokevirtual 170, 3) := by decide +kernel
theorem kb_Mo_rule_196 : decode prog_10_method_15_code 196 = .ok (.aload_n 0, 1) := by decide +kernel
theorem kb_Mo_rule_197 : decode prog_10_method_15_code 197 = .ok (.getfield 121, 3) := by decide +kernel
theorem kb_Mo_rule_200 : decode prog_10_method_15_code 200 = .ok (.ifCond .ne 35, 3) := by decide +kernel
theorem kb_Mo_rule_203 : decode prog_10_method_15_code 203 = .ok (.aload_n 0, 1) := by decide +kernel
theorem kb_Mo_rule_204 : decode prog_10_method_15_code 204 = .ok (.dup, 1) := by decide +kernel
theorem kb_Mo_rule_205 : decode prog_10_method_15_code 205 = .ok (.getfield 124, 3) := by decide +kernel
theorem kb_Mo_rule_208 : decode prog_10_method_15_code 208 = .ok (.iconst 1, 1) := by decide +kernel
theorem kb_Mo_rule_209 : decode prog_10_method_15_code 209 = .ok (.iadd, 1) := by decide +kernel
theorem kb_Mo_rule_210 : decode prog_10_method_15_code 210 = .ok (.putfield 124, 3) := by decide +kernel
theorem kb_Mo_rule_213 : decode prog_10_method_15_code 213 = .ok (.aload_n 0, 1) := by decide +kernel
theorem kb_Mo_rule_214 : decode prog_10_method_15_code 214 = .ok (.getfield 55, 3) := by decide +kernel
theorem kb_Mo_rule_217 : decode prog_10_method_15_code 217 = .ok (.aload_n 0, 1) := by decide +kernel
theorem kb_Mo_rule_218 : decode prog_10_method_15_code 218 = .ok (.getfield 24, 3) := by decide +kernel
theorem kb_Mo_rule_221 : decode prog_10_method_15_code 221 = .ok (.iload_n 1, 1) := by decide +kernel
theorem kb_Mo_rule_222 : decode prog_10_method_15_code 222 = .ok (.iaload, 1) := by decide +kernel
theorem kb_Mo_rule_223 : decode prog_10_method_15_code 223 = .ok (.iconst 1, 1) := by decide +kernel
theorem kb_Mo_rule_224 : decode prog_10_method_15_code 224 = .ok (.bastore, 1) := by decide +kernel
theorem kb_Mo_rule_225 : decode prog_10_method_15_code 225 = .ok (.aload_n 0, 1) := by decide +kernel
theorem kb_Mo_rule_226 : decode prog_10_method_15_code 226 = .ok (.dup, 1) := by decide +kernel
theorem kb_Mo_rule_227 : decode prog_10_method_15_code 227 = .ok (.getfield 164, 3) := by decide +kernel
theorem kb_Mo_rule_230 : decode prog_10_method_15_code 230 = .ok (.iconst 1, 1) := by decide +kernel
theorem kb_Mo_rule_231 : decode prog_10_method_15_code 231 = .ok (.iadd, 1) := by decide +kernel
theorem kb_Mo_rule_232 : decode prog_10_method_15_code 232 = .ok (.putfield 164, 3) := by decide +kernel
theorem kb_Mo_rule_235 : decode prog_10_method_15_code 235 = .ok (.return_, 1) := by decide +kernel
theorem kb_Mo_judge_0 : decode prog_10_method_16_code 0 = .ok (.iconst 0, 1) := by decide +kernel
theorem kb_Mo_judge_1 : decode prog_10_method_16_code 1 = .ok (.istore_n 2, 1) := by decide +kernel
theorem kb_Mo_judge_2 : decode prog_10_method_16_code 2 = .ok (.aload_n 0, 1) := by decide +kernel
theorem kb_Mo_judge_3 : decode prog_10_method_16_code 3 = .ok (.getfield 27, 3) := by decide +kernel
theorem kb_Mo_judge_6 : decode prog_10_method_16_code 6 = .ok (.iconst 3, 1) := by decide +kernel
theorem kb_Mo_judge_7 : decode prog_10_method_16_code 7 = .ok (.iload_n 1, 1) := by decide +kernel
theorem kb_Mo_judge_8 : decode prog_10_method_16_code 8 = .ok (.imul, 1) := by decide +kernel
theorem kb_Mo_judge_9 : decode prog_10_method_16_code 9 = .ok (.invokestatic 173, 3) := by decide +kernel
theorem kb_Mo_judge_12 : decode prog_10_method_16_code 12 = .ok (.istore_n 3, 1) := by decide +kernel
theorem kb_Mo_judge_13 : decode prog_10_method_16_code 13 = .ok (.iconst 0, 1) := by decide +kernel
theorem kb_Mo_judge_14 : decode prog_10_method_16_code 14 = .ok (.istore 4, 2) := by decide +kernel
theorem kb_Mo_judge_16 : decode prog_10_method_16_code 16 = .ok (.iload 4, 2) := by decide +kernel
theorem kb_Mo_judge_18 : decode prog_10_method_16_code 18 = .ok (.aload_n 0, 1) := by decide +kernel
theorem kb_Mo_judge_19 : decode prog_10_method_16_code 19 = .ok (.getfield 30, 3) := by decide +kernel
theorem kb_Mo_judge_22 : decode prog_10_method_16_code 22 = .ok (.iload_n 1, 1) := by decide +kernel
theorem kb_Mo_judge_23 : decode prog_10_method_16_code 23 = .ok (.iaload, 1) := by decide +kernel
theorem kb_Mo_judge_24 : decode prog_10_method_16_code 24 = .ok (.if_icmp .ge 53, 3) := by decide +kernel
theorem kb_Mo_judge_27 : decode prog_10_method_16_code 27 = .ok (.aload_n 0, 1) := by decide +kernel
theorem kb_Mo_judge_28 : decode prog_10_method_16_code 28 = .ok (.getfield 39, 3) := by decide +kernel
theorem kb_Mo_judge_31 : decode prog_10_method_16_code 31 = .ok (.iconst 3, 1) := by decide +kernel
theorem kb_Mo_judge_32 : decode prog_10_method_16_code 32 = .ok (.iconst 5, 1) := by decide +kernel
theorem kb_Mo_judge_33 : decode prog_10_method_16_code 33 = .ok (.iload_n 1, 1) := by decide +kernel
theorem kb_Mo_judge_34 : decode prog_10_method_16_code 34 = .ok (.imul, 1) := by decide +kernel
theorem kb_Mo_judge_35 : decode prog_10_method_16_code 35 = .ok (.iload 4, 2) := by decide +kernel
theorem kb_Mo_judge_37 : decode prog_10_method_16_code 37 = .ok (.iadd, 1) := by decide +kernel
theorem kb_Mo_judge_38 : decode prog_10_method_16_code 38 = .ok (.imul, 1) := by decide +kernel
theorem kb_Mo_judge_39 : decode prog_10_method_16_code 39 = .ok (.invokestatic 173, 3) := by decide +kernel
theorem kb_Mo_judge_42 : decode prog_10_method_16_code 42 = .ok (.istore 5, 2) := by decide +kernel
theorem kb_Mo_judge_44 : decode prog_10_method_16_code 44 = .ok (.aload_n 0, 1) := by decide +kernel
theorem kb_Mo_judge_45 : decode prog_10_method_16_code 45 = .ok (.getfield 33, 3) := by decide +kernel
theorem kb_Mo_judge_48 : decode prog_10_method_16_code 48 = .ok (.iconst 5, 1) := by decide +kernel
theorem kb_Mo_judge_49 : decode prog_10_method_16_code 49 = .ok (.iload_n 1, 1) := by decide +kernel
theorem kb_Mo_judge_50 : decode prog_10_method_16_code 50 = .ok (.imul, 1) := by decide +kernel
theorem kb_Mo_judge_51 : decode prog_10_method_16_code 51 = .ok (.iload 4, 2) := by decide +kernel
theorem kb_Mo_judge_53 : decode prog_10_method_16_code 53 = .ok (.iadd, 1) := by decide +kernel
theorem kb_Mo_judge_54 : decode prog_10_method_16_code 54 = .ok (.iaload, 1) := by decide +kernel
theorem kb_Mo_judge_55 : decode prog_10_method_16_code 55 = .ok (.ifCond .ne 11, 3) := by decide +kernel
theorem kb_Mo_judge_58 : decode prog_10_method_16_code 58 = .ok (.iload_n 2, 1) := by decide +kernel
theorem kb_Mo_judge_59 : decode prog_10_method_16_code 59 = .ok (.iload 5, 2) := by decide +kernel
theorem kb_Mo_judge_61 : decode prog_10_method_16_code 61 = .ok (.ior, 1) := by decide +kernel
theorem kb_Mo_judge_62 : decode prog_10_method_16_code 62 = .ok (.istore_n 2, 1) := by decide +kernel
theorem kb_Mo_judge_63 : decode prog_10_method_16_code 63 = .ok (.goto 8, 3) := by decide +kernel
theorem kb_Mo_judge_66 : decode prog_10_method_16_code 66 = .ok (.iload_n 3, 1) := by decide +kernel
theorem kb_Mo_judge_67 : decode prog_10_method_16_code 67 = .ok (.iload 5, 2) := by decide +kernel
theorem kb_Mo_judge_69 : decode prog_10_method_16_code 69 = .ok (.ior, 1) := by decide +kernel
theorem kb_Mo_judge_70 : decode prog_10_method_16_code 70 = .ok (.istore_n 3, 1) := by decide +kernel
theorem kb_Mo_judge_71 : decode prog_10_method_16_code 71 = .ok (.iinc 4 1, 3) := by decide +kernel
theorem kb_Mo_judge_74 : decode prog_10_method_16_code 74 = .ok (.goto (-58), 3) := by decide +kernel
theorem kb_Mo_judge_77 : decode prog_10_method_16_code 77 = .ok (.iload_n 3, 1) := by decide +kernel
theorem kb_Mo_judge_78 : decode prog_10_method_16_code 78 = .ok (.iload_n 2, 1) := by decide +kernel
theorem kb_Mo_judge_79 : decode prog_10_method_16_code 79 = .ok (.iconst (-1), 1) := by decide +kernel
theorem kb_Mo_judge_80 : decode prog_10_method_16_code 80 = .ok (.ixor, 1) := by decide +kernel
theorem kb_Mo_judge_81 : decode prog_10_method_16_code 81 = .ok (.iand, 1) := by decide +kernel
theorem kb_Mo_judge_82 : decode prog_10_method_16_code 82 = .ok (.ifCond .eq 9, 3) := by decide +kernel
theorem kb_Mo_judge_85 : decode prog_10_method_16_code 85 = .ok (.aload_n 0, 1) := by decide +kernel
theorem kb_Mo_judge_86 : decode prog_10_method_16_code 86 = .ok (.iconst 4, 1) := by decide +kernel
theorem kb_Mo_judge_87 : decode prog_10_method_16_code 87 = .ok (.invokevirtual 131, 3) := by decide +kernel
theorem kb_Mo_judge_90 : decode prog_10_method_16_code 90 = .ok (.return_, 1) := by decide +kernel
theorem kb_Mo_judge_91 : decode prog_10_method_16_code 91 = .ok (.iconst 1, 1) := by decide +kernel
theorem kb_Mo_judge_92 : decode prog_10_method_16_code 92 = .ok (.istore 4, 2) := by decide +kernel
theorem kb_Mo_judge_94 : decode prog_10_method_16_code 94 = .ok (.aload_n 0, 1) := by decide +kernel
theorem kb_Mo_judge_95 : decode prog_10_method_16_code 95 = .ok (.getfield 42, 3) := by decide +kernel
theorem kb_Mo_judge_98 : decode prog_10_method_16_code 98 = .ok (.iload_n 1, 1) := by decide +kernel
theorem kb_Mo_judge_99 : decode prog_10_method_16_code 99 = .ok (.baload, 1) := by decide +kernel
theorem kb_Mo_judge_100 : decode prog_10_method_16_code 100 = .ok (.istore 5, 2) := by decide +kernel
theorem kb_Mo_judge_102 : decode prog_10_method_16_code 102 = .ok (.iconst 0, 1) := by decide +kernel
theorem kb_Mo_judge_103 : decode prog_10_method_16_code 103 = .ok (.istore 6, 2) := by decide +kernel
theorem kb_Mo_judge_105 : decode prog_10_method_16_code 105 = .ok (.iload 6, 2) := by decide +kernel
theorem kb_Mo_judge_107 : decode prog_10_method_16_code 107 = .ok (.iload_n 1, 1) := by decide +kernel
theorem kb_Mo_judge_108 : decode prog_10_method_16_code 108 = .ok (.if_icmp .ge 50, 3) := by decide +kernel
theorem kb_Mo_judge_111 : decode prog_10_method_16_code 111 = .ok (.aload_n 0, 1) := by decide +kernel
theorem kb_Mo_judge_112 : decode prog_10_method_16_code 112 = .ok (.getfield 24, 3) := by decide +kernel
theorem kb_Mo_judge_115 : decode prog_10_method_16_code 115 = .ok (.iload 6, 2) := by decide +kernel
theorem kb_Mo_judge_117 : decode prog_10_method_16_code 117 = .ok (.iaload, 1) := by decide +kernel
theorem kb_Mo_judge_118 : decode prog_10_method_16_code 118 = .ok (.aload_n 0, 1) := by decide +kernel
theorem kb_Mo_judge_119 : decode prog_10_method_16_code 119 = .ok (.getfield 24, 3) := by decide +kernel
theorem kb_Mo_judge_122 : decode prog_10_method_16_code 122 = .ok (.iload_n 1, 1) := by decide +kernel
theorem kb_Mo_judge_123 : decode prog_10_method_16_code 123 = .ok (.iaload, 1) := by decide +kernel
theorem kb_Mo_judge_124 : decode prog_10_method_16_code 124 = .ok (.if_icmp .ne 28, 3) := by decide +kernel
theorem kb_Mo_judge_127 : decode prog_10_method_16_code 127 = .ok (.iconst 0, 1) := by decide +kernel
theorem kb_Mo_judge_128 : decode prog_10_method_16_code 128 = .ok (.istore 4, 2) := by decide +kernel
theorem kb_Mo_judge_130 : decode prog_10_method_16_code 130 = .ok (.iload 5, 2) := by decide +kernel
theorem kb_Mo_judge_132 : decode prog_10_method_16_code 132 = .ok (.ifCond .ne 13, 3) := by decide +kernel
theorem kb_Mo_judge_135 : decode prog_10_method_16_code 135 = .ok (.aload_n 0, 1) := by decide +kernel
theorem kb_Mo_judge_136 : decode prog_10_method_16_code 136 = .ok (.getfield 42, 3) := by decide +kernel
theorem kb_Mo_judge_139 : decode prog_10_method_16_code 139 = .ok (.iload 6, 2) := by decide +kernel
theorem kb_Mo_judge_141 : decode prog_10_method_16_code 141 = .ok (.baload, 1) := by decide +kernel
theorem kb_Mo_judge_142 : decode prog_10_method_16_code 142 = .ok (.ifCond .eq 7, 3) := by decide +kernel
theorem kb_Mo_judge_145 : decode prog_10_method_16_code 145 = .ok (.iconst 1, 1) := by decide +kernel
theorem kb_Mo_judge_146 : decode prog_10_method_16_code 146 = .ok (.goto 4, 3) := by decide +kernel
theorem kb_Mo_judge_149 : decode prog_10_method_16_code 149 = .ok (.iconst 0, 1) := by decide +kernel
theorem kb_Mo_judge_150 : decode prog_10_method_16_code 150 = .ok (.istore 5, 2) := by decide +kernel
theorem kb_Mo_judge_152 : decode prog_10_method_16_code 152 = .ok (.iinc 6 1, 3) := by decide +kernel
theorem kb_Mo_judge_155 : decode prog_10_method_16_code 155 = .ok (.goto (-50), 3) := by decide +kernel
theorem kb_Mo_judge_158 : decode prog_10_method_16_code 158 = .ok (.aload_n 0, 1) := by decide +kernel
theorem kb_Mo_judge_159 : decode prog_10_method_16_code 159 = .ok (.getfield 42, 3) := by decide +kernel
theorem kb_Mo_judge_162 : decode prog_10_method_16_code 162 = .ok (.iload_n 1, 1) := by decide +kernel
theorem kb_Mo_judge_163 : decode prog_10_method_16_code 163 = .ok (.baload, 1) := by decide +kernel
theorem kb_Mo_judge_164 : decode prog_10_method_16_code 164 = .ok (.ifCond .eq 12, 3) := by decide +kernel
theorem kb_Mo_judge_167 : decode prog_10_method_16_code 167 = .ok (.aload_n 0, 1) := by decide +kernel
theorem kb_Mo_judge_168 : decode prog_10_method_16_code 168 = .ok (.getfield 30, 3) := by decide +kernel
theorem kb_Mo_judge_171 : decode prog_10_method_16_code 171 = .ok (.iload_n 1, 1) := by decide +kernel
theorem kb_Mo_judge_172 : decode prog_10_method_16_code 172 = .ok (.iaload, 1) := by decide +kernel
theorem kb_Mo_judge_173 : decode prog_10_method_16_code 173 = .ok (.ifCond .eq 13, 3) := by decide +kernel
theorem kb_Mo_judge_176 : decode prog_10_method_16_code 176 = .ok (.iload 5, 2) := by decide +kernel
theorem kb_Mo_judge_178 : decode prog_10_method_16_code 178 = .ok (.ifCond .eq 13, 3) := by decide +kernel
theorem kb_Mo_judge_181 : decode prog_10_method_16_code 181 = .ok (.iload 4, 2) := by decide +kernel
theorem kb_Mo_judge_183 : decode prog_10_method_16_code 183 = .ok (.ifCond .ne 8, 3) := by decide +kernel
theorem kb_Mo_judge_186 : decode prog_10_method_16_code 186 = .ok (.aload_n 0, 1) := by decide +kernel
theorem kb_Mo_judge_187 : decode prog_10_method_16_code 187 = .ok (.iconst 5, 1) := by decide +kernel
theorem kb_Mo_judge_188 : decode prog_10_method_16_code 188 = .ok (.invokevirtual 131, 3) := by decide +kernel
theorem kb_Mo_judge_191 : decode prog_10_method_16_code 191 = .ok (.return_, 1) := by decide +kernel
theorem kb_Mo_isStrict_0 : decode prog_10_method_17_code 0 = .ok (.aload_n 0, 1) := by decide +kernel
theorem kb_Mo_isStrict_1 : decode prog_10_method_17_code 1 = .ok (.getfield 42, 3) := by decide +kernel
theorem kb_Mo_isStrict_4 : decode prog_10_method_17_code 4 = .ok (.iload_n 1, 1) := by decide +kernel
theorem kb_Mo_isStrict_5 : decode prog_10_method_17_code 5 = .ok (.baload, 1) := by decide +kernel
theorem kb_Mo_isStrict_6 : decode prog_10_method_17_code 6 = .ok (.ifCond .ne 17, 3) := by decide +kernel
theorem kb_Mo_isStrict_9 : decode prog_10_method_17_code 9 = .ok (.aload_n 0, 1) := by decide +kernel
theorem kb_Mo_isStrict_10 : decode prog_10_method_17_code 10 = .ok (.getfield 33, 3) := by decide +kernel
theorem kb_Mo_isStrict_13 : decode prog_10_method_17_code 13 = .ok (.iconst 5, 1) := by decide +kernel
theorem kb_Mo_isStrict_14 : decode prog_10_method_17_code 14 = .ok (.iload_n 1, 1) := by decide +kernel
theorem kb_Mo_isStrict_15 : decode prog_10_method_17_code 15 = .ok (.imul, 1) := by decide +kernel
theorem kb_Mo_isStrict_16 : decode prog_10_method_17_code 16 = .ok (.iload_n 2, 1) := by decide +kernel
theorem kb_Mo_isStrict_17 : decode prog_10_method_17_code 17 = .ok (.iadd, 1) := by decide +kernel
theorem kb_Mo_isStrict_18 : decode prog_10_method_17_code 18 = .ok (.iaload, 1) := by decide +kernel
theorem kb_Mo_isStrict_19 : decode prog_10_method_17_code 19 = .ok (.iconst 1, 1) := by decide +kernel
theorem kb_Mo_isStrict_20 : decode prog_10_method_17_code 20 = .ok (.if_icmp .ne 7, 3) := by decide +kernel
theorem kb_Mo_isStrict_23 : decode prog_10_method_17_code 23 = .ok (.iconst 1, 1) := by decide +kernel
theorem kb_Mo_isStrict_24 : decode prog_10_method_17_code 24 = .ok (.goto 4, 3) := by decide +kernel
theorem kb_Mo_isStrict_27 : decode prog_10_method_17_code 27 = .ok (.iconst 0, 1) := by decide +kernel
theorem kb_Mo_isStrict_28 : decode prog_10_method_17_code 28 = .ok (.ireturn, 1) := by decide +kernel
theorem kb_Mo_layers_0 : decode prog_10_method_18_code 0 = .ok (.iconst 0, 1) := by decide +kernel
theorem kb_Mo_layers_1 : decode prog_10_method_18_code 1 = .ok (.istore_n 1, 1) := by decide +kernel
theorem kb_Mo_layers_2 : decode prog_10_method_18_code 2 = .ok (.iload_n 1, 1) := by decide +kernel
theorem kb_Mo_layers_3 : decode prog_10_method_18_code 3 = .ok (.aload_n 0, 1) := by decide +kernel
theorem kb_Mo_layers_4 : decode prog_10_method_18_code 4 = .ok (.getfield 139, 3) := by decide +kernel
theorem kb_Mo_layers_7 : decode prog_10_method_18_code 7 = .ok (.if_icmp .ge 29, 3) := by decide +kernel
theorem kb_Mo_layers_10 : decode prog_10_method_18_code 10 = .ok (.aload_n 0, 1) := by decide +kernel
theorem kb_Mo_layers_11 : decode prog_10_method_18_code 11 = .ok (.getfield 58, 3) := by decide +kernel
theorem kb_Mo_layers_14 : decode prog_10_method_18_code 14 = .ok (.iload_n 1, 1) := by decide +kernel
theorem kb_Mo_layers_15 : decode prog_10_method_18_code 15 = .ok (.aload_n 0, 1) := by decide +kernel
theorem kb_Mo_layers_16 : decode prog_10_method_18_code 16 = .ok (.getfield 55, 3) := by decide +kernel
theorem kb_Mo_layers_19 : decode prog_10_method_18_code 19 = .ok (.iload_n 1, 1) := by decide +kernel
theorem kb_Mo_layers_20 : decode prog_10_method_18_code 20 = .ok (.baload, 1) := by decide +kernel
theorem kb_Mo_layers_21 : decode prog_10_method_18_code 21 = .ok (.ifCond .eq 7, 3) := by decide +kernel
theorem kb_Mo_layers_24 : decode prog_10_method_18_code 24 = .ok (.iconst 1, 1) := by decide +kernel
theorem kb_Mo_layers_25 : decode prog_10_method_18_code 25 = .ok (.goto 4, 3) := by decide +kernel
theorem kb_Mo_layers_28 : decode prog_10_method_18_code 28 = .ok (.iconst 0, 1) := by decide +kernel
theorem kb_Mo_layers_29 : decode prog_10_method_18_code 29 = .ok (.iastore, 1) := by decide +kernel
theorem kb_Mo_layers_30 : decode prog_10_method_18_code 30 = .ok (.iinc 1 1, 3) := by decide +kernel
theorem kb_Mo_layers_33 : decode prog_10_method_18_code 33 = .ok (.goto (-31), 3) := by decide +kernel
theorem kb_Mo_layers_36 : decode prog_10_method_18_code 36 = .ok (.iconst 1, 1) := by decide +kernel
theorem kb_Mo_layers_37 : decode prog_10_method_18_code 37 = .ok (.istore_n 1, 1) := by decide +kernel
theorem kb_Mo_layers_38 : decode prog_10_method_18_code 38 = .ok (.iload_n 1, 1) := by decide +kernel
theorem kb_Mo_layers_39 : decode prog_10_method_18_code 39 = .ok (.ifCond .eq 153, 3) := by decide +kernel
theorem kb_Mo_layers_42 : decode prog_10_method_18_code 42 = .ok (.iconst 0, 1) := by decide +kernel
theorem kb_Mo_layers_43 : decode prog_10_method_18_code 43 = .ok (.istore_n 1, 1) := by decide +kernel
theorem kb_Mo_layers_44 : decode prog_10_method_18_code 44 = .ok (.iconst 0, 1) := by decide +kernel
theorem kb_Mo_layers_45 : decode prog_10_method_18_code 45 = .ok (.istore_n 2, 1) := by decide +kernel
theorem kb_Mo_layers_46 : decode prog_10_method_18_code 46 = .ok (.iload_n 2, 1) := by decide +kernel
theorem kb_Mo_layers_47 : decode prog_10_method_18_code 47 = .ok (.aload_n 0, 1) := by decide +kernel
theorem kb_Mo_layers_48 : decode prog_10_method_18_code 48 = .ok (.getfield 164, 3) := by decide +kernel
theorem kb_Mo_layers_51 : decode prog_10_method_18_code 51 = .ok (.if_icmp .ge 109, 3) := by decide +kernel
theorem kb_Mo_layers_54 : decode prog_10_method_18_code 54 = .ok (.iconst 0, 1) := by decide +kernel
theorem kb_Mo_layers_55 : decode prog_10_method_18_code 55 = .ok (.istore_n 3, 1) := by decide +kernel
theorem kb_Mo_layers_56 : decode prog_10_method_18_code 56 = .ok (.iload_n 3, 1) := by decide +kernel
theorem kb_Mo_layers_57 : decode prog_10_method_18_code 57 = .ok (.aload_n 0, 1) := by decide +kernel
theorem kb_Mo_layers_58 : decode prog_10_method_18_code 58 = .ok (.getfield 30, 3) := by decide +kernel
theorem kb_Mo_layers_61 : decode prog_10_method_18_code 61 = .ok (.iload_n 2, 1) := by decide +kernel
theorem kb_Mo_layers_62 : decode prog_10_method_18_code 62 = .ok (.iaload, 1) := by decide +kernel
theorem kb_Mo_layers_63 : decode prog_10_method_18_code 63 = .ok (.if_icmp .ge 91, 3) := by decide +kernel
theorem kb_Mo_layers_66 : decode prog_10_method_18_code 66 = .ok (.iconst 5, 1) := by decide +kernel
theorem kb_Mo_layers_67 : decode prog_10_method_18_code 67 = .ok (.iload_n 2, 1) := by decide +kernel
theorem kb_Mo_layers_68 : decode prog_10_method_18_code 68 = .ok (.imul, 1) := by decide +kernel
theorem kb_Mo_layers_69 : decode prog_10_method_18_code 69 = .ok (.iload_n 3, 1) := by decide +kernel
theorem kb_Mo_layers_70 : decode prog_10_method_18_code 70 = .ok (.iadd, 1) := by decide +kernel
theorem kb_Mo_layers_71 : decode prog_10_method_18_code 71 = .ok (.istore 4, 2) := by decide +kernel
theorem kb_Mo_layers_73 : decode prog_10_method_18_code 73 = .ok (.aload_n 0, 1) := by decide +kernel
theorem kb_Mo_layers_74 : decode prog_10_method_18_code 74 = .ok (.getfield 33, 3) := by decide +kernel
theorem kb_Mo_layers_77 : decode prog_10_method_18_code 77 = .ok (.iload 4, 2) := by decide +kernel
theorem kb_Mo_layers_79 : decode prog_10_method_18_code 79 = .ok (.iaload, 1) := by decide +kernel
theorem kb_Mo_layers_80 : decode prog_10_method_18_code 80 = .ok (.iconst 2, 1) := by decide +kernel
theorem kb_Mo_layers_81 : decode prog_10_method_18_code 81 = .ok (.if_icmp .ne 7, 3) := by decide +kernel
theorem kb_Mo_layers_84 : decode prog_10_method_18_code 84 = .ok (.iconst 0, 1) := by decide +kernel
theorem kb_Mo_layers_85 : decode prog_10_method_18_code 85 = .ok (.goto 30, 3) := by decide +kernel
theorem kb_Mo_layers_88 : decode prog_10_method_18_code 88 = .ok (.aload_n 0, 1) := by decide +kernel
theorem kb_Mo_layers_89 : decode prog_10_method_18_code 89 = .ok (.getfield 58, 3) := by decide +kernel
theorem kb_Mo_layers_92 : decode prog_10_method_18_code 92 = .ok (.aload_n 0, 1) := by decide +kernel
theorem kb_Mo_layers_93 : decode prog_10_method_18_code 93 = .ok (.getfield 36, 3) := by decide +kernel
theorem kb_Mo_layers_96 : decode prog_10_method_18_code 96 = .ok (.iload 4, 2) := by decide +kernel
theorem kb_Mo_layers_98 : decode prog_10_method_18_code 98 = .ok (.iaload, 1) := by decide +kernel
theorem kb_Mo_layers_99 : decode prog_10_method_18_code 99 = .ok (.iaload, 1) := by decide +kernel
theorem kb_Mo_layers_100 : decode prog_10_method_18_code 100 = .ok (.aload_n 0, 1) := by decide +kernel
theorem kb_Mo_layers_101 : decode prog_10_method_18_code 101 = .ok (.iload_n 2, 1) := by decide +kernel
theorem kb_Mo_layers_102 : decode prog_10_method_18_code 102 = .ok (.iload_n 3, 1) := by decide +kernel
theorem kb_Mo_layers_103 : decode prog_10_method_18_code 103 = .ok (.invokevirtual 177, 3) := by decide +kernel
theorem kb_Mo_layers_106 : decode prog_10_method_18_code 106 = .ok (.ifCond .eq 7, 3) := by decide +kernel
theorem kb_Mo_layers_109 : decode prog_10_method_18_code 109 = .ok (.iconst 1, 1) := by decide +kernel
theorem kb_Mo_layers_110 : decode prog_10_method_18_code 110 = .ok (.goto 4, 3) := by decide +kernel
theorem kb_Mo_layers_113 : decode prog_10_method_18_code 113 = .ok (.iconst 0, 1) := by decide +kernel
theorem kb_Mo_layers_114 : decode prog_10_method_18_code 114 = .ok (.iadd, 1) := by decide +kernel
theorem kb_Mo_layers_115 : decode prog_10_method_18_code 115 = .ok (.istore 5, 2) := by decide +kernel
theorem kb_Mo_layers_117 : decode prog_10_method_18_code 117 = .ok (.iload 5, 2) := by decide +kernel
theorem kb_Mo_layers_119 : decode prog_10_method_18_code 119 = .ok (.aload_n 0, 1) := by decide +kernel
theorem kb_Mo_layers_120 : decode prog_10_method_18_code 120 = .ok (.getfield 58, 3) := by decide +kernel
theorem kb_Mo_layers_123 : decode prog_10_method_18_code 123 = .ok (.aload_n 0, 1) := by decide +kernel
theorem kb_Mo_layers_124 : decode prog_10_method_18_code 124 = .ok (.getfield 24, 3) := by decide +kernel
theorem kb_Mo_layers_127 : decode prog_10_method_18_code 127 = .ok (.iload_n 2, 1) := by decide +kernel
theorem kb_Mo_layers_128 : decode prog_10_method_18_code 128 = .ok (.iaload, 1) := by decide +kernel
theorem kb_Mo_layers_129 : decode prog_10_method_18_code 129 = .ok (.iaload, 1) := by decide +kernel
theorem kb_Mo_layers_130 : decode prog_10_method_18_code 130 = .ok (.if_icmp .le 18, 3) := by decide +kernel
theorem kb_Mo_layers_133 : decode prog_10_method_18_code 133 = .ok (.aload_n 0, 1) := by decide +kernel
theorem kb_Mo_layers_134 : decode prog_10_method_18_code 134 = .ok (.getfield 58, 3) := by decide +kernel
theorem kb_Mo_layers_137 : decode prog_10_method_18_code 137 = .ok (.aload_n 0, 1) := by decide +kernel
theorem kb_Mo_layers_138 : decode prog_10_method_18_code 138 = .ok (.getfield 24, 3) := by decide +kernel
theorem kb_Mo_layers_141 : decode prog_10_method_18_code 141 = .ok (.iload_n 2, 1) := by decide +kernel
theorem kb_Mo_layers_142 : decode prog_10_method_18_code 142 = .ok (.iaload, 1) := by decide +kernel
theorem kb_Mo_layers_143 : decode prog_10_method_18_code 143 = .ok (.iload 5, 2) := by decide +kernel
theorem kb_Mo_layers_145 : decode prog_10_method_18_code 145 = .ok (.iastore, 1) := by decide +kernel
theorem kb_Mo_layers_146 : decode prog_10_method_18_code 146 = .ok (.iconst 1, 1) := by decide +kernel
theorem kb_Mo_layers_147 : decode prog_10_method_18_code 147 = .ok (.istore_n 1, 1) := by decide +kernel
theorem kb_Mo_layers_148 : decode prog_10_method_18_code 148 = .ok (.iinc 3 1, 3) := by decide +kernel
theorem kb_Mo_layers_151 : decode prog_10_method_18_code 151 = .ok (.goto (-95), 3) := by decide +kernel
theorem kb_Mo_layers_154 : decode prog_10_method_18_code 154 = .ok (.iinc 2 1, 3) := by decide +kernel
theorem kb_Mo_layers_157 : decode prog_10_method_18_code 157 = .ok (.goto (-111), 3) := by decide +kernel
theorem kb_Mo_layers_160 : decode prog_10_method_18_code 160 = .ok (.iconst 0, 1) := by decide +kernel
theorem kb_Mo_layers_161 : decode prog_10_method_18_code 161 = .ok (.istore_n 2, 1) := by decide +kernel
theorem kb_Mo_layers_162 : decode prog_10_method_18_code 162 = .ok (.iload_n 2, 1) := by decide +kernel
theorem kb_Mo_layers_163 : decode prog_10_method_18_code 163 = .ok (.aload_n 0, 1) := by decide +kernel
theorem kb_Mo_layers_164 : decode prog_10_method_18_code 164 = .ok (.getfield 139, 3) := by decide +kernel
theorem kb_Mo_layers_167 : decode prog_10_method_18_code 167 = .ok (.if_icmp .ge 22, 3) := by decide +kernel
theorem kb_Mo_layers_170 : decode prog_10_method_18_code 170 = .ok (.aload_n 0, 1) := by decide +kernel
theorem kb_Mo_layers_171 : decode prog_10_method_18_code 171 = .ok (.getfield 58, 3) := by decide +kernel
theorem kb_Mo_layers_174 : decode prog_10_method_18_code 174 = .ok (.iload_n 2, 1) := by decide +kernel
theorem kb_Mo_layers_175 : decode prog_10_method_18_code 175 = .ok (.iaload, 1) := by decide +kernel
theorem kb_Mo_layers_176 : decode prog_10_method_18_code 176 = .ok (.bipush 8, 2) := by decide +kernel
theorem kb_Mo_layers_178 : decode prog_10_method_18_code 178 = .ok (.if_icmp .le 5, 3) := by decide +kernel
theorem kb_Mo_layers_181 : decode prog_10_method_18_code 181 = .ok (.iconst 0, 1) := by decide +kernel
theorem kb_Mo_layers_182 : decode prog_10_method_18_code 182 = .ok (.ireturn, 1) := by decide +kernel
theorem kb_Mo_layers_183 : decode prog_10_method_18_code 183 = .ok (.iinc 2 1, 3) := by decide +kernel
theorem kb_Mo_layers_186 : decode prog_10_method_18_code 186 = .ok (.goto (-24), 3) := by decide +kernel
theorem kb_Mo_layers_189 : decode prog_10_method_18_code 189 = .ok (.goto (-151), 3) := by decide +kernel
theorem kb_Mo_layers_192 : decode prog_10_method_18_code 192 = .ok (.iconst 1, 1) := by decide +kernel
theorem kb_Mo_layers_193 : decode prog_10_method_18_code 193 = .ok (.ireturn, 1) := by decide +kernel
theorem kb_Mo_reaches_0 : decode prog_10_method_19_code 0 = .ok (.iconst 0, 1) := by decide +kernel
theorem kb_Mo_reaches_1 : decode prog_10_method_19_code 1 = .ok (.istore_n 1, 1) := by decide +kernel
theorem kb_Mo_reaches_2 : decode prog_10_method_19_code 2 = .ok (.iload_n 1, 1) := by decide +kernel
theorem kb_Mo_reaches_3 : decode prog_10_method_19_code 3 = .ok (.bipush 64, 2) := by decide +kernel
theorem kb_Mo_reaches_5 : decode prog_10_method_19_code 5 = .ok (.if_icmp .ge 16, 3) := by decide +kernel
theorem kb_Mo_reaches_8 : decode prog_10_method_19_code 8 = .ok (.aload_n 0, 1) := by decide +kernel
theorem kb_Mo_reaches_9 : decode prog_10_method_19_code 9 = .ok (.getfield 61, 3) := by decide +kernel
theorem kb_Mo_reaches_12 : decode prog_10_method_19_code 12 = .ok (.iload_n 1, 1) := by decide +kernel
theorem kb_Mo_reaches_13 : decode prog_10_method_19_code 13 = .ok (.iconst 0, 1) := by decide +kernel
theorem kb_Mo_reaches_14 : decode prog_10_method_19_code 14 = .ok (.bastore, 1) := by decide +kernel
theorem kb_Mo_reaches_15 : decode prog_10_method_19_code 15 = .ok (.iinc 1 1, 3) := by decide +kernel
theorem kb_Mo_reaches_18 : decode prog_10_method_19_code 18 = .ok (.goto (-16), 3) := by decide +kernel
theorem kb_Mo_reaches_21 : decode prog_10_method_19_code 21 = .ok (.iconst 0, 1) := by decide +kernel
theorem kb_Mo_reaches_22 : decode prog_10_method_19_code 22 = .ok (.istore_n 1, 1) := by decide +kernel
theorem kb_Mo_reaches_23 : decode prog_10_method_19_code 23 = .ok (.iload_n 1, 1) := by decide +kernel
theorem kb_Mo_reaches_24 : decode prog_10_method_19_code 24 = .ok (.aload_n 0, 1) := by decide +kernel
theorem kb_Mo_reaches_25 : decode prog_10_method_19_code 25 = .ok (.getfield 164, 3) := by decide +kernel
theorem kb_Mo_reaches_28 : decode prog_10_method_19_code 28 = .ok (.if_icmp .ge 67, 3) := by decide +kernel
theorem kb_Mo_reaches_31 : decode prog_10_method_19_code 31 = .ok (.iconst 0, 1) := by decide +kernel
theorem kb_Mo_reaches_32 : decode prog_10_method_19_code 32 = .ok (.istore_n 2, 1) := by decide +kernel
theorem kb_Mo_reaches_33 : decode prog_10_method_19_code 33 = .ok (.iload_n 2, 1) := by decide +kernel
theorem kb_Mo_reaches_34 : decode prog_10_method_19_code 34 = .ok (.aload_n 0, 1) := by decide +kernel
theorem kb_Mo_reaches_35 : decode prog_10_method_19_code 35 = .ok (.getfield 30, 3) := by decide +kernel
theorem kb_Mo_reaches_38 : decode prog_10_method_19_code 38 = .ok (.iload_n 1, 1) := by decide +kernel
theorem kb_Mo_reaches_39 : decode prog_10_method_19_code 39 = .ok (.iaload, 1) := by decide +kernel
theorem kb_Mo_reaches_40 : decode prog_10_method_19_code 40 = .ok (.if_icmp .ge 49, 3) := by decide +kernel
theorem kb_Mo_reaches_43 : decode prog_10_method_19_code 43 = .ok (.aload_n 0, 1) := by decide +kernel
theorem kb_Mo_reaches_44 : decode prog_10_method_19_code 44 = .ok (.getfield 33, 3) := by decide +kernel
theorem kb_Mo_reaches_47 : decode prog_10_method_19_code 47 = .ok (.iconst 5, 1) := by decide +kernel
theorem kb_Mo_reaches_48 : decode prog_10_method_19_code 48 = .ok (.iload_n 1, 1) := by decide +kernel
theorem kb_Mo_reaches_49 : decode prog_10_method_19_code 49 = .ok (.imul, 1) := by decide +kernel
theorem kb_Mo_reaches_50 : decode prog_10_method_19_code 50 = .ok (.iload_n 2, 1) := by decide +kernel
theorem kb_Mo_reaches_51 : decode prog_10_method_19_code 51 = .ok (.iadd, 1) := by decide +kernel
theorem kb_Mo_reaches_52 : decode prog_10_method_19_code 52 = .ok (.iaload, 1) := by decide +kernel
theorem kb_Mo_reaches_53 : decode prog_10_method_19_code 53 = .ok (.iconst 2, 1) := by decide +kernel
theorem kb_Mo_reaches_54 : decode prog_10_method_19_code 54 = .ok (.if_icmp .eq 29, 3) := by decide +kernel
theorem kb_Mo_reaches_57 : decode prog_10_method_19_code 57 = .ok (.aload_n 0, 1) := by decide +kernel
theorem kb_Mo_reaches_58 : decode prog_10_method_19_code 58 = .ok (.getfield 61, 3) := by decide +kernel
theorem kb_Mo_reaches_61 : decode prog_10_method_19_code 61 = .ok (.bipush 8, 2) := by decide +kernel
theorem kb_Mo_reaches_63 : decode prog_10_method_19_code 63 = .ok (.aload_n 0, 1) := by decide +kernel
theorem kb_Mo_reaches_64 : decode prog_10_method_19_code 64 = .ok (.getfield 24, 3) := by decide +kernel
theorem kb_Mo_reaches_67 : decode prog_10_method_19_code 67 = .ok (.iload_n 1, 1) := by decide +kernel
theorem kb_Mo_reaches_68 : decode prog_10_method_19_code 68 = .ok (.iaload, 1) := by decide +kernel
theorem kb_Mo_reaches_69 : decode prog_10_method_19_code 69 = .ok (.imul, 1) := by decide +kernel
theorem kb_Mo_reaches_70 : decode prog_10_method_19_code 70 = .ok (.aload_n 0, 1) := by decide +kernel
theorem kb_Mo_reaches_71 : decode prog_10_method_19_code 71 = .ok (.getfield 36, 3) := by decide +kernel
theorem kb_Mo_reaches_74 : decode prog_10_method_19_code 74 = .ok (.iconst 5, 1) := by decide +kernel
theorem kb_Mo_reaches_75 : decode prog_10_method_19_code 75 = .ok (.iload_n 1, 1) := by decide +kernel
theorem kb_Mo_reaches_76 : decode prog_10_method_19_code 76 = .ok (.imul, 1) := by decide +kernel
theorem kb_Mo_reaches_77 : decode prog_10_method_19_code 77 = .ok (.iload_n 2, 1) := by decide +kernel
theorem kb_Mo_reaches_78 : decode prog_10_method_19_code 78 = .ok (.iadd, 1) := by decide +kernel
theorem kb_Mo_reaches_79 : decode prog_10_method_19_code 79 = .ok (.iaload, 1) := by decide +kernel
theorem kb_Mo_reaches_80 : decode prog_10_method_19_code 80 = .ok (.iadd, 1) := by decide +kernel
theorem kb_Mo_reaches_81 : decode prog_10_method_19_code 81 = .ok (.iconst 1, 1) := by decide +kernel
theorem kb_Mo_reaches_82 : decode prog_10_method_19_code 82 = .ok (.bastore, 1) := by decide +kernel
theorem kb_Mo_reaches_83 : decode prog_10_method_19_code 83 = .ok (.iinc 2 1, 3) := by decide +kernel
theorem kb_Mo_reaches_86 : decode prog_10_method_19_code 86 = .ok (.goto (-53), 3) := by decide +kernel
theorem kb_Mo_reaches_89 : decode prog_10_method_19_code 89 = .ok (.iinc 1 1, 3) := by decide +kernel
theorem kb_Mo_reaches_92 : decode prog_10_method_19_code 92 = .ok (.goto (-69), 3) := by decide +kernel
theorem kb_Mo_reaches_95 : decode prog_10_method_19_code 95 = .ok (.iconst 0, 1) := by decide +kernel
theorem kb_Mo_reaches_96 : decode prog_10_method_19_code 96 = .ok (.istore_n 1, 1) := by decide +kernel
theorem kb_Mo_reaches_97 : decode prog_10_method_19_code 97 = .ok (.iload_n 1, 1) := by decide +kernel
theorem kb_Mo_reaches_98 : decode prog_10_method_19_code 98 = .ok (.bipush 8, 2) := by decide +kernel
theorem kb_Mo_reaches_100 : decode prog_10_method_19_code 100 = .ok (.if_icmp .ge 95, 3) := by decide +kernel
theorem kb_Mo_reaches_103 : decode prog_10_method_19_code 103 = .ok (.iconst 0, 1) := by decide +kernel
theorem kb_Mo_reaches_104 : decode prog_10_method_19_code 104 = .ok (.istore_n 2, 1) := by decide +kernel
theorem kb_Mo_reaches_105 : decode prog_10_method_19_code 105 = .ok (.iload_n 2, 1) := by decide +kernel
theorem kb_Mo_reaches_106 : decode prog_10_method_19_code 106 = .ok (.bipush 8, 2) := by decide +kernel
theorem kb_Mo_reaches_108 : decode prog_10_method_19_code 108 = .ok (.if_icmp .ge 81, 3) := by decide +kernel
theorem kb_Mo_reaches_111 : decode prog_10_method_19_code 111 = .ok (.iconst 0, 1) := by decide +kernel
theorem kb_Mo_reaches_112 : decode prog_10_method_19_code 112 = .ok (.istore_n 3, 1) := by decide +kernel
theorem kb_Mo_reaches_113 : decode prog_10_method_19_code 113 = .ok (.iload_n 3, 1) := by decide +kernel
theorem kb_Mo_reaches_114 : decode prog_10_method_19_code 114 = .ok (.bipush 8, 2) := by decide +kernel
theorem kb_Mo_reaches_116 : decode prog_10_method_19_code 116 = .ok (.if_icmp .ge 67, 3) := by decide +kernel
theorem kb_Mo_reaches_119 : decode prog_10_method_19_code 119 = .ok (.aload_n 0, 1) := by decide +kernel
theorem kb_Mo_reaches_120 : decode prog_10_method_19_code 120 = .ok (.getfield 61, 3) := by decide +kernel
theorem kb_Mo_reaches_123 : decode prog_10_method_19_code 123 = .ok (.bipush 8, 2) := by decide +kernel
theorem kb_Mo_reaches_125 : decode prog_10_method_19_code 125 = .ok (.iload_n 2, 1) := by decide +kernel
theorem kb_Mo_reaches_126 : decode prog_10_method_19_code 126 = .ok (.imul, 1) := by decide +kernel
theorem kb_Mo_reaches_127 : decode prog_10_method_19_code 127 = .ok (.iload_n 3, 1) := by decide +kernel
theorem kb_Mo_reaches_128 : decode prog_10_method_19_code 128 = .ok (.iadd, 1) := by decide +kernel
theorem kb_Mo_reaches_129 : decode prog_10_method_19_code 129 = .ok (.aload_n 0, 1) := by decide +kernel
theorem kb_Mo_reaches_130 : decode prog_10_method_19_code 130 = .ok (.getfield 61, 3) := by decide +kernel
theorem kb_Mo_reaches_133 : decode prog_10_method_19_code 133 = .ok (.bipush 8, 2) := by decide +kernel
theorem kb_Mo_reaches_135 : decode prog_10_method_19_code 135 = .ok (.iload_n 2, 1) := by decide +kernel
theorem kb_Mo_reaches_136 : decode prog_10_method_19_code 136 = .ok (.imul, 1) := by decide +kernel
theorem kb_Mo_reaches_137 : decode prog_10_method_19_code 137 = .ok (.iload_n 3, 1) := by decide +kernel
theorem kb_Mo_reaches_138 : decode prog_10_method_19_code 138 = .ok (.iadd, 1) := by decide +kernel
theorem kb_Mo_reaches_139 : decode prog_10_method_19_code 139 = .ok (.baload, 1) := by decide +kernel
theorem kb_Mo_reaches_140 : decode prog_10_method_19_code 140 = .ok (.ifCond .ne 31, 3) := by decide +kernel
theorem kb_Mo_reaches_143 : decode prog_10_method_19_code 143 = .ok (.aload_n 0, 1) := by decide +kernel
theorem kb_Mo_reaches_144 : decode prog_10_method_19_code 144 = .ok (.getfield 61, 3) := by decide +kernel
theorem kb_Mo_reaches_147 : decode prog_10_method_19_code 147 = .ok (.bipush 8, 2) := by decide +kernel
theorem kb_Mo_reaches_149 : decode prog_10_method_19_code 149 = .ok (.iload_n 2, 1) := by decide +kernel
theorem kb_Mo_reaches_150 : decode prog_10_method_19_code 150 = .ok (.imul, 1) := by decide +kernel
theorem kb_Mo_reaches_151 : decode prog_10_method_19_code 151 = .ok (.iload_n 1, 1) := by decide +kernel
theorem kb_Mo_reaches_152 : decode prog_10_method_19_code 152 = .ok (.iadd, 1) := by decide +kernel
theorem kb_Mo_reaches_153 : decode prog_10_method_19_code 153 = .ok (.baload, 1) := by decide +kernel
theorem kb_Mo_reaches_154 : decode prog_10_method_19_code 154 = .ok (.ifCond .eq 21, 3) := by decide +kernel
theorem kb_Mo_reaches_157 : decode prog_10_method_19_code 157 = .ok (.aload_n 0, 1) := by decide +kernel
theorem kb_Mo_reaches_158 : decode prog_10_method_19_code 158 = .ok (.getfield 61, 3) := by decide +kernel
theorem kb_Mo_reaches_161 : decode prog_10_method_19_code 161 = .ok (.bipush 8, 2) := by decide +kernel
theorem kb_Mo_reaches_163 : decode prog_10_method_19_code 163 = .ok (.iload_n 1, 1) := by decide +kernel
theorem kb_Mo_reaches_164 : decode prog_10_method_19_code 164 = .ok (.imul, 1) := by decide +kernel
theorem kb_Mo_reaches_165 : decode prog_10_method_19_code 165 = .ok (.iload_n 3, 1) := by decide +kernel
theorem kb_Mo_reaches_166 : decode prog_10_method_19_code 166 = .ok (.iadd, 1) := by decide +kernel
theorem kb_Mo_reaches_167 : decode prog_10_method_19_code 167 = .ok (.baload, 1) := by decide +kernel
theorem kb_Mo_reaches_168 : decode prog_10_method_19_code 168 = .ok (.ifCond .eq 7, 3) := by decide +kernel
theorem kb_Mo_reaches_171 : decode prog_10_method_19_code 171 = .ok (.iconst 1, 1) := by decide +kernel
theorem kb_Mo_reaches_172 : decode prog_10_method_19_code 172 = .ok (.goto 4, 3) := by decide +kernel
theorem kb_Mo_reaches_175 : decode prog_10_method_19_code 175 = .ok (.iconst 0, 1) := by decide +kernel
theorem kb_Mo_reaches_176 : decode prog_10_method_19_code 176 = .ok (.bastore, 1) := by decide +kernel
theorem kb_Mo_reaches_177 : decode prog_10_method_19_code 177 = .ok (.iinc 3 1, 3) := by decide +kernel
theorem kb_Mo_reaches_180 : decode prog_10_method_19_code 180 = .ok (.goto (-67), 3) := by decide +kernel
theorem kb_Mo_reaches_183 : decode prog_10_method_19_code 183 = .ok (.iinc 2 1, 3) := by decide +kernel
theorem kb_Mo_reaches_186 : decode prog_10_method_19_code 186 = .ok (.goto (-81), 3) := by decide +kernel
theorem kb_Mo_reaches_189 : decode prog_10_method_19_code 189 = .ok (.iinc 1 1, 3) := by decide +kernel
theorem kb_Mo_reaches_192 : decode prog_10_method_19_code 192 = .ok (.goto (-95), 3) := by decide +kernel
theorem kb_Mo_reaches_195 : decode prog_10_method_19_code 195 = .ok (.return_, 1) := by decide +kernel
theorem kb_Mo_isBadRing_0 : decode prog_10_method_20_code 0 = .ok (.iconst 0, 1) := by decide +kernel
theorem kb_Mo_isBadRing_1 : decode prog_10_method_20_code 1 = .ok (.istore_n 2, 1) := by decide +kernel
theorem kb_Mo_isBadRing_2 : decode prog_10_method_20_code 2 = .ok (.iconst 0, 1) := by decide +kernel
theorem kb_Mo_isBadRing_3 : decode prog_10_method_20_code 3 = .ok (.istore_n 3, 1) := by decide +kernel
theorem kb_Mo_isBadRing_4 : decode prog_10_method_20_code 4 = .ok (.iload_n 3, 1) := by decide +kernel
theorem kb_Mo_isBadRing_5 : decode prog_10_method_20_code 5 = .ok (.aload_n 0, 1) := by decide +kernel
theorem kb_Mo_isBadRing_6 : decode prog_10_method_20_code 6 = .ok (.getfield 164, 3) := by decide +kernel
theorem kb_Mo_isBadRing_9 : decode prog_10_method_20_code 9 = .ok (.if_icmp .ge 153, 3) := by decide +kernel
theorem kb_Mo_isBadRing_12 : decode prog_10_method_20_code 12 = .ok (.iconst 0, 1) := by decide +kernel
theorem kb_Mo_isBadRing_13 : decode prog_10_method_20_code 13 = .ok (.istore 4, 2) := by decide +kernel
theorem kb_Mo_isBadRing_15 : decode prog_10_method_20_code 15 = .ok (.iload 4, 2) := by decide +kernel
theorem kb_Mo_isBadRing_17 : decode prog_10_method_20_code 17 = .ok (.aload_n 0, 1) := by decide +kernel
theorem kb_Mo_isBadRing_18 : decode prog_10_method_20_code 18 = .ok (.getfield 30, 3) := by decide +kernel
theorem kb_Mo_isBadRing_21 : decode prog_10_method_20_code 21 = .ok (.iload_n 3, 1) := by decide +kernel
theorem kb_Mo_isBadRing_22 : decode prog_10_method_20_code 22 = .ok (.iaload, 1) := by decide +kernel
theorem kb_Mo_isBadRing_23 : decode prog_10_method_20_code 23 = .ok (.if_icmp .ge 133, 3) := by decide +kernel
theorem kb_Mo_isBadRing_26 : decode prog_10_method_20_code 26 = .ok (.iconst 5, 1) := by decide +kernel
theorem kb_Mo_isBadRing_27 : decode prog_10_method_20_code 27 = .ok (.iload_n 3, 1) := by decide +kernel
theorem kb_Mo_isBadRing_28 : decode prog_10_method_20_code 28 = .ok (.imul, 1) := by decide +kernel
theorem kb_Mo_isBadRing_29 : decode prog_10_method_20_code 29 = .ok (.iload 4, 2) := by decide +kernel
theorem kb_Mo_isBadRing_31 : decode prog_10_method_20_code 31 = .ok (.iadd, 1) := by decide +kernel
theorem kb_Mo_isBadRing_32 : decode prog_10_method_20_code 32 = .ok (.istore 5, 2) := by decide +kernel
theorem kb_Mo_isBadRing_34 : decode prog_10_method_20_code 34 = .ok (.aload_n 0, 1) := by decide +kernel
theorem kb_Mo_isBadRing_35 : decode prog_10_method_20_code 35 = .ok (.getfield 33, 3) := by decide +kernel
theorem kb_Mo_isBadRing_38 : decode prog_10_method_20_code 38 = .ok (.iload 5, 2) := by decide +kernel
theorem kb_Mo_isBadRing_40 : decode prog_10_method_20_code 40 = .ok (.iaload, 1) := by decide +kernel
theorem kb_Mo_isBadRing_41 : decode prog_10_method_20_code 41 = .ok (.iconst 2, 1) := by decide +kernel
theorem kb_Mo_isBadRing_42 : decode prog_10_method_20_code 42 = .ok (.if_icmp .eq 42, 3) := by decide +kernel
theorem kb_Mo_isBadRing_45 : decode prog_10_method_20_code 45 = .ok (.aload_n 0, 1) := by decide +kernel
theorem kb_Mo_isBadRing_46 : decode prog_10_method_20_code 46 = .ok (.iload_n 3, 1) := by decide +kernel
theorem kb_Mo_isBadRing_47 : decode prog_10_method_20_code 47 = .ok (.iload 4, 2) := by decide +kernel
theorem kb_Mo_isBadRing_49 : decode prog_10_method_20_code 49 = .ok (.invokevirtual 177, 3) := by decide +kernel
theorem kb_Mo_isBadRing_52 : decode prog_10_method_20_code 52 = .ok (.ifCond .eq 32, 3) := by decide +kernel
theorem kb_Mo_isBadRing_55 : decode prog_10_method_20_code 55 = .ok (.aload_n 0, 1) := by decide +kernel
theorem kb_Mo_isBadRing_56 : decode prog_10_method_20_code 56 = .ok (.getfield 61, 3) := by decide +kernel
theorem kb_Mo_isBadRing_59 : decode prog_10_method_20_code 59 = .ok (.bipush 8, 2) := by decide +kernel
theorem kb_Mo_isBadRing_61 : decode prog_10_method_20_code 61 = .ok (.aload_n 0, 1) := by decide +kernel
theorem kb_Mo_isBadRing_62 : decode prog_10_method_20_code 62 = .ok (.getfield 36, 3) := by decide +kernel
theorem kb_Mo_isBadRing_65 : decode prog_10_method_20_code 65 = .ok (.iload 5, 2) := by decide +kernel
theorem kb_Mo_isBadRing_67 : decode prog_10_method_20_code 67 = .ok (.iaload, 1) := by decide +kernel
theorem kb_Mo_isBadRing_68 : decode prog_10_method_20_code 68 = .ok (.imul, 1) := by decide +kernel
theorem kb_Mo_isBadRing_69 : decode prog_10_method_20_code 69 = .ok (.aload_n 0, 1) := by decide +kernel
theorem kb_Mo_isBadRing_70 : decode prog_10_method_20_code 70 = .ok (.getfield 24, 3) := by decide +kernel
theorem kb_Mo_isBadRing_73 : decode prog_10_method_20_code 73 = .ok (.iload_n 3, 1) := by decide +kernel
theorem kb_Mo_isBadRing_74 : decode prog_10_method_20_code 74 = .ok (.iaload, 1) := by decide +kernel
theorem kb_Mo_isBadRing_75 : decode prog_10_method_20_code 75 = .ok (.iadd, 1) := by decide +kernel
theorem kb_Mo_isBadRing_76 : decode prog_10_method_20_code 76 = .ok (.baload, 1) := by decide +kernel
theorem kb_Mo_isBadRing_77 : decode prog_10_method_20_code 77 = .ok (.ifCond .eq 7, 3) := by decide +kernel
theorem kb_Mo_isBadRing_80 : decode prog_10_method_20_code 80 = .ok (.iconst 1, 1) := by decide +kernel
theorem kb_Mo_isBadRing_81 : decode prog_10_method_20_code 81 = .ok (.goto 4, 3) := by decide +kernel
theorem kb_Mo_isBadRing_84 : decode prog_10_method_20_code 84 = .ok (.iconst 0, 1) := by decide +kernel
theorem kb_Mo_isBadRing_85 : decode prog_10_method_20_code 85 = .ok (.istore 6, 2) := by decide +kernel
theorem kb_Mo_isBadRing_87 : decode prog_10_method_20_code 87 = .ok (.iload_n 2, 1) := by decide +kernel
theorem kb_Mo_isBadRing_88 : decode prog_10_method_20_code 88 = .ok (.ifCond .ne 56, 3) := by decide +kernel
theorem kb_Mo_isBadRing_91 : decode prog_10_method_20_code 91 = .ok (.iload 6, 2) := by decide +kernel
theorem kb_Mo_isBadRing_93 : decode prog_10_method_20_code 93 = .ok (.ifCond .eq 55, 3) := by decide +kernel
theorem kb_Mo_isBadRing_96 : decode prog_10_method_20_code 96 = .ok (.aload_n 0, 1) := by decide +kernel
theorem kb_Mo_isBadRing_97 : decode prog_10_method_20_code 97 = .ok (.getfield 24, 3) := by decide +kernel
theorem kb_Mo_isBadRing_100 : decode prog_10_method_20_code 100 = .ok (.iload_n 3, 1) := by decide +kernel
theorem kb_Mo_isBadRing_101 : decode prog_10_method_20_code 101 = .ok (.iaload, 1) := by decide +kernel
theorem kb_Mo_isBadRing_102 : decode prog_10_method_20_code 102 = .ok (.iload_n 1, 1) := by decide +kernel
theorem kb_Mo_isBadRing_103 : decode prog_10_method_20_code 103 = .ok (.if_icmp .eq 41, 3) := by decide +kernel
theorem kb_Mo_isBadRing_106 : decode prog_10_method_20_code 106 = .ok (.aload_n 0, 1) := by decide +kernel
theorem kb_Mo_isBadRing_107 : decode prog_10_method_20_code 107 = .ok (.getfield 61, 3) := by decide +kernel
theorem kb_Mo_isBadRing_110 : decode prog_10_method_20_code 110 = .ok (.bipush 8, 2) := by decide +kernel
theorem kb_Mo_isBadRing_112 : decode prog_10_method_20_code 112 = .ok (.iload_n 1, 1) := by decide +kernel
theorem kb_Mo_isBadRing_113 : decode prog_10_method_20_code 113 = .ok (.imul, 1) := by decide +kernel
theorem kb_Mo_isBadRing_114 : decode prog_10_method_20_code 114 = .ok (.aload_n 0, 1) := by decide +kernel
theorem kb_Mo_isBadRing_115 : decode prog_10_method_20_code 115 = .ok (.getfield 24, 3) := by decide +kernel
theorem kb_Mo_isBadRing_118 : decode prog_10_method_20_code 118 = .ok (.iload_n 3, 1) := by decide +kernel
theorem kb_Mo_isBadRing_119 : decode prog_10_method_20_code 119 = .ok (.iaload, 1) := by decide +kernel
theorem kb_Mo_isBadRing_120 : decode prog_10_method_20_code 120 = .ok (.iadd, 1) := by decide +kernel
theorem kb_Mo_isBadRing_121 : decode prog_10_method_20_code 121 = .ok (.baload, 1) := by decide +kernel
theorem kb_Mo_isBadRing_122 : decode prog_10_method_20_code 122 = .ok (.ifCond .eq 26, 3) := by decide +kernel
theorem kb_Mo_isBadRing_125 : decode prog_10_method_20_code 125 = .ok (.aload_n 0, 1) := by decide +kernel
theorem kb_Mo_isBadRing_126 : decode prog_10_method_20_code 126 = .ok (.getfield 61, 3) := by decide +kernel
theorem kb_Mo_isBadRing_129 : decode prog_10_method_20_code 129 = .ok (.bipush 8, 2) := by decide +kernel
theorem kb_Mo_isBadRing_131 : decode prog_10_method_20_code 131 = .ok (.aload_n 0, 1) := by decide +kernel
theorem kb_Mo_isBadRing_132 : decode prog_10_method_20_code 132 = .ok (.getfield 24, 3) := by decide +kernel
theorem kb_Mo_isBadRing_135 : decode prog_10_method_20_code 135 = .ok (.iload_n 3, 1) := by decide +kernel
theorem kb_Mo_isBadRing_136 : decode prog_10_method_20_code 136 = .ok (.iaload, 1) := by decide +kernel
theorem kb_Mo_isBadRing_137 : decode prog_10_method_20_code 137 = .ok (.imul, 1) := by decide +kernel
theorem kb_Mo_isBadRing_138 : decode prog_10_method_20_code 138 = .ok (.iload_n 1, 1) := by decide +kernel
theorem kb_Mo_isBadRing_139 : decode prog_10_method_20_code 139 = .ok (.iadd, 1) := by decide +kernel
theorem kb_Mo_isBadRing_140 : decode prog_10_method_20_code 140 = .ok (.baload, 1) := by decide +kernel
theorem kb_Mo_isBadRing_141 : decode prog_10_method_20_code 141 = .ok (.ifCond .eq 7, 3) := by decide +kernel
theorem kb_Mo_isBadRing_144 : decode prog_10_method_20_code 144 = .ok (.iconst 1, 1) := by decide +kernel
theorem kb_Mo_isBadRing_145 : decode prog_10_method_20_code 145 = .ok (.goto 4, 3) := by decide +kernel
theorem kb_Mo_isBadRing_148 : decode prog_10_method_20_code 148 = .ok (.iconst 0, 1) := by decide +kernel
theorem kb_Mo_isBadRing_149 : decode prog_10_method_20_code 149 = .ok (.istore_n 2, 1) := by decide +kernel
theorem kb_Mo_isBadRing_150 : decode prog_10_method_20_code 150 = .ok (.iinc 4 1, 3) := by decide +kernel
theorem kb_Mo_isBadRing_153 : decode prog_10_method_20_code 153 = .ok (.goto (-138), 3) := by decide +kernel
theorem kb_Mo_isBadRing_156 : decode prog_10_method_20_code 156 = .ok (.iinc 3 1, 3) := by decide +kernel
theorem kb_Mo_isBadRing_159 : decode prog_10_method_20_code 159 = .ok (.goto (-155), 3) := by decide +kernel
theorem kb_Mo_isBadRing_162 : decode prog_10_method_20_code 162 = .ok (.iload_n 2, 1) := by decide +kernel
theorem kb_Mo_isBadRing_163 : decode prog_10_method_20_code 163 = .ok (.ireturn, 1) := by decide +kernel
