abbrev kR_La : String := "ViewRoundsLaw"
theorem kb_La_law_0 : decode code 0 = .ok (.new 7, 3) := by decide +kernel
theorem kb_La_law_3 : decode code 3 = .ok (.dup, 1) := by decide +kernel
theorem kb_La_law_4 : decode code 4 = .ok (.invokespecial 9, 3) := by decide +kernel
theorem kb_La_law_7 : decode code 7 = .ok (.astore_n 1, 1) := by decide +kernel
theorem kb_La_law_8 : decode code 8 = .ok (.new 10, 3) := by decide +kernel
theorem kb_La_law_11 : decode code 11 = .ok (.dup, 1) := by decide +kernel
theorem kb_La_law_12 : decode code 12 = .ok (.invokespecial 12, 3) := by decide +kernel
theorem kb_La_law_15 : decode code 15 = .ok (.astore_n 2, 1) := by decide +kernel
theorem kb_La_law_16 : decode code 16 = .ok (.iconst 0, 1) := by decide +kernel
theorem kb_La_law_17 : decode code 17 = .ok (.istore_n 3, 1) := by decide +kernel
theorem kb_La_law_18 : decode code 18 = .ok (.iload_n 3, 1) := by decide +kernel
theorem kb_La_law_19 : decode code 19 = .ok (.aload_n 0, 1) := by decide +kernel
theorem kb_La_law_20 : decode code 20 = .ok (.arraylength, 1) := by decide +kernel
theorem kb_La_law_21 : decode code 21 = .ok (.bipush 6, 2) := by decide +kernel
theorem kb_La_law_23 : decode code 23 = .ok (.isub, 1) := by decide +kernel
theorem kb_La_law_24 : decode code 24 = .ok (.if_icmp .gt 649, 3) := by decide +kernel
theorem kb_La_law_27 : decode code 27 = .ok (.aload_n 0, 1) := by decide +kernel
theorem kb_La_law_28 : decode code 28 = .ok (.iload_n 3, 1) := by decide +kernel
theorem kb_La_law_29 : decode code 29 = .ok (.iaload, 1) := by decide +kernel
theorem kb_La_law_30 : decode code 30 = .ok (.bipush 31, 2) := by decide +kernel
theorem kb_La_law_32 : decode code 32 = .ok (.iand, 1) := by decide +kernel
theorem kb_La_law_33 : decode code 33 = .ok (.tableswitch 634 0 16 #[83, 146, 159, 172, 195, 218, 251, 314, 327, 340, 373, 386, 439, 482, 535, 598, 611], 83) := by decide +kernel
theorem kb_La_law_116 : decode code 116 = .ok (.aload_n 1, 1) := by decide +kernel
theorem kb_La_law_117 : decode code 117 = .ok (.aload_n 0, 1) := by decide +kernel
theorem kb_La_law_118 : decode code 118 = .ok (.iload_n 3, 1) := by decide +kernel
theorem kb_La_law_119 : decode code 119 = .ok (.iconst 1, 1) := by decide +kernel
theorem kb_La_law_120 : decode code 120 = .ok (.iadd, 1) := by decide +kernel
theorem kb_La_law_121 : decode code 121 = .ok (.iaload, 1) := by decide +kernel
theorem kb_La_law_122 : decode code 122 = .ok (.i2l, 1) := by decide +kernel
theorem kb_La_law_123 : decode code 123 = .ok (.bipush 32, 2) := by decide +kernel
theorem kb_La_law_125 : decode code 125 = .ok (.lshl, 1) := by decide +kernel
theorem kb_La_law_126 : decode code 126 = .ok (.aload_n 0, 1) := by decide +kernel
theorem kb_La_law_127 : decode code 127 = .ok (.iload_n 3, 1) := by decide +kernel
theorem kb_La_law_128 : decode code 128 = .ok (.iconst 2, 1) := by decide +kernel
theorem kb_La_law_129 : decode code 129 = .ok (.iadd, 1) := by decide +kernel
theorem kb_La_law_130 : decode code 130 = .ok (.iaload, 1) := by decide +kernel
theorem kb_La_law_131 : decode code 131 = .ok (.i2l, 1) := by decide +kernel
theorem kb_La_law_132 : decode code 132 = .ok (.ldc2_w 13, 3) := by decide +kernel
theorem kb_La_law_135 : decode code 135 = .ok (.land, 1) := by decide +kernel
theorem kb_La_law_136 : decode code 136 = .ok (.lor, 1) := by decide +kernel
theorem kb_La_law_137 : decode code 137 = .ok (.aload_n 0, 1) := by decide +kernel
theorem kb_La_law_138 : decode code 138 = .ok (.iload_n 3, 1) := by decide +kernel
theorem kb_La_law_139 : decode code 139 = .ok (.iconst 3, 1) := by decide +kernel
theorem kb_La_law_140 : decode code 140 = .ok (.iadd, 1) := by decide +kernel
theorem kb_La_law_141 : decode code 141 = .ok (.iaload, 1) := by decide +kernel
theorem kb_La_law_142 : decode code 142 = .ok (.invokevirtual 15, 3) := by decide +kernel
theorem kb_La_law_145 : decode code 145 = .ok (.aload_n 2, 1) := by decide +kernel
theorem kb_La_law_146 : decode code 146 = .ok (.aload_n 0, 1) := by decide +kernel
theorem kb_La_law_147 : decode code 147 = .ok (.iload_n 3, 1) := by decide +kernel
theorem kb_La_law_148 : decode code 148 = .ok (.iconst 1, 1) := by decide +kernel
theorem kb_La_law_149 : decode code 149 = .ok (.iadd, 1) := by decide +kernel
theorem kb_La_law_150 : decode code 150 = .ok (.iaload, 1) := by decide +kernel
theorem kb_La_law_151 : decode code 151 = .ok (.i2l, 1) := by decide +kernel
theorem kb_La_law_152 : decode code 152 = .ok (.bipush 32, 2) := by decide +kernel
theorem kb_La_law_154 : decode code 154 = .ok (.lshl, 1) := by decide +kernel
theorem kb_La_law_155 : decode code 155 = .ok (.aload_n 0, 1) := by decide +kernel
theorem kb_La_law_156 : decode code 156 = .ok (.iload_n 3, 1) := by decide +kernel
theorem kb_La_law_157 : decode code 157 = .ok (.iconst 2, 1) := by decide +kernel
theorem kb_La_law_158 : decode code 158 = .ok (.iadd, 1) := by decide +kernel
theorem kb_La_law_159 : decode code 159 = .ok (.iaload, 1) := by decide +kernel
theorem kb_La_law_160 : decode code 160 = .ok (.i2l, 1) := by decide +kernel
theorem kb_La_law_161 : decode code 161 = .ok (.ldc2_w 13, 3) := by decide +kernel
theorem kb_La_law_164 : decode code 164 = .ok (.land, 1) := by decide +kernel
theorem kb_La_law_165 : decode code 165 = .ok (.lor, 1) := by decide +kernel
theorem kb_La_law_166 : decode code 166 = .ok (.aload_n 0, 1) := by decide +kernel
theorem kb_La_law_167 : decode code 167 = .ok (.iload_n 3, 1) := by decide +kernel
theorem kb_La_law_168 : decode code 168 = .ok (.iconst 3, 1) := by decide +kernel
theorem kb_La_law_169 : decode code 169 = .ok (.iadd, 1) := by decide +kernel
theorem kb_La_law_170 : decode code 170 = .ok (.iaload, 1) := by decide +kernel
theorem kb_La_law_171 : decode code 171 = .ok (.invokevirtual 19, 3) := by decide +kernel
theorem kb_La_law_174 : decode code 174 = .ok (.if_icmp .eq 493, 3) := by decide +kernel
theorem kb_La_law_177 : decode code 177 = .ok (.iconst 0, 1) := by decide +kernel
theorem kb_La_law_178 : decode code 178 = .ok (.ireturn, 1) := by decide +kernel
theorem kb_La_law_179 : decode code 179 = .ok (.aload_n 1, 1) := by decide +kernel
theorem kb_La_law_180 : decode code 180 = .ok (.invokevirtual 20, 3) := by decide +kernel
theorem kb_La_law_183 : decode code 183 = .ok (.aload_n 2, 1) := by decide +kernel
theorem kb_La_law_184 : decode code 184 = .ok (.invokevirtual 24, 3) := by decide +kernel
theorem kb_La_law_187 : decode code 187 = .ok (.if_icmp .eq 480, 3) := by decide +kernel
theorem kb_La_law_190 : decode code 190 = .ok (.iconst 0, 1) := by decide +kernel
theorem kb_La_law_191 : decode code 191 = .ok (.ireturn, 1) := by decide +kernel
theorem kb_La_law_192 : decode code 192 = .ok (.aload_n 1, 1) := by decide +kernel
theorem kb_La_law_193 : decode code 193 = .ok (.invokevirtual 25, 3) := by decide +kernel
theorem kb_La_law_196 : decode code 196 = .ok (.aload_n 2, 1) := by decide +kernel
theorem kb_La_law_197 : decode code 197 = .ok (.invokevirtual 28, 3) := by decide +kernel
theorem kb_La_law_200 : decode code 200 = .ok (.if_icmp .eq 467, 3) := by decide +kernel
theorem kb_La_law_203 : decode code 203 = .ok (.iconst 0, 1) := by decide +kernel
theorem kb_La_law_204 : decode code 204 = .ok (.ireturn, 1) := by decide +kernel
theorem kb_La_law_205 : decode code 205 = .ok (.aload_n 1, 1) := by decide +kernel
theorem kb_La_law_206 : decode code 206 = .ok (.aload_n 0, 1) := by decide +kernel
theorem kb_La_law_207 : decode code 207 = .ok (.iload_n 3, 1) := by decide +kernel
theorem kb_La_law_208 : decode code 208 = .ok (.iconst 1, 1) := by decide +kernel
theorem kb_La_law_209 : decode code 209 = .ok (.iadd, 1) := by decide +kernel
theorem kb_La_law_210 : decode code 210 = .ok (.iaload, 1) := by decide +kernel
theorem kb_La_law_211 : decode code 211 = .ok (.invokevirtual 29, 3) := by decide +kernel
theorem kb_La_law_214 : decode code 214 = .ok (.aload_n 2, 1) := by decide +kernel
theorem kb_La_law_215 : decode code 215 = .ok (.aload_n 0, 1) := by decide +kernel
theorem kb_La_law_216 : decode code 216 = .ok (.iload_n 3, 1) := by decide +kernel
theorem kb_La_law_217 : decode code 217 = .ok (.iconst 1, 1) := by decide +kernel
theorem kb_La_law_218 : decode code 218 = .ok (.iadd, 1) := by decide +kernel
theorem kb_La_law_219 : decode code 219 = .ok (.iaload, 1) := by decide +kernel
theorem kb_La_law_220 : decode code 220 = .ok (.invokevirtual 33, 3) := by decide +kernel
theorem kb_La_law_223 : decode code 223 = .ok (.if_icmp .eq 444, 3) := by decide +kernel
theorem kb_La_law_226 : decode code 226 = .ok (.iconst 0, 1) := by decide +kernel
theorem kb_La_law_227 : decode code 227 = .ok (.ireturn, 1) := by decide +kernel
theorem kb_La_law_228 : decode code 228 = .ok (.aload_n 1, 1) := by decide +kernel
theorem kb_La_law_229 : decode code 229 = .ok (.aload_n 0, 1) := by decide +kernel
theorem kb_La_law_230 : decode code 230 = .ok (.iload_n 3, 1) := by decide +kernel
theorem kb_La_law_231 : decode code 231 = .ok (.iconst 1, 1) := by decide +kernel
theorem kb_La_law_232 : decode code 232 = .ok (.iadd, 1) := by decide +kernel
theorem kb_La_law_233 : decode code 233 = .ok (.iaload, 1) := by decide +kernel
theorem kb_La_law_234 : decode code 234 = .ok (.invokevirtual 34, 3) := by decide +kernel
theorem kb_La_law_237 : decode code 237 = .ok (.aload_n 2, 1) := by decide +kernel
theorem kb_La_law_238 : decode code 238 = .ok (.aload_n 0, 1) := by decide +kernel
theorem kb_La_law_239 : decode code 239 = .ok (.iload_n 3, 1) := by decide +kernel
theorem kb_La_law_240 : decode code 240 = .ok (.iconst 1, 1) := by decide +kernel
theorem kb_La_law_241 : decode code 241 = .ok (.iadd, 1) := by decide +kernel
theorem kb_La_law_242 : decode code 242 = .ok (.iaload, 1) := by decide +kernel
theorem kb_La_law_243 : decode code 243 = .ok (.invokevirtual 37, 3) := by decide +kernel
theorem kb_La_law_246 : decode code 246 = .ok (.if_icmp .eq 421, 3) := by decide +kernel
theorem kb_La_law_249 : decode code 249 = .ok (.iconst 0, 1) := by decide +kernel
theorem kb_La_law_250 : decode code 250 = .ok (.ireturn, 1) := by decide +kernel
theorem kb_La_law_251 : decode code 251 = .ok (.aload_n 1, 1) := by decide +kernel
theorem kb_La_law_252 : decode code 252 = .ok (.aload_n 0, 1) := by decide +kernel
theorem kb_La_law_253 : decode code 253 = .ok (.iload_n 3, 1) := by decide +kernel
theorem kb_La_law_254 : decode code 254 = .ok (.iconst 1, 1) := by decide +kernel
theorem kb_La_law_255 : decode code 255 = .ok (.iadd, 1) := by decide +kernel
theorem kb_La_law_256 : decode code 256 = .ok (.iaload, 1) := by decide +kernel
theorem kb_La_law_257 : decode code 257 = .ok (.aload_n 0, 1) := by decide +kernel
theorem kb_La_law_258 : decode code 258 = .ok (.iload_n 3, 1) := by decide +kernel
theorem kb_La_law_259 : decode code 259 = .ok (.iconst 2, 1) := by decide +kernel
theorem kb_La_law_260 : decode code 260 = .ok (.iadd, 1) := by decide +kernel
theorem kb_La_law_261 : decode code 261 = .ok (.iaload, 1) := by decide +kernel
theorem kb_La_law_262 : decode code 262 = .ok (.invokevirtual 38, 3) := by decide +kernel
theorem kb_La_law_265 : decode code 265 = .ok (.aload_n 2, 1) := by decide +kernel
theorem kb_La_law_266 : decode code 266 = .ok (.aload_n 0, 1) := by decide +kernel
theorem kb_La_law_267 : decode code 267 = .ok (.iload_n 3, 1) := by decide +kernel
theorem kb_La_law_268 : decode code 268 = .ok (.iconst 1, 1) := by decide +kernel
theorem kb_La_law_269 : decode code 269 = .ok (.iadd, 1) := by decide +kernel
theorem kb_La_law_270 : decode code 270 = .ok (.iaload, 1) := by decide +kernel
theorem kb_La_law_271 : decode code 271 = .ok (.aload_n 0, 1) := by decide +kernel
theorem kb_La_law_272 : decode code 272 = .ok (.iload_n 3, 1) := by decide +kernel
theorem kb_La_law_273 : decode code 273 = .ok (.iconst 2, 1) := by decide +kernel
theorem kb_La_law_274 : decode code 274 = .ok (.iadd, 1) := by decide +kernel
theorem kb_La_law_275 : decode code 275 = .ok (.iaload, 1) := by decide +kernel
theorem kb_La_law_276 : decode code 276 = .ok (.invokevirtual 42, 3) := by decide +kernel
theorem kb_La_law_279 : decode code 279 = .ok (.if_icmp .eq 388, 3) := by decide +kernel
theorem kb_La_law_282 : decode code 282 = .ok (.iconst 0, 1) := by decide +kernel
theorem kb_La_law_283 : decode code 283 = .ok (.ireturn, 1) := by decide +kernel
theorem kb_La_law_284 : decode code 284 = .ok (.aload_n 1, 1) := by decide +kernel
theorem kb_La_law_285 : decode code 285 = .ok (.aload_n 0, 1) := by decide +kernel
theorem kb_La_law_286 : decode code 286 = .ok (.iload_n 3, 1) := by decide +kernel
theorem kb_La_law_287 : decode code 287 = .ok (.iconst 1, 1) := by decide +kernel
theorem kb_La_law_288 : decode code 288 = .ok (.iadd, 1) := by decide +kernel
theorem kb_La_law_289 : decode code 289 = .ok (.iaload, 1) := by decide +kernel
theorem kb_La_law_290 : decode code 290 = .ok (.aload_n 0, 1) := by decide +kernel
theorem kb_La_law_291 : decode code 291 = .ok (.iload_n 3, 1) := by decide +kernel
theorem kb_La_law_292 : decode code 292 = .ok (.iconst 2, 1) := by decide +kernel
theorem kb_La_law_293 : decode code 293 = .ok (.iadd, 1) := by decide +kernel
theorem kb_La_law_294 : decode code 294 = .ok (.iaload, 1) := by decide +kernel
theorem kb_La_law_295 : decode code 295 = .ok (.aload_n 0, 1) := by decide +kernel
theorem kb_La_law_296 : decode code 296 = .ok (.iload_n 3, 1) := by decide +kernel
theorem kb_La_law_297 : decode code 297 = .ok (.iconst 3, 1) := by decide +kernel
theorem kb_La_law_298 : decode code 298 = .ok (.iadd, 1) := by decide +kernel
theorem kb_La_law_299 : decode code 299 = .ok (.iaload, 1) := by decide +kernel
theorem kb_La_law_300 : decode code 300 = .ok (.aload_n 0, 1) := by decide +kernel
theorem kb_La_law_301 : decode code 301 = .ok (.iload_n 3, 1) := by decide +kernel
theorem kb_La_law_302 : decode code 302 = .ok (.iconst 4, 1) := by decide +kernel
theorem kb_La_law_303 : decode code 303 = .ok (.iadd, 1) := by decide +kernel
theorem kb_La_law_304 : decode code 304 = .ok (.iaload, 1) := by decide +kernel
theorem kb_La_law_305 : decode code 305 = .ok (.aload_n 0, 1) := by decide +kernel
theorem kb_La_law_306 : decode code 306 = .ok (.iload_n 3, 1) := by decide +kernel
theorem kb_La_law_307 : decode code 307 = .ok (.iconst 5, 1) := by decide +kernel
theorem kb_La_law_308 : decode code 308 = .ok (.iadd, 1) := by decide +kernel
theorem kb_La_law_309 : decode code 309 = .ok (.iaload, 1) := by decide +kernel
theorem kb_La_law_310 : decode code 310 = .ok (.invokevirtual 43, 3) := by decide +kernel
theorem kb_La_law_313 : decode code 313 = .ok (.aload_n 2, 1) := by decide +kernel
theorem kb_La_law_314 : decode code 314 = .ok (.aload_n 0, 1) := by decide +kernel
theorem kb_La_law_315 : decode code 315 = .ok (.iload_n 3, 1) := by decide +kernel
theorem kb_La_law_316 : decode code 316 = .ok (.iconst 1, 1) := by decide +kernel
theorem kb_La_law_317 : decode code 317 = .ok (.iadd, 1) := by decide +kernel
theorem kb_La_law_318 : decode code 318 = .ok (.iaload, 1) := by decide +kernel
theorem kb_La_law_319 : decode code 319 = .ok (.aload_n 0, 1) := by decide +kernel
theorem kb_La_law_320 : decode code 320 = .ok (.iload_n 3, 1) := by decide +kernel
theorem kb_La_law_321 : decode code 321 = .ok (.iconst 2, 1) := by decide +kernel
theorem kb_La_law_322 : decode code 322 = .ok (.iadd, 1) := by decide +kernel
theorem kb_La_law_323 : decode code 323 = .ok (.iaload, 1) := by decide +kernel
theorem kb_La_law_324 : decode code 324 = .ok (.aload_n 0, 1) := by decide +kernel
theorem kb_La_law_325 : decode code 325 = .ok (.iload_n 3, 1) := by decide +kernel
theorem kb_La_law_326 : decode code 326 = .ok (.iconst 3, 1) := by decide +kernel
theorem kb_La_law_327 : decode code 327 = .ok (.iadd, 1) := by decide +kernel
theorem kb_La_law_328 : decode code 328 = .ok (.iaload, 1) := by decide +kernel
theorem kb_La_law_329 : decode code 329 = .ok (.aload_n 0, 1) := by decide +kernel
theorem kb_La_law_330 : decode code 330 = .ok (.iload_n 3, 1) := by decide +kernel
theorem kb_La_law_331 : decode code 331 = .ok (.iconst 4, 1) := by decide +kernel
theorem kb_La_law_332 : decode code 332 = .ok (.iadd, 1) := by decide +kernel
theorem kb_La_law_333 : decode code 333 = .ok (.iaload, 1) := by decide +kernel
theorem kb_La_law_334 : decode code 334 = .ok (.aload_n 0, 1) := by decide +kernel
theorem kb_La_law_335 : decode code 335 = .ok (.iload_n 3, 1) := by decide +kernel
theorem kb_La_law_336 : decode code 336 = .ok (.iconst 5, 1) := by decide +kernel
theorem kb_La_law_337 : decode code 337 = .ok (.iadd, 1) := by decide +kernel
theorem kb_La_law_338 : decode code 338 = .ok (.iaload, 1) := by decide +kernel
theorem kb_La_law_339 : decode code 339 = .ok (.invokevirtual 47, 3) := by decide +kernel
theorem kb_La_law_342 : decode code 342 = .ok (.if_icmp .eq 325, 3) := by decide +kernel
theorem kb_La_law_345 : decode code 345 = .ok (.iconst 0, 1) := by decide +kernel
theorem kb_La_law_346 : decode code 346 = .ok (.ireturn, 1) := by decide +kernel
theorem kb_La_law_347 : decode code 347 = .ok (.aload_n 1, 1) := by decide +kernel
theorem kb_La_law_348 : decode code 348 = .ok (.invokevirtual 48, 3) := by decide +kernel
theorem kb_La_law_351 : decode code 351 = .ok (.aload_n 2, 1) := by decide +kernel
theorem kb_La_law_352 : decode code 352 = .ok (.invokevirtual 51, 3) := by decide +kernel
theorem kb_La_law_355 : decode code 355 = .ok (.if_icmp .eq 312, 3) := by decide +kernel
theorem kb_La_law_358 : decode code 358 = .ok (.iconst 0, 1) := by decide +kernel
theorem kb_La_law_359 : decode code 359 = .ok (.ireturn, 1) := by decide +kernel
theorem kb_La_law_360 : decode code 360 = .ok (.aload_n 1, 1) := by decide +kernel
theorem kb_La_law_361 : decode code 361 = .ok (.invokevirtual 52, 3) := by decide +kernel
theorem kb_La_law_364 : decode code 364 = .ok (.aload_n 2, 1) := by decide +kernel
theorem kb_La_law_365 : decode code 365 = .ok (.invokevirtual 55, 3) := by decide +kernel
theorem kb_La_law_368 : decode code 368 = .ok (.if_icmp .eq 299, 3) := by decide +kernel
theorem kb_La_law_371 : decode code 371 = .ok (.iconst 0, 1) := by decide +kernel
theorem kb_La_law_372 : decode code 372 = .ok (.ireturn, 1) := by decide +kernel
theorem kb_La_law_373 : decode code 373 = .ok (.aload_n 1, 1) := by decide +kernel
theorem kb_La_law_374 : decode code 374 = .ok (.aload_n 0, 1) := by decide +kernel
theorem kb_La_law_375 : decode code 375 = .ok (.iload_n 3, 1) := by decide +kernel
theorem kb_La_law_376 : decode code 376 = .ok (.iconst 1, 1) := by decide +kernel
theorem kb_La_law_377 : decode code 377 = .ok (.iadd, 1) := by decide +kernel
theorem kb_La_law_378 : decode code 378 = .ok (.iaload, 1) := by decide +kernel
theorem kb_La_law_379 : decode code 379 = .ok (.aload_n 0, 1) := by decide +kernel
theorem kb_La_law_380 : decode code 380 = .ok (.iload_n 3, 1) := by decide +kernel
theorem kb_La_law_381 : decode code 381 = .ok (.iconst 2, 1) := by decide +kernel
theorem kb_La_law_382 : decode code 382 = .ok (.iadd, 1) := by decide +kernel
theorem kb_La_law_383 : decode code 383 = .ok (.iaload, 1) := by decide +kernel
theorem kb_La_law_384 : decode code 384 = .ok (.invokevirtual 56, 3) := by decide +kernel
theorem kb_La_law_387 : decode code 387 = .ok (.aload_n 2, 1) := by decide +kernel
theorem kb_La_law_388 : decode code 388 = .ok (.aload_n 0, 1) := by decide +kernel
theorem kb_La_law_389 : decode code 389 = .ok (.iload_n 3, 1) := by decide +kernel
theorem kb_La_law_390 : decode code 390 = .ok (.iconst 1, 1) := by decide +kernel
theorem kb_La_law_391 : decode code 391 = .ok (.iadd, 1) := by decide +kernel
theorem kb_La_law_392 : decode code 392 = .ok (.iaload, 1) := by decide +kernel
theorem kb_La_law_393 : decode code 393 = .ok (.aload_n 0, 1) := by decide +kernel
theorem kb_La_law_394 : decode code 394 = .ok (.iload_n 3, 1) := by decide +kernel
theorem kb_La_law_395 : decode code 395 = .ok (.iconst 2, 1) := by decide +kernel
theorem kb_La_law_396 : decode code 396 = .ok (.iadd, 1) := by decide +kernel
theorem kb_La_law_397 : decode code 397 = .ok (.iaload, 1) := by decide +kernel
theorem kb_La_law_398 : decode code 398 = .ok (.invokevirtual 59, 3) := by decide +kernel
theorem kb_La_law_401 : decode code 401 = .ok (.if_icmp .eq 266, 3) := by decide +kernel
theorem kb_La_law_404 : decode code 404 = .ok (.iconst 0, 1) := by decide +kernel
theorem kb_La_law_405 : decode code 405 = .ok (.ireturn, 1) := by decide +kernel
theorem kb_La_law_406 : decode code 406 = .ok (.aload_n 1, 1) := by decide +kernel
theorem kb_La_law_407 : decode code 407 = .ok (.invokevirtual 60, 3) := by decide +kernel
theorem kb_La_law_410 : decode code 410 = .ok (.aload_n 2, 1) := by decide +kernel
theorem kb_La_law_411 : decode code 411 = .ok (.invokevirtual 63, 3) := by decide +kernel
theorem kb_La_law_414 : decode code 414 = .ok (.if_icmp .eq 253, 3) := by decide +kernel
theorem kb_La_law_417 : decode code 417 = .ok (.iconst 0, 1) := by decide +kernel
theorem kb_La_law_418 : decode code 418 = .ok (.ireturn, 1) := by decide +kernel
theorem kb_La_law_419 : decode code 419 = .ok (.aload_n 1, 1) := by decide +kernel
theorem kb_La_law_420 : decode code 420 = .ok (.aload_n 0, 1) := by decide +kernel
theorem kb_La_law_421 : decode code 421 = .ok (.iload_n 3, 1) := by decide +kernel
theorem kb_La_law_422 : decode code 422 = .ok (.iconst 1, 1) := by decide +kernel
theorem kb_La_law_423 : decode code 423 = .ok (.iadd, 1) := by decide +kernel
theorem kb_La_law_424 : decode code 424 = .ok (.iaload, 1) := by decide +kernel
theorem kb_La_law_425 : decode code 425 = .ok (.aload_n 0, 1) := by decide +kernel
theorem kb_La_law_426 : decode code 426 = .ok (.iload_n 3, 1) := by decide +kernel
theorem kb_La_law_427 : decode code 427 = .ok (.iconst 2, 1) := by decide +kernel
theorem kb_La_law_428 : decode code 428 = .ok (.iadd, 1) := by decide +kernel
theorem kb_La_law_429 : decode code 429 = .ok (.iaload, 1) := by decide +kernel
theorem kb_La_law_430 : decode code 430 = .ok (.aload_n 0, 1) := by decide +kernel
theorem kb_La_law_431 : decode code 431 = .ok (.iload_n 3, 1) := by decide +kernel
theorem kb_La_law_432 : decode code 432 = .ok (.iconst 3, 1) := by decide +kernel
theorem kb_La_law_433 : decode code 433 = .ok (.iadd, 1) := by decide +kernel
theorem kb_La_law_434 : decode code 434 = .ok (.iaload, 1) := by decide +kernel
theorem kb_La_law_435 : decode code 435 = .ok (.aload_n 0, 1) := by decide +kernel
theorem kb_La_law_436 : decode code 436 = .ok (.iload_n 3, 1) := by decide +kernel
theorem kb_La_law_437 : decode code 437 = .ok (.iconst 4, 1) := by decide +kernel
theorem kb_La_law_438 : decode code 438 = .ok (.iadd, 1) := by decide +kernel
theorem kb_La_law_439 : decode code 439 = .ok (.iaload, 1) := by decide +kernel
theorem kb_La_law_440 : decode code 440 = .ok (.invokevirtual 64, 3) := by decide +kernel
theorem kb_La_law_443 : decode code 443 = .ok (.aload_n 2, 1) := by decide +kernel
theorem kb_La_law_444 : decode code 444 = .ok (.aload_n 0, 1) := by decide +kernel
theorem kb_La_law_445 : decode code 445 = .ok (.iload_n 3, 1) := by decide +kernel
theorem kb_La_law_446 : decode code 446 = .ok (.iconst 1, 1) := by decide +kernel
theorem kb_La_law_447 : decode code 447 = .ok (.iadd, 1) := by decide +kernel
theorem kb_La_law_448 : decode code 448 = .ok (.iaload, 1) := by decide +kernel
theorem kb_La_law_449 : decode code 449 = .ok (.aload_n 0, 1) := by decide +kernel
theorem kb_La_law_450 : decode code 450 = .ok (.iload_n 3, 1) := by decide +kernel
theorem kb_La_law_451 : decode code 451 = .ok (.iconst 2, 1) := by decide +kernel
theorem kb_La_law_452 : decode code 452 = .ok (.iadd, 1) := by decide +kernel
theorem kb_La_law_453 : decode code 453 = .ok (.iaload, 1) := by decide +kernel
theorem kb_La_law_454 : decode code 454 = .ok (.aload_n 0, 1) := by decide +kernel
theorem kb_La_law_455 : decode code 455 = .ok (.iload_n 3, 1) := by decide +kernel
theorem kb_La_law_456 : decode code 456 = .ok (.iconst 3, 1) := by decide +kernel
theorem kb_La_law_457 : decode code 457 = .ok (.iadd, 1) := by decide +kernel
theorem kb_La_law_458 : decode code 458 = .ok (.iaload, 1) := by decide +kernel
theorem kb_La_law_459 : decode code 459 = .ok (.aload_n 0, 1) := by decide +kernel
theorem kb_La_law_460 : decode code 460 = .ok (.iload_n 3, 1) := by decide +kernel
theorem kb_La_law_461 : decode code 461 = .ok (.iconst 4, 1) := by decide +kernel
theorem kb_La_law_462 : decode code 462 = .ok (.iadd, 1) := by decide +kernel
theorem kb_La_law_463 : decode code 463 = .ok (.iaload, 1) := by decide +kernel
theorem kb_La_law_464 : decode code 464 = .ok (.invokevirtual 68, 3) := by decide +kernel
theorem kb_La_law_467 : decode code 467 = .ok (.if_icmp .eq 200, 3) := by decide +kernel
theorem kb_La_law_470 : decode code 470 = .ok (.iconst 0, 1) := by decide +kernel
theorem kb_La_law_471 : decode code 471 = .ok (.ireturn, 1) := by decide +kernel
theorem kb_La_law_472 : decode code 472 = .ok (.aload_n 1, 1) := by decide +kernel
theorem kb_La_law_473 : decode code 473 = .ok (.aload_n 0, 1) := by decide +kernel
theorem kb_La_law_474 : decode code 474 = .ok (.iload_n 3, 1) := by decide +kernel
theorem kb_La_law_475 : decode code 475 = .ok (.iconst 1, 1) := by decide +kernel
theorem kb_La_law_476 : decode code 476 = .ok (.iadd, 1) := by decide +kernel
theorem kb_La_law_477 : decode code 477 = .ok (.iaload, 1) := by decide +kernel
theorem kb_La_law_478 : decode code 478 = .ok (.aload_n 0, 1) := by decide +kernel
theorem kb_La_law_479 : decode code 479 = .ok (.iload_n 3, 1) := by decide +kernel
theorem kb_La_law_480 : decode code 480 = .ok (.iconst 2, 1) := by decide +kernel
theorem kb_La_law_481 : decode code 481 = .ok (.iadd, 1) := by decide +kernel
theorem kb_La_law_482 : decode code 482 = .ok (.iaload, 1) := by decide +kernel
theorem kb_La_law_483 : decode code 483 = .ok (.aload_n 0, 1) := by decide +kernel
theorem kb_La_law_484 : decode code 484 = .ok (.iload_n 3, 1) := by decide +kernel
theorem kb_La_law_485 : decode code 485 = .ok (.iconst 3, 1) := by decide +kernel
theorem kb_La_law_486 : decode code 486 = .ok (.iadd, 1) := by decide +kernel
theorem kb_La_law_487 : decode code 487 = .ok (.iaload, 1) := by decide +kernel
theorem kb_La_law_488 : decode code 488 = .ok (.invokevirtual 69, 3) := by decide +kernel
theorem kb_La_law_491 : decode code 491 = .ok (.aload_n 2, 1) := by decide +kernel
theorem kb_La_law_492 : decode code 492 = .ok (.aload_n 0, 1) := by decide +kernel
theorem kb_La_law_493 : decode code 493 = .ok (.iload_n 3, 1) := by decide +kernel
theorem kb_La_law_494 : decode code 494 = .ok (.iconst 1, 1) := by decide +kernel
theorem kb_La_law_495 : decode code 495 = .ok (.iadd, 1) := by decide +kernel
theorem kb_La_law_496 : decode code 496 = .ok (.iaload, 1) := by decide +kernel
theorem kb_La_law_497 : decode code 497 = .ok (.aload_n 0, 1) := by decide +kernel
theorem kb_La_law_498 : decode code 498 = .ok (.iload_n 3, 1) := by decide +kernel
theorem kb_La_law_499 : decode code 499 = .ok (.iconst 2, 1) := by decide +kernel
theorem kb_La_law_500 : decode code 500 = .ok (.iadd, 1) := by decide +kernel
theorem kb_La_law_501 : decode code 501 = .ok (.iaload, 1) := by decide +kernel
theorem kb_La_law_502 : decode code 502 = .ok (.aload_n 0, 1) := by decide +kernel
theorem kb_La_law_503 : decode code 503 = .ok (.iload_n 3, 1) := by decide +kernel
theorem kb_La_law_504 : decode code 504 = .ok (.iconst 3, 1) := by decide +kernel
theorem kb_La_law_505 : decode code 505 = .ok (.iadd, 1) := by decide +kernel
theorem kb_La_law_506 : decode code 506 = .ok (.iaload, 1) := by decide +kernel
theorem kb_La_law_507 : decode code 507 = .ok (.invokevirtual 73, 3) := by decide +kernel
theorem kb_La_law_510 : decode code 510 = .ok (.if_icmp .eq 157, 3) := by decide +kernel
theorem kb_La_law_513 : decode code 513 = .ok (.iconst 0, 1) := by decide +kernel
theorem kb_La_law_514 : decode code 514 = .ok (.ireturn, 1) := by decide +kernel
theorem kb_La_law_515 : decode code 515 = .ok (.aload_n 1, 1) := by decide +kernel
theorem kb_La_law_516 : decode code 516 = .ok (.aload_n 0, 1) := by decide +kernel
theorem kb_La_law_517 : decode code 517 = .ok (.iload_n 3, 1) := by decide +kernel
theorem kb_La_law_518 : decode code 518 = .ok (.iconst 1, 1) := by decide +kernel
theorem kb_La_law_519 : decode code 519 = .ok (.iadd, 1) := by decide +kernel
theorem kb_La_law_520 : decode code 520 = .ok (.iaload, 1) := by decide +kernel
theorem kb_La_law_521 : decode code 521 = .ok (.aload_n 0, 1) := by decide +kernel
theorem kb_La_law_522 : decode code 522 = .ok (.iload_n 3, 1) := by decide +kernel
theorem kb_La_law_523 : decode code 523 = .ok (.iconst 2, 1) := by decide +kernel
theorem kb_La_law_524 : decode code 524 = .ok (.iadd, 1) := by decide +kernel
theorem kb_La_law_525 : decode code 525 = .ok (.iaload, 1) := by decide +kernel
theorem kb_La_law_526 : decode code 526 = .ok (.aload_n 0, 1) := by decide +kernel
theorem kb_La_law_527 : decode code 527 = .ok (.iload_n 3, 1) := by decide +kernel
theorem kb_La_law_528 : decode code 528 = .ok (.iconst 3, 1) := by decide +kernel
theorem kb_La_law_529 : decode code 529 = .ok (.iadd, 1) := by decide +kernel
theorem kb_La_law_530 : decode code 530 = .ok (.iaload, 1) := by decide +kernel
theorem kb_La_law_531 : decode code 531 = .ok (.aload_n 0, 1) := by decide +kernel
theorem kb_La_law_532 : decode code 532 = .ok (.iload_n 3, 1) := by decide +kernel
theorem kb_La_law_533 : decode code 533 = .ok (.iconst 4, 1) := by decide +kernel
theorem kb_La_law_534 : decode code 534 = .ok (.iadd, 1) := by decide +kernel
theorem kb_La_law_535 : decode code 535 = .ok (.iaload, 1) := by decide +kernel
theorem kb_La_law_536 : decode code 536 = .ok (.invokevirtual 74, 3) := by decide +kernel
theorem kb_La_law_539 : decode code 539 = .ok (.aload_n 2, 1) := by decide +kernel
theorem kb_La_law_540 : decode code 540 = .ok (.aload_n 0, 1) := by decide +kernel
theorem kb_La_law_541 : decode code 541 = .ok (.iload_n 3, 1) := by decide +kernel
theorem kb_La_law_542 : decode code 542 = .ok (.iconst 1, 1) := by decide +kernel
theorem kb_La_law_543 : decode code 543 = .ok (.iadd, 1) := by decide +kernel
theorem kb_La_law_544 : decode code 544 = .ok (.iaload, 1) := by decide +kernel
theorem kb_La_law_545 : decode code 545 = .ok (.aload_n 0, 1) := by decide +kernel
theorem kb_La_law_546 : decode code 546 = .ok (.iload_n 3, 1) := by decide +kernel
theorem kb_La_law_547 : decode code 547 = .ok (.iconst 2, 1) := by decide +kernel
theorem kb_La_law_548 : decode code 548 = .ok (.iadd, 1) := by decide +kernel
theorem kb_La_law_549 : decode code 549 = .ok (.iaload, 1) := by decide +kernel
theorem kb_La_law_550 : decode code 550 = .ok (.aload_n 0, 1) := by decide +kernel
theorem kb_La_law_551 : decode code 551 = .ok (.iload_n 3, 1) := by decide +kernel
theorem kb_La_law_552 : decode code 552 = .ok (.iconst 3, 1) := by decide +kernel
theorem kb_La_law_553 : decode code 553 = .ok (.iadd, 1) := by decide +kernel
theorem kb_La_law_554 : decode code 554 = .ok (.iaload, 1) := by decide +kernel
theorem kb_La_law_555 : decode code 555 = .ok (.aload_n 0, 1) := by decide +kernel
theorem kb_La_law_556 : decode code 556 = .ok (.iload_n 3, 1) := by decide +kernel
theorem kb_La_law_557 : decode code 557 = .ok (.iconst 4, 1) := by decide +kernel
theorem kb_La_law_558 : decode code 558 = .ok (.iadd, 1) := by decide +kernel
theorem kb_La_law_559 : decode code 559 = .ok (.iaload, 1) := by decide +kernel
theorem kb_La_law_560 : decode code 560 = .ok (.invokevirtual 77, 3) := by decide +kernel
theorem kb_La_law_563 : decode code 563 = .ok (.if_icmp .eq 104, 3) := by decide +kernel
theorem kb_La_law_566 : decode code 566 = .ok (.iconst 0, 1) := by decide +kernel
theorem kb_La_law_567 : decode code 567 = .ok (.ireturn, 1) := by decide +kernel
theorem kb_La_law_568 : decode code 568 = .ok (.aload_n 1, 1) := by decide +kernel
theorem kb_La_law_569 : decode code 569 = .ok (.aload_n 0, 1) := by decide +kernel
theorem kb_La_law_570 : decode code 570 = .ok (.iload_n 3, 1) := by decide +kernel
theorem kb_La_law_571 : decode code 571 = .ok (.iconst 1, 1) := by decide +kernel
theorem kb_La_law_572 : decode code 572 = .ok (.iadd, 1) := by decide +kernel
theorem kb_La_law_573 : decode code 573 = .ok (.iaload, 1) := by decide +kernel
theorem kb_La_law_574 : decode code 574 = .ok (.aload_n 0, 1) := by decide +kernel
theorem kb_La_law_575 : decode code 575 = .ok (.iload_n 3, 1) := by decide +kernel
theorem kb_La_law_576 : decode code 576 = .ok (.iconst 2, 1) := by decide +kernel
theorem kb_La_law_577 : decode code 577 = .ok (.iadd, 1) := by decide +kernel
theorem kb_La_law_578 : decode code 578 = .ok (.iaload, 1) := by decide +kernel
theorem kb_La_law_579 : decode code 579 = .ok (.aload_n 0, 1) := by decide +kernel
theorem kb_La_law_580 : decode code 580 = .ok (.iload_n 3, 1) := by decide +kernel
theorem kb_La_law_581 : decode code 581 = .ok (.iconst 3, 1) := by decide +kernel
theorem kb_La_law_582 : decode code 582 = .ok (.iadd, 1) := by decide +kernel
theorem kb_La_law_583 : decode code 583 = .ok (.iaload, 1) := by decide +kernel
theorem kb_La_law_584 : decode code 584 = .ok (.aload_n 0, 1) := by decide +kernel
theorem kb_La_law_585 : decode code 585 = .ok (.iload_n 3, 1) := by decide +kernel
theorem kb_La_law_586 : decode code 586 = .ok (.iconst 4, 1) := by decide +kernel
theorem kb_La_law_587 : decode code 587 = .ok (.iadd, 1) := by decide +kernel
theorem kb_La_law_588 : decode code 588 = .ok (.iaload, 1) := by decide +kernel
theorem kb_La_law_589 : decode code 589 = .ok (.aload_n 0, 1) := by decide +kernel
theorem kb_La_law_590 : decode code 590 = .ok (.iload_n 3, 1) := by decide +kernel
theorem kb_La_law_591 : decode code 591 = .ok (.iconst 5, 1) := by decide +kernel
theorem kb_La_law_592 : decode code 592 = .ok (.iadd, 1) := by decide +kernel
theorem kb_La_law_593 : decode code 593 = .ok (.iaload, 1) := by decide +kernel
theorem kb_La_law_594 : decode code 594 = .ok (.invokevirtual 78, 3) := by decide +kernel
theorem kb_La_law_597 : decode code 597 = .ok (.aload_n 2, 1) := by decide +kernel
theorem kb_La_law_598 : decode code 598 = .ok (.aload_n 0, 1) := by decide +kernel
theorem kb_La_law_599 : decode code 599 = .ok (.iload_n 3, 1) := by decide +kernel
theorem kb_La_law_600 : decode code 600 = .ok (.iconst 1, 1) := by decide +kernel
theorem kb_La_law_601 : decode code 601 = .ok (.iadd, 1) := by decide +kernel
theorem kb_La_law_602 : decode code 602 = .ok (.iaload, 1) := by decide +kernel
theorem kb_La_law_603 : decode code 603 = .ok (.aload_n 0, 1) := by decide +kernel
theorem kb_La_law_604 : decode code 604 = .ok (.iload_n 3, 1) := by decide +kernel
theorem kb_La_law_605 : decode code 605 = .ok (.iconst 2, 1) := by decide +kernel
theorem kb_La_law_606 : decode code 606 = .ok (.iadd, 1) := by decide +kernel
theorem kb_La_law_607 : decode code 607 = .ok (.iaload, 1) := by decide +kernel
theorem kb_La_law_608 : decode code 608 = .ok (.aload_n 0, 1) := by decide +kernel
theorem kb_La_law_609 : decode code 609 = .ok (.iload_n 3, 1) := by decide +kernel
theorem kb_La_law_610 : decode code 610 = .ok (.iconst 3, 1) := by decide +kernel
theorem kb_La_law_611 : decode code 611 = .ok (.iadd, 1) := by decide +kernel
theorem kb_La_law_612 : decode code 612 = .ok (.iaload, 1) := by decide +kernel
theorem kb_La_law_613 : decode code 613 = .ok (.aload_n 0, 1) := by decide +kernel
theorem kb_La_law_614 : decode code 614 = .ok (.iload_n 3, 1) := by decide +kernel
theorem kb_La_law_615 : decode code 615 = .ok (.iconst 4, 1) := by decide +kernel
theorem kb_La_law_616 : decode code 616 = .ok (.iadd, 1) := by decide +kernel
theorem kb_La_law_617 : decode code 617 = .ok (.iaload, 1) := by decide +kernel
theorem kb_La_law_618 : decode code 618 = .ok (.aload_n 0, 1) := by decide +kernel
theorem kb_La_law_619 : decode code 619 = .ok (.iload_n 3, 1) := by decide +kernel
theorem kb_La_law_620 : decode code 620 = .ok (.iconst 5, 1) := by decide +kernel
theorem kb_La_law_621 : decode code 621 = .ok (.iadd, 1) := by decide +kernel
theorem kb_La_law_622 : decode code 622 = .ok (.iaload, 1) := by decide +kernel
theorem kb_La_law_623 : decode code 623 = .ok (.invokevirtual 81, 3) := by decide +kernel
theorem kb_La_law_626 : decode code 626 = .ok (.if_icmp .eq 41, 3) := by decide +kernel
theorem kb_La_law_629 : decode code 629 = .ok (.iconst 0, 1) := by decide +kernel
theorem kb_La_law_630 : decode code 630 = .ok (.ireturn, 1) := by decide +kernel
theorem kb_La_law_631 : decode code 631 = .ok (.aload_n 1, 1) := by decide +kernel
theorem kb_La_law_632 : decode code 632 = .ok (.invokevirtual 82, 3) := by decide +kernel
theorem kb_La_law_635 : decode code 635 = .ok (.aload_n 2, 1) := by decide +kernel
theorem kb_La_law_636 : decode code 636 = .ok (.invokevirtual 86, 3) := by decide +kernel
theorem kb_La_law_639 : decode code 639 = .ok (.if_icmp .eq 28, 3) := by decide +kernel
theorem kb_La_law_642 : decode code 642 = .ok (.iconst 0, 1) := by decide +kernel
theorem kb_La_law_643 : decode code 643 = .ok (.ireturn, 1) := by decide +kernel
theorem kb_La_law_644 : decode code 644 = .ok (.aload_n 1, 1) := by decide +kernel
theorem kb_La_law_645 : decode code 645 = .ok (.aload_n 0, 1) := by decide +kernel
theorem kb_La_law_646 : decode code 646 = .ok (.iload_n 3, 1) := by decide +kernel
theorem kb_La_law_647 : decode code 647 = .ok (.iconst 1, 1) := by decide +kernel
theorem kb_La_law_648 : decode code 648 = .ok (.iadd, 1) := by decide +kernel
theorem kb_La_law_649 : decode code 649 = .ok (.iaload, 1) := by decide +kernel
theorem kb_La_law_650 : decode code 650 = .ok (.invokevirtual 87, 3) := by decide +kernel
theorem kb_La_law_653 : decode code 653 = .ok (.aload_n 2, 1) := by decide +kernel
theorem kb_La_law_654 : decode code 654 = .ok (.aload_n 0, 1) := by decide +kernel
theorem kb_La_law_655 : decode code 655 = .ok (.iload_n 3, 1) := by decide +kernel
theorem kb_La_law_656 : decode code 656 = .ok (.iconst 1, 1) := by decide +kernel
theorem kb_La_law_657 : decode code 657 = .ok (.iadd, 1) := by decide +kernel
theorem kb_La_law_658 : decode code 658 = .ok (.iaload, 1) := by decide +kernel
theorem kb_La_law_659 : decode code 659 = .ok (.invokevirtual 90, 3) := by decide +kernel
theorem kb_La_law_662 : decode code 662 = .ok (.if_icmp .eq 5, 3) := by decide +kernel
theorem kb_La_law_665 : decode code 665 = .ok (.iconst 0, 1) := by decide +kernel
theorem kb_La_law_666 : decode code 666 = .ok (.ireturn, 1) := by decide +kernel
theorem kb_La_law_667 : decode code 667 = .ok (.iinc 3 6, 3) := by decide +kernel
theorem kb_La_law_670 : decode code 670 = .ok (.goto (-652), 3) := by decide +kernel
theorem kb_La_law_673 : decode code 673 = .ok (.iconst 1, 1) := by decide +kernel
theorem kb_La_law_674 : decode code 674 = .ok (.ireturn, 1) := by decide +kernel
def kp_La_law (L : Nat) (xs : Nat → Int32) (σ : z_S) : Prop := ∀ (X18 : Nat → Nat → Int32 → Nat → Nat → z_S → Prop),
    (∀ (v1 : Nat) (v2 : Nat) (v3 : Int32) (kc : Nat) (ks : Nat) (σ : z_S), ((((nI L) - ((6 : Int32))) < v3 → True) ∧ (¬ ((nI L) - ((6 : Int32))) < v3 → vp_in v3 L ∧ ((((xs v3.toNatClampNeg) &&& ((31 : Int32))) = (0 : Int32) → vp_in (v3 + ((1 : Int32))) L ∧ (vp_in (v3 + ((2 : Int32))) L ∧ (vp_in (v3 + ((3 : Int32))) L ∧ ((kc + 0 ≤ 600000 ∧ ks + 0 ≤ 7302250) ∧ z_ty σ v1 = some (.inl 7) ∧ kp_Vr_feed v1 ((((xs (v3 + ((1 : Int32))).toNatClampNeg).toInt64) <<< (((32 : Int32)).toInt64 &&& 63)) ||| (((xs (v3 + ((2 : Int32))).toNatClampNeg).toInt64) &&& ((4294967295 : Int64)))) (xs (v3 + ((3 : Int32))).toNatClampNeg) σ (fun (r142 : Int32) (σ142 : z_S) => vp_in (v3 + ((1 : Int32))) L ∧ (vp_in (v3 + ((2 : Int32))) L ∧ (vp_in (v3 + ((3 : Int32))) L ∧ (((kc + 0) + 0 ≤ 600000 ∧ (ks + 0) + 0 ≤ 7302250) ∧ z_ty σ142 v2 = some (.inl 8) ∧ kp_Mo_feed v2 ((((xs (v3 + ((1 : Int32))).toNatClampNeg).toInt64) <<< (((32 : Int32)).toInt64 &&& 63)) ||| (((xs (v3 + ((2 : Int32))).toNatClampNeg).toInt64) &&& ((4294967295 : Int64)))) (xs (v3 + ((3 : Int32))).toNatClampNeg) σ142 (fun (r171 : Int32) (σ171 : z_S) => (r142 = r171 → X18 v1 v2 (v3 + (6 : Int32)) ((kc + 0) + 0) ((ks + 0) + 0) σ171) ∧ (¬ r142 = r171 → False)))))))))) ∧ (¬ ((xs v3.toNatClampNeg) &&& ((31 : Int32))) = (0 : Int32) → (((xs v3.toNatClampNeg) &&& ((31 : Int32))) = (1 : Int32) → (kc + 289 ≤ 600000 ∧ ks + 1421 ≤ 7302250) ∧ z_ty σ v1 = some (.inl 7) ∧ kp_Vr_parse v1 σ (fun (r180 : Int32) (σ180 : z_S) => ((kc + 289) + 0 ≤ 600000 ∧ (ks + 1421) + 0 ≤ 7302250) ∧ z_ty σ180 v2 = some (.inl 8) ∧ kp_Mo_parse v2 σ180 (fun (r184 : Int32) (σ184 : z_S) => (r180 = r184 → X18 v1 v2 (v3 + (6 : Int32)) ((kc + 289) + 0) ((ks + 1421) + 0) σ184) ∧ (¬ r180 = r184 → False)))) ∧ (¬ ((xs v3.toNatClampNeg) &&& ((31 : Int32))) = (1 : Int32) → (((xs v3.toNatClampNeg) &&& ((31 : Int32))) = (2 : Int32) → (kc + 0 ≤ 600000 ∧ ks + 0 ≤ 7302250) ∧ z_ty σ v1 = some (.inl 7) ∧ kp_Vr_place v1 σ (fun (r193 : Int32) (σ193 : z_S) => ((kc + 0) + 0 ≤ 600000 ∧ (ks + 0) + 0 ≤ 7302250) ∧ z_ty σ193 v2 = some (.inl 8) ∧ kp_Mo_place v2 σ193 (fun (r197 : Int32) (σ197 : z_S) => (r193 = r197 → X18 v1 v2 (v3 + (6 : Int32)) ((kc + 0) + 0) ((ks + 0) + 0) σ197) ∧ (¬ r193 = r197 → False)))) ∧ (¬ ((xs v3.toNatClampNeg) &&& ((31 : Int32))) = (2 : Int32) → (((xs v3.toNatClampNeg) &&& ((31 : Int32))) = (3 : Int32) → vp_in (v3 + ((1 : Int32))) L ∧ ((kc + 0 ≤ 600000 ∧ ks + 0 ≤ 7302250) ∧ z_ty σ v1 = some (.inl 7) ∧ kp_Vr_ring v1 (xs (v3 + ((1 : Int32))).toNatClampNeg) σ (fun (r211 : Int32) (σ211 : z_S) => vp_in (v3 + ((1 : Int32))) L ∧ (((kc + 0) + 0 ≤ 600000 ∧ (ks + 0) + 0 ≤ 7302250) ∧ z_ty σ211 v2 = some (.inl 8) ∧ kp_Mo_ring v2 (xs (v3 + ((1 : Int32))).toNatClampNeg) σ211 (fun (r220 : Int32) (σ220 : z_S) => (r211 = r220 → X18 v1 v2 (v3 + (6 : Int32)) ((kc + 0) + 0) ((ks + 0) + 0) σ220) ∧ (¬ r211 = r220 → False)))))) ∧ (¬ ((xs v3.toNatClampNeg) &&& ((31 : Int32))) = (3 : Int32) → (((xs v3.toNatClampNeg) &&& ((31 : Int32))) = (4 : Int32) → vp_in (v3 + ((1 : Int32))) L ∧ ((kc + 0 ≤ 600000 ∧ ks + 0 ≤ 7302250) ∧ z_ty σ v1 = some (.inl 7) ∧ kp_Vr_relation v1 (xs (v3 + ((1 : Int32))).toNatClampNeg) σ (fun (r234 : Int32) (σ234 : z_S) => vp_in (v3 + ((1 : Int32))) L ∧ (((kc + 0) + 0 ≤ 600000 ∧ (ks + 0) + 0 ≤ 7302250) ∧ z_ty σ234 v2 = some (.inl 8) ∧ kp_Mo_relation v2 (xs (v3 + ((1 : Int32))).toNatClampNeg) σ234 (fun (r243 : Int32) (σ243 : z_S) => (r234 = r243 → X18 v1 v2 (v3 + (6 : Int32)) ((kc + 0) + 0) ((ks + 0) + 0) σ243) ∧ (¬ r234 = r243 → False)))))) ∧ (¬ ((xs v3.toNatClampNeg) &&& ((31 : Int32))) = (4 : Int32) → (((xs v3.toNatClampNeg) &&& ((31 : Int32))) = (5 : Int32) → vp_in (v3 + ((1 : Int32))) L ∧ (vp_in (v3 + ((2 : Int32))) L ∧ ((kc + 0 ≤ 600000 ∧ ks + 0 ≤ 7302250) ∧ z_ty σ v1 = some (.inl 7) ∧ kp_Vr_of v1 (xs (v3 + ((1 : Int32))).toNatClampNeg) (xs (v3 + ((2 : Int32))).toNatClampNeg) σ (fun (r262 : Int32) (σ262 : z_S) => vp_in (v3 + ((1 : Int32))) L ∧ (vp_in (v3 + ((2 : Int32))) L ∧ (((kc + 0) + 0 ≤ 600000 ∧ (ks + 0) + 0 ≤ 7302250) ∧ z_ty σ262 v2 = some (.inl 8) ∧ kp_Mo_of v2 (xs (v3 + ((1 : Int32))).toNatClampNeg) (xs (v3 + ((2 : Int32))).toNatClampNeg) σ262 (fun (r276 : Int32) (σ276 : z_S) => (r262 = r276 → X18 v1 v2 (v3 + (6 : Int32)) ((kc + 0) + 0) ((ks + 0) + 0) σ276) ∧ (¬ r262 = r276 → False)))))))) ∧ (¬ ((xs v3.toNatClampNeg) &&& ((31 : Int32))) = (5 : Int32) → (((xs v3.toNatClampNeg) &&& ((31 : Int32))) = (6 : Int32) → vp_in (v3 + ((1 : Int32))) L ∧ (vp_in (v3 + ((2 : Int32))) L ∧ (vp_in (v3 + ((3 : Int32))) L ∧ (vp_in (v3 + ((4 : Int32))) L ∧ (vp_in (v3 + ((5 : Int32))) L ∧ ((kc + 0 ≤ 600000 ∧ ks + 0 ≤ 7302250) ∧ z_ty σ v1 = some (.inl 7) ∧ kp_Vr_change v1 (xs (v3 + ((1 : Int32))).toNatClampNeg) (xs (v3 + ((2 : Int32))).toNatClampNeg) (xs (v3 + ((3 : Int32))).toNatClampNeg) (xs (v3 + ((4 : Int32))).toNatClampNeg) (xs (v3 + ((5 : Int32))).toNatClampNeg) σ (fun (r310 : Int32) (σ310 : z_S) => vp_in (v3 + ((1 : Int32))) L ∧ (vp_in (v3 + ((2 : Int32))) L ∧ (vp_in (v3 + ((3 : Int32))) L ∧ (vp_in (v3 + ((4 : Int32))) L ∧ (vp_in (v3 + ((5 : Int32))) L ∧ (((kc + 0) + 0 ≤ 600000 ∧ (ks + 0) + 0 ≤ 7302250) ∧ z_ty σ310 v2 = some (.inl 8) ∧ kp_Mo_change v2 (xs (v3 + ((1 : Int32))).toNatClampNeg) (xs (v3 + ((2 : Int32))).toNatClampNeg) (xs (v3 + ((3 : Int32))).toNatClampNeg) (xs (v3 + ((4 : Int32))).toNatClampNeg) (xs (v3 + ((5 : Int32))).toNatClampNeg) σ310 (fun (r339 : Int32) (σ339 : z_S) => (r310 = r339 → X18 v1 v2 (v3 + (6 : Int32)) ((kc + 0) + 0) ((ks + 0) + 0) σ339) ∧ (¬ r310 = r339 → False)))))))))))))) ∧ (¬ ((xs v3.toNatClampNeg) &&& ((31 : Int32))) = (6 : Int32) → (((xs v3.toNatClampNeg) &&& ((31 : Int32))) = (7 : Int32) → (kc + 0 ≤ 600000 ∧ ks + 0 ≤ 7302250) ∧ z_ty σ v1 = some (.inl 7) ∧ kp_Vr_batch v1 σ (fun (r348 : Int32) (σ348 : z_S) => ((kc + 0) + 0 ≤ 600000 ∧ (ks + 0) + 0 ≤ 7302250) ∧ z_ty σ348 v2 = some (.inl 8) ∧ kp_Mo_batch v2 σ348 (fun (r352 : Int32) (σ352 : z_S) => (r348 = r352 → X18 v1 v2 (v3 + (6 : Int32)) ((kc + 0) + 0) ((ks + 0) + 0) σ352) ∧ (¬ r348 = r352 → False)))) ∧ (¬ ((xs v3.toNatClampNeg) &&& ((31 : Int32))) = (7 : Int32) → (((xs v3.toNatClampNeg) &&& ((31 : Int32))) = (8 : Int32) → (kc + 0 ≤ 600000 ∧ ks + 0 ≤ 7302250) ∧ z_ty σ v1 = some (.inl 7) ∧ kp_Vr_drop v1 σ (fun (r361 : Int32) (σ361 : z_S) => ((kc + 0) + 0 ≤ 600000 ∧ (ks + 0) + 0 ≤ 7302250) ∧ z_ty σ361 v2 = some (.inl 8) ∧ kp_Mo_drop v2 σ361 (fun (r365 : Int32) (σ365 : z_S) => (r361 = r365 → X18 v1 v2 (v3 + (6 : Int32)) ((kc + 0) + 0) ((ks + 0) + 0) σ365) ∧ (¬ r361 = r365 → False)))) ∧ (¬ ((xs v3.toNatClampNeg) &&& ((31 : Int32))) = (8 : Int32) → (((xs v3.toNatClampNeg) &&& ((31 : Int32))) = (9 : Int32) → vp_in (v3 + ((1 : Int32))) L ∧ (vp_in (v3 + ((2 : Int32))) L ∧ ((kc + 0 ≤ 600000 ∧ ks + 0 ≤ 7302250) ∧ z_ty σ v1 = some (.inl 7) ∧ kp_Vr_difference v1 (xs (v3 + ((1 : Int32))).toNatClampNeg) (xs (v3 + ((2 : Int32))).toNatClampNeg) σ (fun (r384 : Int32) (σ384 : z_S) => vp_in (v3 + ((1 : Int32))) L ∧ (vp_in (v3 + ((2 : Int32))) L ∧ (((kc + 0) + 0 ≤ 600000 ∧ (ks + 0) + 0 ≤ 7302250) ∧ z_ty σ384 v2 = some (.inl 8) ∧ kp_Mo_difference v2 (xs (v3 + ((1 : Int32))).toNatClampNeg) (xs (v3 + ((2 : Int32))).toNatClampNeg) σ384 (fun (r398 : Int32) (σ398 : z_S) => (r384 = r398 → X18 v1 v2 (v3 + (6 : Int32)) ((kc + 0) + 0) ((ks + 0) + 0) σ398) ∧ (¬ r384 = r398 → False)))))))) ∧ (¬ ((xs v3.toNatClampNeg) &&& ((31 : Int32))) = (9 : Int32) → (((xs v3.toNatClampNeg) &&& ((31 : Int32))) = (10 : Int32) → (kc + 0 ≤ 600000 ∧ ks + 0 ≤ 7302250) ∧ z_ty σ v1 = some (.inl 7) ∧ kp_Vr_undo v1 σ (fun (r407 : Int32) (σ407 : z_S) => ((kc + 0) + 0 ≤ 600000 ∧ (ks + 0) + 0 ≤ 7302250) ∧ z_ty σ407 v2 = some (.inl 8) ∧ kp_Mo_undo v2 σ407 (fun (r411 : Int32) (σ411 : z_S) => (r407 = r411 → X18 v1 v2 (v3 + (6 : Int32)) ((kc + 0) + 0) ((ks + 0) + 0) σ411) ∧ (¬ r407 = r411 → False)))) ∧ (¬ ((xs v3.toNatClampNeg) &&& ((31 : Int32))) = (10 : Int32) → (((xs v3.toNatClampNeg) &&& ((31 : Int32))) = (11 : Int32) → vp_in (v3 + ((1 : Int32))) L ∧ (vp_in (v3 + ((2 : Int32))) L ∧ (vp_in (v3 + ((3 : Int32))) L ∧ (vp_in (v3 + ((4 : Int32))) L ∧ ((kc + 0 ≤ 600000 ∧ ks + 0 ≤ 7302250) ∧ z_ty σ v1 = some (.inl 7) ∧ kp_Vr_has v1 (xs (v3 + ((1 : Int32))).toNatClampNeg) (xs (v3 + ((2 : Int32))).toNatClampNeg) (xs (v3 + ((3 : Int32))).toNatClampNeg) (xs (v3 + ((4 : Int32))).toNatClampNeg) σ (fun (r440 : Int32) (σ440 : z_S) => vp_in (v3 + ((1 : Int32))) L ∧ (vp_in (v3 + ((2 : Int32))) L ∧ (vp_in (v3 + ((3 : Int32))) L ∧ (vp_in (v3 + ((4 : Int32))) L ∧ (((kc + 0) + 0 ≤ 600000 ∧ (ks + 0) + 0 ≤ 7302250) ∧ z_ty σ440 v2 = some (.inl 8) ∧ kp_Mo_has v2 (xs (v3 + ((1 : Int32))).toNatClampNeg) (xs (v3 + ((2 : Int32))).toNatClampNeg) (xs (v3 + ((3 : Int32))).toNatClampNeg) (xs (v3 + ((4 : Int32))).toNatClampNeg) σ440 (fun (r464 : Int32) (σ464 : z_S) => (r440 = r464 → X18 v1 v2 (v3 + (6 : Int32)) ((kc + 0) + 0) ((ks + 0) + 0) σ464) ∧ (¬ r440 = r464 → False)))))))))))) ∧ (¬ ((xs v3.toNatClampNeg) &&& ((31 : Int32))) = (11 : Int32) → (((xs v3.toNatClampNeg) &&& ((31 : Int32))) = (12 : Int32) → vp_in (v3 + ((1 : Int32))) L ∧ (vp_in (v3 + ((2 : Int32))) L ∧ (vp_in (v3 + ((3 : Int32))) L ∧ ((kc + 0 ≤ 600000 ∧ ks + 0 ≤ 7302250) ∧ z_ty σ v1 = some (.inl 7) ∧ kp_Vr_row v1 (xs (v3 + ((1 : Int32))).toNatClampNeg) (xs (v3 + ((2 : Int32))).toNatClampNeg) (xs (v3 + ((3 : Int32))).toNatClampNeg) σ (fun (r488 : Int32) (σ488 : z_S) => vp_in (v3 + ((1 : Int32))) L ∧ (vp_in (v3 + ((2 : Int32))) L ∧ (vp_in (v3 + ((3 : Int32))) L ∧ (((kc + 0) + 0 ≤ 600000 ∧ (ks + 0) + 0 ≤ 7302250) ∧ z_ty σ488 v2 = some (.inl 8) ∧ kp_Mo_row v2 (xs (v3 + ((1 : Int32))).toNatClampNeg) (xs (v3 + ((2 : Int32))).toNatClampNeg) (xs (v3 + ((3 : Int32))).toNatClampNeg) σ488 (fun (r507 : Int32) (σ507 : z_S) => (r488 = r507 → X18 v1 v2 (v3 + (6 : Int32)) ((kc + 0) + 0) ((ks + 0) + 0) σ507) ∧ (¬ r488 = r507 → False)))))))))) ∧ (¬ ((xs v3.toNatClampNeg) &&& ((31 : Int32))) = (12 : Int32) → (((xs v3.toNatClampNeg) &&& ((31 : Int32))) = (13 : Int32) → vp_in (v3 + ((1 : Int32))) L ∧ (vp_in (v3 + ((2 : Int32))) L ∧ (vp_in (v3 + ((3 : Int32))) L ∧ (vp_in (v3 + ((4 : Int32))) L ∧ ((kc + 0 ≤ 600000 ∧ ks + 0 ≤ 7302250) ∧ z_ty σ v1 = some (.inl 7) ∧ kp_Vr_derivations v1 (xs (v3 + ((1 : Int32))).toNatClampNeg) (xs (v3 + ((2 : Int32))).toNatClampNeg) (xs (v3 + ((3 : Int32))).toNatClampNeg) (xs (v3 + ((4 : Int32))).toNatClampNeg) σ (fun (r536 : Int32) (σ536 : z_S) => vp_in (v3 + ((1 : Int32))) L ∧ (vp_in (v3 + ((2 : Int32))) L ∧ (vp_in (v3 + ((3 : Int32))) L ∧ (vp_in (v3 + ((4 : Int32))) L ∧ (((kc + 0) + 0 ≤ 600000 ∧ (ks + 0) + 0 ≤ 7302250) ∧ z_ty σ536 v2 = some (.inl 8) ∧ kp_Mo_derivations v2 (xs (v3 + ((1 : Int32))).toNatClampNeg) (xs (v3 + ((2 : Int32))).toNatClampNeg) (xs (v3 + ((3 : Int32))).toNatClampNeg) (xs (v3 + ((4 : Int32))).toNatClampNeg) σ536 (fun (r560 : Int32) (σ560 : z_S) => (r536 = r560 → X18 v1 v2 (v3 + (6 : Int32)) ((kc + 0) + 0) ((ks + 0) + 0) σ560) ∧ (¬ r536 = r560 → False)))))))))))) ∧ (¬ ((xs v3.toNatClampNeg) &&& ((31 : Int32))) = (13 : Int32) → (((xs v3.toNatClampNeg) &&& ((31 : Int32))) = (14 : Int32) → vp_in (v3 + ((1 : Int32))) L ∧ (vp_in (v3 + ((2 : Int32))) L ∧ (vp_in (v3 + ((3 : Int32))) L ∧ (vp_in (v3 + ((4 : Int32))) L ∧ (vp_in (v3 + ((5 : Int32))) L ∧ ((kc + 0 ≤ 600000 ∧ ks + 0 ≤ 7302250) ∧ z_ty σ v1 = some (.inl 7) ∧ kp_Vr_why v1 (xs (v3 + ((1 : Int32))).toNatClampNeg) (xs (v3 + ((2 : Int32))).toNatClampNeg) (xs (v3 + ((3 : Int32))).toNatClampNeg) (xs (v3 + ((4 : Int32))).toNatClampNeg) (xs (v3 + ((5 : Int32))).toNatClampNeg) σ (fun (r594 : Int32) (σ594 : z_S) => vp_in (v3 + ((1 : Int32))) L ∧ (vp_in (v3 + ((2 : Int32))) L ∧ (vp_in (v3 + ((3 : Int32))) L ∧ (vp_in (v3 + ((4 : Int32))) L ∧ (vp_in (v3 + ((5 : Int32))) L ∧ (((kc + 0) + 0 ≤ 600000 ∧ (ks + 0) + 0 ≤ 7302250) ∧ z_ty σ594 v2 = some (.inl 8) ∧ kp_Mo_why v2 (xs (v3 + ((1 : Int32))).toNatClampNeg) (xs (v3 + ((2 : Int32))).toNatClampNeg) (xs (v3 + ((3 : Int32))).toNatClampNeg) (xs (v3 + ((4 : Int32))).toNatClampNeg) (xs (v3 + ((5 : Int32))).toNatClampNeg) σ594 (fun (r623 : Int32) (σ623 : z_S) => (r594 = r623 → X18 v1 v2 (v3 + (6 : Int32)) ((kc + 0) + 0) ((ks + 0) + 0) σ623) ∧ (¬ r594 = r623 → False)))))))))))))) ∧ (¬ ((xs v3.toNatClampNeg) &&& ((31 : Int32))) = (14 : Int32) → (((xs v3.toNatClampNeg) &&& ((31 : Int32))) = (15 : Int32) → (kc + 0 ≤ 600000 ∧ ks + 0 ≤ 7302250) ∧ z_ty σ v1 = some (.inl 7) ∧ kp_Vr_anew v1 σ (fun (r632 : Int32) (σ632 : z_S) => ((kc + 0) + 0 ≤ 600000 ∧ (ks + 0) + 0 ≤ 7302250) ∧ z_ty σ632 v2 = some (.inl 8) ∧ kp_Mo_anew v2 σ632 (fun (r636 : Int32) (σ636 : z_S) => (r632 = r636 → X18 v1 v2 (v3 + (6 : Int32)) ((kc + 0) + 0) ((ks + 0) + 0) σ636) ∧ (¬ r632 = r636 → False)))) ∧ (¬ ((xs v3.toNatClampNeg) &&& ((31 : Int32))) = (15 : Int32) → (((xs v3.toNatClampNeg) &&& ((31 : Int32))) = (16 : Int32) → vp_in (v3 + ((1 : Int32))) L ∧ ((kc + 0 ≤ 600000 ∧ ks + 0 ≤ 7302250) ∧ z_ty σ v1 = some (.inl 7) ∧ kp_Vr_told v1 (xs (v3 + ((1 : Int32))).toNatClampNeg) σ (fun (r650 : Int32) (σ650 : z_S) => vp_in (v3 + ((1 : Int32))) L ∧ (((kc + 0) + 0 ≤ 600000 ∧ (ks + 0) + 0 ≤ 7302250) ∧ z_ty σ650 v2 = some (.inl 8) ∧ kp_Mo_told v2 (xs (v3 + ((1 : Int32))).toNatClampNeg) σ650 (fun (r659 : Int32) (σ659 : z_S) => (r650 = r659 → X18 v1 v2 (v3 + (6 : Int32)) ((kc + 0) + 0) ((ks + 0) + 0) σ659) ∧ (¬ r650 = r659 → False)))))) ∧ (¬ ((xs v3.toNatClampNeg) &&& ((31 : Int32))) = (16 : Int32) → X18 v1 v2 (v3 + (6 : Int32)) kc ks σ)))))))))))))))))))) → X18 v1 v2 v3 kc ks σ) →
    ((0 + 1 ≤ 600000 ∧ 0 + 13 ≤ 7302250) ∧ ∀ q0, z_ty σ q0 = none → ∀ σ0, σ0 = z_new σ q0 7 → ((0 + 1) + 200 ≤ 600000 ∧ (0 + 13) + 30000 ≤ 7302250) ∧ kp_Vr_init q0 σ0 (fun (σ4 : z_S) => (((0 + 1) + 200) + 1 ≤ 600000 ∧ ((0 + 13) + 30000) + 51 ≤ 7302250) ∧ ∀ q8, z_ty σ4 q8 = none → ∀ σ8, σ8 = z_new σ4 q8 8 → ((((0 + 1) + 200) + 1) + 35 ≤ 600000 ∧ (((0 + 13) + 30000) + 51) + 11043 ≤ 7302250) ∧ kp_Mo_init q8 σ8 (fun (σ12 : z_S) => X18 q0 q8 ((0 : Int32)) ((((0 + 1) + 200) + 1) + 35) ((((0 + 13) + 30000) + 51) + 11043) σ12)))
def z_E : z_S := (fun _ => none, fun _ _ => 0, fun _ _ => none, fun _ _ _ => 0, fun _ _ _ => none)
set_option maxHeartbeats 8000000 in
set_option maxRecDepth 100000 in
theorem z_law {p : Program} {e : Env} {s : State} {m : MethodId} {below : List Frame} {meth : Method} {c : Code} (l : Launch) {b L : Nat} {xs : Nat → Int32} (C0 : lw_At p s m meth c b L xs) (hw : kp_La_law L xs z_E) : W p l e room_1 s m #[Value.ref b] below meth c s.heap [] 0 0 (lw_Z below #[Value.ref b] s) (entryFrame m ([Value.ref b] : List Value).toArray 4) := by
  obtain ⟨hx, hb, hr, hml, hown, hts0, hX, hbl, hlocks, hgv⟩ := C0
  have hown : s.vm.findClass kR_La = some m.cls := hown
  obtain ⟨D, dA, hK⟩ := z_K0 hts0
  have hN := z_nw_of hts0
  have hts : ∀ w ∈ (Cond.initialized "ViewRoundsLaw" :: z_W), w.before #[Value.ref b] s = true := by
    intro w h
    rcases List.mem_cons.mp h with rfl | h
    · exact hts0 _ (z_Wtbl _ kw_0)
    · exact hts0 _ (z_Wtbl _ h)
  have hZ : s.heap.size ≤ s.heap.size := Nat.le_refl _
  have hbA : ¬ (fun q : Nat => s.heap.size ≤ q) b := Nat.not_le.mpr hbl
  have hG : z_G D z_cl z_KT dA s.heap.size z_E s.heap := fun a t h => by cases h
  have hS : va_S (fun q => s.heap.size ≤ q) s.heap s.heap [] := va_S.rf
  obtain ⟨σ, eσ⟩ : ∃ z, z = z_E := ⟨_, rfl⟩
  rw [← eσ] at hG hw
  have hl := lv_entry ([.ref b]) (n := 4) (Nat.le_of_ble_eq_true rfl)
  rw [lg_entry_eq]
  generalize (lg_sl ([.ref b]) ++ List.replicate (4 - (lg_sl ([.ref b])).length) Slot.unset).toArray = ls at hl ⊢
  have hl : lv_has ls 4 [(0, .ref b)] := hl
  unfold kp_La_law at hw
  have hw := hw (fun (v1 : Nat) (v2 : Nat) (v3 : Int32) (kc : Nat) (ks : Nat) (σ : z_S) => ∀ (H : Heap) (locs : List Loc) (ls : Array Slot), kc ≤ 600000 → ks ≤ 7302250 → z_G D z_cl z_KT dA s.heap.size σ H → va_S (fun q => s.heap.size ≤ q) s.heap H locs → lv_has ls 4 [(0, .ref b), (1, .ref v1), (2, .ref v2), (3, .int v3)] → W p l e room_1 s m #[Value.ref b] below meth c H locs kc ks (lw_Z below #[Value.ref b] s) (F0 m 18 ls []))
  have hw := hw (by
    intro v1 v2 v3 kc ks σ hw H locs ls hkc hks hG hS hl
    refine lv_iload_n hx hb kb_La_law_18 rfl (lv_at hl 3 rfl) ?_
    refine lv_aload_n hx hb kb_La_law_19 rfl (lv_at hl 0 rfl) ?_
    refine va_slen hx hb hX hbl hbA hS kb_La_law_20 ?_
    refine lv_topi (fun n20 en20 => ?_)
    replace en20 : n20 = nI L := en20
    subst en20
    refine lv_bipush (v := (6 : Int32)) hx hb kb_La_law_21 (by decide) ?_
    refine lv_isub hx hb kb_La_law_23 ?_
    refine lv_icmp_gt (tgt := 673) hx hb kb_La_law_24 (by decide) (fun hc => ?_) (fun hc => ?_)
    · have hw := hw.1 hc
      refine lv_iconst (v := (1 : Int32)) hx hb kb_La_law_673 (by decide) ?_
      refine va_forget (fun q hq => hS.2.2 q hq) ?_
      refine W.widen (k := 600000) (n := 7302250) hkc hks ?_
      exact lw_ret hx hb hr hlocks kb_La_law_674
    · have hw := hw.2 hc
      refine lv_aload_n hx hb kb_La_law_27 rfl (lv_at hl 0 rfl) ?_
      refine lv_iload_n hx hb kb_La_law_28 rfl (lv_at hl 3 rfl) ?_
      obtain ⟨hi, hw⟩ := hw
      refine va_sld hx hb hX hbl hbA hS hi kb_La_law_29 ?_
      refine lv_bipush (v := (31 : Int32)) hx hb kb_La_law_30 (by decide) ?_
      refine lv_iand hx hb kb_La_law_32 ?_
      rcases Decidable.em (((xs v3.toNatClampNeg) &&& ((31 : Int32))) = (0 : Int32)) with hc | hn0
      · have hw := hw.1 hc
        refine lv_tableIn (off := 83) (tgt := 116) hx hb kb_La_law_33 (by rw [hc]; decide) (by rw [hc]; decide) (by rw [hc]; rfl) (by decide) ?_
        refine lv_aload_n hx hb kb_La_law_116 rfl (lv_at hl 1 rfl) ?_
        refine lv_aload_n hx hb kb_La_law_117 rfl (lv_at hl 0 rfl) ?_
        refine lv_iload_n hx hb kb_La_law_118 rfl (lv_at hl 3 rfl) ?_
        refine lv_iconst (v := (1 : Int32)) hx hb kb_La_law_119 (by decide) ?_
        refine lv_iadd hx hb kb_La_law_120 ?_
        obtain ⟨hi, hw⟩ := hw
        refine va_sld hx hb hX hbl hbA hS hi kb_La_law_121 ?_
        refine lv_i2l hx hb kb_La_law_122 rfl ?_
        refine lv_bipush (v := (32 : Int32)) hx hb kb_La_law_123 (by decide) ?_
        refine lv_lshl hx hb kb_La_law_125 rfl ?_
        refine lv_aload_n hx hb kb_La_law_126 rfl (lv_at hl 0 rfl) ?_
        refine lv_iload_n hx hb kb_La_law_127 rfl (lv_at hl 3 rfl) ?_
        refine lv_iconst (v := (2 : Int32)) hx hb kb_La_law_128 (by decide) ?_
        refine lv_iadd hx hb kb_La_law_129 ?_
        obtain ⟨hi, hw⟩ := hw
        refine va_sld hx hb hX hbl hbA hS hi kb_La_law_130 ?_
        refine lv_i2l hx hb kb_La_law_131 rfl ?_
        refine lv_ldc2 (v := (4294967295 : Int64)) hx hb hown (hts _ (List.mem_cons_of_mem _ kw_908)) kb_La_law_132 ?_
        refine lv_land hx hb kb_La_law_135 ?_
        refine lv_lor hx hb kb_La_law_136 ?_
        refine lv_aload_n hx hb kb_La_law_137 rfl (lv_at hl 0 rfl) ?_
        refine lv_iload_n hx hb kb_La_law_138 rfl (lv_at hl 3 rfl) ?_
        refine lv_iconst (v := (3 : Int32)) hx hb kb_La_law_139 (by decide) ?_
        refine lv_iadd hx hb kb_La_law_140 ?_
        obtain ⟨hi, hw⟩ := hw
        refine va_sld hx hb hX hbl hbA hS hi kb_La_law_141 ?_
        obtain ⟨k5, hw⟩ := hw
        obtain ⟨hy, hw⟩ := hw
        refine zr_ci (va_runV (C := kR_Vr) (As := [.long ((((xs (v3 + ((1 : Int32))).toNatClampNeg).toInt64) <<< (((32 : Int32)).toInt64 &&& 63)) ||| (((xs (v3 + ((2 : Int32))).toNatClampNeg).toInt64) &&& ((4294967295 : Int64)))), .int (xs (v3 + ((3 : Int32))).toNatClampNeg)]) (rest := []) ⟨hx, hb, hml, hown, hts⟩ (kc_Vr_feed l D dA s.heap.size v1 ((((xs (v3 + ((1 : Int32))).toNatClampNeg).toInt64) <<< (((32 : Int32)).toInt64 &&& 63)) ||| (((xs (v3 + ((2 : Int32))).toNatClampNeg).toInt64) &&& ((4294967295 : Int64)))) (xs (v3 + ((3 : Int32))).toNatClampNeg) σ _) ⟨callB_of 2 hts (z_gw kw_224) rfl rfl rfl (hts _ (List.mem_cons_of_mem _ kw_1)) (hts _ (List.mem_cons_of_mem _ kw_221)) (by decide +kernel) ⟨Nat.le_of_ble_eq_true rfl, Nat.le_of_ble_eq_true rfl⟩, (hts _ (List.mem_cons_of_mem _ kw_222)), (hts _ (List.mem_cons_of_mem _ kw_223))⟩ (z_preV z_nwN (Nat.le_trans hZ hS.1) hG hK hN hy (ci := 7) (r := (kR_Vr, kT_Vr, 13)) rfl hw) rfl rfl hl.1 rfl (lv_room (Nat.le_of_ble_eq_true rfl)) kb_La_law_142 k5) hS (fun r142 σ142 H locs hw hG hS => ?_)
        refine lv_aload_n hx hb kb_La_law_145 rfl (lv_at hl 2 rfl) ?_
        refine lv_aload_n hx hb kb_La_law_146 rfl (lv_at hl 0 rfl) ?_
        refine lv_iload_n hx hb kb_La_law_147 rfl (lv_at hl 3 rfl) ?_
        refine lv_iconst (v := (1 : Int32)) hx hb kb_La_law_148 (by decide) ?_
        refine lv_iadd hx hb kb_La_law_149 ?_
        obtain ⟨hi, hw⟩ := hw
        refine va_sld hx hb hX hbl hbA hS hi kb_La_law_150 ?_
        refine lv_i2l hx hb kb_La_law_151 rfl ?_
        refine lv_bipush (v := (32 : Int32)) hx hb kb_La_law_152 (by decide) ?_
        refine lv_lshl hx hb kb_La_law_154 rfl ?_
        refine lv_aload_n hx hb kb_La_law_155 rfl (lv_at hl 0 rfl) ?_
        refine lv_iload_n hx hb kb_La_law_156 rfl (lv_at hl 3 rfl) ?_
        refine lv_iconst (v := (2 : Int32)) hx hb kb_La_law_157 (by decide) ?_
        refine lv_iadd hx hb kb_La_law_158 ?_
        obtain ⟨hi, hw⟩ := hw
        refine va_sld hx hb hX hbl hbA hS hi kb_La_law_159 ?_
        refine lv_i2l hx hb kb_La_law_160 rfl ?_
        refine lv_ldc2 (v := (4294967295 : Int64)) hx hb hown (hts _ (List.mem_cons_of_mem _ kw_908)) kb_La_law_161 ?_
        refine lv_land hx hb kb_La_law_164 ?_
        refine lv_lor hx hb kb_La_law_165 ?_
        refine lv_aload_n hx hb kb_La_law_166 rfl (lv_at hl 0 rfl) ?_
        refine lv_iload_n hx hb kb_La_law_167 rfl (lv_at hl 3 rfl) ?_
        refine lv_iconst (v := (3 : Int32)) hx hb kb_La_law_168 (by decide) ?_
        refine lv_iadd hx hb kb_La_law_169 ?_
        obtain ⟨hi, hw⟩ := hw
        refine va_sld hx hb hX hbl hbA hS hi kb_La_law_170 ?_
        obtain ⟨k6, hw⟩ := hw
        obtain ⟨hy, hw⟩ := hw
        refine zr_ci (va_runV (C := kR_Mo) (As := [.long ((((xs (v3 + ((1 : Int32))).toNatClampNeg).toInt64) <<< (((32 : Int32)).toInt64 &&& 63)) ||| (((xs (v3 + ((2 : Int32))).toNatClampNeg).toInt64) &&& ((4294967295 : Int64)))), .int (xs (v3 + ((3 : Int32))).toNatClampNeg)]) (rest := [.int r142]) ⟨hx, hb, hml, hown, hts⟩ (kc_Mo_feed l D dA s.heap.size v2 ((((xs (v3 + ((1 : Int32))).toNatClampNeg).toInt64) <<< (((32 : Int32)).toInt64 &&& 63)) ||| (((xs (v3 + ((2 : Int32))).toNatClampNeg).toInt64) &&& ((4294967295 : Int64)))) (xs (v3 + ((3 : Int32))).toNatClampNeg) σ142 _) ⟨callB_of 2 hts (z_gw kw_690) rfl rfl rfl (hts _ (List.mem_cons_of_mem _ kw_9)) (hts _ (List.mem_cons_of_mem _ kw_687)) (by decide +kernel) ⟨Nat.le_of_ble_eq_true rfl, Nat.le_of_ble_eq_true rfl⟩, (hts _ (List.mem_cons_of_mem _ kw_688)), (hts _ (List.mem_cons_of_mem _ kw_689))⟩ (z_preV z_nwN (Nat.le_trans hZ hS.1) hG hK hN hy (ci := 8) (r := (kR_Mo, kT_Mo, 51)) rfl hw) rfl rfl hl.1 rfl (lv_room (Nat.le_of_ble_eq_true rfl)) kb_La_law_171 k6) hS (fun r171 σ171 H locs hw hG hS => ?_)
        refine lv_icmp_eq (tgt := 667) hx hb kb_La_law_174 (by decide) (fun hc => ?_) (fun hc => ?_)
        · have hw := hw.1 hc
          refine lv_iinc (v := v3 + (6 : Int32)) (lv' := [(3, .int (v3 + (6 : Int32))), (0, .ref b), (1, .ref v1), (2, .ref v2)]) hx hb kb_La_law_667 hl (k := 3) rfl rfl (by decide) rfl (fun ls hl => ?_)
          refine lv_goto (tgt := 18) hx hb kb_La_law_670 (by decide) ?_
          exact hw _ _ _ k6.1 k6.2 hG hS (lv_sub hl [1, 2, 3, 0] rfl)
        · have hw := hw.2 hc
          refine lv_iconst (v := (0 : Int32)) hx hb kb_La_law_177 (by decide) ?_
          exact hw.elim
      · have hw := hw.2 hn0
        rcases Decidable.em (((xs v3.toNatClampNeg) &&& ((31 : Int32))) = (1 : Int32)) with hc | hn1
        · have hw := hw.1 hc
          refine lv_tableIn (off := 146) (tgt := 179) hx hb kb_La_law_33 (by rw [hc]; decide) (by rw [hc]; decide) (by rw [hc]; rfl) (by decide) ?_
          refine lv_aload_n hx hb kb_La_law_179 rfl (lv_at hl 1 rfl) ?_
          obtain ⟨k7, hw⟩ := hw
          obtain ⟨hy, hw⟩ := hw
          refine zr_ci (va_runV (C := kR_Vr) (As := []) (rest := []) ⟨hx, hb, hml, hown, hts⟩ (kc_Vr_parse l D dA s.heap.size v1 σ _) ⟨callB_of 0 hts (z_gw kw_228) rfl rfl rfl (hts _ (List.mem_cons_of_mem _ kw_1)) (hts _ (List.mem_cons_of_mem _ kw_225)) (by decide +kernel) ⟨Nat.le_of_ble_eq_true rfl, Nat.le_of_ble_eq_true rfl⟩, (hts _ (List.mem_cons_of_mem _ kw_226)), (hts _ (List.mem_cons_of_mem _ kw_227))⟩ (z_preV z_nwN (Nat.le_trans hZ hS.1) hG hK hN hy (ci := 7) (r := (kR_Vr, kT_Vr, 13)) rfl hw) rfl rfl hl.1 rfl (lv_room (Nat.le_of_ble_eq_true rfl)) kb_La_law_180 k7) hS (fun r180 σ180 H locs hw hG hS => ?_)
          refine lv_aload_n hx hb kb_La_law_183 rfl (lv_at hl 2 rfl) ?_
          obtain ⟨k8, hw⟩ := hw
          obtain ⟨hy, hw⟩ := hw
          refine zr_ci (va_runV (C := kR_Mo) (As := []) (rest := [.int r180]) ⟨hx, hb, hml, hown, hts⟩ (kc_Mo_parse l D dA s.heap.size v2 σ180 _) ⟨callB_of 0 hts (z_gw kw_697) rfl rfl rfl (hts _ (List.mem_cons_of_mem _ kw_9)) (hts _ (List.mem_cons_of_mem _ kw_694)) (by decide +kernel) ⟨Nat.le_of_ble_eq_true rfl, Nat.le_of_ble_eq_true rfl⟩, (hts _ (List.mem_cons_of_mem _ kw_695)), (hts _ (List.mem_cons_of_mem _ kw_696))⟩ (z_preV z_nwN (Nat.le_trans hZ hS.1) hG hK hN hy (ci := 8) (r := (kR_Mo, kT_Mo, 51)) rfl hw) rfl rfl hl.1 rfl (lv_room (Nat.le_of_ble_eq_true rfl)) kb_La_law_184 k8) hS (fun r184 σ184 H locs hw hG hS => ?_)
          refine lv_icmp_eq (tgt := 667) hx hb kb_La_law_187 (by decide) (fun hc => ?_) (fun hc => ?_)
          · have hw := hw.1 hc
            refine lv_iinc (v := v3 + (6 : Int32)) (lv' := [(3, .int (v3 + (6 : Int32))), (0, .ref b), (1, .ref v1), (2, .ref v2)]) hx hb kb_La_law_667 hl (k := 3) rfl rfl (by decide) rfl (fun ls hl => ?_)
            refine lv_goto (tgt := 18) hx hb kb_La_law_670 (by decide) ?_
            exact hw _ _ _ k8.1 k8.2 hG hS (lv_sub hl [1, 2, 3, 0] rfl)
          · have hw := hw.2 hc
            refine lv_iconst (v := (0 : Int32)) hx hb kb_La_law_190 (by decide) ?_
            exact hw.elim
        · have hw := hw.2 hn1
          rcases Decidable.em (((xs v3.toNatClampNeg) &&& ((31 : Int32))) = (2 : Int32)) with hc | hn2
          · have hw := hw.1 hc
            refine lv_tableIn (off := 159) (tgt := 192) hx hb kb_La_law_33 (by rw [hc]; decide) (by rw [hc]; decide) (by rw [hc]; rfl) (by decide) ?_
            refine lv_aload_n hx hb kb_La_law_192 rfl (lv_at hl 1 rfl) ?_
            obtain ⟨k9, hw⟩ := hw
            obtain ⟨hy, hw⟩ := hw
            refine zr_ci (va_runV (C := kR_Vr) (As := []) (rest := []) ⟨hx, hb, hml, hown, hts⟩ (kc_Vr_place l D dA s.heap.size v1 σ _) ⟨callB_of 0 hts (z_gw kw_463) rfl rfl rfl (hts _ (List.mem_cons_of_mem _ kw_1)) (hts _ (List.mem_cons_of_mem _ kw_460)) (by decide +kernel) ⟨Nat.le_of_ble_eq_true rfl, Nat.le_of_ble_eq_true rfl⟩, (hts _ (List.mem_cons_of_mem _ kw_461)), (hts _ (List.mem_cons_of_mem _ kw_462))⟩ (z_preV z_nwN (Nat.le_trans hZ hS.1) hG hK hN hy (ci := 7) (r := (kR_Vr, kT_Vr, 13)) rfl hw) rfl rfl hl.1 rfl (lv_room (Nat.le_of_ble_eq_true rfl)) kb_La_law_193 k9) hS (fun r193 σ193 H locs hw hG hS => ?_)
            refine lv_aload_n hx hb kb_La_law_196 rfl (lv_at hl 2 rfl) ?_
            obtain ⟨k10, hw⟩ := hw
            obtain ⟨hy, hw⟩ := hw
            refine zr_ci (va_runV (C := kR_Mo) (As := []) (rest := [.int r193]) ⟨hx, hb, hml, hown, hts⟩ (kc_Mo_place l D dA s.heap.size v2 σ193 _) ⟨callB_of 0 hts (z_gw kw_809) rfl rfl rfl (hts _ (List.mem_cons_of_mem _ kw_9)) (hts _ (List.mem_cons_of_mem _ kw_806)) (by decide +kernel) ⟨Nat.le_of_ble_eq_true rfl, Nat.le_of_ble_eq_true rfl⟩, (hts _ (List.mem_cons_of_mem _ kw_807)), (hts _ (List.mem_cons_of_mem _ kw_808))⟩ (z_preV z_nwN (Nat.le_trans hZ hS.1) hG hK hN hy (ci := 8) (r := (kR_Mo, kT_Mo, 51)) rfl hw) rfl rfl hl.1 rfl (lv_room (Nat.le_of_ble_eq_true rfl)) kb_La_law_197 k10) hS (fun r197 σ197 H locs hw hG hS => ?_)
            refine lv_icmp_eq (tgt := 667) hx hb kb_La_law_200 (by decide) (fun hc => ?_) (fun hc => ?_)
            · have hw := hw.1 hc
              refine lv_iinc (v := v3 + (6 : Int32)) (lv' := [(3, .int (v3 + (6 : Int32))), (0, .ref b), (1, .ref v1), (2, .ref v2)]) hx hb kb_La_law_667 hl (k := 3) rfl rfl (by decide) rfl (fun ls hl => ?_)
              refine lv_goto (tgt := 18) hx hb kb_La_law_670 (by decide) ?_
              exact hw _ _ _ k10.1 k10.2 hG hS (lv_sub hl [1, 2, 3, 0] rfl)
            · have hw := hw.2 hc
              refine lv_iconst (v := (0 : Int32)) hx hb kb_La_law_203 (by decide) ?_
              exact hw.elim
          · have hw := hw.2 hn2
            rcases Decidable.em (((xs v3.toNatClampNeg) &&& ((31 : Int32))) = (3 : Int32)) with hc | hn3
            · have hw := hw.1 hc
              refine lv_tableIn (off := 172) (tgt := 205) hx hb kb_La_law_33 (by rw [hc]; decide) (by rw [hc]; decide) (by rw [hc]; rfl) (by decide) ?_
              refine lv_aload_n hx hb kb_La_law_205 rfl (lv_at hl 1 rfl) ?_
              refine lv_aload_n hx hb kb_La_law_206 rfl (lv_at hl 0 rfl) ?_
              refine lv_iload_n hx hb kb_La_law_207 rfl (lv_at hl 3 rfl) ?_
              refine lv_iconst (v := (1 : Int32)) hx hb kb_La_law_208 (by decide) ?_
              refine lv_iadd hx hb kb_La_law_209 ?_
              obtain ⟨hi, hw⟩ := hw
              refine va_sld hx hb hX hbl hbA hS hi kb_La_law_210 ?_
              obtain ⟨k11, hw⟩ := hw
              obtain ⟨hy, hw⟩ := hw
              refine zr_ci (va_runV (C := kR_Vr) (As := [.int (xs (v3 + ((1 : Int32))).toNatClampNeg)]) (rest := []) ⟨hx, hb, hml, hown, hts⟩ (kc_Vr_ring l D dA s.heap.size v1 (xs (v3 + ((1 : Int32))).toNatClampNeg) σ _) ⟨callB_of 1 hts (z_gw kw_467) rfl rfl rfl (hts _ (List.mem_cons_of_mem _ kw_1)) (hts _ (List.mem_cons_of_mem _ kw_464)) (by decide +kernel) ⟨Nat.le_of_ble_eq_true rfl, Nat.le_of_ble_eq_true rfl⟩, (hts _ (List.mem_cons_of_mem _ kw_465)), (hts _ (List.mem_cons_of_mem _ kw_466))⟩ (z_preV z_nwN (Nat.le_trans hZ hS.1) hG hK hN hy (ci := 7) (r := (kR_Vr, kT_Vr, 13)) rfl hw) rfl rfl hl.1 rfl (lv_room (Nat.le_of_ble_eq_true rfl)) kb_La_law_211 k11) hS (fun r211 σ211 H locs hw hG hS => ?_)
              refine lv_aload_n hx hb kb_La_law_214 rfl (lv_at hl 2 rfl) ?_
              refine lv_aload_n hx hb kb_La_law_215 rfl (lv_at hl 0 rfl) ?_
              refine lv_iload_n hx hb kb_La_law_216 rfl (lv_at hl 3 rfl) ?_
              refine lv_iconst (v := (1 : Int32)) hx hb kb_La_law_217 (by decide) ?_
              refine lv_iadd hx hb kb_La_law_218 ?_
              obtain ⟨hi, hw⟩ := hw
              refine va_sld hx hb hX hbl hbA hS hi kb_La_law_219 ?_
              obtain ⟨k12, hw⟩ := hw
              obtain ⟨hy, hw⟩ := hw
              refine zr_ci (va_runV (C := kR_Mo) (As := [.int (xs (v3 + ((1 : Int32))).toNatClampNeg)]) (rest := [.int r211]) ⟨hx, hb, hml, hown, hts⟩ (kc_Mo_ring l D dA s.heap.size v2 (xs (v3 + ((1 : Int32))).toNatClampNeg) σ211 _) ⟨callB_of 1 hts (z_gw kw_813) rfl rfl rfl (hts _ (List.mem_cons_of_mem _ kw_9)) (hts _ (List.mem_cons_of_mem _ kw_810)) (by decide +kernel) ⟨Nat.le_of_ble_eq_true rfl, Nat.le_of_ble_eq_true rfl⟩, (hts _ (List.mem_cons_of_mem _ kw_811)), (hts _ (List.mem_cons_of_mem _ kw_812))⟩ (z_preV z_nwN (Nat.le_trans hZ hS.1) hG hK hN hy (ci := 8) (r := (kR_Mo, kT_Mo, 51)) rfl hw) rfl rfl hl.1 rfl (lv_room (Nat.le_of_ble_eq_true rfl)) kb_La_law_220 k12) hS (fun r220 σ220 H locs hw hG hS => ?_)
              refine lv_icmp_eq (tgt := 667) hx hb kb_La_law_223 (by decide) (fun hc => ?_) (fun hc => ?_)
              · have hw := hw.1 hc
                refine lv_iinc (v := v3 + (6 : Int32)) (lv' := [(3, .int (v3 + (6 : Int32))), (0, .ref b), (1, .ref v1), (2, .ref v2)]) hx hb kb_La_law_667 hl (k := 3) rfl rfl (by decide) rfl (fun ls hl => ?_)
                refine lv_goto (tgt := 18) hx hb kb_La_law_670 (by decide) ?_
                exact hw _ _ _ k12.1 k12.2 hG hS (lv_sub hl [1, 2, 3, 0] rfl)
              · have hw := hw.2 hc
                refine lv_iconst (v := (0 : Int32)) hx hb kb_La_law_226 (by decide) ?_
                exact hw.elim
            · have hw := hw.2 hn3
              rcases Decidable.em (((xs v3.toNatClampNeg) &&& ((31 : Int32))) = (4 : Int32)) with hc | hn4
              · have hw := hw.1 hc
                refine lv_tableIn (off := 195) (tgt := 228) hx hb kb_La_law_33 (by rw [hc]; decide) (by rw [hc]; decide) (by rw [hc]; rfl) (by decide) ?_
                refine lv_aload_n hx hb kb_La_law_228 rfl (lv_at hl 1 rfl) ?_
                refine lv_aload_n hx hb kb_La_law_229 rfl (lv_at hl 0 rfl) ?_
                refine lv_iload_n hx hb kb_La_law_230 rfl (lv_at hl 3 rfl) ?_
                refine lv_iconst (v := (1 : Int32)) hx hb kb_La_law_231 (by decide) ?_
                refine lv_iadd hx hb kb_La_law_232 ?_
                obtain ⟨hi, hw⟩ := hw
                refine va_sld hx hb hX hbl hbA hS hi kb_La_law_233 ?_
                obtain ⟨k13, hw⟩ := hw
                obtain ⟨hy, hw⟩ := hw
                refine zr_ci (va_runV (C := kR_Vr) (As := [.int (xs (v3 + ((1 : Int32))).toNatClampNeg)]) (rest := []) ⟨hx, hb, hml, hown, hts⟩ (kc_Vr_relation l D dA s.heap.size v1 (xs (v3 + ((1 : Int32))).toNatClampNeg) σ _) ⟨callB_of 1 hts (z_gw kw_471) rfl rfl rfl (hts _ (List.mem_cons_of_mem _ kw_1)) (hts _ (List.mem_cons_of_mem _ kw_468)) (by decide +kernel) ⟨Nat.le_of_ble_eq_true rfl, Nat.le_of_ble_eq_true rfl⟩, (hts _ (List.mem_cons_of_mem _ kw_469)), (hts _ (List.mem_cons_of_mem _ kw_470))⟩ (z_preV z_nwN (Nat.le_trans hZ hS.1) hG hK hN hy (ci := 7) (r := (kR_Vr, kT_Vr, 13)) rfl hw) rfl rfl hl.1 rfl (lv_room (Nat.le_of_ble_eq_true rfl)) kb_La_law_234 k13) hS (fun r234 σ234 H locs hw hG hS => ?_)
                refine lv_aload_n hx hb kb_La_law_237 rfl (lv_at hl 2 rfl) ?_
                refine lv_aload_n hx hb kb_La_law_238 rfl (lv_at hl 0 rfl) ?_
                refine lv_iload_n hx hb kb_La_law_239 rfl (lv_at hl 3 rfl) ?_
                refine lv_iconst (v := (1 : Int32)) hx hb kb_La_law_240 (by decide) ?_
                refine lv_iadd hx hb kb_La_law_241 ?_
                obtain ⟨hi, hw⟩ := hw
                refine va_sld hx hb hX hbl hbA hS hi kb_La_law_242 ?_
                obtain ⟨k14, hw⟩ := hw
                obtain ⟨hy, hw⟩ := hw
                refine zr_ci (va_runV (C := kR_Mo) (As := [.int (xs (v3 + ((1 : Int32))).toNatClampNeg)]) (rest := [.int r234]) ⟨hx, hb, hml, hown, hts⟩ (kc_Mo_relation l D dA s.heap.size v2 (xs (v3 + ((1 : Int32))).toNatClampNeg) σ234 _) ⟨callB_of 1 hts (z_gw kw_817) rfl rfl rfl (hts _ (List.mem_cons_of_mem _ kw_9)) (hts _ (List.mem_cons_of_mem _ kw_814)) (by decide +kernel) ⟨Nat.le_of_ble_eq_true rfl, Nat.le_of_ble_eq_true rfl⟩, (hts _ (List.mem_cons_of_mem _ kw_815)), (hts _ (List.mem_cons_of_mem _ kw_816))⟩ (z_preV z_nwN (Nat.le_trans hZ hS.1) hG hK hN hy (ci := 8) (r := (kR_Mo, kT_Mo, 51)) rfl hw) rfl rfl hl.1 rfl (lv_room (Nat.le_of_ble_eq_true rfl)) kb_La_law_243 k14) hS (fun r243 σ243 H locs hw hG hS => ?_)
                refine lv_icmp_eq (tgt := 667) hx hb kb_La_law_246 (by decide) (fun hc => ?_) (fun hc => ?_)
                · have hw := hw.1 hc
                  refine lv_iinc (v := v3 + (6 : Int32)) (lv' := [(3, .int (v3 + (6 : Int32))), (0, .ref b), (1, .ref v1), (2, .ref v2)]) hx hb kb_La_law_667 hl (k := 3) rfl rfl (by decide) rfl (fun ls hl => ?_)
                  refine lv_goto (tgt := 18) hx hb kb_La_law_670 (by decide) ?_
                  exact hw _ _ _ k14.1 k14.2 hG hS (lv_sub hl [1, 2, 3, 0] rfl)
                · have hw := hw.2 hc
                  refine lv_iconst (v := (0 : Int32)) hx hb kb_La_law_249 (by decide) ?_
                  exact hw.elim
              · have hw := hw.2 hn4
                rcases Decidable.em (((xs v3.toNatClampNeg) &&& ((31 : Int32))) = (5 : Int32)) with hc | hn5
                · have hw := hw.1 hc
                  refine lv_tableIn (off := 218) (tgt := 251) hx hb kb_La_law_33 (by rw [hc]; decide) (by rw [hc]; decide) (by rw [hc]; rfl) (by decide) ?_
                  refine lv_aload_n hx hb kb_La_law_251 rfl (lv_at hl 1 rfl) ?_
                  refine lv_aload_n hx hb kb_La_law_252 rfl (lv_at hl 0 rfl) ?_
                  refine lv_iload_n hx hb kb_La_law_253 rfl (lv_at hl 3 rfl) ?_
                  refine lv_iconst (v := (1 : Int32)) hx hb kb_La_law_254 (by decide) ?_
                  refine lv_iadd hx hb kb_La_law_255 ?_
                  obtain ⟨hi, hw⟩ := hw
                  refine va_sld hx hb hX hbl hbA hS hi kb_La_law_256 ?_
                  refine lv_aload_n hx hb kb_La_law_257 rfl (lv_at hl 0 rfl) ?_
                  refine lv_iload_n hx hb kb_La_law_258 rfl (lv_at hl 3 rfl) ?_
                  refine lv_iconst (v := (2 : Int32)) hx hb kb_La_law_259 (by decide) ?_
                  refine lv_iadd hx hb kb_La_law_260 ?_
                  obtain ⟨hi, hw⟩ := hw
                  refine va_sld hx hb hX hbl hbA hS hi kb_La_law_261 ?_
                  obtain ⟨k15, hw⟩ := hw
                  obtain ⟨hy, hw⟩ := hw
                  refine zr_ci (va_runV (C := kR_Vr) (As := [.int (xs (v3 + ((1 : Int32))).toNatClampNeg), .int (xs (v3 + ((2 : Int32))).toNatClampNeg)]) (rest := []) ⟨hx, hb, hml, hown, hts⟩ (kc_Vr_of l D dA s.heap.size v1 (xs (v3 + ((1 : Int32))).toNatClampNeg) (xs (v3 + ((2 : Int32))).toNatClampNeg) σ _) ⟨callB_of 2 hts (z_gw kw_479) rfl rfl rfl (hts _ (List.mem_cons_of_mem _ kw_1)) (hts _ (List.mem_cons_of_mem _ kw_476)) (by decide +kernel) ⟨Nat.le_of_ble_eq_true rfl, Nat.le_of_ble_eq_true rfl⟩, (hts _ (List.mem_cons_of_mem _ kw_477)), (hts _ (List.mem_cons_of_mem _ kw_478))⟩ (z_preV z_nwN (Nat.le_trans hZ hS.1) hG hK hN hy (ci := 7) (r := (kR_Vr, kT_Vr, 13)) rfl hw) rfl rfl hl.1 rfl (lv_room (Nat.le_of_ble_eq_true rfl)) kb_La_law_262 k15) hS (fun r262 σ262 H locs hw hG hS => ?_)
                  refine lv_aload_n hx hb kb_La_law_265 rfl (lv_at hl 2 rfl) ?_
                  refine lv_aload_n hx hb kb_La_law_266 rfl (lv_at hl 0 rfl) ?_
                  refine lv_iload_n hx hb kb_La_law_267 rfl (lv_at hl 3 rfl) ?_
                  refine lv_iconst (v := (1 : Int32)) hx hb kb_La_law_268 (by decide) ?_
                  refine lv_iadd hx hb kb_La_law_269 ?_
                  obtain ⟨hi, hw⟩ := hw
                  refine va_sld hx hb hX hbl hbA hS hi kb_La_law_270 ?_
                  refine lv_aload_n hx hb kb_La_law_271 rfl (lv_at hl 0 rfl) ?_
                  refine lv_iload_n hx hb kb_La_law_272 rfl (lv_at hl 3 rfl) ?_
                  refine lv_iconst (v := (2 : Int32)) hx hb kb_La_law_273 (by decide) ?_
                  refine lv_iadd hx hb kb_La_law_274 ?_
                  obtain ⟨hi, hw⟩ := hw
                  refine va_sld hx hb hX hbl hbA hS hi kb_La_law_275 ?_
                  obtain ⟨k16, hw⟩ := hw
                  obtain ⟨hy, hw⟩ := hw
                  refine zr_ci (va_runV (C := kR_Mo) (As := [.int (xs (v3 + ((1 : Int32))).toNatClampNeg), .int (xs (v3 + ((2 : Int32))).toNatClampNeg)]) (rest := [.int r262]) ⟨hx, hb, hml, hown, hts⟩ (kc_Mo_of l D dA s.heap.size v2 (xs (v3 + ((1 : Int32))).toNatClampNeg) (xs (v3 + ((2 : Int32))).toNatClampNeg) σ262 _) ⟨callB_of 2 hts (z_gw kw_821) rfl rfl rfl (hts _ (List.mem_cons_of_mem _ kw_9)) (hts _ (List.mem_cons_of_mem _ kw_818)) (by decide +kernel) ⟨Nat.le_of_ble_eq_true rfl, Nat.le_of_ble_eq_true rfl⟩, (hts _ (List.mem_cons_of_mem _ kw_819)), (hts _ (List.mem_cons_of_mem _ kw_820))⟩ (z_preV z_nwN (Nat.le_trans hZ hS.1) hG hK hN hy (ci := 8) (r := (kR_Mo, kT_Mo, 51)) rfl hw) rfl rfl hl.1 rfl (lv_room (Nat.le_of_ble_eq_true rfl)) kb_La_law_276 k16) hS (fun r276 σ276 H locs hw hG hS => ?_)
                  refine lv_icmp_eq (tgt := 667) hx hb kb_La_law_279 (by decide) (fun hc => ?_) (fun hc => ?_)
                  · have hw := hw.1 hc
                    refine lv_iinc (v := v3 + (6 : Int32)) (lv' := [(3, .int (v3 + (6 : Int32))), (0, .ref b), (1, .ref v1), (2, .ref v2)]) hx hb kb_La_law_667 hl (k := 3) rfl rfl (by decide) rfl (fun ls hl => ?_)
                    refine lv_goto (tgt := 18) hx hb kb_La_law_670 (by decide) ?_
                    exact hw _ _ _ k16.1 k16.2 hG hS (lv_sub hl [1, 2, 3, 0] rfl)
                  · have hw := hw.2 hc
                    refine lv_iconst (v := (0 : Int32)) hx hb kb_La_law_282 (by decide) ?_
                    exact hw.elim
                · have hw := hw.2 hn5
                  rcases Decidable.em (((xs v3.toNatClampNeg) &&& ((31 : Int32))) = (6 : Int32)) with hc | hn6
                  · have hw := hw.1 hc
                    refine lv_tableIn (off := 251) (tgt := 284) hx hb kb_La_law_33 (by rw [hc]; decide) (by rw [hc]; decide) (by rw [hc]; rfl) (by decide) ?_
                    refine lv_aload_n hx hb kb_La_law_284 rfl (lv_at hl 1 rfl) ?_
                    refine lv_aload_n hx hb kb_La_law_285 rfl (lv_at hl 0 rfl) ?_
                    refine lv_iload_n hx hb kb_La_law_286 rfl (lv_at hl 3 rfl) ?_
                    refine lv_iconst (v := (1 : Int32)) hx hb kb_La_law_287 (by decide) ?_
                    refine lv_iadd hx hb kb_La_law_288 ?_
                    obtain ⟨hi, hw⟩ := hw
                    refine va_sld hx hb hX hbl hbA hS hi kb_La_law_289 ?_
                    refine lv_aload_n hx hb kb_La_law_290 rfl (lv_at hl 0 rfl) ?_
                    refine lv_iload_n hx hb kb_La_law_291 rfl (lv_at hl 3 rfl) ?_
                    refine lv_iconst (v := (2 : Int32)) hx hb kb_La_law_292 (by decide) ?_
                    refine lv_iadd hx hb kb_La_law_293 ?_
                    obtain ⟨hi, hw⟩ := hw
                    refine va_sld hx hb hX hbl hbA hS hi kb_La_law_294 ?_
                    refine lv_aload_n hx hb kb_La_law_295 rfl (lv_at hl 0 rfl) ?_
                    refine lv_iload_n hx hb kb_La_law_296 rfl (lv_at hl 3 rfl) ?_
                    refine lv_iconst (v := (3 : Int32)) hx hb kb_La_law_297 (by decide) ?_
                    refine lv_iadd hx hb kb_La_law_298 ?_
                    obtain ⟨hi, hw⟩ := hw
                    refine va_sld hx hb hX hbl hbA hS hi kb_La_law_299 ?_
                    refine lv_aload_n hx hb kb_La_law_300 rfl (lv_at hl 0 rfl) ?_
                    refine lv_iload_n hx hb kb_La_law_301 rfl (lv_at hl 3 rfl) ?_
                    refine lv_iconst (v := (4 : Int32)) hx hb kb_La_law_302 (by decide) ?_
                    refine lv_iadd hx hb kb_La_law_303 ?_
                    obtain ⟨hi, hw⟩ := hw
                    refine va_sld hx hb hX hbl hbA hS hi kb_La_law_304 ?_
                    refine lv_aload_n hx hb kb_La_law_305 rfl (lv_at hl 0 rfl) ?_
                    refine lv_iload_n hx hb kb_La_law_306 rfl (lv_at hl 3 rfl) ?_
                    refine lv_iconst (v := (5 : Int32)) hx hb kb_La_law_307 (by decide) ?_
                    refine lv_iadd hx hb kb_La_law_308 ?_
                    obtain ⟨hi, hw⟩ := hw
                    refine va_sld hx hb hX hbl hbA hS hi kb_La_law_309 ?_
                    obtain ⟨k17, hw⟩ := hw
                    obtain ⟨hy, hw⟩ := hw
                    refine zr_ci (va_runV (C := kR_Vr) (As := [.int (xs (v3 + ((1 : Int32))).toNatClampNeg), .int (xs (v3 + ((2 : Int32))).toNatClampNeg), .int (xs (v3 + ((3 : Int32))).toNatClampNeg), .int (xs (v3 + ((4 : Int32))).toNatClampNeg), .int (xs (v3 + ((5 : Int32))).toNatClampNeg)]) (rest := []) ⟨hx, hb, hml, hown, hts⟩ (kc_Vr_change l D dA s.heap.size v1 (xs (v3 + ((1 : Int32))).toNatClampNeg) (xs (v3 + ((2 : Int32))).toNatClampNeg) (xs (v3 + ((3 : Int32))).toNatClampNeg) (xs (v3 + ((4 : Int32))).toNatClampNeg) (xs (v3 + ((5 : Int32))).toNatClampNeg) σ _) ⟨callB_of 5 hts (z_gw kw_485) rfl rfl rfl (hts _ (List.mem_cons_of_mem _ kw_1)) (hts _ (List.mem_cons_of_mem _ kw_482)) (by decide +kernel) ⟨Nat.le_of_ble_eq_true rfl, Nat.le_of_ble_eq_true rfl⟩, (hts _ (List.mem_cons_of_mem _ kw_483)), (hts _ (List.mem_cons_of_mem _ kw_484))⟩ (z_preV z_nwN (Nat.le_trans hZ hS.1) hG hK hN hy (ci := 7) (r := (kR_Vr, kT_Vr, 13)) rfl hw) rfl rfl hl.1 rfl (lv_room (Nat.le_of_ble_eq_true rfl)) kb_La_law_310 k17) hS (fun r310 σ310 H locs hw hG hS => ?_)
                    refine lv_aload_n hx hb kb_La_law_313 rfl (lv_at hl 2 rfl) ?_
                    refine lv_aload_n hx hb kb_La_law_314 rfl (lv_at hl 0 rfl) ?_
                    refine lv_iload_n hx hb kb_La_law_315 rfl (lv_at hl 3 rfl) ?_
                    refine lv_iconst (v := (1 : Int32)) hx hb kb_La_law_316 (by decide) ?_
                    refine lv_iadd hx hb kb_La_law_317 ?_
                    obtain ⟨hi, hw⟩ := hw
                    refine va_sld hx hb hX hbl hbA hS hi kb_La_law_318 ?_
                    refine lv_aload_n hx hb kb_La_law_319 rfl (lv_at hl 0 rfl) ?_
                    refine lv_iload_n hx hb kb_La_law_320 rfl (lv_at hl 3 rfl) ?_
                    refine lv_iconst (v := (2 : Int32)) hx hb kb_La_law_321 (by decide) ?_
                    refine lv_iadd hx hb kb_La_law_322 ?_
                    obtain ⟨hi, hw⟩ := hw
                    refine va_sld hx hb hX hbl hbA hS hi kb_La_law_323 ?_
                    refine lv_aload_n hx hb kb_La_law_324 rfl (lv_at hl 0 rfl) ?_
                    refine lv_iload_n hx hb kb_La_law_325 rfl (lv_at hl 3 rfl) ?_
                    refine lv_iconst (v := (3 : Int32)) hx hb kb_La_law_326 (by decide) ?_
                    refine lv_iadd hx hb kb_La_law_327 ?_
                    obtain ⟨hi, hw⟩ := hw
                    refine va_sld hx hb hX hbl hbA hS hi kb_La_law_328 ?_
                    refine lv_aload_n hx hb kb_La_law_329 rfl (lv_at hl 0 rfl) ?_
                    refine lv_iload_n hx hb kb_La_law_330 rfl (lv_at hl 3 rfl) ?_
                    refine lv_iconst (v := (4 : Int32)) hx hb kb_La_law_331 (by decide) ?_
                    refine lv_iadd hx hb kb_La_law_332 ?_
                    obtain ⟨hi, hw⟩ := hw
                    refine va_sld hx hb hX hbl hbA hS hi kb_La_law_333 ?_
                    refine lv_aload_n hx hb kb_La_law_334 rfl (lv_at hl 0 rfl) ?_
                    refine lv_iload_n hx hb kb_La_law_335 rfl (lv_at hl 3 rfl) ?_
                    refine lv_iconst (v := (5 : Int32)) hx hb kb_La_law_336 (by decide) ?_
                    refine lv_iadd hx hb kb_La_law_337 ?_
                    obtain ⟨hi, hw⟩ := hw
                    refine va_sld hx hb hX hbl hbA hS hi kb_La_law_338 ?_
                    obtain ⟨k18, hw⟩ := hw
                    obtain ⟨hy, hw⟩ := hw
                    refine zr_ci (va_runV (C := kR_Mo) (As := [.int (xs (v3 + ((1 : Int32))).toNatClampNeg), .int (xs (v3 + ((2 : Int32))).toNatClampNeg), .int (xs (v3 + ((3 : Int32))).toNatClampNeg), .int (xs (v3 + ((4 : Int32))).toNatClampNeg), .int (xs (v3 + ((5 : Int32))).toNatClampNeg)]) (rest := [.int r310]) ⟨hx, hb, hml, hown, hts⟩ (kc_Mo_change l D dA s.heap.size v2 (xs (v3 + ((1 : Int32))).toNatClampNeg) (xs (v3 + ((2 : Int32))).toNatClampNeg) (xs (v3 + ((3 : Int32))).toNatClampNeg) (xs (v3 + ((4 : Int32))).toNatClampNeg) (xs (v3 + ((5 : Int32))).toNatClampNeg) σ310 _) ⟨callB_of 5 hts (z_gw kw_828) rfl rfl rfl (hts _ (List.mem_cons_of_mem _ kw_9)) (hts _ (List.mem_cons_of_mem _ kw_825)) (by decide +kernel) ⟨Nat.le_of_ble_eq_true rfl, Nat.le_of_ble_eq_true rfl⟩, (hts _ (List.mem_cons_of_mem _ kw_826)), (hts _ (List.mem_cons_of_mem _ kw_827))⟩ (z_preV z_nwN (Nat.le_trans hZ hS.1) hG hK hN hy (ci := 8) (r := (kR_Mo, kT_Mo, 51)) rfl hw) rfl rfl hl.1 rfl (lv_room (Nat.le_of_ble_eq_true rfl)) kb_La_law_339 k18) hS (fun r339 σ339 H locs hw hG hS => ?_)
                    refine lv_icmp_eq (tgt := 667) hx hb kb_La_law_342 (by decide) (fun hc => ?_) (fun hc => ?_)
                    · have hw := hw.1 hc
                      refine lv_iinc (v := v3 + (6 : Int32)) (lv' := [(3, .int (v3 + (6 : Int32))), (0, .ref b), (1, .ref v1), (2, .ref v2)]) hx hb kb_La_law_667 hl (k := 3) rfl rfl (by decide) rfl (fun ls hl => ?_)
                      refine lv_goto (tgt := 18) hx hb kb_La_law_670 (by decide) ?_
                      exact hw _ _ _ k18.1 k18.2 hG hS (lv_sub hl [1, 2, 3, 0] rfl)
                    · have hw := hw.2 hc
                      refine lv_iconst (v := (0 : Int32)) hx hb kb_La_law_345 (by decide) ?_
                      exact hw.elim
                  · have hw := hw.2 hn6
                    rcases Decidable.em (((xs v3.toNatClampNeg) &&& ((31 : Int32))) = (7 : Int32)) with hc | hn7
                    · have hw := hw.1 hc
                      refine lv_tableIn (off := 314) (tgt := 347) hx hb kb_La_law_33 (by rw [hc]; decide) (by rw [hc]; decide) (by rw [hc]; rfl) (by decide) ?_
                      refine lv_aload_n hx hb kb_La_law_347 rfl (lv_at hl 1 rfl) ?_
                      obtain ⟨k19, hw⟩ := hw
                      obtain ⟨hy, hw⟩ := hw
                      refine zr_ci (va_runV (C := kR_Vr) (As := []) (rest := []) ⟨hx, hb, hml, hown, hts⟩ (kc_Vr_batch l D dA s.heap.size v1 σ _) ⟨callB_of 0 hts (z_gw kw_499) rfl rfl rfl (hts _ (List.mem_cons_of_mem _ kw_1)) (hts _ (List.mem_cons_of_mem _ kw_496)) (by decide +kernel) ⟨Nat.le_of_ble_eq_true rfl, Nat.le_of_ble_eq_true rfl⟩, (hts _ (List.mem_cons_of_mem _ kw_497)), (hts _ (List.mem_cons_of_mem _ kw_498))⟩ (z_preV z_nwN (Nat.le_trans hZ hS.1) hG hK hN hy (ci := 7) (r := (kR_Vr, kT_Vr, 13)) rfl hw) rfl rfl hl.1 rfl (lv_room (Nat.le_of_ble_eq_true rfl)) kb_La_law_348 k19) hS (fun r348 σ348 H locs hw hG hS => ?_)
                      refine lv_aload_n hx hb kb_La_law_351 rfl (lv_at hl 2 rfl) ?_
                      obtain ⟨k20, hw⟩ := hw
                      obtain ⟨hy, hw⟩ := hw
                      refine zr_ci (va_runV (C := kR_Mo) (As := []) (rest := [.int r348]) ⟨hx, hb, hml, hown, hts⟩ (kc_Mo_batch l D dA s.heap.size v2 σ348 _) ⟨callB_of 0 hts (z_gw kw_838) rfl rfl rfl (hts _ (List.mem_cons_of_mem _ kw_9)) (hts _ (List.mem_cons_of_mem _ kw_835)) (by decide +kernel) ⟨Nat.le_of_ble_eq_true rfl, Nat.le_of_ble_eq_true rfl⟩, (hts _ (List.mem_cons_of_mem _ kw_836)), (hts _ (List.mem_cons_of_mem _ kw_837))⟩ (z_preV z_nwN (Nat.le_trans hZ hS.1) hG hK hN hy (ci := 8) (r := (kR_Mo, kT_Mo, 51)) rfl hw) rfl rfl hl.1 rfl (lv_room (Nat.le_of_ble_eq_true rfl)) kb_La_law_352 k20) hS (fun r352 σ352 H locs hw hG hS => ?_)
                      refine lv_icmp_eq (tgt := 667) hx hb kb_La_law_355 (by decide) (fun hc => ?_) (fun hc => ?_)
                      · have hw := hw.1 hc
                        refine lv_iinc (v := v3 + (6 : Int32)) (lv' := [(3, .int (v3 + (6 : Int32))), (0, .ref b), (1, .ref v1), (2, .ref v2)]) hx hb kb_La_law_667 hl (k := 3) rfl rfl (by decide) rfl (fun ls hl => ?_)
                        refine lv_goto (tgt := 18) hx hb kb_La_law_670 (by decide) ?_
                        exact hw _ _ _ k20.1 k20.2 hG hS (lv_sub hl [1, 2, 3, 0] rfl)
                      · have hw := hw.2 hc
                        refine lv_iconst (v := (0 : Int32)) hx hb kb_La_law_358 (by decide) ?_
                        exact hw.elim
                    · have hw := hw.2 hn7
                      rcases Decidable.em (((xs v3.toNatClampNeg) &&& ((31 : Int32))) = (8 : Int32)) with hc | hn8
                      · have hw := hw.1 hc
                        refine lv_tableIn (off := 327) (tgt := 360) hx hb kb_La_law_33 (by rw [hc]; decide) (by rw [hc]; decide) (by rw [hc]; rfl) (by decide) ?_
                        refine lv_aload_n hx hb kb_La_law_360 rfl (lv_at hl 1 rfl) ?_
                        obtain ⟨k21, hw⟩ := hw
                        obtain ⟨hy, hw⟩ := hw
                        refine zr_ci (va_runV (C := kR_Vr) (As := []) (rest := []) ⟨hx, hb, hml, hown, hts⟩ (kc_Vr_drop l D dA s.heap.size v1 σ _) ⟨callB_of 0 hts (z_gw kw_524) rfl rfl rfl (hts _ (List.mem_cons_of_mem _ kw_1)) (hts _ (List.mem_cons_of_mem _ kw_521)) (by decide +kernel) ⟨Nat.le_of_ble_eq_true rfl, Nat.le_of_ble_eq_true rfl⟩, (hts _ (List.mem_cons_of_mem _ kw_522)), (hts _ (List.mem_cons_of_mem _ kw_523))⟩ (z_preV z_nwN (Nat.le_trans hZ hS.1) hG hK hN hy (ci := 7) (r := (kR_Vr, kT_Vr, 13)) rfl hw) rfl rfl hl.1 rfl (lv_room (Nat.le_of_ble_eq_true rfl)) kb_La_law_361 k21) hS (fun r361 σ361 H locs hw hG hS => ?_)
                        refine lv_aload_n hx hb kb_La_law_364 rfl (lv_at hl 2 rfl) ?_
                        obtain ⟨k22, hw⟩ := hw
                        obtain ⟨hy, hw⟩ := hw
                        refine zr_ci (va_runV (C := kR_Mo) (As := []) (rest := [.int r361]) ⟨hx, hb, hml, hown, hts⟩ (kc_Mo_drop l D dA s.heap.size v2 σ361 _) ⟨callB_of 0 hts (z_gw kw_863) rfl rfl rfl (hts _ (List.mem_cons_of_mem _ kw_9)) (hts _ (List.mem_cons_of_mem _ kw_860)) (by decide +kernel) ⟨Nat.le_of_ble_eq_true rfl, Nat.le_of_ble_eq_true rfl⟩, (hts _ (List.mem_cons_of_mem _ kw_861)), (hts _ (List.mem_cons_of_mem _ kw_862))⟩ (z_preV z_nwN (Nat.le_trans hZ hS.1) hG hK hN hy (ci := 8) (r := (kR_Mo, kT_Mo, 51)) rfl hw) rfl rfl hl.1 rfl (lv_room (Nat.le_of_ble_eq_true rfl)) kb_La_law_365 k22) hS (fun r365 σ365 H locs hw hG hS => ?_)
                        refine lv_icmp_eq (tgt := 667) hx hb kb_La_law_368 (by decide) (fun hc => ?_) (fun hc => ?_)
                        · have hw := hw.1 hc
                          refine lv_iinc (v := v3 + (6 : Int32)) (lv' := [(3, .int (v3 + (6 : Int32))), (0, .ref b), (1, .ref v1), (2, .ref v2)]) hx hb kb_La_law_667 hl (k := 3) rfl rfl (by decide) rfl (fun ls hl => ?_)
                          refine lv_goto (tgt := 18) hx hb kb_La_law_670 (by decide) ?_
                          exact hw _ _ _ k22.1 k22.2 hG hS (lv_sub hl [1, 2, 3, 0] rfl)
                        · have hw := hw.2 hc
                          refine lv_iconst (v := (0 : Int32)) hx hb kb_La_law_371 (by decide) ?_
                          exact hw.elim
                      · have hw := hw.2 hn8
                        rcases Decidable.em (((xs v3.toNatClampNeg) &&& ((31 : Int32))) = (9 : Int32)) with hc | hn9
                        · have hw := hw.1 hc
                          refine lv_tableIn (off := 340) (tgt := 373) hx hb kb_La_law_33 (by rw [hc]; decide) (by rw [hc]; decide) (by rw [hc]; rfl) (by decide) ?_
                          refine lv_aload_n hx hb kb_La_law_373 rfl (lv_at hl 1 rfl) ?_
                          refine lv_aload_n hx hb kb_La_law_374 rfl (lv_at hl 0 rfl) ?_
                          refine lv_iload_n hx hb kb_La_law_375 rfl (lv_at hl 3 rfl) ?_
                          refine lv_iconst (v := (1 : Int32)) hx hb kb_La_law_376 (by decide) ?_
                          refine lv_iadd hx hb kb_La_law_377 ?_
                          obtain ⟨hi, hw⟩ := hw
                          refine va_sld hx hb hX hbl hbA hS hi kb_La_law_378 ?_
                          refine lv_aload_n hx hb kb_La_law_379 rfl (lv_at hl 0 rfl) ?_
                          refine lv_iload_n hx hb kb_La_law_380 rfl (lv_at hl 3 rfl) ?_
                          refine lv_iconst (v := (2 : Int32)) hx hb kb_La_law_381 (by decide) ?_
                          refine lv_iadd hx hb kb_La_law_382 ?_
                          obtain ⟨hi, hw⟩ := hw
                          refine va_sld hx hb hX hbl hbA hS hi kb_La_law_383 ?_
                          obtain ⟨k23, hw⟩ := hw
                          obtain ⟨hy, hw⟩ := hw
                          refine zr_ci (va_runV (C := kR_Vr) (As := [.int (xs (v3 + ((1 : Int32))).toNatClampNeg), .int (xs (v3 + ((2 : Int32))).toNatClampNeg)]) (rest := []) ⟨hx, hb, hml, hown, hts⟩ (kc_Vr_difference l D dA s.heap.size v1 (xs (v3 + ((1 : Int32))).toNatClampNeg) (xs (v3 + ((2 : Int32))).toNatClampNeg) σ _) ⟨callB_of 2 hts (z_gw kw_528) rfl rfl rfl (hts _ (List.mem_cons_of_mem _ kw_1)) (hts _ (List.mem_cons_of_mem _ kw_525)) (by decide +kernel) ⟨Nat.le_of_ble_eq_true rfl, Nat.le_of_ble_eq_true rfl⟩, (hts _ (List.mem_cons_of_mem _ kw_526)), (hts _ (List.mem_cons_of_mem _ kw_527))⟩ (z_preV z_nwN (Nat.le_trans hZ hS.1) hG hK hN hy (ci := 7) (r := (kR_Vr, kT_Vr, 13)) rfl hw) rfl rfl hl.1 rfl (lv_room (Nat.le_of_ble_eq_true rfl)) kb_La_law_384 k23) hS (fun r384 σ384 H locs hw hG hS => ?_)
                          refine lv_aload_n hx hb kb_La_law_387 rfl (lv_at hl 2 rfl) ?_
                          refine lv_aload_n hx hb kb_La_law_388 rfl (lv_at hl 0 rfl) ?_
                          refine lv_iload_n hx hb kb_La_law_389 rfl (lv_at hl 3 rfl) ?_
                          refine lv_iconst (v := (1 : Int32)) hx hb kb_La_law_390 (by decide) ?_
                          refine lv_iadd hx hb kb_La_law_391 ?_
                          obtain ⟨hi, hw⟩ := hw
                          refine va_sld hx hb hX hbl hbA hS hi kb_La_law_392 ?_
                          refine lv_aload_n hx hb kb_La_law_393 rfl (lv_at hl 0 rfl) ?_
                          refine lv_iload_n hx hb kb_La_law_394 rfl (lv_at hl 3 rfl) ?_
                          refine lv_iconst (v := (2 : Int32)) hx hb kb_La_law_395 (by decide) ?_
                          refine lv_iadd hx hb kb_La_law_396 ?_
                          obtain ⟨hi, hw⟩ := hw
                          refine va_sld hx hb hX hbl hbA hS hi kb_La_law_397 ?_
                          obtain ⟨k24, hw⟩ := hw
                          obtain ⟨hy, hw⟩ := hw
                          refine zr_ci (va_runV (C := kR_Mo) (As := [.int (xs (v3 + ((1 : Int32))).toNatClampNeg), .int (xs (v3 + ((2 : Int32))).toNatClampNeg)]) (rest := [.int r384]) ⟨hx, hb, hml, hown, hts⟩ (kc_Mo_difference l D dA s.heap.size v2 (xs (v3 + ((1 : Int32))).toNatClampNeg) (xs (v3 + ((2 : Int32))).toNatClampNeg) σ384 _) ⟨callB_of 2 hts (z_gw kw_867) rfl rfl rfl (hts _ (List.mem_cons_of_mem _ kw_9)) (hts _ (List.mem_cons_of_mem _ kw_864)) (by decide +kernel) ⟨Nat.le_of_ble_eq_true rfl, Nat.le_of_ble_eq_true rfl⟩, (hts _ (List.mem_cons_of_mem _ kw_865)), (hts _ (List.mem_cons_of_mem _ kw_866))⟩ (z_preV z_nwN (Nat.le_trans hZ hS.1) hG hK hN hy (ci := 8) (r := (kR_Mo, kT_Mo, 51)) rfl hw) rfl rfl hl.1 rfl (lv_room (Nat.le_of_ble_eq_true rfl)) kb_La_law_398 k24) hS (fun r398 σ398 H locs hw hG hS => ?_)
                          refine lv_icmp_eq (tgt := 667) hx hb kb_La_law_401 (by decide) (fun hc => ?_) (fun hc => ?_)
                          · have hw := hw.1 hc
                            refine lv_iinc (v := v3 + (6 : Int32)) (lv' := [(3, .int (v3 + (6 : Int32))), (0, .ref b), (1, .ref v1), (2, .ref v2)]) hx hb kb_La_law_667 hl (k := 3) rfl rfl (by decide) rfl (fun ls hl => ?_)
                            refine lv_goto (tgt := 18) hx hb kb_La_law_670 (by decide) ?_
                            exact hw _ _ _ k24.1 k24.2 hG hS (lv_sub hl [1, 2, 3, 0] rfl)
                          · have hw := hw.2 hc
                            refine lv_iconst (v := (0 : Int32)) hx hb kb_La_law_404 (by decide) ?_
                            exact hw.elim
                        · have hw := hw.2 hn9
                          rcases Decidable.em (((xs v3.toNatClampNeg) &&& ((31 : Int32))) = (10 : Int32)) with hc | hn10
                          · have hw := hw.1 hc
                            refine lv_tableIn (off := 373) (tgt := 406) hx hb kb_La_law_33 (by rw [hc]; decide) (by rw [hc]; decide) (by rw [hc]; rfl) (by decide) ?_
                            refine lv_aload_n hx hb kb_La_law_406 rfl (lv_at hl 1 rfl) ?_
                            obtain ⟨k25, hw⟩ := hw
                            obtain ⟨hy, hw⟩ := hw
                            refine zr_ci (va_runV (C := kR_Vr) (As := []) (rest := []) ⟨hx, hb, hml, hown, hts⟩ (kc_Vr_undo l D dA s.heap.size v1 σ _) ⟨callB_of 0 hts (z_gw kw_533) rfl rfl rfl (hts _ (List.mem_cons_of_mem _ kw_1)) (hts _ (List.mem_cons_of_mem _ kw_530)) (by decide +kernel) ⟨Nat.le_of_ble_eq_true rfl, Nat.le_of_ble_eq_true rfl⟩, (hts _ (List.mem_cons_of_mem _ kw_531)), (hts _ (List.mem_cons_of_mem _ kw_532))⟩ (z_preV z_nwN (Nat.le_trans hZ hS.1) hG hK hN hy (ci := 7) (r := (kR_Vr, kT_Vr, 13)) rfl hw) rfl rfl hl.1 rfl (lv_room (Nat.le_of_ble_eq_true rfl)) kb_La_law_407 k25) hS (fun r407 σ407 H locs hw hG hS => ?_)
                            refine lv_aload_n hx hb kb_La_law_410 rfl (lv_at hl 2 rfl) ?_
                            obtain ⟨k26, hw⟩ := hw
                            obtain ⟨hy, hw⟩ := hw
                            refine zr_ci (va_runV (C := kR_Mo) (As := []) (rest := [.int r407]) ⟨hx, hb, hml, hown, hts⟩ (kc_Mo_undo l D dA s.heap.size v2 σ407 _) ⟨callB_of 0 hts (z_gw kw_871) rfl rfl rfl (hts _ (List.mem_cons_of_mem _ kw_9)) (hts _ (List.mem_cons_of_mem _ kw_868)) (by decide +kernel) ⟨Nat.le_of_ble_eq_true rfl, Nat.le_of_ble_eq_true rfl⟩, (hts _ (List.mem_cons_of_mem _ kw_869)), (hts _ (List.mem_cons_of_mem _ kw_870))⟩ (z_preV z_nwN (Nat.le_trans hZ hS.1) hG hK hN hy (ci := 8) (r := (kR_Mo, kT_Mo, 51)) rfl hw) rfl rfl hl.1 rfl (lv_room (Nat.le_of_ble_eq_true rfl)) kb_La_law_411 k26) hS (fun r411 σ411 H locs hw hG hS => ?_)
                            refine lv_icmp_eq (tgt := 667) hx hb kb_La_law_414 (by decide) (fun hc => ?_) (fun hc => ?_)
                            · have hw := hw.1 hc
                              refine lv_iinc (v := v3 + (6 : Int32)) (lv' := [(3, .int (v3 + (6 : Int32))), (0, .ref b), (1, .ref v1), (2, .ref v2)]) hx hb kb_La_law_667 hl (k := 3) rfl rfl (by decide) rfl (fun ls hl => ?_)
                              refine lv_goto (tgt := 18) hx hb kb_La_law_670 (by decide) ?_
                              exact hw _ _ _ k26.1 k26.2 hG hS (lv_sub hl [1, 2, 3, 0] rfl)
                            · have hw := hw.2 hc
                              refine lv_iconst (v := (0 : Int32)) hx hb kb_La_law_417 (by decide) ?_
                              exact hw.elim
                          · have hw := hw.2 hn10
                            rcases Decidable.em (((xs v3.toNatClampNeg) &&& ((31 : Int32))) = (11 : Int32)) with hc | hn11
                            · have hw := hw.1 hc
                              refine lv_tableIn (off := 386) (tgt := 419) hx hb kb_La_law_33 (by rw [hc]; decide) (by rw [hc]; decide) (by rw [hc]; rfl) (by decide) ?_
                              refine lv_aload_n hx hb kb_La_law_419 rfl (lv_at hl 1 rfl) ?_
                              refine lv_aload_n hx hb kb_La_law_420 rfl (lv_at hl 0 rfl) ?_
                              refine lv_iload_n hx hb kb_La_law_421 rfl (lv_at hl 3 rfl) ?_
                              refine lv_iconst (v := (1 : Int32)) hx hb kb_La_law_422 (by decide) ?_
                              refine lv_iadd hx hb kb_La_law_423 ?_
                              obtain ⟨hi, hw⟩ := hw
                              refine va_sld hx hb hX hbl hbA hS hi kb_La_law_424 ?_
                              refine lv_aload_n hx hb kb_La_law_425 rfl (lv_at hl 0 rfl) ?_
                              refine lv_iload_n hx hb kb_La_law_426 rfl (lv_at hl 3 rfl) ?_
                              refine lv_iconst (v := (2 : Int32)) hx hb kb_La_law_427 (by decide) ?_
                              refine lv_iadd hx hb kb_La_law_428 ?_
                              obtain ⟨hi, hw⟩ := hw
                              refine va_sld hx hb hX hbl hbA hS hi kb_La_law_429 ?_
                              refine lv_aload_n hx hb kb_La_law_430 rfl (lv_at hl 0 rfl) ?_
                              refine lv_iload_n hx hb kb_La_law_431 rfl (lv_at hl 3 rfl) ?_
                              refine lv_iconst (v := (3 : Int32)) hx hb kb_La_law_432 (by decide) ?_
                              refine lv_iadd hx hb kb_La_law_433 ?_
                              obtain ⟨hi, hw⟩ := hw
                              refine va_sld hx hb hX hbl hbA hS hi kb_La_law_434 ?_
                              refine lv_aload_n hx hb kb_La_law_435 rfl (lv_at hl 0 rfl) ?_
                              refine lv_iload_n hx hb kb_La_law_436 rfl (lv_at hl 3 rfl) ?_
                              refine lv_iconst (v := (4 : Int32)) hx hb kb_La_law_437 (by decide) ?_
                              refine lv_iadd hx hb kb_La_law_438 ?_
                              obtain ⟨hi, hw⟩ := hw
                              refine va_sld hx hb hX hbl hbA hS hi kb_La_law_439 ?_
                              obtain ⟨k27, hw⟩ := hw
                              obtain ⟨hy, hw⟩ := hw
                              refine zr_ci (va_runV (C := kR_Vr) (As := [.int (xs (v3 + ((1 : Int32))).toNatClampNeg), .int (xs (v3 + ((2 : Int32))).toNatClampNeg), .int (xs (v3 + ((3 : Int32))).toNatClampNeg), .int (xs (v3 + ((4 : Int32))).toNatClampNeg)]) (rest := []) ⟨hx, hb, hml, hown, hts⟩ (kc_Vr_has l D dA s.heap.size v1 (xs (v3 + ((1 : Int32))).toNatClampNeg) (xs (v3 + ((2 : Int32))).toNatClampNeg) (xs (v3 + ((3 : Int32))).toNatClampNeg) (xs (v3 + ((4 : Int32))).toNatClampNeg) σ _) ⟨callB_of 4 hts (z_gw kw_537) rfl rfl rfl (hts _ (List.mem_cons_of_mem _ kw_1)) (hts _ (List.mem_cons_of_mem _ kw_534)) (by decide +kernel) ⟨Nat.le_of_ble_eq_true rfl, Nat.le_of_ble_eq_true rfl⟩, (hts _ (List.mem_cons_of_mem _ kw_535)), (hts _ (List.mem_cons_of_mem _ kw_536))⟩ (z_preV z_nwN (Nat.le_trans hZ hS.1) hG hK hN hy (ci := 7) (r := (kR_Vr, kT_Vr, 13)) rfl hw) rfl rfl hl.1 rfl (lv_room (Nat.le_of_ble_eq_true rfl)) kb_La_law_440 k27) hS (fun r440 σ440 H locs hw hG hS => ?_)
                              refine lv_aload_n hx hb kb_La_law_443 rfl (lv_at hl 2 rfl) ?_
                              refine lv_aload_n hx hb kb_La_law_444 rfl (lv_at hl 0 rfl) ?_
                              refine lv_iload_n hx hb kb_La_law_445 rfl (lv_at hl 3 rfl) ?_
                              refine lv_iconst (v := (1 : Int32)) hx hb kb_La_law_446 (by decide) ?_
                              refine lv_iadd hx hb kb_La_law_447 ?_
                              obtain ⟨hi, hw⟩ := hw
                              refine va_sld hx hb hX hbl hbA hS hi kb_La_law_448 ?_
                              refine lv_aload_n hx hb kb_La_law_449 rfl (lv_at hl 0 rfl) ?_
                              refine lv_iload_n hx hb kb_La_law_450 rfl (lv_at hl 3 rfl) ?_
                              refine lv_iconst (v := (2 : Int32)) hx hb kb_La_law_451 (by decide) ?_
                              refine lv_iadd hx hb kb_La_law_452 ?_
                              obtain ⟨hi, hw⟩ := hw
                              refine va_sld hx hb hX hbl hbA hS hi kb_La_law_453 ?_
                              refine lv_aload_n hx hb kb_La_law_454 rfl (lv_at hl 0 rfl) ?_
                              refine lv_iload_n hx hb kb_La_law_455 rfl (lv_at hl 3 rfl) ?_
                              refine lv_iconst (v := (3 : Int32)) hx hb kb_La_law_456 (by decide) ?_
                              refine lv_iadd hx hb kb_La_law_457 ?_
                              obtain ⟨hi, hw⟩ := hw
                              refine va_sld hx hb hX hbl hbA hS hi kb_La_law_458 ?_
                              refine lv_aload_n hx hb kb_La_law_459 rfl (lv_at hl 0 rfl) ?_
                              refine lv_iload_n hx hb kb_La_law_460 rfl (lv_at hl 3 rfl) ?_
                              refine lv_iconst (v := (4 : Int32)) hx hb kb_La_law_461 (by decide) ?_
                              refine lv_iadd hx hb kb_La_law_462 ?_
                              obtain ⟨hi, hw⟩ := hw
                              refine va_sld hx hb hX hbl hbA hS hi kb_La_law_463 ?_
                              obtain ⟨k28, hw⟩ := hw
                              obtain ⟨hy, hw⟩ := hw
                              refine zr_ci (va_runV (C := kR_Mo) (As := [.int (xs (v3 + ((1 : Int32))).toNatClampNeg), .int (xs (v3 + ((2 : Int32))).toNatClampNeg), .int (xs (v3 + ((3 : Int32))).toNatClampNeg), .int (xs (v3 + ((4 : Int32))).toNatClampNeg)]) (rest := [.int r440]) ⟨hx, hb, hml, hown, hts⟩ (kc_Mo_has l D dA s.heap.size v2 (xs (v3 + ((1 : Int32))).toNatClampNeg) (xs (v3 + ((2 : Int32))).toNatClampNeg) (xs (v3 + ((3 : Int32))).toNatClampNeg) (xs (v3 + ((4 : Int32))).toNatClampNeg) σ440 _) ⟨callB_of 4 hts (z_gw kw_875) rfl rfl rfl (hts _ (List.mem_cons_of_mem _ kw_9)) (hts _ (List.mem_cons_of_mem _ kw_872)) (by decide +kernel) ⟨Nat.le_of_ble_eq_true rfl, Nat.le_of_ble_eq_true rfl⟩, (hts _ (List.mem_cons_of_mem _ kw_873)), (hts _ (List.mem_cons_of_mem _ kw_874))⟩ (z_preV z_nwN (Nat.le_trans hZ hS.1) hG hK hN hy (ci := 8) (r := (kR_Mo, kT_Mo, 51)) rfl hw) rfl rfl hl.1 rfl (lv_room (Nat.le_of_ble_eq_true rfl)) kb_La_law_464 k28) hS (fun r464 σ464 H locs hw hG hS => ?_)
                              refine lv_icmp_eq (tgt := 667) hx hb kb_La_law_467 (by decide) (fun hc => ?_) (fun hc => ?_)
                              · have hw := hw.1 hc
                                refine lv_iinc (v := v3 + (6 : Int32)) (lv' := [(3, .int (v3 + (6 : Int32))), (0, .ref b), (1, .ref v1), (2, .ref v2)]) hx hb kb_La_law_667 hl (k := 3) rfl rfl (by decide) rfl (fun ls hl => ?_)
                                refine lv_goto (tgt := 18) hx hb kb_La_law_670 (by decide) ?_
                                exact hw _ _ _ k28.1 k28.2 hG hS (lv_sub hl [1, 2, 3, 0] rfl)
                              · have hw := hw.2 hc
                                refine lv_iconst (v := (0 : Int32)) hx hb kb_La_law_470 (by decide) ?_
                                exact hw.elim
                            · have hw := hw.2 hn11
                              rcases Decidable.em (((xs v3.toNatClampNeg) &&& ((31 : Int32))) = (12 : Int32)) with hc | hn12
                              · have hw := hw.1 hc
                                refine lv_tableIn (off := 439) (tgt := 472) hx hb kb_La_law_33 (by rw [hc]; decide) (by rw [hc]; decide) (by rw [hc]; rfl) (by decide) ?_
                                refine lv_aload_n hx hb kb_La_law_472 rfl (lv_at hl 1 rfl) ?_
                                refine lv_aload_n hx hb kb_La_law_473 rfl (lv_at hl 0 rfl) ?_
                                refine lv_iload_n hx hb kb_La_law_474 rfl (lv_at hl 3 rfl) ?_
                                refine lv_iconst (v := (1 : Int32)) hx hb kb_La_law_475 (by decide) ?_
                                refine lv_iadd hx hb kb_La_law_476 ?_
                                obtain ⟨hi, hw⟩ := hw
                                refine va_sld hx hb hX hbl hbA hS hi kb_La_law_477 ?_
                                refine lv_aload_n hx hb kb_La_law_478 rfl (lv_at hl 0 rfl) ?_
                                refine lv_iload_n hx hb kb_La_law_479 rfl (lv_at hl 3 rfl) ?_
                                refine lv_iconst (v := (2 : Int32)) hx hb kb_La_law_480 (by decide) ?_
                                refine lv_iadd hx hb kb_La_law_481 ?_
                                obtain ⟨hi, hw⟩ := hw
                                refine va_sld hx hb hX hbl hbA hS hi kb_La_law_482 ?_
                                refine lv_aload_n hx hb kb_La_law_483 rfl (lv_at hl 0 rfl) ?_
                                refine lv_iload_n hx hb kb_La_law_484 rfl (lv_at hl 3 rfl) ?_
                                refine lv_iconst (v := (3 : Int32)) hx hb kb_La_law_485 (by decide) ?_
                                refine lv_iadd hx hb kb_La_law_486 ?_
                                obtain ⟨hi, hw⟩ := hw
                                refine va_sld hx hb hX hbl hbA hS hi kb_La_law_487 ?_
                                obtain ⟨k29, hw⟩ := hw
                                obtain ⟨hy, hw⟩ := hw
                                refine zr_ci (va_runV (C := kR_Vr) (As := [.int (xs (v3 + ((1 : Int32))).toNatClampNeg), .int (xs (v3 + ((2 : Int32))).toNatClampNeg), .int (xs (v3 + ((3 : Int32))).toNatClampNeg)]) (rest := []) ⟨hx, hb, hml, hown, hts⟩ (kc_Vr_row l D dA s.heap.size v1 (xs (v3 + ((1 : Int32))).toNatClampNeg) (xs (v3 + ((2 : Int32))).toNatClampNeg) (xs (v3 + ((3 : Int32))).toNatClampNeg) σ _) ⟨callB_of 3 hts (z_gw kw_542) rfl rfl rfl (hts _ (List.mem_cons_of_mem _ kw_1)) (hts _ (List.mem_cons_of_mem _ kw_539)) (by decide +kernel) ⟨Nat.le_of_ble_eq_true rfl, Nat.le_of_ble_eq_true rfl⟩, (hts _ (List.mem_cons_of_mem _ kw_540)), (hts _ (List.mem_cons_of_mem _ kw_541))⟩ (z_preV z_nwN (Nat.le_trans hZ hS.1) hG hK hN hy (ci := 7) (r := (kR_Vr, kT_Vr, 13)) rfl hw) rfl rfl hl.1 rfl (lv_room (Nat.le_of_ble_eq_true rfl)) kb_La_law_488 k29) hS (fun r488 σ488 H locs hw hG hS => ?_)
                                refine lv_aload_n hx hb kb_La_law_491 rfl (lv_at hl 2 rfl) ?_
                                refine lv_aload_n hx hb kb_La_law_492 rfl (lv_at hl 0 rfl) ?_
                                refine lv_iload_n hx hb kb_La_law_493 rfl (lv_at hl 3 rfl) ?_
                                refine lv_iconst (v := (1 : Int32)) hx hb kb_La_law_494 (by decide) ?_
                                refine lv_iadd hx hb kb_La_law_495 ?_
                                obtain ⟨hi, hw⟩ := hw
                                refine va_sld hx hb hX hbl hbA hS hi kb_La_law_496 ?_
                                refine lv_aload_n hx hb kb_La_law_497 rfl (lv_at hl 0 rfl) ?_
                                refine lv_iload_n hx hb kb_La_law_498 rfl (lv_at hl 3 rfl) ?_
                                refine lv_iconst (v := (2 : Int32)) hx hb kb_La_law_499 (by decide) ?_
                                refine lv_iadd hx hb kb_La_law_500 ?_
                                obtain ⟨hi, hw⟩ := hw
                                refine va_sld hx hb hX hbl hbA hS hi kb_La_law_501 ?_
                                refine lv_aload_n hx hb kb_La_law_502 rfl (lv_at hl 0 rfl) ?_
                                refine lv_iload_n hx hb kb_La_law_503 rfl (lv_at hl 3 rfl) ?_
                                refine lv_iconst (v := (3 : Int32)) hx hb kb_La_law_504 (by decide) ?_
                                refine lv_iadd hx hb kb_La_law_505 ?_
                                obtain ⟨hi, hw⟩ := hw
                                refine va_sld hx hb hX hbl hbA hS hi kb_La_law_506 ?_
                                obtain ⟨k30, hw⟩ := hw
                                obtain ⟨hy, hw⟩ := hw
                                refine zr_ci (va_runV (C := kR_Mo) (As := [.int (xs (v3 + ((1 : Int32))).toNatClampNeg), .int (xs (v3 + ((2 : Int32))).toNatClampNeg), .int (xs (v3 + ((3 : Int32))).toNatClampNeg)]) (rest := [.int r488]) ⟨hx, hb, hml, hown, hts⟩ (kc_Mo_row l D dA s.heap.size v2 (xs (v3 + ((1 : Int32))).toNatClampNeg) (xs (v3 + ((2 : Int32))).toNatClampNeg) (xs (v3 + ((3 : Int32))).toNatClampNeg) σ488 _) ⟨callB_of 3 hts (z_gw kw_879) rfl rfl rfl (hts _ (List.mem_cons_of_mem _ kw_9)) (hts _ (List.mem_cons_of_mem _ kw_876)) (by decide +kernel) ⟨Nat.le_of_ble_eq_true rfl, Nat.le_of_ble_eq_true rfl⟩, (hts _ (List.mem_cons_of_mem _ kw_877)), (hts _ (List.mem_cons_of_mem _ kw_878))⟩ (z_preV z_nwN (Nat.le_trans hZ hS.1) hG hK hN hy (ci := 8) (r := (kR_Mo, kT_Mo, 51)) rfl hw) rfl rfl hl.1 rfl (lv_room (Nat.le_of_ble_eq_true rfl)) kb_La_law_507 k30) hS (fun r507 σ507 H locs hw hG hS => ?_)
                                refine lv_icmp_eq (tgt := 667) hx hb kb_La_law_510 (by decide) (fun hc => ?_) (fun hc => ?_)
                                · have hw := hw.1 hc
                                  refine lv_iinc (v := v3 + (6 : Int32)) (lv' := [(3, .int (v3 + (6 : Int32))), (0, .ref b), (1, .ref v1), (2, .ref v2)]) hx hb kb_La_law_667 hl (k := 3) rfl rfl (by decide) rfl (fun ls hl => ?_)
                                  refine lv_goto (tgt := 18) hx hb kb_La_law_670 (by decide) ?_
                                  exact hw _ _ _ k30.1 k30.2 hG hS (lv_sub hl [1, 2, 3, 0] rfl)
                                · have hw := hw.2 hc
                                  refine lv_iconst (v := (0 : Int32)) hx hb kb_La_law_513 (by decide) ?_
                                  exact hw.elim
                              · have hw := hw.2 hn12
                                rcases Decidable.em (((xs v3.toNatClampNeg) &&& ((31 : Int32))) = (13 : Int32)) with hc | hn13
                                · have hw := hw.1 hc
                                  refine lv_tableIn (off := 482) (tgt := 515) hx hb kb_La_law_33 (by rw [hc]; decide) (by rw [hc]; decide) (by rw [hc]; rfl) (by decide) ?_
                                  refine lv_aload_n hx hb kb_La_law_515 rfl (lv_at hl 1 rfl) ?_
                                  refine lv_aload_n hx hb kb_La_law_516 rfl (lv_at hl 0 rfl) ?_
                                  refine lv_iload_n hx hb kb_La_law_517 rfl (lv_at hl 3 rfl) ?_
                                  refine lv_iconst (v := (1 : Int32)) hx hb kb_La_law_518 (by decide) ?_
                                  refine lv_iadd hx hb kb_La_law_519 ?_
                                  obtain ⟨hi, hw⟩ := hw
                                  refine va_sld hx hb hX hbl hbA hS hi kb_La_law_520 ?_
                                  refine lv_aload_n hx hb kb_La_law_521 rfl (lv_at hl 0 rfl) ?_
                                  refine lv_iload_n hx hb kb_La_law_522 rfl (lv_at hl 3 rfl) ?_
                                  refine lv_iconst (v := (2 : Int32)) hx hb kb_La_law_523 (by decide) ?_
                                  refine lv_iadd hx hb kb_La_law_524 ?_
                                  obtain ⟨hi, hw⟩ := hw
                                  refine va_sld hx hb hX hbl hbA hS hi kb_La_law_525 ?_
                                  refine lv_aload_n hx hb kb_La_law_526 rfl (lv_at hl 0 rfl) ?_
                                  refine lv_iload_n hx hb kb_La_law_527 rfl (lv_at hl 3 rfl) ?_
                                  refine lv_iconst (v := (3 : Int32)) hx hb kb_La_law_528 (by decide) ?_
                                  refine lv_iadd hx hb kb_La_law_529 ?_
                                  obtain ⟨hi, hw⟩ := hw
                                  refine va_sld hx hb hX hbl hbA hS hi kb_La_law_530 ?_
                                  refine lv_aload_n hx hb kb_La_law_531 rfl (lv_at hl 0 rfl) ?_
                                  refine lv_iload_n hx hb kb_La_law_532 rfl (lv_at hl 3 rfl) ?_
                                  refine lv_iconst (v := (4 : Int32)) hx hb kb_La_law_533 (by decide) ?_
                                  refine lv_iadd hx hb kb_La_law_534 ?_
                                  obtain ⟨hi, hw⟩ := hw
                                  refine va_sld hx hb hX hbl hbA hS hi kb_La_law_535 ?_
                                  obtain ⟨k31, hw⟩ := hw
                                  obtain ⟨hy, hw⟩ := hw
                                  refine zr_ci (va_runV (C := kR_Vr) (As := [.int (xs (v3 + ((1 : Int32))).toNatClampNeg), .int (xs (v3 + ((2 : Int32))).toNatClampNeg), .int (xs (v3 + ((3 : Int32))).toNatClampNeg), .int (xs (v3 + ((4 : Int32))).toNatClampNeg)]) (rest := []) ⟨hx, hb, hml, hown, hts⟩ (kc_Vr_derivations l D dA s.heap.size v1 (xs (v3 + ((1 : Int32))).toNatClampNeg) (xs (v3 + ((2 : Int32))).toNatClampNeg) (xs (v3 + ((3 : Int32))).toNatClampNeg) (xs (v3 + ((4 : Int32))).toNatClampNeg) σ _) ⟨callB_of 4 hts (z_gw kw_546) rfl rfl rfl (hts _ (List.mem_cons_of_mem _ kw_1)) (hts _ (List.mem_cons_of_mem _ kw_543)) (by decide +kernel) ⟨Nat.le_of_ble_eq_true rfl, Nat.le_of_ble_eq_true rfl⟩, (hts _ (List.mem_cons_of_mem _ kw_544)), (hts _ (List.mem_cons_of_mem _ kw_545))⟩ (z_preV z_nwN (Nat.le_trans hZ hS.1) hG hK hN hy (ci := 7) (r := (kR_Vr, kT_Vr, 13)) rfl hw) rfl rfl hl.1 rfl (lv_room (Nat.le_of_ble_eq_true rfl)) kb_La_law_536 k31) hS (fun r536 σ536 H locs hw hG hS => ?_)
                                  refine lv_aload_n hx hb kb_La_law_539 rfl (lv_at hl 2 rfl) ?_
                                  refine lv_aload_n hx hb kb_La_law_540 rfl (lv_at hl 0 rfl) ?_
                                  refine lv_iload_n hx hb kb_La_law_541 rfl (lv_at hl 3 rfl) ?_
                                  refine lv_iconst (v := (1 : Int32)) hx hb kb_La_law_542 (by decide) ?_
                                  refine lv_iadd hx hb kb_La_law_543 ?_
                                  obtain ⟨hi, hw⟩ := hw
                                  refine va_sld hx hb hX hbl hbA hS hi kb_La_law_544 ?_
                                  refine lv_aload_n hx hb kb_La_law_545 rfl (lv_at hl 0 rfl) ?_
                                  refine lv_iload_n hx hb kb_La_law_546 rfl (lv_at hl 3 rfl) ?_
                                  refine lv_iconst (v := (2 : Int32)) hx hb kb_La_law_547 (by decide) ?_
                                  refine lv_iadd hx hb kb_La_law_548 ?_
                                  obtain ⟨hi, hw⟩ := hw
                                  refine va_sld hx hb hX hbl hbA hS hi kb_La_law_549 ?_
                                  refine lv_aload_n hx hb kb_La_law_550 rfl (lv_at hl 0 rfl) ?_
                                  refine lv_iload_n hx hb kb_La_law_551 rfl (lv_at hl 3 rfl) ?_
                                  refine lv_iconst (v := (3 : Int32)) hx hb kb_La_law_552 (by decide) ?_
                                  refine lv_iadd hx hb kb_La_law_553 ?_
                                  obtain ⟨hi, hw⟩ := hw
                                  refine va_sld hx hb hX hbl hbA hS hi kb_La_law_554 ?_
                                  refine lv_aload_n hx hb kb_La_law_555 rfl (lv_at hl 0 rfl) ?_
                                  refine lv_iload_n hx hb kb_La_law_556 rfl (lv_at hl 3 rfl) ?_
                                  refine lv_iconst (v := (4 : Int32)) hx hb kb_La_law_557 (by decide) ?_
                                  refine lv_iadd hx hb kb_La_law_558 ?_
                                  obtain ⟨hi, hw⟩ := hw
                                  refine va_sld hx hb hX hbl hbA hS hi kb_La_law_559 ?_
                                  obtain ⟨k32, hw⟩ := hw
                                  obtain ⟨hy, hw⟩ := hw
                                  refine zr_ci (va_runV (C := kR_Mo) (As := [.int (xs (v3 + ((1 : Int32))).toNatClampNeg), .int (xs (v3 + ((2 : Int32))).toNatClampNeg), .int (xs (v3 + ((3 : Int32))).toNatClampNeg), .int (xs (v3 + ((4 : Int32))).toNatClampNeg)]) (rest := [.int r536]) ⟨hx, hb, hml, hown, hts⟩ (kc_Mo_derivations l D dA s.heap.size v2 (xs (v3 + ((1 : Int32))).toNatClampNeg) (xs (v3 + ((2 : Int32))).toNatClampNeg) (xs (v3 + ((3 : Int32))).toNatClampNeg) (xs (v3 + ((4 : Int32))).toNatClampNeg) σ536 _) ⟨callB_of 4 hts (z_gw kw_883) rfl rfl rfl (hts _ (List.mem_cons_of_mem _ kw_9)) (hts _ (List.mem_cons_of_mem _ kw_880)) (by decide +kernel) ⟨Nat.le_of_ble_eq_true rfl, Nat.le_of_ble_eq_true rfl⟩, (hts _ (List.mem_cons_of_mem _ kw_881)), (hts _ (List.mem_cons_of_mem _ kw_882))⟩ (z_preV z_nwN (Nat.le_trans hZ hS.1) hG hK hN hy (ci := 8) (r := (kR_Mo, kT_Mo, 51)) rfl hw) rfl rfl hl.1 rfl (lv_room (Nat.le_of_ble_eq_true rfl)) kb_La_law_560 k32) hS (fun r560 σ560 H locs hw hG hS => ?_)
                                  refine lv_icmp_eq (tgt := 667) hx hb kb_La_law_563 (by decide) (fun hc => ?_) (fun hc => ?_)
                                  · have hw := hw.1 hc
                                    refine lv_iinc (v := v3 + (6 : Int32)) (lv' := [(3, .int (v3 + (6 : Int32))), (0, .ref b), (1, .ref v1), (2, .ref v2)]) hx hb kb_La_law_667 hl (k := 3) rfl rfl (by decide) rfl (fun ls hl => ?_)
                                    refine lv_goto (tgt := 18) hx hb kb_La_law_670 (by decide) ?_
                                    exact hw _ _ _ k32.1 k32.2 hG hS (lv_sub hl [1, 2, 3, 0] rfl)
                                  · have hw := hw.2 hc
                                    refine lv_iconst (v := (0 : Int32)) hx hb kb_La_law_566 (by decide) ?_
                                    exact hw.elim
                                · have hw := hw.2 hn13
                                  rcases Decidable.em (((xs v3.toNatClampNeg) &&& ((31 : Int32))) = (14 : Int32)) with hc | hn14
                                  · have hw := hw.1 hc
                                    refine lv_tableIn (off := 535) (tgt := 568) hx hb kb_La_law_33 (by rw [hc]; decide) (by rw [hc]; decide) (by rw [hc]; rfl) (by decide) ?_
                                    refine lv_aload_n hx hb kb_La_law_568 rfl (lv_at hl 1 rfl) ?_
                                    refine lv_aload_n hx hb kb_La_law_569 rfl (lv_at hl 0 rfl) ?_
                                    refine lv_iload_n hx hb kb_La_law_570 rfl (lv_at hl 3 rfl) ?_
                                    refine lv_iconst (v := (1 : Int32)) hx hb kb_La_law_571 (by decide) ?_
                                    refine lv_iadd hx hb kb_La_law_572 ?_
                                    obtain ⟨hi, hw⟩ := hw
                                    refine va_sld hx hb hX hbl hbA hS hi kb_La_law_573 ?_
                                    refine lv_aload_n hx hb kb_La_law_574 rfl (lv_at hl 0 rfl) ?_
                                    refine lv_iload_n hx hb kb_La_law_575 rfl (lv_at hl 3 rfl) ?_
                                    refine lv_iconst (v := (2 : Int32)) hx hb kb_La_law_576 (by decide) ?_
                                    refine lv_iadd hx hb kb_La_law_577 ?_
                                    obtain ⟨hi, hw⟩ := hw
                                    refine va_sld hx hb hX hbl hbA hS hi kb_La_law_578 ?_
                                    refine lv_aload_n hx hb kb_La_law_579 rfl (lv_at hl 0 rfl) ?_
                                    refine lv_iload_n hx hb kb_La_law_580 rfl (lv_at hl 3 rfl) ?_
                                    refine lv_iconst (v := (3 : Int32)) hx hb kb_La_law_581 (by decide) ?_
                                    refine lv_iadd hx hb kb_La_law_582 ?_
                                    obtain ⟨hi, hw⟩ := hw
                                    refine va_sld hx hb hX hbl hbA hS hi kb_La_law_583 ?_
                                    refine lv_aload_n hx hb kb_La_law_584 rfl (lv_at hl 0 rfl) ?_
                                    refine lv_iload_n hx hb kb_La_law_585 rfl (lv_at hl 3 rfl) ?_
                                    refine lv_iconst (v := (4 : Int32)) hx hb kb_La_law_586 (by decide) ?_
                                    refine lv_iadd hx hb kb_La_law_587 ?_
                                    obtain ⟨hi, hw⟩ := hw
                                    refine va_sld hx hb hX hbl hbA hS hi kb_La_law_588 ?_
                                    refine lv_aload_n hx hb kb_La_law_589 rfl (lv_at hl 0 rfl) ?_
                                    refine lv_iload_n hx hb kb_La_law_590 rfl (lv_at hl 3 rfl) ?_
                                    refine lv_iconst (v := (5 : Int32)) hx hb kb_La_law_591 (by decide) ?_
                                    refine lv_iadd hx hb kb_La_law_592 ?_
                                    obtain ⟨hi, hw⟩ := hw
                                    refine va_sld hx hb hX hbl hbA hS hi kb_La_law_593 ?_
                                    obtain ⟨k33, hw⟩ := hw
                                    obtain ⟨hy, hw⟩ := hw
                                    refine zr_ci (va_runV (C := kR_Vr) (As := [.int (xs (v3 + ((1 : Int32))).toNatClampNeg), .int (xs (v3 + ((2 : Int32))).toNatClampNeg), .int (xs (v3 + ((3 : Int32))).toNatClampNeg), .int (xs (v3 + ((4 : Int32))).toNatClampNeg), .int (xs (v3 + ((5 : Int32))).toNatClampNeg)]) (rest := []) ⟨hx, hb, hml, hown, hts⟩ (kc_Vr_why l D dA s.heap.size v1 (xs (v3 + ((1 : Int32))).toNatClampNeg) (xs (v3 + ((2 : Int32))).toNatClampNeg) (xs (v3 + ((3 : Int32))).toNatClampNeg) (xs (v3 + ((4 : Int32))).toNatClampNeg) (xs (v3 + ((5 : Int32))).toNatClampNeg) σ _) ⟨callB_of 5 hts (z_gw kw_558) rfl rfl rfl (hts _ (List.mem_cons_of_mem _ kw_1)) (hts _ (List.mem_cons_of_mem _ kw_555)) (by decide +kernel) ⟨Nat.le_of_ble_eq_true rfl, Nat.le_of_ble_eq_true rfl⟩, (hts _ (List.mem_cons_of_mem _ kw_556)), (hts _ (List.mem_cons_of_mem _ kw_557))⟩ (z_preV z_nwN (Nat.le_trans hZ hS.1) hG hK hN hy (ci := 7) (r := (kR_Vr, kT_Vr, 13)) rfl hw) rfl rfl hl.1 rfl (lv_room (Nat.le_of_ble_eq_true rfl)) kb_La_law_594 k33) hS (fun r594 σ594 H locs hw hG hS => ?_)
                                    refine lv_aload_n hx hb kb_La_law_597 rfl (lv_at hl 2 rfl) ?_
                                    refine lv_aload_n hx hb kb_La_law_598 rfl (lv_at hl 0 rfl) ?_
                                    refine lv_iload_n hx hb kb_La_law_599 rfl (lv_at hl 3 rfl) ?_
                                    refine lv_iconst (v := (1 : Int32)) hx hb kb_La_law_600 (by decide) ?_
                                    refine lv_iadd hx hb kb_La_law_601 ?_
                                    obtain ⟨hi, hw⟩ := hw
                                    refine va_sld hx hb hX hbl hbA hS hi kb_La_law_602 ?_
                                    refine lv_aload_n hx hb kb_La_law_603 rfl (lv_at hl 0 rfl) ?_
                                    refine lv_iload_n hx hb kb_La_law_604 rfl (lv_at hl 3 rfl) ?_
                                    refine lv_iconst (v := (2 : Int32)) hx hb kb_La_law_605 (by decide) ?_
                                    refine lv_iadd hx hb kb_La_law_606 ?_
                                    obtain ⟨hi, hw⟩ := hw
                                    refine va_sld hx hb hX hbl hbA hS hi kb_La_law_607 ?_
                                    refine lv_aload_n hx hb kb_La_law_608 rfl (lv_at hl 0 rfl) ?_
                                    refine lv_iload_n hx hb kb_La_law_609 rfl (lv_at hl 3 rfl) ?_
                                    refine lv_iconst (v := (3 : Int32)) hx hb kb_La_law_610 (by decide) ?_
                                    refine lv_iadd hx hb kb_La_law_611 ?_
                                    obtain ⟨hi, hw⟩ := hw
                                    refine va_sld hx hb hX hbl hbA hS hi kb_La_law_612 ?_
                                    refine lv_aload_n hx hb kb_La_law_613 rfl (lv_at hl 0 rfl) ?_
                                    refine lv_iload_n hx hb kb_La_law_614 rfl (lv_at hl 3 rfl) ?_
                                    refine lv_iconst (v := (4 : Int32)) hx hb kb_La_law_615 (by decide) ?_
                                    refine lv_iadd hx hb kb_La_law_616 ?_
                                    obtain ⟨hi, hw⟩ := hw
                                    refine va_sld hx hb hX hbl hbA hS hi kb_La_law_617 ?_
                                    refine lv_aload_n hx hb kb_La_law_618 rfl (lv_at hl 0 rfl) ?_
                                    refine lv_iload_n hx hb kb_La_law_619 rfl (lv_at hl 3 rfl) ?_
                                    refine lv_iconst (v := (5 : Int32)) hx hb kb_La_law_620 (by decide) ?_
                                    refine lv_iadd hx hb kb_La_law_621 ?_
                                    obtain ⟨hi, hw⟩ := hw
                                    refine va_sld hx hb hX hbl hbA hS hi kb_La_law_622 ?_
                                    obtain ⟨k34, hw⟩ := hw
                                    obtain ⟨hy, hw⟩ := hw
                                    refine zr_ci (va_runV (C := kR_Mo) (As := [.int (xs (v3 + ((1 : Int32))).toNatClampNeg), .int (xs (v3 + ((2 : Int32))).toNatClampNeg), .int (xs (v3 + ((3 : Int32))).toNatClampNeg), .int (xs (v3 + ((4 : Int32))).toNatClampNeg), .int (xs (v3 + ((5 : Int32))).toNatClampNeg)]) (rest := [.int r594]) ⟨hx, hb, hml, hown, hts⟩ (kc_Mo_why l D dA s.heap.size v2 (xs (v3 + ((1 : Int32))).toNatClampNeg) (xs (v3 + ((2 : Int32))).toNatClampNeg) (xs (v3 + ((3 : Int32))).toNatClampNeg) (xs (v3 + ((4 : Int32))).toNatClampNeg) (xs (v3 + ((5 : Int32))).toNatClampNeg) σ594 _) ⟨callB_of 5 hts (z_gw kw_893) rfl rfl rfl (hts _ (List.mem_cons_of_mem _ kw_9)) (hts _ (List.mem_cons_of_mem _ kw_890)) (by decide +kernel) ⟨Nat.le_of_ble_eq_true rfl, Nat.le_of_ble_eq_true rfl⟩, (hts _ (List.mem_cons_of_mem _ kw_891)), (hts _ (List.mem_cons_of_mem _ kw_892))⟩ (z_preV z_nwN (Nat.le_trans hZ hS.1) hG hK hN hy (ci := 8) (r := (kR_Mo, kT_Mo, 51)) rfl hw) rfl rfl hl.1 rfl (lv_room (Nat.le_of_ble_eq_true rfl)) kb_La_law_623 k34) hS (fun r623 σ623 H locs hw hG hS => ?_)
                                    refine lv_icmp_eq (tgt := 667) hx hb kb_La_law_626 (by decide) (fun hc => ?_) (fun hc => ?_)
                                    · have hw := hw.1 hc
                                      refine lv_iinc (v := v3 + (6 : Int32)) (lv' := [(3, .int (v3 + (6 : Int32))), (0, .ref b), (1, .ref v1), (2, .ref v2)]) hx hb kb_La_law_667 hl (k := 3) rfl rfl (by decide) rfl (fun ls hl => ?_)
                                      refine lv_goto (tgt := 18) hx hb kb_La_law_670 (by decide) ?_
                                      exact hw _ _ _ k34.1 k34.2 hG hS (lv_sub hl [1, 2, 3, 0] rfl)
                                    · have hw := hw.2 hc
                                      refine lv_iconst (v := (0 : Int32)) hx hb kb_La_law_629 (by decide) ?_
                                      exact hw.elim
                                  · have hw := hw.2 hn14
                                    rcases Decidable.em (((xs v3.toNatClampNeg) &&& ((31 : Int32))) = (15 : Int32)) with hc | hn15
                                    · have hw := hw.1 hc
                                      refine lv_tableIn (off := 598) (tgt := 631) hx hb kb_La_law_33 (by rw [hc]; decide) (by rw [hc]; decide) (by rw [hc]; rfl) (by decide) ?_
                                      refine lv_aload_n hx hb kb_La_law_631 rfl (lv_at hl 1 rfl) ?_
                                      obtain ⟨k35, hw⟩ := hw
                                      obtain ⟨hy, hw⟩ := hw
                                      refine zr_ci (va_runV (C := kR_Vr) (As := []) (rest := []) ⟨hx, hb, hml, hown, hts⟩ (kc_Vr_anew l D dA s.heap.size v1 σ _) ⟨callB_of 0 hts (z_gw kw_566) rfl rfl rfl (hts _ (List.mem_cons_of_mem _ kw_1)) (hts _ (List.mem_cons_of_mem _ kw_563)) (by decide +kernel) ⟨Nat.le_of_ble_eq_true rfl, Nat.le_of_ble_eq_true rfl⟩, (hts _ (List.mem_cons_of_mem _ kw_564)), (hts _ (List.mem_cons_of_mem _ kw_565))⟩ (z_preV z_nwN (Nat.le_trans hZ hS.1) hG hK hN hy (ci := 7) (r := (kR_Vr, kT_Vr, 13)) rfl hw) rfl rfl hl.1 rfl (lv_room (Nat.le_of_ble_eq_true rfl)) kb_La_law_632 k35) hS (fun r632 σ632 H locs hw hG hS => ?_)
                                      refine lv_aload_n hx hb kb_La_law_635 rfl (lv_at hl 2 rfl) ?_
                                      obtain ⟨k36, hw⟩ := hw
                                      obtain ⟨hy, hw⟩ := hw
                                      refine zr_ci (va_runV (C := kR_Mo) (As := []) (rest := [.int r632]) ⟨hx, hb, hml, hown, hts⟩ (kc_Mo_anew l D dA s.heap.size v2 σ632 _) ⟨callB_of 0 hts (z_gw kw_903) rfl rfl rfl (hts _ (List.mem_cons_of_mem _ kw_9)) (hts _ (List.mem_cons_of_mem _ kw_900)) (by decide +kernel) ⟨Nat.le_of_ble_eq_true rfl, Nat.le_of_ble_eq_true rfl⟩, (hts _ (List.mem_cons_of_mem _ kw_901)), (hts _ (List.mem_cons_of_mem _ kw_902))⟩ (z_preV z_nwN (Nat.le_trans hZ hS.1) hG hK hN hy (ci := 8) (r := (kR_Mo, kT_Mo, 51)) rfl hw) rfl rfl hl.1 rfl (lv_room (Nat.le_of_ble_eq_true rfl)) kb_La_law_636 k36) hS (fun r636 σ636 H locs hw hG hS => ?_)
                                      refine lv_icmp_eq (tgt := 667) hx hb kb_La_law_639 (by decide) (fun hc => ?_) (fun hc => ?_)
                                      · have hw := hw.1 hc
                                        refine lv_iinc (v := v3 + (6 : Int32)) (lv' := [(3, .int (v3 + (6 : Int32))), (0, .ref b), (1, .ref v1), (2, .ref v2)]) hx hb kb_La_law_667 hl (k := 3) rfl rfl (by decide) rfl (fun ls hl => ?_)
                                        refine lv_goto (tgt := 18) hx hb kb_La_law_670 (by decide) ?_
                                        exact hw _ _ _ k36.1 k36.2 hG hS (lv_sub hl [1, 2, 3, 0] rfl)
                                      · have hw := hw.2 hc
                                        refine lv_iconst (v := (0 : Int32)) hx hb kb_La_law_642 (by decide) ?_
                                        exact hw.elim
                                    · have hw := hw.2 hn15
                                      rcases Decidable.em (((xs v3.toNatClampNeg) &&& ((31 : Int32))) = (16 : Int32)) with hc | hn16
                                      · have hw := hw.1 hc
                                        refine lv_tableIn (off := 611) (tgt := 644) hx hb kb_La_law_33 (by rw [hc]; decide) (by rw [hc]; decide) (by rw [hc]; rfl) (by decide) ?_
                                        refine lv_aload_n hx hb kb_La_law_644 rfl (lv_at hl 1 rfl) ?_
                                        refine lv_aload_n hx hb kb_La_law_645 rfl (lv_at hl 0 rfl) ?_
                                        refine lv_iload_n hx hb kb_La_law_646 rfl (lv_at hl 3 rfl) ?_
                                        refine lv_iconst (v := (1 : Int32)) hx hb kb_La_law_647 (by decide) ?_
                                        refine lv_iadd hx hb kb_La_law_648 ?_
                                        obtain ⟨hi, hw⟩ := hw
                                        refine va_sld hx hb hX hbl hbA hS hi kb_La_law_649 ?_
                                        obtain ⟨k37, hw⟩ := hw
                                        obtain ⟨hy, hw⟩ := hw
                                        refine zr_ci (va_runV (C := kR_Vr) (As := [.int (xs (v3 + ((1 : Int32))).toNatClampNeg)]) (rest := []) ⟨hx, hb, hml, hown, hts⟩ (kc_Vr_told l D dA s.heap.size v1 (xs (v3 + ((1 : Int32))).toNatClampNeg) σ _) ⟨callB_of 1 hts (z_gw kw_577) rfl rfl rfl (hts _ (List.mem_cons_of_mem _ kw_1)) (hts _ (List.mem_cons_of_mem _ kw_574)) (by decide +kernel) ⟨Nat.le_of_ble_eq_true rfl, Nat.le_of_ble_eq_true rfl⟩, (hts _ (List.mem_cons_of_mem _ kw_575)), (hts _ (List.mem_cons_of_mem _ kw_576))⟩ (z_preV z_nwN (Nat.le_trans hZ hS.1) hG hK hN hy (ci := 7) (r := (kR_Vr, kT_Vr, 13)) rfl hw) rfl rfl hl.1 rfl (lv_room (Nat.le_of_ble_eq_true rfl)) kb_La_law_650 k37) hS (fun r650 σ650 H locs hw hG hS => ?_)
                                        refine lv_aload_n hx hb kb_La_law_653 rfl (lv_at hl 2 rfl) ?_
                                        refine lv_aload_n hx hb kb_La_law_654 rfl (lv_at hl 0 rfl) ?_
                                        refine lv_iload_n hx hb kb_La_law_655 rfl (lv_at hl 3 rfl) ?_
                                        refine lv_iconst (v := (1 : Int32)) hx hb kb_La_law_656 (by decide) ?_
                                        refine lv_iadd hx hb kb_La_law_657 ?_
                                        obtain ⟨hi, hw⟩ := hw
                                        refine va_sld hx hb hX hbl hbA hS hi kb_La_law_658 ?_
                                        obtain ⟨k38, hw⟩ := hw
                                        obtain ⟨hy, hw⟩ := hw
                                        refine zr_ci (va_runV (C := kR_Mo) (As := [.int (xs (v3 + ((1 : Int32))).toNatClampNeg)]) (rest := [.int r650]) ⟨hx, hb, hml, hown, hts⟩ (kc_Mo_told l D dA s.heap.size v2 (xs (v3 + ((1 : Int32))).toNatClampNeg) σ650 _) ⟨callB_of 1 hts (z_gw kw_907) rfl rfl rfl (hts _ (List.mem_cons_of_mem _ kw_9)) (hts _ (List.mem_cons_of_mem _ kw_904)) (by decide +kernel) ⟨Nat.le_of_ble_eq_true rfl, Nat.le_of_ble_eq_true rfl⟩, (hts _ (List.mem_cons_of_mem _ kw_905)), (hts _ (List.mem_cons_of_mem _ kw_906))⟩ (z_preV z_nwN (Nat.le_trans hZ hS.1) hG hK hN hy (ci := 8) (r := (kR_Mo, kT_Mo, 51)) rfl hw) rfl rfl hl.1 rfl (lv_room (Nat.le_of_ble_eq_true rfl)) kb_La_law_659 k38) hS (fun r659 σ659 H locs hw hG hS => ?_)
                                        refine lv_icmp_eq (tgt := 667) hx hb kb_La_law_662 (by decide) (fun hc => ?_) (fun hc => ?_)
                                        · have hw := hw.1 hc
                                          refine lv_iinc (v := v3 + (6 : Int32)) (lv' := [(3, .int (v3 + (6 : Int32))), (0, .ref b), (1, .ref v1), (2, .ref v2)]) hx hb kb_La_law_667 hl (k := 3) rfl rfl (by decide) rfl (fun ls hl => ?_)
                                          refine lv_goto (tgt := 18) hx hb kb_La_law_670 (by decide) ?_
                                          exact hw _ _ _ k38.1 k38.2 hG hS (lv_sub hl [1, 2, 3, 0] rfl)
                                        · have hw := hw.2 hc
                                          refine lv_iconst (v := (0 : Int32)) hx hb kb_La_law_665 (by decide) ?_
                                          exact hw.elim
                                      · have hw := hw.2 hn16
                                        refine lv_tableOut (tgt := 667) hx hb kb_La_law_33 (by have := lv_neT hn0 (a := 0) (by decide); have := lv_neT hn1 (a := 1) (by decide); have := lv_neT hn2 (a := 2) (by decide); have := lv_neT hn3 (a := 3) (by decide); have := lv_neT hn4 (a := 4) (by decide); have := lv_neT hn5 (a := 5) (by decide); have := lv_neT hn6 (a := 6) (by decide); have := lv_neT hn7 (a := 7) (by decide); have := lv_neT hn8 (a := 8) (by decide); have := lv_neT hn9 (a := 9) (by decide); have := lv_neT hn10 (a := 10) (by decide); have := lv_neT hn11 (a := 11) (by decide); have := lv_neT hn12 (a := 12) (by decide); have := lv_neT hn13 (a := 13) (by decide); have := lv_neT hn14 (a := 14) (by decide); have := lv_neT hn15 (a := 15) (by decide); have := lv_neT hn16 (a := 16) (by decide); omega) (by decide) ?_
                                        refine lv_iinc (v := v3 + (6 : Int32)) (lv' := [(3, .int (v3 + (6 : Int32))), (0, .ref b), (1, .ref v1), (2, .ref v2)]) hx hb kb_La_law_667 hl (k := 3) rfl rfl (by decide) rfl (fun ls hl => ?_)
                                        refine lv_goto (tgt := 18) hx hb kb_La_law_670 (by decide) ?_
                                        exact hw _ _ _ hkc hks hG hS (lv_sub hl [1, 2, 3, 0] rfl))
  obtain ⟨k1, hw⟩ := hw
  refine zr_new (ci := 7) hx hb hts ki_Vr ky_Vr kyo_Vr hown (hts _ (List.mem_cons_of_mem _ kw_11)) (hts _ (List.mem_cons_of_mem _ kw_12)) (hts _ (List.mem_cons_of_mem _ kw_1)) hK hG hS hZ rfl kd_Vr k1.1 k1.2 kb_La_law_0 (fun q0 H hq hG hS => ?_)
  obtain ⟨σ0, e0⟩ : ∃ z, z = z_new σ q0 7 := ⟨_, rfl⟩
  rw [← e0] at hG
  have hw := hw q0 hq _ e0
  refine lv_dup hx hb kb_La_law_3 rfl ?_
  obtain ⟨k2, hw⟩ := hw
  refine zr_cv (va_runI (b := q0) (As := []) (rest := [.ref q0]) ⟨hx, hb, hml, hown, hts⟩ (kc_Vr_init l D dA s.heap.size q0 σ0 _) ⟨callB_of 0 hts (z_gw kw_15) rfl rfl rfl (hts _ (List.mem_cons_of_mem _ kw_1)) (hts _ (List.mem_cons_of_mem _ kw_13)) (by decide +kernel) ⟨Nat.le_of_ble_eq_true rfl, Nat.le_of_ble_eq_true rfl⟩, rfl, (hts _ (List.mem_cons_of_mem _ kw_14))⟩ (z_preS z_nwN (Nat.le_trans hZ hS.1) hG hK hN hw) rfl rfl hl.1 rfl (lv_room (Nat.le_of_ble_eq_true rfl)) kb_La_law_4 k2) hS (fun σ4 H locs hw hG hS => ?_)
  refine lv_astore_n (lv' := [(1, .ref q0), (0, .ref b)]) hx hb kb_La_law_7 rfl hl (by decide) rfl (fun ls hl => ?_)
  obtain ⟨k3, hw⟩ := hw
  refine zr_new (ci := 8) hx hb hts ki_Mo ky_Mo kyo_Mo hown (hts _ (List.mem_cons_of_mem _ kw_578)) (hts _ (List.mem_cons_of_mem _ kw_579)) (hts _ (List.mem_cons_of_mem _ kw_9)) hK hG hS hZ rfl kd_Mo k3.1 k3.2 kb_La_law_8 (fun q8 H hq hG hS => ?_)
  obtain ⟨σ8, e8⟩ : ∃ z, z = z_new σ4 q8 8 := ⟨_, rfl⟩
  rw [← e8] at hG
  have hw := hw q8 hq _ e8
  refine lv_dup hx hb kb_La_law_11 rfl ?_
  obtain ⟨k4, hw⟩ := hw
  refine zr_cv (va_runI (b := q8) (As := []) (rest := [.ref q8]) ⟨hx, hb, hml, hown, hts⟩ (kc_Mo_init l D dA s.heap.size q8 σ8 _) ⟨callB_of 0 hts (z_gw kw_582) rfl rfl rfl (hts _ (List.mem_cons_of_mem _ kw_9)) (hts _ (List.mem_cons_of_mem _ kw_580)) (by decide +kernel) ⟨Nat.le_of_ble_eq_true rfl, Nat.le_of_ble_eq_true rfl⟩, rfl, (hts _ (List.mem_cons_of_mem _ kw_581))⟩ (z_preS z_nwN (Nat.le_trans hZ hS.1) hG hK hN hw) rfl rfl hl.1 rfl (lv_room (Nat.le_of_ble_eq_true rfl)) kb_La_law_12 k4) hS (fun σ12 H locs hw hG hS => ?_)
  refine lv_astore_n (lv' := [(2, .ref q8), (1, .ref q0), (0, .ref b)]) hx hb kb_La_law_15 rfl hl (by decide) rfl (fun ls hl => ?_)
  refine lv_iconst (v := (0 : Int32)) hx hb kb_La_law_16 (by decide) ?_
  refine lv_istore_n (lv' := [(3, .int ((0 : Int32))), (2, .ref q8), (1, .ref q0), (0, .ref b)]) hx hb kb_La_law_17 rfl hl (by decide) rfl (fun ls hl => ?_)
  exact hw _ _ _ k4.1 k4.2 hG hS (lv_sub hl [3, 2, 1, 0] rfl)
