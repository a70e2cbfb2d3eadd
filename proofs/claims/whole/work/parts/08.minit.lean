theorem d_M_init_0 : decode b_M_init 0 = .ok (.aload_n 0, 1) := by decide +kernel
theorem d_M_init_1 : decode b_M_init 1 = .ok (.invokespecial 1, 3) := by decide +kernel
theorem d_M_init_4 : decode b_M_init 4 = .ok (.aload_n 0, 1) := by decide +kernel
theorem d_M_init_5 : decode b_M_init 5 = .ok (.bipush 120, 2) := by decide +kernel
theorem d_M_init_7 : decode b_M_init 7 = .ok (.newarray .int, 2) := by decide +kernel
theorem d_M_init_9 : decode b_M_init 9 = .ok (.putfield 7, 3) := by decide +kernel
theorem d_M_init_12 : decode b_M_init 12 = .ok (.aload_n 0, 1) := by decide +kernel
theorem d_M_init_13 : decode b_M_init 13 = .ok (.bipush 24, 2) := by decide +kernel
theorem d_M_init_15 : decode b_M_init 15 = .ok (.newarray .int, 2) := by decide +kernel
theorem d_M_init_17 : decode b_M_init 17 = .ok (.putfield 13, 3) := by decide +kernel
theorem d_M_init_20 : decode b_M_init 20 = .ok (.aload_n 0, 1) := by decide +kernel
theorem d_M_init_21 : decode b_M_init 21 = .ok (.bipush 24, 2) := by decide +kernel
theorem d_M_init_23 : decode b_M_init 23 = .ok (.newarray .int, 2) := by decide +kernel
theorem d_M_init_25 : decode b_M_init 25 = .ok (.putfield 16, 3) := by decide +kernel
theorem d_M_init_28 : decode b_M_init 28 = .ok (.aload_n 0, 1) := by decide +kernel
theorem d_M_init_29 : decode b_M_init 29 = .ok (.bipush 96, 2) := by decide +kernel
theorem d_M_init_31 : decode b_M_init 31 = .ok (.newarray .int, 2) := by decide +kernel
theorem d_M_init_33 : decode b_M_init 33 = .ok (.putfield 19, 3) := by decide +kernel
theorem d_M_init_36 : decode b_M_init 36 = .ok (.aload_n 0, 1) := by decide +kernel
theorem d_M_init_37 : decode b_M_init 37 = .ok (.bipush 40, 2) := by decide +kernel
theorem d_M_init_39 : decode b_M_init 39 = .ok (.newarray .int, 2) := by decide +kernel
theorem d_M_init_41 : decode b_M_init 41 = .ok (.putfield 22, 3) := by decide +kernel
theorem d_M_init_44 : decode b_M_init 44 = .ok (.aload_n 0, 1) := by decide +kernel
theorem d_M_init_45 : decode b_M_init 45 = .ok (.bipush 77, 2) := by decide +kernel
theorem d_M_init_47 : decode b_M_init 47 = .ok (.newarray .long, 2) := by decide +kernel
theorem d_M_init_49 : decode b_M_init 49 = .ok (.putfield 25, 3) := by decide +kernel
theorem d_M_init_52 : decode b_M_init 52 = .ok (.aload_n 0, 1) := by decide +kernel
theorem d_M_init_53 : decode b_M_init 53 = .ok (.bipush 25, 2) := by decide +kernel
theorem d_M_init_55 : decode b_M_init 55 = .ok (.newarray .boolean, 2) := by decide +kernel
theorem d_M_init_57 : decode b_M_init 57 = .ok (.putfield 29, 3) := by decide +kernel
theorem d_M_init_60 : decode b_M_init 60 = .ok (.aload_n 0, 1) := by decide +kernel
theorem d_M_init_61 : decode b_M_init 61 = .ok (.bipush 25, 2) := by decide +kernel
theorem d_M_init_63 : decode b_M_init 63 = .ok (.newarray .int, 2) := by decide +kernel
theorem d_M_init_65 : decode b_M_init 65 = .ok (.putfield 33, 3) := by decide +kernel
theorem d_M_init_68 : decode b_M_init 68 = .ok (.aload_n 0, 1) := by decide +kernel
theorem d_M_init_69 : decode b_M_init 69 = .ok (.sipush 1500, 3) := by decide +kernel
theorem d_M_init_72 : decode b_M_init 72 = .ok (.newarray .int, 2) := by decide +kernel
theorem d_M_init_74 : decode b_M_init 74 = .ok (.putfield 36, 3) := by decide +kernel
theorem d_M_init_77 : decode b_M_init 77 = .ok (.aload_n 0, 1) := by decide +kernel
theorem d_M_init_78 : decode b_M_init 78 = .ok (.sipush 1500, 3) := by decide +kernel
theorem d_M_init_81 : decode b_M_init 81 = .ok (.newarray .int, 2) := by decide +kernel
theorem d_M_init_83 : decode b_M_init 83 = .ok (.putfield 39, 3) := by decide +kernel
theorem d_M_init_86 : decode b_M_init 86 = .ok (.aload_n 0, 1) := by decide +kernel
theorem d_M_init_87 : decode b_M_init 87 = .ok (.bipush 8, 2) := by decide +kernel
theorem d_M_init_89 : decode b_M_init 89 = .ok (.newarray .int, 2) := by decide +kernel
theorem d_M_init_91 : decode b_M_init 91 = .ok (.putfield 42, 3) := by decide +kernel
theorem d_M_init_94 : decode b_M_init 94 = .ok (.aload_n 0, 1) := by decide +kernel
theorem d_M_init_95 : decode b_M_init 95 = .ok (.bipush 8, 2) := by decide +kernel
theorem d_M_init_97 : decode b_M_init 97 = .ok (.newarray .int, 2) := by decide +kernel
theorem d_M_init_99 : decode b_M_init 99 = .ok (.putfield 45, 3) := by decide +kernel
theorem d_M_init_102 : decode b_M_init 102 = .ok (.aload_n 0, 1) := by decide +kernel
theorem d_M_init_103 : decode b_M_init 103 = .ok (.bipush 16, 2) := by decide +kernel
theorem d_M_init_105 : decode b_M_init 105 = .ok (.newarray .int, 2) := by decide +kernel
theorem d_M_init_107 : decode b_M_init 107 = .ok (.putfield 48, 3) := by decide +kernel
theorem d_M_init_110 : decode b_M_init 110 = .ok (.aload_n 0, 1) := by decide +kernel
theorem d_M_init_111 : decode b_M_init 111 = .ok (.bipush 16, 2) := by decide +kernel
theorem d_M_init_113 : decode b_M_init 113 = .ok (.newarray .int, 2) := by decide +kernel
theorem d_M_init_115 : decode b_M_init 115 = .ok (.putfield 51, 3) := by decide +kernel
theorem d_M_init_118 : decode b_M_init 118 = .ok (.aload_n 0, 1) := by decide +kernel
theorem d_M_init_119 : decode b_M_init 119 = .ok (.bipush 16, 2) := by decide +kernel
theorem d_M_init_121 : decode b_M_init 121 = .ok (.newarray .int, 2) := by decide +kernel
theorem d_M_init_123 : decode b_M_init 123 = .ok (.putfield 54, 3) := by decide +kernel
theorem d_M_init_126 : decode b_M_init 126 = .ok (.aload_n 0, 1) := by decide +kernel
theorem d_M_init_127 : decode b_M_init 127 = .ok (.bipush 64, 2) := by decide +kernel
theorem d_M_init_129 : decode b_M_init 129 = .ok (.newarray .int, 2) := by decide +kernel
theorem d_M_init_131 : decode b_M_init 131 = .ok (.putfield 57, 3) := by decide +kernel
theorem d_M_init_134 : decode b_M_init 134 = .ok (.aload_n 0, 1) := by decide +kernel
theorem d_M_init_135 : decode b_M_init 135 = .ok (.bipush 64, 2) := by decide +kernel
theorem d_M_init_137 : decode b_M_init 137 = .ok (.newarray .int, 2) := by decide +kernel
theorem d_M_init_139 : decode b_M_init 139 = .ok (.putfield 60, 3) := by decide +kernel
theorem d_M_init_142 : decode b_M_init 142 = .ok (.aload_n 0, 1) := by decide +kernel
theorem d_M_init_143 : decode b_M_init 143 = .ok (.bipush 64, 2) := by decide +kernel
theorem d_M_init_145 : decode b_M_init 145 = .ok (.newarray .int, 2) := by decide +kernel
theorem d_M_init_147 : decode b_M_init 147 = .ok (.putfield 63, 3) := by decide +kernel
theorem d_M_init_150 : decode b_M_init 150 = .ok (.aload_n 0, 1) := by decide +kernel
theorem d_M_init_151 : decode b_M_init 151 = .ok (.iconst 2, 1) := by decide +kernel
theorem d_M_init_152 : decode b_M_init 152 = .ok (.newarray .int, 2) := by decide +kernel
theorem d_M_init_154 : decode b_M_init 154 = .ok (.putfield 66, 3) := by decide +kernel
theorem d_M_init_157 : decode b_M_init 157 = .ok (.aload_n 0, 1) := by decide +kernel
theorem d_M_init_158 : decode b_M_init 158 = .ok (.iconst 2, 1) := by decide +kernel
theorem d_M_init_159 : decode b_M_init 159 = .ok (.newarray .boolean, 2) := by decide +kernel
theorem d_M_init_161 : decode b_M_init 161 = .ok (.putfield 69, 3) := by decide +kernel
theorem d_M_init_164 : decode b_M_init 164 = .ok (.aload_n 0, 1) := by decide +kernel
theorem d_M_init_165 : decode b_M_init 165 = .ok (.iconst (-1), 1) := by decide +kernel
theorem d_M_init_166 : decode b_M_init 166 = .ok (.putfield 72, 3) := by decide +kernel
theorem d_M_init_169 : decode b_M_init 169 = .ok (.aload_n 0, 1) := by decide +kernel
theorem d_M_init_170 : decode b_M_init 170 = .ok (.getfield 66, 3) := by decide +kernel
theorem d_M_init_173 : decode b_M_init 173 = .ok (.iconst 0, 1) := by decide +kernel
theorem d_M_init_174 : decode b_M_init 174 = .ok (.iconst (-1), 1) := by decide +kernel
theorem d_M_init_175 : decode b_M_init 175 = .ok (.iastore, 1) := by decide +kernel
theorem d_M_init_176 : decode b_M_init 176 = .ok (.aload_n 0, 1) := by decide +kernel
theorem d_M_init_177 : decode b_M_init 177 = .ok (.getfield 66, 3) := by decide +kernel
theorem d_M_init_180 : decode b_M_init 180 = .ok (.iconst 1, 1) := by decide +kernel
theorem d_M_init_181 : decode b_M_init 181 = .ok (.iconst (-1), 1) := by decide +kernel
theorem d_M_init_182 : decode b_M_init 182 = .ok (.iastore, 1) := by decide +kernel
theorem d_M_init_183 : decode b_M_init 183 = .ok (.aload_n 0, 1) := by decide +kernel
theorem d_M_init_184 : decode b_M_init 184 = .ok (.iconst 0, 1) := by decide +kernel
theorem d_M_init_185 : decode b_M_init 185 = .ok (.ldc2_w 76, 3) := by decide +kernel
theorem d_M_init_188 : decode b_M_init 188 = .ok (.invokevirtual 78, 3) := by decide +kernel
theorem d_M_init_191 : decode b_M_init 191 = .ok (.aload_n 0, 1) := by decide +kernel
theorem d_M_init_192 : decode b_M_init 192 = .ok (.iconst 1, 1) := by decide +kernel
theorem d_M_init_193 : decode b_M_init 193 = .ok (.ldc2_w 82, 3) := by decide +kernel
theorem d_M_init_196 : decode b_M_init 196 = .ok (.invokevirtual 78, 3) := by decide +kernel
theorem d_M_init_199 : decode b_M_init 199 = .ok (.aload_n 0, 1) := by decide +kernel
theorem d_M_init_200 : decode b_M_init 200 = .ok (.iconst 2, 1) := by decide +kernel
theorem d_M_init_201 : decode b_M_init 201 = .ok (.ldc2_w 84, 3) := by decide +kernel
theorem d_M_init_204 : decode b_M_init 204 = .ok (.invokevirtual 78, 3) := by decide +kernel
theorem d_M_init_207 : decode b_M_init 207 = .ok (.aload_n 0, 1) := by decide +kernel
theorem d_M_init_208 : decode b_M_init 208 = .ok (.iconst 3, 1) := by decide +kernel
theorem d_M_init_209 : decode b_M_init 209 = .ok (.ldc2_w 86, 3) := by decide +kernel
theorem d_M_init_212 : decode b_M_init 212 = .ok (.invokevirtual 78, 3) := by decide +kernel
theorem d_M_init_215 : decode b_M_init 215 = .ok (.aload_n 0, 1) := by decide +kernel
theorem d_M_init_216 : decode b_M_init 216 = .ok (.bipush 8, 2) := by decide +kernel
theorem d_M_init_218 : decode b_M_init 218 = .ok (.ldc2_w 88, 3) := by decide +kernel
theorem d_M_init_221 : decode b_M_init 221 = .ok (.invokevirtual 78, 3) := by decide +kernel
theorem d_M_init_224 : decode b_M_init 224 = .ok (.aload_n 0, 1) := by decide +kernel
theorem d_M_init_225 : decode b_M_init 225 = .ok (.bipush 9, 2) := by decide +kernel
theorem d_M_init_227 : decode b_M_init 227 = .ok (.ldc2_w 90, 3) := by decide +kernel
theorem d_M_init_230 : decode b_M_init 230 = .ok (.invokevirtual 78, 3) := by decide +kernel
theorem d_M_init_233 : decode b_M_init 233 = .ok (.aload_n 0, 1) := by decide +kernel
theorem d_M_init_234 : decode b_M_init 234 = .ok (.bipush 18, 2) := by decide +kernel
theorem d_M_init_236 : decode b_M_init 236 = .ok (.ldc2_w 92, 3) := by decide +kernel
theorem d_M_init_239 : decode b_M_init 239 = .ok (.invokevirtual 78, 3) := by decide +kernel
theorem d_M_init_242 : decode b_M_init 242 = .ok (.aload_n 0, 1) := by decide +kernel
theorem d_M_init_243 : decode b_M_init 243 = .ok (.bipush 19, 2) := by decide +kernel
theorem d_M_init_245 : decode b_M_init 245 = .ok (.ldc2_w 94, 3) := by decide +kernel
theorem d_M_init_248 : decode b_M_init 248 = .ok (.invokevirtual 78, 3) := by decide +kernel
theorem d_M_init_251 : decode b_M_init 251 = .ok (.aload_n 0, 1) := by decide +kernel
theorem d_M_init_252 : decode b_M_init 252 = .ok (.bipush 20, 2) := by decide +kernel
theorem d_M_init_254 : decode b_M_init 254 = .ok (.ldc2_w 96, 3) := by decide +kernel
theorem d_M_init_257 : decode b_M_init 257 = .ok (.invokevirtual 78, 3) := by decide +kernel
theorem d_M_init_260 : decode b_M_init 260 = .ok (.aload_n 0, 1) := by decide +kernel
theorem d_M_init_261 : decode b_M_init 261 = .ok (.bipush 23, 2) := by decide +kernel
theorem d_M_init_263 : decode b_M_init 263 = .ok (.ldc2_w 98, 3) := by decide +kernel
theorem d_M_init_266 : decode b_M_init 266 = .ok (.invokevirtual 78, 3) := by decide +kernel
theorem d_M_init_269 : decode b_M_init 269 = .ok (.aload_n 0, 1) := by decide +kernel
theorem d_M_init_270 : decode b_M_init 270 = .ok (.bipush 28, 2) := by decide +kernel
theorem d_M_init_272 : decode b_M_init 272 = .ok (.ldc2_w 100, 3) := by decide +kernel
theorem d_M_init_275 : decode b_M_init 275 = .ok (.invokevirtual 78, 3) := by decide +kernel
theorem d_M_init_278 : decode b_M_init 278 = .ok (.aload_n 0, 1) := by decide +kernel
theorem d_M_init_279 : decode b_M_init 279 = .ok (.bipush 29, 2) := by decide +kernel
theorem d_M_init_281 : decode b_M_init 281 = .ok (.ldc2_w 102, 3) := by decide +kernel
theorem d_M_init_284 : decode b_M_init 284 = .ok (.invokevirtual 78, 3) := by decide +kernel
theorem d_M_init_287 : decode b_M_init 287 = .ok (.aload_n 0, 1) := by decide +kernel
theorem d_M_init_288 : decode b_M_init 288 = .ok (.bipush 32, 2) := by decide +kernel
theorem d_M_init_290 : decode b_M_init 290 = .ok (.ldc2_w 104, 3) := by decide +kernel
theorem d_M_init_293 : decode b_M_init 293 = .ok (.invokevirtual 78, 3) := by decide +kernel
theorem d_M_init_296 : decode b_M_init 296 = .ok (.aload_n 0, 1) := by decide +kernel
theorem d_M_init_297 : decode b_M_init 297 = .ok (.bipush 35, 2) := by decide +kernel
theorem d_M_init_299 : decode b_M_init 299 = .ok (.ldc2_w 106, 3) := by decide +kernel
theorem d_M_init_302 : decode b_M_init 302 = .ok (.invokevirtual 78, 3) := by decide +kernel
theorem d_M_init_305 : decode b_M_init 305 = .ok (.aload_n 0, 1) := by decide +kernel
theorem d_M_init_306 : decode b_M_init 306 = .ok (.bipush 40, 2) := by decide +kernel
theorem d_M_init_308 : decode b_M_init 308 = .ok (.ldc2_w 108, 3) := by decide +kernel
theorem d_M_init_311 : decode b_M_init 311 = .ok (.invokevirtual 78, 3) := by decide +kernel
theorem d_M_init_314 : decode b_M_init 314 = .ok (.aload_n 0, 1) := by decide +kernel
theorem d_M_init_315 : decode b_M_init 315 = .ok (.iconst 4, 1) := by decide +kernel
theorem d_M_init_316 : decode b_M_init 316 = .ok (.ldc2_w 110, 3) := by decide +kernel
theorem d_M_init_319 : decode b_M_init 319 = .ok (.invokevirtual 78, 3) := by decide +kernel
theorem d_M_init_322 : decode b_M_init 322 = .ok (.aload_n 0, 1) := by decide +kernel
theorem d_M_init_323 : decode b_M_init 323 = .ok (.iconst 5, 1) := by decide +kernel
theorem d_M_init_324 : decode b_M_init 324 = .ok (.ldc2_w 112, 3) := by decide +kernel
theorem d_M_init_327 : decode b_M_init 327 = .ok (.invokevirtual 78, 3) := by decide +kernel
theorem d_M_init_330 : decode b_M_init 330 = .ok (.aload_n 0, 1) := by decide +kernel
theorem d_M_init_331 : decode b_M_init 331 = .ok (.bipush 6, 2) := by decide +kernel
theorem d_M_init_333 : decode b_M_init 333 = .ok (.ldc2_w 114, 3) := by decide +kernel
theorem d_M_init_336 : decode b_M_init 336 = .ok (.invokevirtual 78, 3) := by decide +kernel
theorem d_M_init_339 : decode b_M_init 339 = .ok (.aload_n 0, 1) := by decide +kernel
theorem d_M_init_340 : decode b_M_init 340 = .ok (.bipush 7, 2) := by decide +kernel
theorem d_M_init_342 : decode b_M_init 342 = .ok (.ldc2_w 116, 3) := by decide +kernel
theorem d_M_init_345 : decode b_M_init 345 = .ok (.invokevirtual 78, 3) := by decide +kernel
theorem d_M_init_348 : decode b_M_init 348 = .ok (.aload_n 0, 1) := by decide +kernel
theorem d_M_init_349 : decode b_M_init 349 = .ok (.bipush 10, 2) := by decide +kernel
theorem d_M_init_351 : decode b_M_init 351 = .ok (.ldc2_w 118, 3) := by decide +kernel
theorem d_M_init_354 : decode b_M_init 354 = .ok (.invokevirtual 78, 3) := by decide +kernel
theorem d_M_init_357 : decode b_M_init 357 = .ok (.aload_n 0, 1) := by decide +kernel
theorem d_M_init_358 : decode b_M_init 358 = .ok (.bipush 11, 2) := by decide +kernel
theorem d_M_init_360 : decode b_M_init 360 = .ok (.ldc2_w 120, 3) := by decide +kernel
theorem d_M_init_363 : decode b_M_init 363 = .ok (.invokevirtual 78, 3) := by decide +kernel
theorem d_M_init_366 : decode b_M_init 366 = .ok (.aload_n 0, 1) := by decide +kernel
theorem d_M_init_367 : decode b_M_init 367 = .ok (.bipush 12, 2) := by decide +kernel
theorem d_M_init_369 : decode b_M_init 369 = .ok (.ldc2_w 122, 3) := by decide +kernel
theorem d_M_init_372 : decode b_M_init 372 = .ok (.invokevirtual 78, 3) := by decide +kernel
theorem d_M_init_375 : decode b_M_init 375 = .ok (.aload_n 0, 1) := by decide +kernel
theorem d_M_init_376 : decode b_M_init 376 = .ok (.bipush 13, 2) := by decide +kernel
theorem d_M_init_378 : decode b_M_init 378 = .ok (.ldc2_w 124, 3) := by decide +kernel
theorem d_M_init_381 : decode b_M_init 381 = .ok (.invokevirtual 78, 3) := by decide +kernel
theorem d_M_init_384 : decode b_M_init 384 = .ok (.aload_n 0, 1) := by decide +kernel
theorem d_M_init_385 : decode b_M_init 385 = .ok (.bipush 14, 2) := by decide +kernel
theorem d_M_init_387 : decode b_M_init 387 = .ok (.ldc2_w 126, 3) := by decide +kernel
theorem d_M_init_390 : decode b_M_init 390 = .ok (.invokevirtual 78, 3) := by decide +kernel
theorem d_M_init_393 : decode b_M_init 393 = .ok (.aload_n 0, 1) := by decide +kernel
theorem d_M_init_394 : decode b_M_init 394 = .ok (.bipush 15, 2) := by decide +kernel
theorem d_M_init_396 : decode b_M_init 396 = .ok (.ldc2_w 128, 3) := by decide +kernel
theorem d_M_init_399 : decode b_M_init 399 = .ok (.invokevirtual 78, 3) := by decide +kernel
theorem d_M_init_402 : decode b_M_init 402 = .ok (.aload_n 0, 1) := by decide +kernel
theorem d_M_init_403 : decode b_M_init 403 = .ok (.bipush 16, 2) := by decide +kernel
theorem d_M_init_405 : decode b_M_init 405 = .ok (.ldc2_w 130, 3) := by decide +kernel
theorem d_M_init_408 : decode b_M_init 408 = .ok (.invokevirtual 78, 3) := by decide +kernel
theorem d_M_init_411 : decode b_M_init 411 = .ok (.aload_n 0, 1) := by decide +kernel
theorem d_M_init_412 : decode b_M_init 412 = .ok (.bipush 17, 2) := by decide +kernel
theorem d_M_init_414 : decode b_M_init 414 = .ok (.ldc2_w 132, 3) := by decide +kernel
theorem d_M_init_417 : decode b_M_init 417 = .ok (.invokevirtual 78, 3) := by decide +kernel
theorem d_M_init_420 : decode b_M_init 420 = .ok (.aload_n 0, 1) := by decide +kernel
theorem d_M_init_421 : decode b_M_init 421 = .ok (.bipush 21, 2) := by decide +kernel
theorem d_M_init_423 : decode b_M_init 423 = .ok (.ldc2_w 134, 3) := by decide +kernel
theorem d_M_init_426 : decode b_M_init 426 = .ok (.invokevirtual 78, 3) := by decide +kernel
theorem d_M_init_429 : decode b_M_init 429 = .ok (.aload_n 0, 1) := by decide +kernel
theorem d_M_init_430 : decode b_M_init 430 = .ok (.bipush 22, 2) := by decide +kernel
theorem d_M_init_432 : decode b_M_init 432 = .ok (.ldc2_w 136, 3) := by decide +kernel
theorem d_M_init_435 : decode b_M_init 435 = .ok (.invokevirtual 78, 3) := by decide +kernel
theorem d_M_init_438 : decode b_M_init 438 = .ok (.aload_n 0, 1) := by decide +kernel
theorem d_M_init_439 : decode b_M_init 439 = .ok (.bipush 24, 2) := by decide +kernel
theorem d_M_init_441 : decode b_M_init 441 = .ok (.ldc2_w 138, 3) := by decide +kernel
theorem d_M_init_444 : decode b_M_init 444 = .ok (.invokevirtual 78, 3) := by decide +kernel
theorem d_M_init_447 : decode b_M_init 447 = .ok (.aload_n 0, 1) := by decide +kernel
theorem d_M_init_448 : decode b_M_init 448 = .ok (.bipush 25, 2) := by decide +kernel
theorem d_M_init_450 : decode b_M_init 450 = .ok (.ldc2_w 140, 3) := by decide +kernel
theorem d_M_init_453 : decode b_M_init 453 = .ok (.invokevirtual 78, 3) := by decide +kernel
theorem d_M_init_456 : decode b_M_init 456 = .ok (.aload_n 0, 1) := by decide +kernel
theorem d_M_init_457 : decode b_M_init 457 = .ok (.bipush 26, 2) := by decide +kernel
theorem d_M_init_459 : decode b_M_init 459 = .ok (.ldc2_w 142, 3) := by decide +kernel
theorem d_M_init_462 : decode b_M_init 462 = .ok (.invokevirtual 78, 3) := by decide +kernel
theorem d_M_init_465 : decode b_M_init 465 = .ok (.aload_n 0, 1) := by decide +kernel
theorem d_M_init_466 : decode b_M_init 466 = .ok (.bipush 27, 2) := by decide +kernel
theorem d_M_init_468 : decode b_M_init 468 = .ok (.ldc2_w 144, 3) := by decide +kernel
theorem d_M_init_471 : decode b_M_init 471 = .ok (.invokevirtual 78, 3) := by decide +kernel
theorem d_M_init_474 : decode b_M_init 474 = .ok (.aload_n 0, 1) := by decide +kernel
theorem d_M_init_475 : decode b_M_init 475 = .ok (.bipush 30, 2) := by decide +kernel
theorem d_M_init_477 : decode b_M_init 477 = .ok (.ldc2_w 146, 3) := by decide +kernel
theorem d_M_init_480 : decode b_M_init 480 = .ok (.invokevirtual 78, 3) := by decide +kernel
theorem d_M_init_483 : decode b_M_init 483 = .ok (.aload_n 0, 1) := by decide +kernel
theorem d_M_init_484 : decode b_M_init 484 = .ok (.bipush 31, 2) := by decide +kernel
theorem d_M_init_486 : decode b_M_init 486 = .ok (.ldc2_w 148, 3) := by decide +kernel
theorem d_M_init_489 : decode b_M_init 489 = .ok (.invokevirtual 78, 3) := by decide +kernel
theorem d_M_init_492 : decode b_M_init 492 = .ok (.aload_n 0, 1) := by decide +kernel
theorem d_M_init_493 : decode b_M_init 493 = .ok (.bipush 33, 2) := by decide +kernel
theorem d_M_init_495 : decode b_M_init 495 = .ok (.ldc2_w 150, 3) := by decide +kernel
theorem d_M_init_498 : decode b_M_init 498 = .ok (.invokevirtual 78, 3) := by decide +kernel
theorem d_M_init_501 : decode b_M_init 501 = .ok (.aload_n 0, 1) := by decide +kernel
theorem d_M_init_502 : decode b_M_init 502 = .ok (.bipush 34, 2) := by decide +kernel
theorem d_M_init_504 : decode b_M_init 504 = .ok (.ldc2_w 152, 3) := by decide +kernel
theorem d_M_init_507 : decode b_M_init 507 = .ok (.invokevirtual 78, 3) := by decide +kernel
theorem d_M_init_510 : decode b_M_init 510 = .ok (.aload_n 0, 1) := by decide +kernel
theorem d_M_init_511 : decode b_M_init 511 = .ok (.bipush 37, 2) := by decide +kernel
theorem d_M_init_513 : decode b_M_init 513 = .ok (.ldc2_w 154, 3) := by decide +kernel
theorem d_M_init_516 : decode b_M_init 516 = .ok (.invokevirtual 78, 3) := by decide +kernel
theorem d_M_init_519 : decode b_M_init 519 = .ok (.aload_n 0, 1) := by decide +kernel
theorem d_M_init_520 : decode b_M_init 520 = .ok (.bipush 38, 2) := by decide +kernel
theorem d_M_init_522 : decode b_M_init 522 = .ok (.ldc2_w 156, 3) := by decide +kernel
theorem d_M_init_525 : decode b_M_init 525 = .ok (.invokevirtual 78, 3) := by decide +kernel
theorem d_M_init_528 : decode b_M_init 528 = .ok (.aload_n 0, 1) := by decide +kernel
theorem d_M_init_529 : decode b_M_init 529 = .ok (.bipush 39, 2) := by decide +kernel
theorem d_M_init_531 : decode b_M_init 531 = .ok (.ldc2_w 158, 3) := by decide +kernel
theorem d_M_init_534 : decode b_M_init 534 = .ok (.invokevirtual 78, 3) := by decide +kernel
theorem d_M_init_537 : decode b_M_init 537 = .ok (.aload_n 0, 1) := by decide +kernel
theorem d_M_init_538 : decode b_M_init 538 = .ok (.bipush 41, 2) := by decide +kernel
theorem d_M_init_540 : decode b_M_init 540 = .ok (.ldc2_w 160, 3) := by decide +kernel
theorem d_M_init_543 : decode b_M_init 543 = .ok (.invokevirtual 78, 3) := by decide +kernel
theorem d_M_init_546 : decode b_M_init 546 = .ok (.aload_n 0, 1) := by decide +kernel
theorem d_M_init_547 : decode b_M_init 547 = .ok (.bipush 42, 2) := by decide +kernel
theorem d_M_init_549 : decode b_M_init 549 = .ok (.ldc2_w 162, 3) := by decide +kernel
theorem d_M_init_552 : decode b_M_init 552 = .ok (.invokevirtual 78, 3) := by decide +kernel
theorem d_M_init_555 : decode b_M_init 555 = .ok (.aload_n 0, 1) := by decide +kernel
theorem d_M_init_556 : decode b_M_init 556 = .ok (.bipush 43, 2) := by decide +kernel
theorem d_M_init_558 : decode b_M_init 558 = .ok (.ldc2_w 164, 3) := by decide +kernel
theorem d_M_init_561 : decode b_M_init 561 = .ok (.invokevirtual 78, 3) := by decide +kernel
theorem d_M_init_564 : decode b_M_init 564 = .ok (.aload_n 0, 1) := by decide +kernel
theorem d_M_init_565 : decode b_M_init 565 = .ok (.bipush 44, 2) := by decide +kernel
theorem d_M_init_567 : decode b_M_init 567 = .ok (.ldc2_w 166, 3) := by decide +kernel
theorem d_M_init_570 : decode b_M_init 570 = .ok (.invokevirtual 78, 3) := by decide +kernel
theorem d_M_init_573 : decode b_M_init 573 = .ok (.aload_n 0, 1) := by decide +kernel
theorem d_M_init_574 : decode b_M_init 574 = .ok (.bipush 45, 2) := by decide +kernel
theorem d_M_init_576 : decode b_M_init 576 = .ok (.ldc2_w 168, 3) := by decide +kernel
theorem d_M_init_579 : decode b_M_init 579 = .ok (.invokevirtual 78, 3) := by decide +kernel
theorem d_M_init_582 : decode b_M_init 582 = .ok (.aload_n 0, 1) := by decide +kernel
theorem d_M_init_583 : decode b_M_init 583 = .ok (.bipush 46, 2) := by decide +kernel
theorem d_M_init_585 : decode b_M_init 585 = .ok (.ldc2_w 170, 3) := by decide +kernel
theorem d_M_init_588 : decode b_M_init 588 = .ok (.invokevirtual 78, 3) := by decide +kernel
theorem d_M_init_591 : decode b_M_init 591 = .ok (.aload_n 0, 1) := by decide +kernel
theorem d_M_init_592 : decode b_M_init 592 = .ok (.bipush 47, 2) := by decide +kernel
theorem d_M_init_594 : decode b_M_init 594 = .ok (.ldc2_w 172, 3) := by decide +kernel
theorem d_M_init_597 : decode b_M_init 597 = .ok (.invokevirtual 78, 3) := by decide +kernel
theorem d_M_init_600 : decode b_M_init 600 = .ok (.aload_n 0, 1) := by decide +kernel
theorem d_M_init_601 : decode b_M_init 601 = .ok (.bipush 48, 2) := by decide +kernel
theorem d_M_init_603 : decode b_M_init 603 = .ok (.ldc2_w 174, 3) := by decide +kernel
theorem d_M_init_606 : decode b_M_init 606 = .ok (.invokevirtual 78, 3) := by decide +kernel
theorem d_M_init_609 : decode b_M_init 609 = .ok (.aload_n 0, 1) := by decide +kernel
theorem d_M_init_610 : decode b_M_init 610 = .ok (.bipush 49, 2) := by decide +kernel
theorem d_M_init_612 : decode b_M_init 612 = .ok (.ldc2_w 176, 3) := by decide +kernel
theorem d_M_init_615 : decode b_M_init 615 = .ok (.invokevirtual 78, 3) := by decide +kernel
theorem d_M_init_618 : decode b_M_init 618 = .ok (.aload_n 0, 1) := by decide +kernel
theorem d_M_init_619 : decode b_M_init 619 = .ok (.bipush 50, 2) := by decide +kernel
theorem d_M_init_621 : decode b_M_init 621 = .ok (.ldc2_w 178, 3) := by decide +kernel
theorem d_M_init_624 : decode b_M_init 624 = .ok (.invokevirtual 78, 3) := by decide +kernel
theorem d_M_init_627 : decode b_M_init 627 = .ok (.aload_n 0, 1) := by decide +kernel
theorem d_M_init_628 : decode b_M_init 628 = .ok (.bipush 51, 2) := by decide +kernel
theorem d_M_init_630 : decode b_M_init 630 = .ok (.ldc2_w 180, 3) := by decide +kernel
theorem d_M_init_633 : decode b_M_init 633 = .ok (.invokevirtual 78, 3) := by decide +kernel
theorem d_M_init_636 : decode b_M_init 636 = .ok (.aload_n 0, 1) := by decide +kernel
theorem d_M_init_637 : decode b_M_init 637 = .ok (.bipush 36, 2) := by decide +kernel
theorem d_M_init_639 : decode b_M_init 639 = .ok (.ldc2_w 182, 3) := by decide +kernel
theorem d_M_init_642 : decode b_M_init 642 = .ok (.invokevirtual 78, 3) := by decide +kernel
theorem d_M_init_645 : decode b_M_init 645 = .ok (.aload_n 0, 1) := by decide +kernel
theorem d_M_init_646 : decode b_M_init 646 = .ok (.getfield 25, 3) := by decide +kernel
theorem d_M_init_649 : decode b_M_init 649 = .ok (.bipush 36, 2) := by decide +kernel
theorem d_M_init_651 : decode b_M_init 651 = .ok (.aload_n 0, 1) := by decide +kernel
theorem d_M_init_652 : decode b_M_init 652 = .ok (.getfield 25, 3) := by decide +kernel
theorem d_M_init_655 : decode b_M_init 655 = .ok (.bipush 36, 2) := by decide +kernel
theorem d_M_init_657 : decode b_M_init 657 = .ok (.laload, 1) := by decide +kernel
theorem d_M_init_658 : decode b_M_init 658 = .ok (.ldc2_w 184, 3) := by decide +kernel
theorem d_M_init_661 : decode b_M_init 661 = .ok (.lmul, 1) := by decide +kernel
theorem d_M_init_662 : decode b_M_init 662 = .ok (.ldc2_w 186, 3) := by decide +kernel
theorem d_M_init_665 : decode b_M_init 665 = .ok (.ladd, 1) := by decide +kernel
theorem d_M_init_666 : decode b_M_init 666 = .ok (.lastore, 1) := by decide +kernel
theorem d_M_init_667 : decode b_M_init 667 = .ok (.return_, 1) := by decide +kernel
theorem same_int {D : va_G} {cl : List vw_C} {tys : List (ClassId × FieldType)} {U : State} (hK : va_K D cl tys U) (i j : Nat) {a b : ClassId} (hi : tys[i]? = some (a, .int)) (hj : tys[j]? = some (b, .int)) : a = b := Option.some.inj (((hK.2 i _ hi).2 : U.vm.findClass _ = some a).symm.trans ((hK.2 j _ hj).2 : U.vm.findClass _ = some b))
theorem same_boolean {D : va_G} {cl : List vw_C} {tys : List (ClassId × FieldType)} {U : State} (hK : va_K D cl tys U) (i j : Nat) {a b : ClassId} (hi : tys[i]? = some (a, .boolean)) (hj : tys[j]? = some (b, .boolean)) : a = b := Option.some.inj (((hK.2 i _ hi).2 : U.vm.findClass _ = some a).symm.trans ((hK.2 j _ hj).2 : U.vm.findClass _ = some b))
def wp_M_init (post : StM → Prop) (S : StM) : Prop :=
  (vp_in 0 2) ∧ ((vp_in 1 2) ∧ (wp_M_name (fun S1 : StM => (wp_M_name (fun S2 : StM => (wp_M_name (fun S3 : StM => (wp_M_name (fun S4 : StM => (wp_M_name (fun S5 : StM => (wp_M_name (fun S6 : StM => (wp_M_name (fun S7 : StM => (wp_M_name (fun S8 : StM => (wp_M_name (fun S9 : StM => (wp_M_name (fun S10 : StM => (wp_M_name (fun S11 : StM => (wp_M_name (fun S12 : StM => (wp_M_name (fun S13 : StM => (wp_M_name (fun S14 : StM => (wp_M_name (fun S15 : StM => (wp_M_name (fun S16 : StM => (wp_M_name (fun S17 : StM => (wp_M_name (fun S18 : StM => (wp_M_name (fun S19 : StM => (wp_M_name (fun S20 : StM => (wp_M_name (fun S21 : StM => (wp_M_name (fun S22 : StM => (wp_M_name (fun S23 : StM => (wp_M_name (fun S24 : StM => (wp_M_name (fun S25 : StM => (wp_M_name (fun S26 : StM => (wp_M_name (fun S27 : StM => (wp_M_name (fun S28 : StM => (wp_M_name (fun S29 : StM => (wp_M_name (fun S30 : StM => (wp_M_name (fun S31 : StM => (wp_M_name (fun S32 : StM => (wp_M_name (fun S33 : StM => (wp_M_name (fun S34 : StM => (wp_M_name (fun S35 : StM => (wp_M_name (fun S36 : StM => (wp_M_name (fun S37 : StM => (wp_M_name (fun S38 : StM => (wp_M_name (fun S39 : StM => (wp_M_name (fun S40 : StM => (wp_M_name (fun S41 : StM => (wp_M_name (fun S42 : StM => (wp_M_name (fun S43 : StM => (wp_M_name (fun S44 : StM => (wp_M_name (fun S45 : StM => (wp_M_name (fun S46 : StM => (wp_M_name (fun S47 : StM => (wp_M_name (fun S48 : StM => (wp_M_name (fun S49 : StM => (wp_M_name (fun S50 : StM => (wp_M_name (fun S51 : StM => (wp_M_name (fun S52 : StM => ((vp_in 36 77) ∧ ((vp_in 36 77) ∧ (post (S52.1, S52.2.1, (vp_updL S52.2.2 (Int32.toNatClampNeg (36)) ((((S52.2.2 (Int32.toNatClampNeg (36))) * 128) + 101)))))))) S51 (36) (7596848428687647092))) S50 (51) (32199625191617381))) S49 (50) (1819242352))) S48 (49) (25711))) S47 (48) (125780002955636))) S46 (47) (512852847717))) S45 (46) (418346264942))) S44 (45) (504364296556))) S43 (44) (422608071022))) S42 (43) (1701606245))) S41 (42) (1952998766))) S40 (41) (26982))) S39 (39) (439906300776))) S38 (38) (129125580895333))) S37 (37) (422726034283))) S36 (34) (7165066974322585204))) S35 (33) (8530224966147402853))) S34 (31) (28561349503448165))) S33 (30) (1702390132))) S32 (27) (29248))) S31 (26) (29246))) S30 (25) (15986))) S29 (24) (418430873460))) S28 (22) (1751478885))) S27 (21) (11041))) S26 (17) (431198598248))) S25 (16) (7499636))) S24 (15) (1870030194))) S23 (14) (1937203568))) S22 (13) (1685221232))) S21 (12) (6583664))) S20 (11) (121381805192293))) S19 (10) (12349))) S18 (7) (7892850))) S17 (6) (28530))) S16 (5) (6385252))) S15 (4) (7171940))) S14 (40) (59))) S13 (35) (58))) S12 (32) (39))) S11 (29) (106))) S10 (28) (105))) S9 (23) (44))) S8 (20) (33))) S7 (19) (64))) S6 (18) (46))) S5 (9) (60))) S4 (8) (61))) S3 (3) (47))) S2 (2) (42))) S1 (1) (45))) ((upd S.1 34 ((-1))), (va_up (va_up S.2.1 32 (upd (S.2.1 32) (Int32.toNatClampNeg (0)) ((-1)))) 32 (upd (upd (S.2.1 32) (Int32.toNatClampNeg (0)) ((-1))) (Int32.toNatClampNeg (1)) ((-1)))), S.2.2) (0) (43)))
set_option maxRecDepth 100000 in
set_option maxHeartbeats 8000000 in
theorem c_M_init (l : Launch) (D : va_G) (h0 sz : Nat) (post : StM → Prop) (hw : wp_M_init post zM) : Met l y_M_init (.code y_M_init b_M_init 1 none :: w_M) { frames := 1, cells := 20, slots := 3691, locals := 28 } (va_Pc [.ref h0] (fun U => U.heap.size = sz ∧ va_P D classes [(h0, .inr (0, [.null, .int 0, .int 0, .int 0, .int 0, .null, .int 0, .null, .int 0, .null, .int 0, .int 0, .null, .int 0, .int 0, .null, .null, .null, .null, .null, .int 0, .int 0, .int 0, .null, .null, .int 0, .null, .null, .null, .null, .null, .null, .null, .null, .int 0]))] U.heap ∧ va_K D classes [] U ∧ va_D (fun _ => True) [(h0, .inr (0, [.null, .int 0, .int 0, .int 0, .int 0, .null, .int 0, .null, .int 0, .null, .int 0, .int 0, .null, .int 0, .int 0, .null, .null, .null, .null, .null, .int 0, .int 0, .int 0, .null, .null, .int 0, .null, .null, .null, .null, .null, .null, .null, .null, .int 0]))])) (va_Qv (fun u : Gm × StM => u.1.1 = D ∧ u.1.2.2 0 = h0 ∧ post u.2) (fun u t => va_P D classes (wM u.1 u.2) t.heap ∧ va_K D classes (tysM u.1) t ∧ va_D (va_A [(h0, .inr (0, [.null, .int 0, .int 0, .int 0, .int 0, .null, .int 0, .null, .int 0, .null, .int 0, .int 0, .null, .int 0, .int 0, .null, .null, .null, .null, .null, .int 0, .int 0, .int 0, .null, .null, .int 0, .null, .null, .null, .null, .null, .null, .null, .null, .int 0]))] sz) (wM u.1 u.2)) (va_A [(h0, .inr (0, [.null, .int 0, .int 0, .int 0, .int 0, .null, .int 0, .null, .int 0, .null, .int 0, .int 0, .null, .int 0, .int 0, .null, .null, .null, .null, .null, .int 0, .int 0, .int 0, .null, .null, .int 0, .null, .null, .null, .null, .null, .null, .null, .null, .int 0]))] sz)) 20 3691 (va_A [(h0, .inr (0, [.null, .int 0, .int 0, .int 0, .int 0, .null, .int 0, .null, .int 0, .null, .int 0, .int 0, .null, .int 0, .int 0, .null, .null, .null, .null, .null, .int 0, .int 0, .int 0, .null, .null, .int 0, .null, .null, .null, .null, .null, .null, .null, .null, .int 0]))] sz) := by
  refine Met.ofW (cc := b_M_init) (maxL := 1) (ret := none) (by decide) rfl ?_
  intro p e s m args below meth c s₁ B hml hv
  obtain ⟨rfl, hsz, hP, hK, hD0⟩ := hv
  have hx := B.exec
  have hb := B.bytes
  have hr := B.returns
  have hts0 := atoms_spec (ws := .code y_M_init b_M_init 1 none :: w_M) B.pre
  have hts : ∀ w ∈ w_M, w.before [Value.ref h0].toArray s = true := fun w h => hts0 w (List.mem_cons_of_mem _ h)
  have hown : s.vm.findClass R_M = some m.cls := findClass_of_methodNamed B.named
  have hlocks := B.notSynchronized
  have hin : meth.name = "<init>" := (name_of_methodNamed B.named B.method).1
  subst hsz
  have hD := hD0.self (sz := s.heap.size)
  generalize hAe : va_A [(h0, .inr (0, [.null, .int 0, .int 0, .int 0, .int 0, .null, .int 0, .null, .int 0, .null, .int 0, .int 0, .null, .int 0, .int 0, .null, .null, .null, .null, .null, .int 0, .int 0, .int 0, .null, .null, .int 0, .null, .null, .null, .null, .null, .null, .null, .null, .int 0]))] s.heap.size = A at hD ⊢
  have hA : ∀ q : Nat, s.heap.size ≤ q → A q := fun q h => by rw [← hAe]; exact Or.inr h
  have hS : va_S A s.heap s.heap [] := va_S.rf
  have hl := lv_entry ([.ref h0]) (n := 1) (Nat.le_of_ble_eq_true rfl)
  rw [lg_entry_eq]
  generalize (lg_sl ([.ref h0]) ++ List.replicate (1 - (lg_sl ([.ref h0])).length) Slot.unset).toArray = ls at hl ⊢
  have hl : lv_has ls 1 [(0, .ref h0)] := hl
  refine lv_aload_n hx hb d_M_init_0 rfl (lv_at hl 0 rfl) ?_
  refine W.objInit hx hb hown (hts _ k_M_48) (hts _ k_M_264) (hts _ k_M_265) rfl (by rw [hml]; exact hl.1) rfl d_M_init_1 (Nat.le_of_ble_eq_true rfl) (Nat.le_of_ble_eq_true rfl) ?_
  refine W.eq (g2 := F0 m 4 ls []) rfl ?_
  refine lv_aload_n hx hb d_M_init_4 rfl (lv_at hl 0 rfl) ?_
  refine lv_bipush (v := 120) hx hb d_M_init_5 (by decide) ?_
  refine va_newa (atype := .int) (ty := .int) (N' := 120) (a0 := (120, .inl (fun _ => 0))) hx hb (hts _ k_M_266) rfl hK hP hD hS hA (fun _ => rfl) (by decide) (by decide) (by decide) (Nat.le_of_ble_eq_true rfl) (Nat.le_of_ble_eq_true rfl) d_M_init_7 (fun q0 c0 H hK hP hD hS => ?_)
  refine W.widen (k := 1) (n := 120) (Nat.le_of_ble_eq_true rfl) (Nat.le_of_ble_eq_true rfl) ?_
  refine va_putF (D := D) (ci := 0) (v := .ref q0) (ty := t_M 0) (C := R_M) (T := F_M) (N := 35) hx hb hts hin_M t_M t_M_ok n_M hown hK hP hD hS 0 rfl rfl 0 (by decide) (hts _ k_M_106) (fun _ h9 => h9) rfl hin rfl (t_M_ok 0 (by decide)) rfl rfl (Nat.le_of_ble_eq_true rfl) d_M_init_9 (fun H locs hP hD hS => ?_)
  have hP : va_P D classes [(h0, .inr (0, [.ref q0, .int 0, .int 0, .int 0, .int 0, .null, .int 0, .null, .int 0, .null, .int 0, .int 0, .null, .int 0, .int 0, .null, .null, .null, .null, .null, .int 0, .int 0, .int 0, .null, .null, .int 0, .null, .null, .null, .null, .null, .null, .null, .null, .int 0])), (q0, .inl (c0, 120, .inl (fun _ => 0)))] H := hP
  have hD : va_D A [(h0, .inr (0, [.ref q0, .int 0, .int 0, .int 0, .int 0, .null, .int 0, .null, .int 0, .null, .int 0, .int 0, .null, .int 0, .int 0, .null, .null, .null, .null, .null, .int 0, .int 0, .int 0, .null, .null, .int 0, .null, .null, .null, .null, .null, .null, .null, .null, .int 0])), (q0, .inl (c0, 120, .inl (fun _ => 0)))] := hD
  refine lv_aload_n hx hb d_M_init_12 rfl (lv_at hl 0 rfl) ?_
  refine lv_bipush (v := 24) hx hb d_M_init_13 (by decide) ?_
  refine va_newa (atype := .int) (ty := .int) (N' := 24) (a0 := (24, .inl (fun _ => 0))) hx hb (hts _ k_M_266) rfl hK hP hD hS hA (fun _ => rfl) (by decide) (by decide) (by decide) (Nat.le_of_ble_eq_true rfl) (Nat.le_of_ble_eq_true rfl) d_M_init_15 (fun q1 c1 H hK hP hD hS => ?_)
  obtain rfl : c0 = c1 := same_int hK 0 1 rfl rfl
  have hK := hK.sub (tys' := [(c0, .int)]) [0] rfl
  refine W.widen (k := 2) (n := 144) (Nat.le_of_ble_eq_true rfl) (Nat.le_of_ble_eq_true rfl) ?_
  refine va_putF (D := D) (ci := 0) (v := .ref q1) (ty := t_M 5) (C := R_M) (T := F_M) (N := 35) hx hb hts hin_M t_M t_M_ok n_M hown hK hP hD hS 0 rfl rfl 5 (by decide) (hts _ k_M_111) (fun _ h9 => h9) rfl hin rfl (t_M_ok 5 (by decide)) rfl rfl (Nat.le_of_ble_eq_true rfl) d_M_init_17 (fun H locs hP hD hS => ?_)
  have hP : va_P D classes [(h0, .inr (0, [.ref q0, .int 0, .int 0, .int 0, .int 0, .ref q1, .int 0, .null, .int 0, .null, .int 0, .int 0, .null, .int 0, .int 0, .null, .null, .null, .null, .null, .int 0, .int 0, .int 0, .null, .null, .int 0, .null, .null, .null, .null, .null, .null, .null, .null, .int 0])), (q0, .inl (c0, 120, .inl (fun _ => 0))), (q1, .inl (c0, 24, .inl (fun _ => 0)))] H := hP
  have hD : va_D A [(h0, .inr (0, [.ref q0, .int 0, .int 0, .int 0, .int 0, .ref q1, .int 0, .null, .int 0, .null, .int 0, .int 0, .null, .int 0, .int 0, .null, .null, .null, .null, .null, .int 0, .int 0, .int 0, .null, .null, .int 0, .null, .null, .null, .null, .null, .null, .null, .null, .int 0])), (q0, .inl (c0, 120, .inl (fun _ => 0))), (q1, .inl (c0, 24, .inl (fun _ => 0)))] := hD
  refine lv_aload_n hx hb d_M_init_20 rfl (lv_at hl 0 rfl) ?_
  refine lv_bipush (v := 24) hx hb d_M_init_21 (by decide) ?_
  refine va_newa (atype := .int) (ty := .int) (N' := 24) (a0 := (24, .inl (fun _ => 0))) hx hb (hts _ k_M_266) rfl hK hP hD hS hA (fun _ => rfl) (by decide) (by decide) (by decide) (Nat.le_of_ble_eq_true rfl) (Nat.le_of_ble_eq_true rfl) d_M_init_23 (fun q2 c2 H hK hP hD hS => ?_)
  obtain rfl : c0 = c2 := same_int hK 0 1 rfl rfl
  have hK := hK.sub (tys' := [(c0, .int)]) [0] rfl
  refine W.widen (k := 3) (n := 168) (Nat.le_of_ble_eq_true rfl) (Nat.le_of_ble_eq_true rfl) ?_
  refine va_putF (D := D) (ci := 0) (v := .ref q2) (ty := t_M 7) (C := R_M) (T := F_M) (N := 35) hx hb hts hin_M t_M t_M_ok n_M hown hK hP hD hS 0 rfl rfl 7 (by decide) (hts _ k_M_113) (fun _ h9 => h9) rfl hin rfl (t_M_ok 7 (by decide)) rfl rfl (Nat.le_of_ble_eq_true rfl) d_M_init_25 (fun H locs hP hD hS => ?_)
  have hP : va_P D classes [(h0, .inr (0, [.ref q0, .int 0, .int 0, .int 0, .int 0, .ref q1, .int 0, .ref q2, .int 0, .null, .int 0, .int 0, .null, .int 0, .int 0, .null, .null, .null, .null, .null, .int 0, .int 0, .int 0, .null, .null, .int 0, .null, .null, .null, .null, .null, .null, .null, .null, .int 0])), (q0, .inl (c0, 120, .inl (fun _ => 0))), (q1, .inl (c0, 24, .inl (fun _ => 0))), (q2, .inl (c0, 24, .inl (fun _ => 0)))] H := hP
  have hD : va_D A [(h0, .inr (0, [.ref q0, .int 0, .int 0, .int 0, .int 0, .ref q1, .int 0, .ref q2, .int 0, .null, .int 0, .int 0, .null, .int 0, .int 0, .null, .null, .null, .null, .null, .int 0, .int 0, .int 0, .null, .null, .int 0, .null, .null, .null, .null, .null, .null, .null, .null, .int 0])), (q0, .inl (c0, 120, .inl (fun _ => 0))), (q1, .inl (c0, 24, .inl (fun _ => 0))), (q2, .inl (c0, 24, .inl (fun _ => 0)))] := hD
  refine lv_aload_n hx hb d_M_init_28 rfl (lv_at hl 0 rfl) ?_
  refine lv_bipush (v := 96) hx hb d_M_init_29 (by decide) ?_
  refine va_newa (atype := .int) (ty := .int) (N' := 96) (a0 := (96, .inl (fun _ => 0))) hx hb (hts _ k_M_266) rfl hK hP hD hS hA (fun _ => rfl) (by decide) (by decide) (by decide) (Nat.le_of_ble_eq_true rfl) (Nat.le_of_ble_eq_true rfl) d_M_init_31 (fun q3 c3 H hK hP hD hS => ?_)
  obtain rfl : c0 = c3 := same_int hK 0 1 rfl rfl
  have hK := hK.sub (tys' := [(c0, .int)]) [0] rfl
  refine W.widen (k := 4) (n := 264) (Nat.le_of_ble_eq_true rfl) (Nat.le_of_ble_eq_true rfl) ?_
  refine va_putF (D := D) (ci := 0) (v := .ref q3) (ty := t_M 9) (C := R_M) (T := F_M) (N := 35) hx hb hts hin_M t_M t_M_ok n_M hown hK hP hD hS 0 rfl rfl 9 (by decide) (hts _ k_M_115) (fun _ h9 => h9) rfl hin rfl (t_M_ok 9 (by decide)) rfl rfl (Nat.le_of_ble_eq_true rfl) d_M_init_33 (fun H locs hP hD hS => ?_)
  have hP : va_P D classes [(h0, .inr (0, [.ref q0, .int 0, .int 0, .int 0, .int 0, .ref q1, .int 0, .ref q2, .int 0, .ref q3, .int 0, .int 0, .null, .int 0, .int 0, .null, .null, .null, .null, .null, .int 0, .int 0, .int 0, .null, .null, .int 0, .null, .null, .null, .null, .null, .null, .null, .null, .int 0])), (q0, .inl (c0, 120, .inl (fun _ => 0))), (q1, .inl (c0, 24, .inl (fun _ => 0))), (q2, .inl (c0, 24, .inl (fun _ => 0))), (q3, .inl (c0, 96, .inl (fun _ => 0)))] H := hP
  have hD : va_D A [(h0, .inr (0, [.ref q0, .int 0, .int 0, .int 0, .int 0, .ref q1, .int 0, .ref q2, .int 0, .ref q3, .int 0, .int 0, .null, .int 0, .int 0, .null, .null, .null, .null, .null, .int 0, .int 0, .int 0, .null, .null, .int 0, .null, .null, .null, .null, .null, .null, .null, .null, .int 0])), (q0, .inl (c0, 120, .inl (fun _ => 0))), (q1, .inl (c0, 24, .inl (fun _ => 0))), (q2, .inl (c0, 24, .inl (fun _ => 0))), (q3, .inl (c0, 96, .inl (fun _ => 0)))] := hD
  refine lv_aload_n hx hb d_M_init_36 rfl (lv_at hl 0 rfl) ?_
  refine lv_bipush (v := 40) hx hb d_M_init_37 (by decide) ?_
  refine va_newa (atype := .int) (ty := .int) (N' := 40) (a0 := (40, .inl (fun _ => 0))) hx hb (hts _ k_M_266) rfl hK hP hD hS hA (fun _ => rfl) (by decide) (by decide) (by decide) (Nat.le_of_ble_eq_true rfl) (Nat.le_of_ble_eq_true rfl) d_M_init_39 (fun q4 c4 H hK hP hD hS => ?_)
  obtain rfl : c0 = c4 := same_int hK 0 1 rfl rfl
  have hK := hK.sub (tys' := [(c0, .int)]) [0] rfl
  refine W.widen (k := 5) (n := 304) (Nat.le_of_ble_eq_true rfl) (Nat.le_of_ble_eq_true rfl) ?_
  refine va_putF (D := D) (ci := 0) (v := .ref q4) (ty := t_M 12) (C := R_M) (T := F_M) (N := 35) hx hb hts hin_M t_M t_M_ok n_M hown hK hP hD hS 0 rfl rfl 12 (by decide) (hts _ k_M_118) (fun _ h9 => h9) rfl hin rfl (t_M_ok 12 (by decide)) rfl rfl (Nat.le_of_ble_eq_true rfl) d_M_init_41 (fun H locs hP hD hS => ?_)
  have hP : va_P D classes [(h0, .inr (0, [.ref q0, .int 0, .int 0, .int 0, .int 0, .ref q1, .int 0, .ref q2, .int 0, .ref q3, .int 0, .int 0, .ref q4, .int 0, .int 0, .null, .null, .null, .null, .null, .int 0, .int 0, .int 0, .null, .null, .int 0, .null, .null, .null, .null, .null, .null, .null, .null, .int 0])), (q0, .inl (c0, 120, .inl (fun _ => 0))), (q1, .inl (c0, 24, .inl (fun _ => 0))), (q2, .inl (c0, 24, .inl (fun _ => 0))), (q3, .inl (c0, 96, .inl (fun _ => 0))), (q4, .inl (c0, 40, .inl (fun _ => 0)))] H := hP
  have hD : va_D A [(h0, .inr (0, [.ref q0, .int 0, .int 0, .int 0, .int 0, .ref q1, .int 0, .ref q2, .int 0, .ref q3, .int 0, .int 0, .ref q4, .int 0, .int 0, .null, .null, .null, .null, .null, .int 0, .int 0, .int 0, .null, .null, .int 0, .null, .null, .null, .null, .null, .null, .null, .null, .int 0])), (q0, .inl (c0, 120, .inl (fun _ => 0))), (q1, .inl (c0, 24, .inl (fun _ => 0))), (q2, .inl (c0, 24, .inl (fun _ => 0))), (q3, .inl (c0, 96, .inl (fun _ => 0))), (q4, .inl (c0, 40, .inl (fun _ => 0)))] := hD
  refine lv_aload_n hx hb d_M_init_44 rfl (lv_at hl 0 rfl) ?_
  refine lv_bipush (v := 77) hx hb d_M_init_45 (by decide) ?_
  refine va_newa (atype := .long) (ty := .long) (N' := 77) (a0 := (77, .inr (.inl (fun _ => 0)))) hx hb (hts _ k_M_268) rfl hK hP hD hS hA (fun _ => rfl) (by decide) (by decide) (by decide) (Nat.le_of_ble_eq_true rfl) (Nat.le_of_ble_eq_true rfl) d_M_init_47 (fun q5 c5 H hK hP hD hS => ?_)
  refine W.widen (k := 6) (n := 381) (Nat.le_of_ble_eq_true rfl) (Nat.le_of_ble_eq_true rfl) ?_
  refine va_putF (D := D) (ci := 0) (v := .ref q5) (ty := t_M 15) (C := R_M) (T := F_M) (N := 35) hx hb hts hin_M t_M t_M_ok n_M hown hK hP hD hS 0 rfl rfl 15 (by decide) (hts _ k_M_121) (fun _ h9 => h9) rfl hin rfl (t_M_ok 15 (by decide)) rfl rfl (Nat.le_of_ble_eq_true rfl) d_M_init_49 (fun H locs hP hD hS => ?_)
  have hP : va_P D classes [(h0, .inr (0, [.ref q0, .int 0, .int 0, .int 0, .int 0, .ref q1, .int 0, .ref q2, .int 0, .ref q3, .int 0, .int 0, .ref q4, .int 0, .int 0, .ref q5, .null, .null, .null, .null, .int 0, .int 0, .int 0, .null, .null, .int 0, .null, .null, .null, .null, .null, .null, .null, .null, .int 0])), (q0, .inl (c0, 120, .inl (fun _ => 0))), (q1, .inl (c0, 24, .inl (fun _ => 0))), (q2, .inl (c0, 24, .inl (fun _ => 0))), (q3, .inl (c0, 96, .inl (fun _ => 0))), (q4, .inl (c0, 40, .inl (fun _ => 0))), (q5, .inl (c5, 77, .inr (.inl (fun _ => 0))))] H := hP
  have hD : va_D A [(h0, .inr (0, [.ref q0, .int 0, .int 0, .int 0, .int 0, .ref q1, .int 0, .ref q2, .int 0, .ref q3, .int 0, .int 0, .ref q4, .int 0, .int 0, .ref q5, .null, .null, .null, .null, .int 0, .int 0, .int 0, .null, .null, .int 0, .null, .null, .null, .null, .null, .null, .null, .null, .int 0])), (q0, .inl (c0, 120, .inl (fun _ => 0))), (q1, .inl (c0, 24, .inl (fun _ => 0))), (q2, .inl (c0, 24, .inl (fun _ => 0))), (q3, .inl (c0, 96, .inl (fun _ => 0))), (q4, .inl (c0, 40, .inl (fun _ => 0))), (q5, .inl (c5, 77, .inr (.inl (fun _ => 0))))] := hD
  refine lv_aload_n hx hb d_M_init_52 rfl (lv_at hl 0 rfl) ?_
  refine lv_bipush (v := 25) hx hb d_M_init_53 (by decide) ?_
  refine va_newa (atype := .boolean) (ty := .boolean) (N' := 25) (a0 := (25, .inl (fun _ => 0))) hx hb (hts _ k_M_267) rfl hK hP hD hS hA (fun _ => rfl) (by decide) (by decide) (by decide) (Nat.le_of_ble_eq_true rfl) (Nat.le_of_ble_eq_true rfl) d_M_init_55 (fun q6 c6 H hK hP hD hS => ?_)
  refine W.widen (k := 7) (n := 406) (Nat.le_of_ble_eq_true rfl) (Nat.le_of_ble_eq_true rfl) ?_
  refine va_putF (D := D) (ci := 0) (v := .ref q6) (ty := t_M 16) (C := R_M) (T := F_M) (N := 35) hx hb hts hin_M t_M t_M_ok n_M hown hK hP hD hS 0 rfl rfl 16 (by decide) (hts _ k_M_122) (fun _ h9 => h9) rfl hin rfl (t_M_ok 16 (by decide)) rfl rfl (Nat.le_of_ble_eq_true rfl) d_M_init_57 (fun H locs hP hD hS => ?_)
  have hP : va_P D classes [(h0, .inr (0, [.ref q0, .int 0, .int 0, .int 0, .int 0, .ref q1, .int 0, .ref q2, .int 0, .ref q3, .int 0, .int 0, .ref q4, .int 0, .int 0, .ref q5, .ref q6, .null, .null, .null, .int 0, .int 0, .int 0, .null, .null, .int 0, .null, .null, .null, .null, .null, .null, .null, .null, .int 0])), (q0, .inl (c0, 120, .inl (fun _ => 0))), (q1, .inl (c0, 24, .inl (fun _ => 0))), (q2, .inl (c0, 24, .inl (fun _ => 0))), (q3, .inl (c0, 96, .inl (fun _ => 0))), (q4, .inl (c0, 40, .inl (fun _ => 0))), (q5, .inl (c5, 77, .inr (.inl (fun _ => 0)))), (q6, .inl (c6, 25, .inl (fun _ => 0)))] H := hP
  have hD : va_D A [(h0, .inr (0, [.ref q0, .int 0, .int 0, .int 0, .int 0, .ref q1, .int 0, .ref q2, .int 0, .ref q3, .int 0, .int 0, .ref q4, .int 0, .int 0, .ref q5, .ref q6, .null, .null, .null, .int 0, .int 0, .int 0, .null, .null, .int 0, .null, .null, .null, .null, .null, .null, .null, .null, .int 0])), (q0, .inl (c0, 120, .inl (fun _ => 0))), (q1, .inl (c0, 24, .inl (fun _ => 0))), (q2, .inl (c0, 24, .inl (fun _ => 0))), (q3, .inl (c0, 96, .inl (fun _ => 0))), (q4, .inl (c0, 40, .inl (fun _ => 0))), (q5, .inl (c5, 77, .inr (.inl (fun _ => 0)))), (q6, .inl (c6, 25, .inl (fun _ => 0)))] := hD
  refine lv_aload_n hx hb d_M_init_60 rfl (lv_at hl 0 rfl) ?_
  refine lv_bipush (v := 25) hx hb d_M_init_61 (by decide) ?_
  refine va_newa (atype := .int) (ty := .int) (N' := 25) (a0 := (25, .inl (fun _ => 0))) hx hb (hts _ k_M_266) rfl hK hP hD hS hA (fun _ => rfl) (by decide) (by decide) (by decide) (Nat.le_of_ble_eq_true rfl) (Nat.le_of_ble_eq_true rfl) d_M_init_63 (fun q7 c7 H hK hP hD hS => ?_)
  obtain rfl : c0 = c7 := same_int hK 0 3 rfl rfl
  have hK := hK.sub (tys' := [(c0, .int), (c5, .long), (c6, .boolean)]) [0, 1, 2] rfl
  refine W.widen (k := 8) (n := 431) (Nat.le_of_ble_eq_true rfl) (Nat.le_of_ble_eq_true rfl) ?_
  refine va_putF (D := D) (ci := 0) (v := .ref q7) (ty := t_M 17) (C := R_M) (T := F_M) (N := 35) hx hb hts hin_M t_M t_M_ok n_M hown hK hP hD hS 0 rfl rfl 17 (by decide) (hts _ k_M_123) (fun _ h9 => h9) rfl hin rfl (t_M_ok 17 (by decide)) rfl rfl (Nat.le_of_ble_eq_true rfl) d_M_init_65 (fun H locs hP hD hS => ?_)
  have hP : va_P D classes [(h0, .inr (0, [.ref q0, .int 0, .int 0, .int 0, .int 0, .ref q1, .int 0, .ref q2, .int 0, .ref q3, .int 0, .int 0, .ref q4, .int 0, .int 0, .ref q5, .ref q6, .ref q7, .null, .null, .int 0, .int 0, .int 0, .null, .null, .int 0, .null, .null, .null, .null, .null, .null, .null, .null, .int 0])), (q0, .inl (c0, 120, .inl (fun _ => 0))), (q1, .inl (c0, 24, .inl (fun _ => 0))), (q2, .inl (c0, 24, .inl (fun _ => 0))), (q3, .inl (c0, 96, .inl (fun _ => 0))), (q4, .inl (c0, 40, .inl (fun _ => 0))), (q5, .inl (c5, 77, .inr (.inl (fun _ => 0)))), (q6, .inl (c6, 25, .inl (fun _ => 0))), (q7, .inl (c0, 25, .inl (fun _ => 0)))] H := hP
  have hD : va_D A [(h0, .inr (0, [.ref q0, .int 0, .int 0, .int 0, .int 0, .ref q1, .int 0, .ref q2, .int 0, .ref q3, .int 0, .int 0, .ref q4, .int 0, .int 0, .ref q5, .ref q6, .ref q7, .null, .null, .int 0, .int 0, .int 0, .null, .null, .int 0, .null, .null, .null, .null, .null, .null, .null, .null, .int 0])), (q0, .inl (c0, 120, .inl (fun _ => 0))), (q1, .inl (c0, 24, .inl (fun _ => 0))), (q2, .inl (c0, 24, .inl (fun _ => 0))), (q3, .inl (c0, 96, .inl (fun _ => 0))), (q4, .inl (c0, 40, .inl (fun _ => 0))), (q5, .inl (c5, 77, .inr (.inl (fun _ => 0)))), (q6, .inl (c6, 25, .inl (fun _ => 0))), (q7, .inl (c0, 25, .inl (fun _ => 0)))] := hD
  refine lv_aload_n hx hb d_M_init_68 rfl (lv_at hl 0 rfl) ?_
  refine lv_sipush (v := 1500) hx hb d_M_init_69 (by decide) ?_
  refine va_newa (atype := .int) (ty := .int) (N' := 1500) (a0 := (1500, .inl (fun _ => 0))) hx hb (hts _ k_M_266) rfl hK hP hD hS hA (fun _ => rfl) (by decide) (by decide) (by decide) (Nat.le_of_ble_eq_true rfl) (Nat.le_of_ble_eq_true rfl) d_M_init_72 (fun q8 c8 H hK hP hD hS => ?_)
  obtain rfl : c0 = c8 := same_int hK 0 3 rfl rfl
  have hK := hK.sub (tys' := [(c0, .int), (c5, .long), (c6, .boolean)]) [0, 1, 2] rfl
  refine W.widen (k := 9) (n := 1931) (Nat.le_of_ble_eq_true rfl) (Nat.le_of_ble_eq_true rfl) ?_
  refine va_putF (D := D) (ci := 0) (v := .ref q8) (ty := t_M 18) (C := R_M) (T := F_M) (N := 35) hx hb hts hin_M t_M t_M_ok n_M hown hK hP hD hS 0 rfl rfl 18 (by decide) (hts _ k_M_124) (fun _ h9 => h9) rfl hin rfl (t_M_ok 18 (by decide)) rfl rfl (Nat.le_of_ble_eq_true rfl) d_M_init_74 (fun H locs hP hD hS => ?_)
  have hP : va_P D classes [(h0, .inr (0, [.ref q0, .int 0, .int 0, .int 0, .int 0, .ref q1, .int 0, .ref q2, .int 0, .ref q3, .int 0, .int 0, .ref q4, .int 0, .int 0, .ref q5, .ref q6, .ref q7, .ref q8, .null, .int 0, .int 0, .int 0, .null, .null, .int 0, .null, .null, .null, .null, .null, .null, .null, .null, .int 0])), (q0, .inl (c0, 120, .inl (fun _ => 0))), (q1, .inl (c0, 24, .inl (fun _ => 0))), (q2, .inl (c0, 24, .inl (fun _ => 0))), (q3, .inl (c0, 96, .inl (fun _ => 0))), (q4, .inl (c0, 40, .inl (fun _ => 0))), (q5, .inl (c5, 77, .inr (.inl (fun _ => 0)))), (q6, .inl (c6, 25, .inl (fun _ => 0))), (q7, .inl (c0, 25, .inl (fun _ => 0))), (q8, .inl (c0, 1500, .inl (fun _ => 0)))] H := hP
  have hD : va_D A [(h0, .inr (0, [.ref q0, .int 0, .int 0, .int 0, .int 0, .ref q1, .int 0, .ref q2, .int 0, .ref q3, .int 0, .int 0, .ref q4, .int 0, .int 0, .ref q5, .ref q6, .ref q7, .ref q8, .null, .int 0, .int 0, .int 0, .null, .null, .int 0, .null, .null, .null, .null, .null, .null, .null, .null, .int 0])), (q0, .inl (c0, 120, .inl (fun _ => 0))), (q1, .inl (c0, 24, .inl (fun _ => 0))), (q2, .inl (c0, 24, .inl (fun _ => 0))), (q3, .inl (c0, 96, .inl (fun _ => 0))), (q4, .inl (c0, 40, .inl (fun _ => 0))), (q5, .inl (c5, 77, .inr (.inl (fun _ => 0)))), (q6, .inl (c6, 25, .inl (fun _ => 0))), (q7, .inl (c0, 25, .inl (fun _ => 0))), (q8, .inl (c0, 1500, .inl (fun _ => 0)))] := hD
  refine lv_aload_n hx hb d_M_init_77 rfl (lv_at hl 0 rfl) ?_
  refine lv_sipush (v := 1500) hx hb d_M_init_78 (by decide) ?_
  refine va_newa (atype := .int) (ty := .int) (N' := 1500) (a0 := (1500, .inl (fun _ => 0))) hx hb (hts _ k_M_266) rfl hK hP hD hS hA (fun _ => rfl) (by decide) (by decide) (by decide) (Nat.le_of_ble_eq_true rfl) (Nat.le_of_ble_eq_true rfl) d_M_init_81 (fun q9 c9 H hK hP hD hS => ?_)
  obtain rfl : c0 = c9 := same_int hK 0 3 rfl rfl
  have hK := hK.sub (tys' := [(c0, .int), (c5, .long), (c6, .boolean)]) [0, 1, 2] rfl
  refine W.widen (k := 10) (n := 3431) (Nat.le_of_ble_eq_true rfl) (Nat.le_of_ble_eq_true rfl) ?_
  refine va_putF (D := D) (ci := 0) (v := .ref q9) (ty := t_M 19) (C := R_M) (T := F_M) (N := 35) hx hb hts hin_M t_M t_M_ok n_M hown hK hP hD hS 0 rfl rfl 19 (by decide) (hts _ k_M_125) (fun _ h9 => h9) rfl hin rfl (t_M_ok 19 (by decide)) rfl rfl (Nat.le_of_ble_eq_true rfl) d_M_init_83 (fun H locs hP hD hS => ?_)
  have hP : va_P D classes [(h0, .inr (0, [.ref q0, .int 0, .int 0, .int 0, .int 0, .ref q1, .int 0, .ref q2, .int 0, .ref q3, .int 0, .int 0, .ref q4, .int 0, .int 0, .ref q5, .ref q6, .ref q7, .ref q8, .ref q9, .int 0, .int 0, .int 0, .null, .null, .int 0, .null, .null, .null, .null, .null, .null, .null, .null, .int 0])), (q0, .inl (c0, 120, .inl (fun _ => 0))), (q1, .inl (c0, 24, .inl (fun _ => 0))), (q2, .inl (c0, 24, .inl (fun _ => 0))), (q3, .inl (c0, 96, .inl (fun _ => 0))), (q4, .inl (c0, 40, .inl (fun _ => 0))), (q5, .inl (c5, 77, .inr (.inl (fun _ => 0)))), (q6, .inl (c6, 25, .inl (fun _ => 0))), (q7, .inl (c0, 25, .inl (fun _ => 0))), (q8, .inl (c0, 1500, .inl (fun _ => 0))), (q9, .inl (c0, 1500, .inl (fun _ => 0)))] H := hP
  have hD : va_D A [(h0, .inr (0, [.ref q0, .int 0, .int 0, .int 0, .int 0, .ref q1, .int 0, .ref q2, .int 0, .ref q3, .int 0, .int 0, .ref q4, .int 0, .int 0, .ref q5, .ref q6, .ref q7, .ref q8, .ref q9, .int 0, .int 0, .int 0, .null, .null, .int 0, .null, .null, .null, .null, .null, .null, .null, .null, .int 0])), (q0, .inl (c0, 120, .inl (fun _ => 0))), (q1, .inl (c0, 24, .inl (fun _ => 0))), (q2, .inl (c0, 24, .inl (fun _ => 0))), (q3, .inl (c0, 96, .inl (fun _ => 0))), (q4, .inl (c0, 40, .inl (fun _ => 0))), (q5, .inl (c5, 77, .inr (.inl (fun _ => 0)))), (q6, .inl (c6, 25, .inl (fun _ => 0))), (q7, .inl (c0, 25, .inl (fun _ => 0))), (q8, .inl (c0, 1500, .inl (fun _ => 0))), (q9, .inl (c0, 1500, .inl (fun _ => 0)))] := hD
  refine lv_aload_n hx hb d_M_init_86 rfl (lv_at hl 0 rfl) ?_
  refine lv_bipush (v := 8) hx hb d_M_init_87 (by decide) ?_
  refine va_newa (atype := .int) (ty := .int) (N' := 8) (a0 := (8, .inl (fun _ => 0))) hx hb (hts _ k_M_266) rfl hK hP hD hS hA (fun _ => rfl) (by decide) (by decide) (by decide) (Nat.le_of_ble_eq_true rfl) (Nat.le_of_ble_eq_true rfl) d_M_init_89 (fun q10 c10 H hK hP hD hS => ?_)
  obtain rfl : c0 = c10 := same_int hK 0 3 rfl rfl
  have hK := hK.sub (tys' := [(c0, .int), (c5, .long), (c6, .boolean)]) [0, 1, 2] rfl
  refine W.widen (k := 11) (n := 3439) (Nat.le_of_ble_eq_true rfl) (Nat.le_of_ble_eq_true rfl) ?_
  refine va_putF (D := D) (ci := 0) (v := .ref q10) (ty := t_M 23) (C := R_M) (T := F_M) (N := 35) hx hb hts hin_M t_M t_M_ok n_M hown hK hP hD hS 0 rfl rfl 23 (by decide) (hts _ k_M_129) (fun _ h9 => h9) rfl hin rfl (t_M_ok 23 (by decide)) rfl rfl (Nat.le_of_ble_eq_true rfl) d_M_init_91 (fun H locs hP hD hS => ?_)
  have hP : va_P D classes [(h0, .inr (0, [.ref q0, .int 0, .int 0, .int 0, .int 0, .ref q1, .int 0, .ref q2, .int 0, .ref q3, .int 0, .int 0, .ref q4, .int 0, .int 0, .ref q5, .ref q6, .ref q7, .ref q8, .ref q9, .int 0, .int 0, .int 0, .ref q10, .null, .int 0, .null, .null, .null, .null, .null, .null, .null, .null, .int 0])), (q0, .inl (c0, 120, .inl (fun _ => 0))), (q1, .inl (c0, 24, .inl (fun _ => 0))), (q2, .inl (c0, 24, .inl (fun _ => 0))), (q3, .inl (c0, 96, .inl (fun _ => 0))), (q4, .inl (c0, 40, .inl (fun _ => 0))), (q5, .inl (c5, 77, .inr (.inl (fun _ => 0)))), (q6, .inl (c6, 25, .inl (fun _ => 0))), (q7, .inl (c0, 25, .inl (fun _ => 0))), (q8, .inl (c0, 1500, .inl (fun _ => 0))), (q9, .inl (c0, 1500, .inl (fun _ => 0))), (q10, .inl (c0, 8, .inl (fun _ => 0)))] H := hP
  have hD : va_D A [(h0, .inr (0, [.ref q0, .int 0, .int 0, .int 0, .int 0, .ref q1, .int 0, .ref q2, .int 0, .ref q3, .int 0, .int 0, .ref q4, .int 0, .int 0, .ref q5, .ref q6, .ref q7, .ref q8, .ref q9, .int 0, .int 0, .int 0, .ref q10, .null, .int 0, .null, .null, .null, .null, .null, .null, .null, .null, .int 0])), (q0, .inl (c0, 120, .inl (fun _ => 0))), (q1, .inl (c0, 24, .inl (fun _ => 0))), (q2, .inl (c0, 24, .inl (fun _ => 0))), (q3, .inl (c0, 96, .inl (fun _ => 0))), (q4, .inl (c0, 40, .inl (fun _ => 0))), (q5, .inl (c5, 77, .inr (.inl (fun _ => 0)))), (q6, .inl (c6, 25, .inl (fun _ => 0))), (q7, .inl (c0, 25, .inl (fun _ => 0))), (q8, .inl (c0, 1500, .inl (fun _ => 0))), (q9, .inl (c0, 1500, .inl (fun _ => 0))), (q10, .inl (c0, 8, .inl (fun _ => 0)))] := hD
  refine lv_aload_n hx hb d_M_init_94 rfl (lv_at hl 0 rfl) ?_
  refine lv_bipush (v := 8) hx hb d_M_init_95 (by decide) ?_
  refine va_newa (atype := .int) (ty := .int) (N' := 8) (a0 := (8, .inl (fun _ => 0))) hx hb (hts _ k_M_266) rfl hK hP hD hS hA (fun _ => rfl) (by decide) (by decide) (by decide) (Nat.le_of_ble_eq_true rfl) (Nat.le_of_ble_eq_true rfl) d_M_init_97 (fun q11 c11 H hK hP hD hS => ?_)
  obtain rfl : c0 = c11 := same_int hK 0 3 rfl rfl
  have hK := hK.sub (tys' := [(c0, .int), (c5, .long), (c6, .boolean)]) [0, 1, 2] rfl
  refine W.widen (k := 12) (n := 3447) (Nat.le_of_ble_eq_true rfl) (Nat.le_of_ble_eq_true rfl) ?_
  refine va_putF (D := D) (ci := 0) (v := .ref q11) (ty := t_M 24) (C := R_M) (T := F_M) (N := 35) hx hb hts hin_M t_M t_M_ok n_M hown hK hP hD hS 0 rfl rfl 24 (by decide) (hts _ k_M_130) (fun _ h9 => h9) rfl hin rfl (t_M_ok 24 (by decide)) rfl rfl (Nat.le_of_ble_eq_true rfl) d_M_init_99 (fun H locs hP hD hS => ?_)
  have hP : va_P D classes [(h0, .inr (0, [.ref q0, .int 0, .int 0, .int 0, .int 0, .ref q1, .int 0, .ref q2, .int 0, .ref q3, .int 0, .int 0, .ref q4, .int 0, .int 0, .ref q5, .ref q6, .ref q7, .ref q8, .ref q9, .int 0, .int 0, .int 0, .ref q10, .ref q11, .int 0, .null, .null, .null, .null, .null, .null, .null, .null, .int 0])), (q0, .inl (c0, 120, .inl (fun _ => 0))), (q1, .inl (c0, 24, .inl (fun _ => 0))), (q2, .inl (c0, 24, .inl (fun _ => 0))), (q3, .inl (c0, 96, .inl (fun _ => 0))), (q4, .inl (c0, 40, .inl (fun _ => 0))), (q5, .inl (c5, 77, .inr (.inl (fun _ => 0)))), (q6, .inl (c6, 25, .inl (fun _ => 0))), (q7, .inl (c0, 25, .inl (fun _ => 0))), (q8, .inl (c0, 1500, .inl (fun _ => 0))), (q9, .inl (c0, 1500, .inl (fun _ => 0))), (q10, .inl (c0, 8, .inl (fun _ => 0))), (q11, .inl (c0, 8, .inl (fun _ => 0)))] H := hP
  have hD : va_D A [(h0, .inr (0, [.ref q0, .int 0, .int 0, .int 0, .int 0, .ref q1, .int 0, .ref q2, .int 0, .ref q3, .int 0, .int 0, .ref q4, .int 0, .int 0, .ref q5, .ref q6, .ref q7, .ref q8, .ref q9, .int 0, .int 0, .int 0, .ref q10, .ref q11, .int 0, .null, .null, .null, .null, .null, .null, .null, .null, .int 0])), (q0, .inl (c0, 120, .inl (fun _ => 0))), (q1, .inl (c0, 24, .inl (fun _ => 0))), (q2, .inl (c0, 24, .inl (fun _ => 0))), (q3, .inl (c0, 96, .inl (fun _ => 0))), (q4, .inl (c0, 40, .inl (fun _ => 0))), (q5, .inl (c5, 77, .inr (.inl (fun _ => 0)))), (q6, .inl (c6, 25, .inl (fun _ => 0))), (q7, .inl (c0, 25, .inl (fun _ => 0))), (q8, .inl (c0, 1500, .inl (fun _ => 0))), (q9, .inl (c0, 1500, .inl (fun _ => 0))), (q10, .inl (c0, 8, .inl (fun _ => 0))), (q11, .inl (c0, 8, .inl (fun _ => 0)))] := hD
  refine lv_aload_n hx hb d_M_init_102 rfl (lv_at hl 0 rfl) ?_
  refine lv_bipush (v := 16) hx hb d_M_init_103 (by decide) ?_
  refine va_newa (atype := .int) (ty := .int) (N' := 16) (a0 := (16, .inl (fun _ => 0))) hx hb (hts _ k_M_266) rfl hK hP hD hS hA (fun _ => rfl) (by decide) (by decide) (by decide) (Nat.le_of_ble_eq_true rfl) (Nat.le_of_ble_eq_true rfl) d_M_init_105 (fun q12 c12 H hK hP hD hS => ?_)
  obtain rfl : c0 = c12 := same_int hK 0 3 rfl rfl
  have hK := hK.sub (tys' := [(c0, .int), (c5, .long), (c6, .boolean)]) [0, 1, 2] rfl
  refine W.widen (k := 13) (n := 3463) (Nat.le_of_ble_eq_true rfl) (Nat.le_of_ble_eq_true rfl) ?_
  refine va_putF (D := D) (ci := 0) (v := .ref q12) (ty := t_M 26) (C := R_M) (T := F_M) (N := 35) hx hb hts hin_M t_M t_M_ok n_M hown hK hP hD hS 0 rfl rfl 26 (by decide) (hts _ k_M_132) (fun _ h9 => h9) rfl hin rfl (t_M_ok 26 (by decide)) rfl rfl (Nat.le_of_ble_eq_true rfl) d_M_init_107 (fun H locs hP hD hS => ?_)
  have hP : va_P D classes [(h0, .inr (0, [.ref q0, .int 0, .int 0, .int 0, .int 0, .ref q1, .int 0, .ref q2, .int 0, .ref q3, .int 0, .int 0, .ref q4, .int 0, .int 0, .ref q5, .ref q6, .ref q7, .ref q8, .ref q9, .int 0, .int 0, .int 0, .ref q10, .ref q11, .int 0, .ref q12, .null, .null, .null, .null, .null, .null, .null, .int 0])), (q0, .inl (c0, 120, .inl (fun _ => 0))), (q1, .inl (c0, 24, .inl (fun _ => 0))), (q2, .inl (c0, 24, .inl (fun _ => 0))), (q3, .inl (c0, 96, .inl (fun _ => 0))), (q4, .inl (c0, 40, .inl (fun _ => 0))), (q5, .inl (c5, 77, .inr (.inl (fun _ => 0)))), (q6, .inl (c6, 25, .inl (fun _ => 0))), (q7, .inl (c0, 25, .inl (fun _ => 0))), (q8, .inl (c0, 1500, .inl (fun _ => 0))), (q9, .inl (c0, 1500, .inl (fun _ => 0))), (q10, .inl (c0, 8, .inl (fun _ => 0))), (q11, .inl (c0, 8, .inl (fun _ => 0))), (q12, .inl (c0, 16, .inl (fun _ => 0)))] H := hP
  have hD : va_D A [(h0, .inr (0, [.ref q0, .int 0, .int 0, .int 0, .int 0, .ref q1, .int 0, .ref q2, .int 0, .ref q3, .int 0, .int 0, .ref q4, .int 0, .int 0, .ref q5, .ref q6, .ref q7, .ref q8, .ref q9, .int 0, .int 0, .int 0, .ref q10, .ref q11, .int 0, .ref q12, .null, .null, .null, .null, .null, .null, .null, .int 0])), (q0, .inl (c0, 120, .inl (fun _ => 0))), (q1, .inl (c0, 24, .inl (fun _ => 0))), (q2, .inl (c0, 24, .inl (fun _ => 0))), (q3, .inl (c0, 96, .inl (fun _ => 0))), (q4, .inl (c0, 40, .inl (fun _ => 0))), (q5, .inl (c5, 77, .inr (.inl (fun _ => 0)))), (q6, .inl (c6, 25, .inl (fun _ => 0))), (q7, .inl (c0, 25, .inl (fun _ => 0))), (q8, .inl (c0, 1500, .inl (fun _ => 0))), (q9, .inl (c0, 1500, .inl (fun _ => 0))), (q10, .inl (c0, 8, .inl (fun _ => 0))), (q11, .inl (c0, 8, .inl (fun _ => 0))), (q12, .inl (c0, 16, .inl (fun _ => 0)))] := hD
  refine lv_aload_n hx hb d_M_init_110 rfl (lv_at hl 0 rfl) ?_
  refine lv_bipush (v := 16) hx hb d_M_init_111 (by decide) ?_
  refine va_newa (atype := .int) (ty := .int) (N' := 16) (a0 := (16, .inl (fun _ => 0))) hx hb (hts _ k_M_266) rfl hK hP hD hS hA (fun _ => rfl) (by decide) (by decide) (by decide) (Nat.le_of_ble_eq_true rfl) (Nat.le_of_ble_eq_true rfl) d_M_init_113 (fun q13 c13 H hK hP hD hS => ?_)
  obtain rfl : c0 = c13 := same_int hK 0 3 rfl rfl
  have hK := hK.sub (tys' := [(c0, .int), (c5, .long), (c6, .boolean)]) [0, 1, 2] rfl
  refine W.widen (k := 14) (n := 3479) (Nat.le_of_ble_eq_true rfl) (Nat.le_of_ble_eq_true rfl) ?_
  refine va_putF (D := D) (ci := 0) (v := .ref q13) (ty := t_M 27) (C := R_M) (T := F_M) (N := 35) hx hb hts hin_M t_M t_M_ok n_M hown hK hP hD hS 0 rfl rfl 27 (by decide) (hts _ k_M_133) (fun _ h9 => h9) rfl hin rfl (t_M_ok 27 (by decide)) rfl rfl (Nat.le_of_ble_eq_true rfl) d_M_init_115 (fun H locs hP hD hS => ?_)
  have hP : va_P D classes [(h0, .inr (0, [.ref q0, .int 0, .int 0, .int 0, .int 0, .ref q1, .int 0, .ref q2, .int 0, .ref q3, .int 0, .int 0, .ref q4, .int 0, .int 0, .ref q5, .ref q6, .ref q7, .ref q8, .ref q9, .int 0, .int 0, .int 0, .ref q10, .ref q11, .int 0, .ref q12, .ref q13, .null, .null, .null, .null, .null, .null, .int 0])), (q0, .inl (c0, 120, .inl (fun _ => 0))), (q1, .inl (c0, 24, .inl (fun _ => 0))), (q2, .inl (c0, 24, .inl (fun _ => 0))), (q3, .inl (c0, 96, .inl (fun _ => 0))), (q4, .inl (c0, 40, .inl (fun _ => 0))), (q5, .inl (c5, 77, .inr (.inl (fun _ => 0)))), (q6, .inl (c6, 25, .inl (fun _ => 0))), (q7, .inl (c0, 25, .inl (fun _ => 0))), (q8, .inl (c0, 1500, .inl (fun _ => 0))), (q9, .inl (c0, 1500, .inl (fun _ => 0))), (q10, .inl (c0, 8, .inl (fun _ => 0))), (q11, .inl (c0, 8, .inl (fun _ => 0))), (q12, .inl (c0, 16, .inl (fun _ => 0))), (q13, .inl (c0, 16, .inl (fun _ => 0)))] H := hP
  have hD : va_D A [(h0, .inr (0, [.ref q0, .int 0, .int 0, .int 0, .int 0, .ref q1, .int 0, .ref q2, .int 0, .ref q3, .int 0, .int 0, .ref q4, .int 0, .int 0, .ref q5, .ref q6, .ref q7, .ref q8, .ref q9, .int 0, .int 0, .int 0, .ref q10, .ref q11, .int 0, .ref q12, .ref q13, .null, .null, .null, .null, .null, .null, .int 0])), (q0, .inl (c0, 120, .inl (fun _ => 0))), (q1, .inl (c0, 24, .inl (fun _ => 0))), (q2, .inl (c0, 24, .inl (fun _ => 0))), (q3, .inl (c0, 96, .inl (fun _ => 0))), (q4, .inl (c0, 40, .inl (fun _ => 0))), (q5, .inl (c5, 77, .inr (.inl (fun _ => 0)))), (q6, .inl (c6, 25, .inl (fun _ => 0))), (q7, .inl (c0, 25, .inl (fun _ => 0))), (q8, .inl (c0, 1500, .inl (fun _ => 0))), (q9, .inl (c0, 1500, .inl (fun _ => 0))), (q10, .inl (c0, 8, .inl (fun _ => 0))), (q11, .inl (c0, 8, .inl (fun _ => 0))), (q12, .inl (c0, 16, .inl (fun _ => 0))), (q13, .inl (c0, 16, .inl (fun _ => 0)))] := hD
  refine lv_aload_n hx hb d_M_init_118 rfl (lv_at hl 0 rfl) ?_
  refine lv_bipush (v := 16) hx hb d_M_init_119 (by decide) ?_
  refine va_newa (atype := .int) (ty := .int) (N' := 16) (a0 := (16, .inl (fun _ => 0))) hx hb (hts _ k_M_266) rfl hK hP hD hS hA (fun _ => rfl) (by decide) (by decide) (by decide) (Nat.le_of_ble_eq_true rfl) (Nat.le_of_ble_eq_true rfl) d_M_init_121 (fun q14 c14 H hK hP hD hS => ?_)
  obtain rfl : c0 = c14 := same_int hK 0 3 rfl rfl
  have hK := hK.sub (tys' := [(c0, .int), (c5, .long), (c6, .boolean)]) [0, 1, 2] rfl
  refine W.widen (k := 15) (n := 3495) (Nat.le_of_ble_eq_true rfl) (Nat.le_of_ble_eq_true rfl) ?_
  refine va_putF (D := D) (ci := 0) (v := .ref q14) (ty := t_M 28) (C := R_M) (T := F_M) (N := 35) hx hb hts hin_M t_M t_M_ok n_M hown hK hP hD hS 0 rfl rfl 28 (by decide) (hts _ k_M_134) (fun _ h9 => h9) rfl hin rfl (t_M_ok 28 (by decide)) rfl rfl (Nat.le_of_ble_eq_true rfl) d_M_init_123 (fun H locs hP hD hS => ?_)
  have hP : va_P D classes [(h0, .inr (0, [.ref q0, .int 0, .int 0, .int 0, .int 0, .ref q1, .int 0, .ref q2, .int 0, .ref q3, .int 0, .int 0, .ref q4, .int 0, .int 0, .ref q5, .ref q6, .ref q7, .ref q8, .ref q9, .int 0, .int 0, .int 0, .ref q10, .ref q11, .int 0, .ref q12, .ref q13, .ref q14, .null, .null, .null, .null, .null, .int 0])), (q0, .inl (c0, 120, .inl (fun _ => 0))), (q1, .inl (c0, 24, .inl (fun _ => 0))), (q2, .inl (c0, 24, .inl (fun _ => 0))), (q3, .inl (c0, 96, .inl (fun _ => 0))), (q4, .inl (c0, 40, .inl (fun _ => 0))), (q5, .inl (c5, 77, .inr (.inl (fun _ => 0)))), (q6, .inl (c6, 25, .inl (fun _ => 0))), (q7, .inl (c0, 25, .inl (fun _ => 0))), (q8, .inl (c0, 1500, .inl (fun _ => 0))), (q9, .inl (c0, 1500, .inl (fun _ => 0))), (q10, .inl (c0, 8, .inl (fun _ => 0))), (q11, .inl (c0, 8, .inl (fun _ => 0))), (q12, .inl (c0, 16, .inl (fun _ => 0))), (q13, .inl (c0, 16, .inl (fun _ => 0))), (q14, .inl (c0, 16, .inl (fun _ => 0)))] H := hP
  have hD : va_D A [(h0, .inr (0, [.ref q0, .int 0, .int 0, .int 0, .int 0, .ref q1, .int 0, .ref q2, .int 0, .ref q3, .int 0, .int 0, .ref q4, .int 0, .int 0, .ref q5, .ref q6, .ref q7, .ref q8, .ref q9, .int 0, .int 0, .int 0, .ref q10, .ref q11, .int 0, .ref q12, .ref q13, .ref q14, .null, .null, .null, .null, .null, .int 0])), (q0, .inl (c0, 120, .inl (fun _ => 0))), (q1, .inl (c0, 24, .inl (fun _ => 0))), (q2, .inl (c0, 24, .inl (fun _ => 0))), (q3, .inl (c0, 96, .inl (fun _ => 0))), (q4, .inl (c0, 40, .inl (fun _ => 0))), (q5, .inl (c5, 77, .inr (.inl (fun _ => 0)))), (q6, .inl (c6, 25, .inl (fun _ => 0))), (q7, .inl (c0, 25, .inl (fun _ => 0))), (q8, .inl (c0, 1500, .inl (fun _ => 0))), (q9, .inl (c0, 1500, .inl (fun _ => 0))), (q10, .inl (c0, 8, .inl (fun _ => 0))), (q11, .inl (c0, 8, .inl (fun _ => 0))), (q12, .inl (c0, 16, .inl (fun _ => 0))), (q13, .inl (c0, 16, .inl (fun _ => 0))), (q14, .inl (c0, 16, .inl (fun _ => 0)))] := hD
  refine lv_aload_n hx hb d_M_init_126 rfl (lv_at hl 0 rfl) ?_
  refine lv_bipush (v := 64) hx hb d_M_init_127 (by decide) ?_
  refine va_newa (atype := .int) (ty := .int) (N' := 64) (a0 := (64, .inl (fun _ => 0))) hx hb (hts _ k_M_266) rfl hK hP hD hS hA (fun _ => rfl) (by decide) (by decide) (by decide) (Nat.le_of_ble_eq_true rfl) (Nat.le_of_ble_eq_true rfl) d_M_init_129 (fun q15 c15 H hK hP hD hS => ?_)
  obtain rfl : c0 = c15 := same_int hK 0 3 rfl rfl
  have hK := hK.sub (tys' := [(c0, .int), (c5, .long), (c6, .boolean)]) [0, 1, 2] rfl
  refine W.widen (k := 16) (n := 3559) (Nat.le_of_ble_eq_true rfl) (Nat.le_of_ble_eq_true rfl) ?_
  refine va_putF (D := D) (ci := 0) (v := .ref q15) (ty := t_M 29) (C := R_M) (T := F_M) (N := 35) hx hb hts hin_M t_M t_M_ok n_M hown hK hP hD hS 0 rfl rfl 29 (by decide) (hts _ k_M_135) (fun _ h9 => h9) rfl hin rfl (t_M_ok 29 (by decide)) rfl rfl (Nat.le_of_ble_eq_true rfl) d_M_init_131 (fun H locs hP hD hS => ?_)
  have hP : va_P D classes [(h0, .inr (0, [.ref q0, .int 0, .int 0, .int 0, .int 0, .ref q1, .int 0, .ref q2, .int 0, .ref q3, .int 0, .int 0, .ref q4, .int 0, .int 0, .ref q5, .ref q6, .ref q7, .ref q8, .ref q9, .int 0, .int 0, .int 0, .ref q10, .ref q11, .int 0, .ref q12, .ref q13, .ref q14, .ref q15, .null, .null, .null, .null, .int 0])), (q0, .inl (c0, 120, .inl (fun _ => 0))), (q1, .inl (c0, 24, .inl (fun _ => 0))), (q2, .inl (c0, 24, .inl (fun _ => 0))), (q3, .inl (c0, 96, .inl (fun _ => 0))), (q4, .inl (c0, 40, .inl (fun _ => 0))), (q5, .inl (c5, 77, .inr (.inl (fun _ => 0)))), (q6, .inl (c6, 25, .inl (fun _ => 0))), (q7, .inl (c0, 25, .inl (fun _ => 0))), (q8, .inl (c0, 1500, .inl (fun _ => 0))), (q9, .inl (c0, 1500, .inl (fun _ => 0))), (q10, .inl (c0, 8, .inl (fun _ => 0))), (q11, .inl (c0, 8, .inl (fun _ => 0))), (q12, .inl (c0, 16, .inl (fun _ => 0))), (q13, .inl (c0, 16, .inl (fun _ => 0))), (q14, .inl (c0, 16, .inl (fun _ => 0))), (q15, .inl (c0, 64, .inl (fun _ => 0)))] H := hP
  have hD : va_D A [(h0, .inr (0, [.ref q0, .int 0, .int 0, .int 0, .int 0, .ref q1, .int 0, .ref q2, .int 0, .ref q3, .int 0, .int 0, .ref q4, .int 0, .int 0, .ref q5, .ref q6, .ref q7, .ref q8, .ref q9, .int 0, .int 0, .int 0, .ref q10, .ref q11, .int 0, .ref q12, .ref q13, .ref q14, .ref q15, .null, .null, .null, .null, .int 0])), (q0, .inl (c0, 120, .inl (fun _ => 0))), (q1, .inl (c0, 24, .inl (fun _ => 0))), (q2, .inl (c0, 24, .inl (fun _ => 0))), (q3, .inl (c0, 96, .inl (fun _ => 0))), (q4, .inl (c0, 40, .inl (fun _ => 0))), (q5, .inl (c5, 77, .inr (.inl (fun _ => 0)))), (q6, .inl (c6, 25, .inl (fun _ => 0))), (q7, .inl (c0, 25, .inl (fun _ => 0))), (q8, .inl (c0, 1500, .inl (fun _ => 0))), (q9, .inl (c0, 1500, .inl (fun _ => 0))), (q10, .inl (c0, 8, .inl (fun _ => 0))), (q11, .inl (c0, 8, .inl (fun _ => 0))), (q12, .inl (c0, 16, .inl (fun _ => 0))), (q13, .inl (c0, 16, .inl (fun _ => 0))), (q14, .inl (c0, 16, .inl (fun _ => 0))), (q15, .inl (c0, 64, .inl (fun _ => 0)))] := hD
  refine lv_aload_n hx hb d_M_init_134 rfl (lv_at hl 0 rfl) ?_
  refine lv_bipush (v := 64) hx hb d_M_init_135 (by decide) ?_
  refine va_newa (atype := .int) (ty := .int) (N' := 64) (a0 := (64, .inl (fun _ => 0))) hx hb (hts _ k_M_266) rfl hK hP hD hS hA (fun _ => rfl) (by decide) (by decide) (by decide) (Nat.le_of_ble_eq_true rfl) (Nat.le_of_ble_eq_true rfl) d_M_init_137 (fun q16 c16 H hK hP hD hS => ?_)
  obtain rfl : c0 = c16 := same_int hK 0 3 rfl rfl
  have hK := hK.sub (tys' := [(c0, .int), (c5, .long), (c6, .boolean)]) [0, 1, 2] rfl
  refine W.widen (k := 17) (n := 3623) (Nat.le_of_ble_eq_true rfl) (Nat.le_of_ble_eq_true rfl) ?_
  refine va_putF (D := D) (ci := 0) (v := .ref q16) (ty := t_M 30) (C := R_M) (T := F_M) (N := 35) hx hb hts hin_M t_M t_M_ok n_M hown hK hP hD hS 0 rfl rfl 30 (by decide) (hts _ k_M_136) (fun _ h9 => h9) rfl hin rfl (t_M_ok 30 (by decide)) rfl rfl (Nat.le_of_ble_eq_true rfl) d_M_init_139 (fun H locs hP hD hS => ?_)
  have hP : va_P D classes [(h0, .inr (0, [.ref q0, .int 0, .int 0, .int 0, .int 0, .ref q1, .int 0, .ref q2, .int 0, .ref q3, .int 0, .int 0, .ref q4, .int 0, .int 0, .ref q5, .ref q6, .ref q7, .ref q8, .ref q9, .int 0, .int 0, .int 0, .ref q10, .ref q11, .int 0, .ref q12, .ref q13, .ref q14, .ref q15, .ref q16, .null, .null, .null, .int 0])), (q0, .inl (c0, 120, .inl (fun _ => 0))), (q1, .inl (c0, 24, .inl (fun _ => 0))), (q2, .inl (c0, 24, .inl (fun _ => 0))), (q3, .inl (c0, 96, .inl (fun _ => 0))), (q4, .inl (c0, 40, .inl (fun _ => 0))), (q5, .inl (c5, 77, .inr (.inl (fun _ => 0)))), (q6, .inl (c6, 25, .inl (fun _ => 0))), (q7, .inl (c0, 25, .inl (fun _ => 0))), (q8, .inl (c0, 1500, .inl (fun _ => 0))), (q9, .inl (c0, 1500, .inl (fun _ => 0))), (q10, .inl (c0, 8, .inl (fun _ => 0))), (q11, .inl (c0, 8, .inl (fun _ => 0))), (q12, .inl (c0, 16, .inl (fun _ => 0))), (q13, .inl (c0, 16, .inl (fun _ => 0))), (q14, .inl (c0, 16, .inl (fun _ => 0))), (q15, .inl (c0, 64, .inl (fun _ => 0))), (q16, .inl (c0, 64, .inl (fun _ => 0)))] H := hP
  have hD : va_D A [(h0, .inr (0, [.ref q0, .int 0, .int 0, .int 0, .int 0, .ref q1, .int 0, .ref q2, .int 0, .ref q3, .int 0, .int 0, .ref q4, .int 0, .int 0, .ref q5, .ref q6, .ref q7, .ref q8, .ref q9, .int 0, .int 0, .int 0, .ref q10, .ref q11, .int 0, .ref q12, .ref q13, .ref q14, .ref q15, .ref q16, .null, .null, .null, .int 0])), (q0, .inl (c0, 120, .inl (fun _ => 0))), (q1, .inl (c0, 24, .inl (fun _ => 0))), (q2, .inl (c0, 24, .inl (fun _ => 0))), (q3, .inl (c0, 96, .inl (fun _ => 0))), (q4, .inl (c0, 40, .inl (fun _ => 0))), (q5, .inl (c5, 77, .inr (.inl (fun _ => 0)))), (q6, .inl (c6, 25, .inl (fun _ => 0))), (q7, .inl (c0, 25, .inl (fun _ => 0))), (q8, .inl (c0, 1500, .inl (fun _ => 0))), (q9, .inl (c0, 1500, .inl (fun _ => 0))), (q10, .inl (c0, 8, .inl (fun _ => 0))), (q11, .inl (c0, 8, .inl (fun _ => 0))), (q12, .inl (c0, 16, .inl (fun _ => 0))), (q13, .inl (c0, 16, .inl (fun _ => 0))), (q14, .inl (c0, 16, .inl (fun _ => 0))), (q15, .inl (c0, 64, .inl (fun _ => 0))), (q16, .inl (c0, 64, .inl (fun _ => 0)))] := hD
  refine lv_aload_n hx hb d_M_init_142 rfl (lv_at hl 0 rfl) ?_
  refine lv_bipush (v := 64) hx hb d_M_init_143 (by decide) ?_
  refine va_newa (atype := .int) (ty := .int) (N' := 64) (a0 := (64, .inl (fun _ => 0))) hx hb (hts _ k_M_266) rfl hK hP hD hS hA (fun _ => rfl) (by decide) (by decide) (by decide) (Nat.le_of_ble_eq_true rfl) (Nat.le_of_ble_eq_true rfl) d_M_init_145 (fun q17 c17 H hK hP hD hS => ?_)
  obtain rfl : c0 = c17 := same_int hK 0 3 rfl rfl
  have hK := hK.sub (tys' := [(c0, .int), (c5, .long), (c6, .boolean)]) [0, 1, 2] rfl
  refine W.widen (k := 18) (n := 3687) (Nat.le_of_ble_eq_true rfl) (Nat.le_of_ble_eq_true rfl) ?_
  refine va_putF (D := D) (ci := 0) (v := .ref q17) (ty := t_M 31) (C := R_M) (T := F_M) (N := 35) hx hb hts hin_M t_M t_M_ok n_M hown hK hP hD hS 0 rfl rfl 31 (by decide) (hts _ k_M_137) (fun _ h9 => h9) rfl hin rfl (t_M_ok 31 (by decide)) rfl rfl (Nat.le_of_ble_eq_true rfl) d_M_init_147 (fun H locs hP hD hS => ?_)
  have hP : va_P D classes [(h0, .inr (0, [.ref q0, .int 0, .int 0, .int 0, .int 0, .ref q1, .int 0, .ref q2, .int 0, .ref q3, .int 0, .int 0, .ref q4, .int 0, .int 0, .ref q5, .ref q6, .ref q7, .ref q8, .ref q9, .int 0, .int 0, .int 0, .ref q10, .ref q11, .int 0, .ref q12, .ref q13, .ref q14, .ref q15, .ref q16, .ref q17, .null, .null, .int 0])), (q0, .inl (c0, 120, .inl (fun _ => 0))), (q1, .inl (c0, 24, .inl (fun _ => 0))), (q2, .inl (c0, 24, .inl (fun _ => 0))), (q3, .inl (c0, 96, .inl (fun _ => 0))), (q4, .inl (c0, 40, .inl (fun _ => 0))), (q5, .inl (c5, 77, .inr (.inl (fun _ => 0)))), (q6, .inl (c6, 25, .inl (fun _ => 0))), (q7, .inl (c0, 25, .inl (fun _ => 0))), (q8, .inl (c0, 1500, .inl (fun _ => 0))), (q9, .inl (c0, 1500, .inl (fun _ => 0))), (q10, .inl (c0, 8, .inl (fun _ => 0))), (q11, .inl (c0, 8, .inl (fun _ => 0))), (q12, .inl (c0, 16, .inl (fun _ => 0))), (q13, .inl (c0, 16, .inl (fun _ => 0))), (q14, .inl (c0, 16, .inl (fun _ => 0))), (q15, .inl (c0, 64, .inl (fun _ => 0))), (q16, .inl (c0, 64, .inl (fun _ => 0))), (q17, .inl (c0, 64, .inl (fun _ => 0)))] H := hP
  have hD : va_D A [(h0, .inr (0, [.ref q0, .int 0, .int 0, .int 0, .int 0, .ref q1, .int 0, .ref q2, .int 0, .ref q3, .int 0, .int 0, .ref q4, .int 0, .int 0, .ref q5, .ref q6, .ref q7, .ref q8, .ref q9, .int 0, .int 0, .int 0, .ref q10, .ref q11, .int 0, .ref q12, .ref q13, .ref q14, .ref q15, .ref q16, .ref q17, .null, .null, .int 0])), (q0, .inl (c0, 120, .inl (fun _ => 0))), (q1, .inl (c0, 24, .inl (fun _ => 0))), (q2, .inl (c0, 24, .inl (fun _ => 0))), (q3, .inl (c0, 96, .inl (fun _ => 0))), (q4, .inl (c0, 40, .inl (fun _ => 0))), (q5, .inl (c5, 77, .inr (.inl (fun _ => 0)))), (q6, .inl (c6, 25, .inl (fun _ => 0))), (q7, .inl (c0, 25, .inl (fun _ => 0))), (q8, .inl (c0, 1500, .inl (fun _ => 0))), (q9, .inl (c0, 1500, .inl (fun _ => 0))), (q10, .inl (c0, 8, .inl (fun _ => 0))), (q11, .inl (c0, 8, .inl (fun _ => 0))), (q12, .inl (c0, 16, .inl (fun _ => 0))), (q13, .inl (c0, 16, .inl (fun _ => 0))), (q14, .inl (c0, 16, .inl (fun _ => 0))), (q15, .inl (c0, 64, .inl (fun _ => 0))), (q16, .inl (c0, 64, .inl (fun _ => 0))), (q17, .inl (c0, 64, .inl (fun _ => 0)))] := hD
  refine lv_aload_n hx hb d_M_init_150 rfl (lv_at hl 0 rfl) ?_
  refine lv_iconst (v := 2) hx hb d_M_init_151 (by decide) ?_
  refine va_newa (atype := .int) (ty := .int) (N' := 2) (a0 := (2, .inl (fun _ => 0))) hx hb (hts _ k_M_266) rfl hK hP hD hS hA (fun _ => rfl) (by decide) (by decide) (by decide) (Nat.le_of_ble_eq_true rfl) (Nat.le_of_ble_eq_true rfl) d_M_init_152 (fun q18 c18 H hK hP hD hS => ?_)
  obtain rfl : c0 = c18 := same_int hK 0 3 rfl rfl
  have hK := hK.sub (tys' := [(c0, .int), (c5, .long), (c6, .boolean)]) [0, 1, 2] rfl
  refine W.widen (k := 19) (n := 3689) (Nat.le_of_ble_eq_true rfl) (Nat.le_of_ble_eq_true rfl) ?_
  refine va_putF (D := D) (ci := 0) (v := .ref q18) (ty := t_M 32) (C := R_M) (T := F_M) (N := 35) hx hb hts hin_M t_M t_M_ok n_M hown hK hP hD hS 0 rfl rfl 32 (by decide) (hts _ k_M_138) (fun _ h9 => h9) rfl hin rfl (t_M_ok 32 (by decide)) rfl rfl (Nat.le_of_ble_eq_true rfl) d_M_init_154 (fun H locs hP hD hS => ?_)
  have hP : va_P D classes [(h0, .inr (0, [.ref q0, .int 0, .int 0, .int 0, .int 0, .ref q1, .int 0, .ref q2, .int 0, .ref q3, .int 0, .int 0, .ref q4, .int 0, .int 0, .ref q5, .ref q6, .ref q7, .ref q8, .ref q9, .int 0, .int 0, .int 0, .ref q10, .ref q11, .int 0, .ref q12, .ref q13, .ref q14, .ref q15, .ref q16, .ref q17, .ref q18, .null, .int 0])), (q0, .inl (c0, 120, .inl (fun _ => 0))), (q1, .inl (c0, 24, .inl (fun _ => 0))), (q2, .inl (c0, 24, .inl (fun _ => 0))), (q3, .inl (c0, 96, .inl (fun _ => 0))), (q4, .inl (c0, 40, .inl (fun _ => 0))), (q5, .inl (c5, 77, .inr (.inl (fun _ => 0)))), (q6, .inl (c6, 25, .inl (fun _ => 0))), (q7, .inl (c0, 25, .inl (fun _ => 0))), (q8, .inl (c0, 1500, .inl (fun _ => 0))), (q9, .inl (c0, 1500, .inl (fun _ => 0))), (q10, .inl (c0, 8, .inl (fun _ => 0))), (q11, .inl (c0, 8, .inl (fun _ => 0))), (q12, .inl (c0, 16, .inl (fun _ => 0))), (q13, .inl (c0, 16, .inl (fun _ => 0))), (q14, .inl (c0, 16, .inl (fun _ => 0))), (q15, .inl (c0, 64, .inl (fun _ => 0))), (q16, .inl (c0, 64, .inl (fun _ => 0))), (q17, .inl (c0, 64, .inl (fun _ => 0))), (q18, .inl (c0, 2, .inl (fun _ => 0)))] H := hP
  have hD : va_D A [(h0, .inr (0, [.ref q0, .int 0, .int 0, .int 0, .int 0, .ref q1, .int 0, .ref q2, .int 0, .ref q3, .int 0, .int 0, .ref q4, .int 0, .int 0, .ref q5, .ref q6, .ref q7, .ref q8, .ref q9, .int 0, .int 0, .int 0, .ref q10, .ref q11, .int 0, .ref q12, .ref q13, .ref q14, .ref q15, .ref q16, .ref q17, .ref q18, .null, .int 0])), (q0, .inl (c0, 120, .inl (fun _ => 0))), (q1, .inl (c0, 24, .inl (fun _ => 0))), (q2, .inl (c0, 24, .inl (fun _ => 0))), (q3, .inl (c0, 96, .inl (fun _ => 0))), (q4, .inl (c0, 40, .inl (fun _ => 0))), (q5, .inl (c5, 77, .inr (.inl (fun _ => 0)))), (q6, .inl (c6, 25, .inl (fun _ => 0))), (q7, .inl (c0, 25, .inl (fun _ => 0))), (q8, .inl (c0, 1500, .inl (fun _ => 0))), (q9, .inl (c0, 1500, .inl (fun _ => 0))), (q10, .inl (c0, 8, .inl (fun _ => 0))), (q11, .inl (c0, 8, .inl (fun _ => 0))), (q12, .inl (c0, 16, .inl (fun _ => 0))), (q13, .inl (c0, 16, .inl (fun _ => 0))), (q14, .inl (c0, 16, .inl (fun _ => 0))), (q15, .inl (c0, 64, .inl (fun _ => 0))), (q16, .inl (c0, 64, .inl (fun _ => 0))), (q17, .inl (c0, 64, .inl (fun _ => 0))), (q18, .inl (c0, 2, .inl (fun _ => 0)))] := hD
  refine lv_aload_n hx hb d_M_init_157 rfl (lv_at hl 0 rfl) ?_
  refine lv_iconst (v := 2) hx hb d_M_init_158 (by decide) ?_
  refine va_newa (atype := .boolean) (ty := .boolean) (N' := 2) (a0 := (2, .inl (fun _ => 0))) hx hb (hts _ k_M_267) rfl hK hP hD hS hA (fun _ => rfl) (by decide) (by decide) (by decide) (Nat.le_of_ble_eq_true rfl) (Nat.le_of_ble_eq_true rfl) d_M_init_159 (fun q19 c19 H hK hP hD hS => ?_)
  obtain rfl : c6 = c19 := same_boolean hK 2 3 rfl rfl
  have hK := hK.sub (tys' := [(c0, .int), (c5, .long), (c6, .boolean)]) [0, 1, 2] rfl
  refine W.widen (k := 20) (n := 3691) (Nat.le_of_ble_eq_true rfl) (Nat.le_of_ble_eq_true rfl) ?_
  refine va_putF (D := D) (ci := 0) (v := .ref q19) (ty := t_M 33) (C := R_M) (T := F_M) (N := 35) hx hb hts hin_M t_M t_M_ok n_M hown hK hP hD hS 0 rfl rfl 33 (by decide) (hts _ k_M_139) (fun _ h9 => h9) rfl hin rfl (t_M_ok 33 (by decide)) rfl rfl (Nat.le_of_ble_eq_true rfl) d_M_init_161 (fun H locs hP hD hS => ?_)
  have hP : va_P D classes [(h0, .inr (0, [.ref q0, .int 0, .int 0, .int 0, .int 0, .ref q1, .int 0, .ref q2, .int 0, .ref q3, .int 0, .int 0, .ref q4, .int 0, .int 0, .ref q5, .ref q6, .ref q7, .ref q8, .ref q9, .int 0, .int 0, .int 0, .ref q10, .ref q11, .int 0, .ref q12, .ref q13, .ref q14, .ref q15, .ref q16, .ref q17, .ref q18, .ref q19, .int 0])), (q0, .inl (c0, 120, .inl (fun _ => 0))), (q1, .inl (c0, 24, .inl (fun _ => 0))), (q2, .inl (c0, 24, .inl (fun _ => 0))), (q3, .inl (c0, 96, .inl (fun _ => 0))), (q4, .inl (c0, 40, .inl (fun _ => 0))), (q5, .inl (c5, 77, .inr (.inl (fun _ => 0)))), (q6, .inl (c6, 25, .inl (fun _ => 0))), (q7, .inl (c0, 25, .inl (fun _ => 0))), (q8, .inl (c0, 1500, .inl (fun _ => 0))), (q9, .inl (c0, 1500, .inl (fun _ => 0))), (q10, .inl (c0, 8, .inl (fun _ => 0))), (q11, .inl (c0, 8, .inl (fun _ => 0))), (q12, .inl (c0, 16, .inl (fun _ => 0))), (q13, .inl (c0, 16, .inl (fun _ => 0))), (q14, .inl (c0, 16, .inl (fun _ => 0))), (q15, .inl (c0, 64, .inl (fun _ => 0))), (q16, .inl (c0, 64, .inl (fun _ => 0))), (q17, .inl (c0, 64, .inl (fun _ => 0))), (q18, .inl (c0, 2, .inl (fun _ => 0))), (q19, .inl (c6, 2, .inl (fun _ => 0)))] H := hP
  have hD : va_D A [(h0, .inr (0, [.ref q0, .int 0, .int 0, .int 0, .int 0, .ref q1, .int 0, .ref q2, .int 0, .ref q3, .int 0, .int 0, .ref q4, .int 0, .int 0, .ref q5, .ref q6, .ref q7, .ref q8, .ref q9, .int 0, .int 0, .int 0, .ref q10, .ref q11, .int 0, .ref q12, .ref q13, .ref q14, .ref q15, .ref q16, .ref q17, .ref q18, .ref q19, .int 0])), (q0, .inl (c0, 120, .inl (fun _ => 0))), (q1, .inl (c0, 24, .inl (fun _ => 0))), (q2, .inl (c0, 24, .inl (fun _ => 0))), (q3, .inl (c0, 96, .inl (fun _ => 0))), (q4, .inl (c0, 40, .inl (fun _ => 0))), (q5, .inl (c5, 77, .inr (.inl (fun _ => 0)))), (q6, .inl (c6, 25, .inl (fun _ => 0))), (q7, .inl (c0, 25, .inl (fun _ => 0))), (q8, .inl (c0, 1500, .inl (fun _ => 0))), (q9, .inl (c0, 1500, .inl (fun _ => 0))), (q10, .inl (c0, 8, .inl (fun _ => 0))), (q11, .inl (c0, 8, .inl (fun _ => 0))), (q12, .inl (c0, 16, .inl (fun _ => 0))), (q13, .inl (c0, 16, .inl (fun _ => 0))), (q14, .inl (c0, 16, .inl (fun _ => 0))), (q15, .inl (c0, 64, .inl (fun _ => 0))), (q16, .inl (c0, 64, .inl (fun _ => 0))), (q17, .inl (c0, 64, .inl (fun _ => 0))), (q18, .inl (c0, 2, .inl (fun _ => 0))), (q19, .inl (c6, 2, .inl (fun _ => 0)))] := hD
  obtain ⟨g, hg⟩ : ∃ g : Gm, g = (D, fun k => ([c0, c6, c5] : List ClassId).getD k 0, fun k => ([h0, q0, 0, 0, 0, 0, q1, 0, q2, 0, q3, 0, 0, q4, 0, 0, q5, q6, q7, q8, q9, 0, 0, 0, q10, q11, 0, q12, q13, q14, q15, q16, q17, q18, q19, 0] : List Nat).getD k 0) := ⟨_, rfl⟩
  have hg1 : g.1 = D := by rw [hg]
  have hg0 : g.2.2 0 = h0 := by rw [hg]; rfl
  have hP : va_P g.1 classes (wM g zM) H := by rw [hg]; exact hP
  have hD : va_D A (wM g zM) := by rw [hg]; exact hD
  have hK := hK.sub (tys' := [(c0, .int), (c6, .boolean), (c5, .long)]) [0, 2, 1] rfl
  have hK : va_K g.1 classes (tysM g) s := by rw [hg]; exact hK
  have hl : lv_has ls 1 [(0, .ref (g.2.2 0))] := by rw [hg0]; exact hl
  have kr : ∀ (S' : StM) (H : Heap) (locs : List Loc) (pc : Nat) (ls : Array Slot), post S' → va_P g.1 classes (wM g S') H → va_D A (wM g S') → va_S A s.heap H locs → decode b_M_init pc = .ok (.return_, 1) → W p l e { frames := 1, cells := 20, slots := 3691, locals := 28 } s m [Value.ref h0].toArray below meth c H locs 20 3691 (MQ below (va_Qv (fun u : Gm × StM => u.1.1 = D ∧ u.1.2.2 0 = h0 ∧ post u.2) (fun u t => va_P D classes (wM u.1 u.2) t.heap ∧ va_K D classes (tysM u.1) t ∧ va_D A (wM u.1 u.2)) A) [Value.ref h0].toArray s 20 3691 A) (F0 m pc ls []) := fun S' H locs pc ls hp hP hD hS hd => W.vret hx hb hr (fun t ht hW => ⟨⟨(g, S'), rfl, ⟨hg1, hg0, hp⟩, by rw [ht, ← hg1]; exact hP, by rw [← hg1]; exact va_K.moved hW.alike hK, hD⟩, hS.F ht⟩) hS.2.2 hd
  unfold wp_M_init at hw
  generalize zM = S at hw hP hD
  refine lv_aload_n hx hb d_M_init_164 rfl (lv_at hl 0 rfl) ?_
  refine lv_iconst (v := -1) hx hb d_M_init_165 (by decide) ?_
  refine pt_M (S2 := ((upd S.1 34 ((-1))), S.2)) (v := .int ((-1))) hx hb hown hts hK hP hD hS 34 (by decide) rfl rfl rfl (sI_M_34 g _ _) k_M_140 d_M_init_166 (fun H locs hP hD hS => ?_)
  refine lv_aload_n hx hb d_M_init_169 rfl (lv_at hl 0 rfl) ?_
  refine gt_M (v := .ref (g.2.2 33)) hx hb hown hts hK hP 32 (by decide) rfl k_M_138 d_M_init_170 ?_
  refine lv_iconst (v := 0) hx hb d_M_init_173 (by decide) ?_
  refine lv_iconst (v := -1) hx hb d_M_init_174 (by decide) ?_
  obtain ⟨hi, hw⟩ := hw
  refine ia_M (S2 := ((upd S.1 34 ((-1))), (va_up S.2.1 32 (upd (S.2.1 32) (Int32.toNatClampNeg (0)) ((-1)))), S.2.2)) (f := (S.2.1 32)) hx hb hK hP hD hS 19 rfl hi d_M_init_175 (sA_M_32 g _ _) (fun H locs hP hD hS => ?_)
  refine lv_aload_n hx hb d_M_init_176 rfl (lv_at hl 0 rfl) ?_
  refine gt_M (v := .ref (g.2.2 33)) hx hb hown hts hK hP 32 (by decide) rfl k_M_138 d_M_init_177 ?_
  refine lv_iconst (v := 1) hx hb d_M_init_180 (by decide) ?_
  refine lv_iconst (v := -1) hx hb d_M_init_181 (by decide) ?_
  obtain ⟨hi, hw⟩ := hw
  refine ia_M (S2 := ((upd S.1 34 ((-1))), (va_up (va_up S.2.1 32 (upd (S.2.1 32) (Int32.toNatClampNeg (0)) ((-1)))) 32 (upd (upd (S.2.1 32) (Int32.toNatClampNeg (0)) ((-1))) (Int32.toNatClampNeg (1)) ((-1)))), S.2.2)) (f := (upd (S.2.1 32) (Int32.toNatClampNeg (0)) ((-1)))) hx hb hK hP hD hS 19 rfl hi d_M_init_182 (sA_M_32 g _ _) (fun H locs hP hD hS => ?_)
  refine lv_aload_n hx hb d_M_init_183 rfl (lv_at hl 0 rfl) ?_
  refine lv_iconst (v := 0) hx hb d_M_init_184 (by decide) ?_
  refine lv_ldc2 (v := 43) hx hb hown (hts _ k_M_49) d_M_init_185 ?_
  refine cM_v (As := [.int (0), .long (43)]) (rest := []) hx hb hml hown hts hK hP hD hS hA (Nat.le_of_ble_eq_true rfl) (Nat.le_of_ble_eq_true rfl) hl.1 (q_M_name hts ⟨Nat.le_of_ble_eq_true rfl, Nat.le_of_ble_eq_true rfl⟩) (c_M_name l g H.size _ (0) (43) _ hw) rfl rfl (Nat.le_of_ble_eq_true rfl) d_M_init_188 (fun S1 H locs hw hP hD hS => ?_)
  refine lv_aload_n hx hb d_M_init_191 rfl (lv_at hl 0 rfl) ?_
  refine lv_iconst (v := 1) hx hb d_M_init_192 (by decide) ?_
  refine lv_ldc2 (v := 45) hx hb hown (hts _ k_M_54) d_M_init_193 ?_
  refine cM_v (As := [.int (1), .long (45)]) (rest := []) hx hb hml hown hts hK hP hD hS hA (Nat.le_of_ble_eq_true rfl) (Nat.le_of_ble_eq_true rfl) hl.1 (q_M_name hts ⟨Nat.le_of_ble_eq_true rfl, Nat.le_of_ble_eq_true rfl⟩) (c_M_name l g H.size _ (1) (45) _ hw) rfl rfl (Nat.le_of_ble_eq_true rfl) d_M_init_196 (fun S2 H locs hw hP hD hS => ?_)
  refine lv_aload_n hx hb d_M_init_199 rfl (lv_at hl 0 rfl) ?_
  refine lv_iconst (v := 2) hx hb d_M_init_200 (by decide) ?_
  refine lv_ldc2 (v := 42) hx hb hown (hts _ k_M_55) d_M_init_201 ?_
  refine cM_v (As := [.int (2), .long (42)]) (rest := []) hx hb hml hown hts hK hP hD hS hA (Nat.le_of_ble_eq_true rfl) (Nat.le_of_ble_eq_true rfl) hl.1 (q_M_name hts ⟨Nat.le_of_ble_eq_true rfl, Nat.le_of_ble_eq_true rfl⟩) (c_M_name l g H.size _ (2) (42) _ hw) rfl rfl (Nat.le_of_ble_eq_true rfl) d_M_init_204 (fun S3 H locs hw hP hD hS => ?_)
  refine lv_aload_n hx hb d_M_init_207 rfl (lv_at hl 0 rfl) ?_
  refine lv_iconst (v := 3) hx hb d_M_init_208 (by decide) ?_
  refine lv_ldc2 (v := 47) hx hb hown (hts _ k_M_56) d_M_init_209 ?_
  refine cM_v (As := [.int (3), .long (47)]) (rest := []) hx hb hml hown hts hK hP hD hS hA (Nat.le_of_ble_eq_true rfl) (Nat.le_of_ble_eq_true rfl) hl.1 (q_M_name hts ⟨Nat.le_of_ble_eq_true rfl, Nat.le_of_ble_eq_true rfl⟩) (c_M_name l g H.size _ (3) (47) _ hw) rfl rfl (Nat.le_of_ble_eq_true rfl) d_M_init_212 (fun S4 H locs hw hP hD hS => ?_)
  refine lv_aload_n hx hb d_M_init_215 rfl (lv_at hl 0 rfl) ?_
  refine lv_bipush (v := 8) hx hb d_M_init_216 (by decide) ?_
  refine lv_ldc2 (v := 61) hx hb hown (hts _ k_M_57) d_M_init_218 ?_
  refine cM_v (As := [.int (8), .long (61)]) (rest := []) hx hb hml hown hts hK hP hD hS hA (Nat.le_of_ble_eq_true rfl) (Nat.le_of_ble_eq_true rfl) hl.1 (q_M_name hts ⟨Nat.le_of_ble_eq_true rfl, Nat.le_of_ble_eq_true rfl⟩) (c_M_name l g H.size _ (8) (61) _ hw) rfl rfl (Nat.le_of_ble_eq_true rfl) d_M_init_221 (fun S5 H locs hw hP hD hS => ?_)
  refine lv_aload_n hx hb d_M_init_224 rfl (lv_at hl 0 rfl) ?_
  refine lv_bipush (v := 9) hx hb d_M_init_225 (by decide) ?_
  refine lv_ldc2 (v := 60) hx hb hown (hts _ k_M_58) d_M_init_227 ?_
  refine cM_v (As := [.int (9), .long (60)]) (rest := []) hx hb hml hown hts hK hP hD hS hA (Nat.le_of_ble_eq_true rfl) (Nat.le_of_ble_eq_true rfl) hl.1 (q_M_name hts ⟨Nat.le_of_ble_eq_true rfl, Nat.le_of_ble_eq_true rfl⟩) (c_M_name l g H.size _ (9) (60) _ hw) rfl rfl (Nat.le_of_ble_eq_true rfl) d_M_init_230 (fun S6 H locs hw hP hD hS => ?_)
  refine lv_aload_n hx hb d_M_init_233 rfl (lv_at hl 0 rfl) ?_
  refine lv_bipush (v := 18) hx hb d_M_init_234 (by decide) ?_
  refine lv_ldc2 (v := 46) hx hb hown (hts _ k_M_59) d_M_init_236 ?_
  refine cM_v (As := [.int (18), .long (46)]) (rest := []) hx hb hml hown hts hK hP hD hS hA (Nat.le_of_ble_eq_true rfl) (Nat.le_of_ble_eq_true rfl) hl.1 (q_M_name hts ⟨Nat.le_of_ble_eq_true rfl, Nat.le_of_ble_eq_true rfl⟩) (c_M_name l g H.size _ (18) (46) _ hw) rfl rfl (Nat.le_of_ble_eq_true rfl) d_M_init_239 (fun S7 H locs hw hP hD hS => ?_)
  refine lv_aload_n hx hb d_M_init_242 rfl (lv_at hl 0 rfl) ?_
  refine lv_bipush (v := 19) hx hb d_M_init_243 (by decide) ?_
  refine lv_ldc2 (v := 64) hx hb hown (hts _ k_M_60) d_M_init_245 ?_
  refine cM_v (As := [.int (19), .long (64)]) (rest := []) hx hb hml hown hts hK hP hD hS hA (Nat.le_of_ble_eq_true rfl) (Nat.le_of_ble_eq_true rfl) hl.1 (q_M_name hts ⟨Nat.le_of_ble_eq_true rfl, Nat.le_of_ble_eq_true rfl⟩) (c_M_name l g H.size _ (19) (64) _ hw) rfl rfl (Nat.le_of_ble_eq_true rfl) d_M_init_248 (fun S8 H locs hw hP hD hS => ?_)
  refine lv_aload_n hx hb d_M_init_251 rfl (lv_at hl 0 rfl) ?_
  refine lv_bipush (v := 20) hx hb d_M_init_252 (by decide) ?_
  refine lv_ldc2 (v := 33) hx hb hown (hts _ k_M_61) d_M_init_254 ?_
  refine cM_v (As := [.int (20), .long (33)]) (rest := []) hx hb hml hown hts hK hP hD hS hA (Nat.le_of_ble_eq_true rfl) (Nat.le_of_ble_eq_true rfl) hl.1 (q_M_name hts ⟨Nat.le_of_ble_eq_true rfl, Nat.le_of_ble_eq_true rfl⟩) (c_M_name l g H.size _ (20) (33) _ hw) rfl rfl (Nat.le_of_ble_eq_true rfl) d_M_init_257 (fun S9 H locs hw hP hD hS => ?_)
  refine lv_aload_n hx hb d_M_init_260 rfl (lv_at hl 0 rfl) ?_
  refine lv_bipush (v := 23) hx hb d_M_init_261 (by decide) ?_
  refine lv_ldc2 (v := 44) hx hb hown (hts _ k_M_62) d_M_init_263 ?_
  refine cM_v (As := [.int (23), .long (44)]) (rest := []) hx hb hml hown hts hK hP hD hS hA (Nat.le_of_ble_eq_true rfl) (Nat.le_of_ble_eq_true rfl) hl.1 (q_M_name hts ⟨Nat.le_of_ble_eq_true rfl, Nat.le_of_ble_eq_true rfl⟩) (c_M_name l g H.size _ (23) (44) _ hw) rfl rfl (Nat.le_of_ble_eq_true rfl) d_M_init_266 (fun S10 H locs hw hP hD hS => ?_)
  refine lv_aload_n hx hb d_M_init_269 rfl (lv_at hl 0 rfl) ?_
  refine lv_bipush (v := 28) hx hb d_M_init_270 (by decide) ?_
  refine lv_ldc2 (v := 105) hx hb hown (hts _ k_M_63) d_M_init_272 ?_
  refine cM_v (As := [.int (28), .long (105)]) (rest := []) hx hb hml hown hts hK hP hD hS hA (Nat.le_of_ble_eq_true rfl) (Nat.le_of_ble_eq_true rfl) hl.1 (q_M_name hts ⟨Nat.le_of_ble_eq_true rfl, Nat.le_of_ble_eq_true rfl⟩) (c_M_name l g H.size _ (28) (105) _ hw) rfl rfl (Nat.le_of_ble_eq_true rfl) d_M_init_275 (fun S11 H locs hw hP hD hS => ?_)
  refine lv_aload_n hx hb d_M_init_278 rfl (lv_at hl 0 rfl) ?_
  refine lv_bipush (v := 29) hx hb d_M_init_279 (by decide) ?_
  refine lv_ldc2 (v := 106) hx hb hown (hts _ k_M_64) d_M_init_281 ?_
  refine cM_v (As := [.int (29), .long (106)]) (rest := []) hx hb hml hown hts hK hP hD hS hA (Nat.le_of_ble_eq_true rfl) (Nat.le_of_ble_eq_true rfl) hl.1 (q_M_name hts ⟨Nat.le_of_ble_eq_true rfl, Nat.le_of_ble_eq_true rfl⟩) (c_M_name l g H.size _ (29) (106) _ hw) rfl rfl (Nat.le_of_ble_eq_true rfl) d_M_init_284 (fun S12 H locs hw hP hD hS => ?_)
  refine lv_aload_n hx hb d_M_init_287 rfl (lv_at hl 0 rfl) ?_
  refine lv_bipush (v := 32) hx hb d_M_init_288 (by decide) ?_
  refine lv_ldc2 (v := 39) hx hb hown (hts _ k_M_65) d_M_init_290 ?_
  refine cM_v (As := [.int (32), .long (39)]) (rest := []) hx hb hml hown hts hK hP hD hS hA (Nat.le_of_ble_eq_true rfl) (Nat.le_of_ble_eq_true rfl) hl.1 (q_M_name hts ⟨Nat.le_of_ble_eq_true rfl, Nat.le_of_ble_eq_true rfl⟩) (c_M_name l g H.size _ (32) (39) _ hw) rfl rfl (Nat.le_of_ble_eq_true rfl) d_M_init_293 (fun S13 H locs hw hP hD hS => ?_)
  refine lv_aload_n hx hb d_M_init_296 rfl (lv_at hl 0 rfl) ?_
  refine lv_bipush (v := 35) hx hb d_M_init_297 (by decide) ?_
  refine lv_ldc2 (v := 58) hx hb hown (hts _ k_M_66) d_M_init_299 ?_
  refine cM_v (As := [.int (35), .long (58)]) (rest := []) hx hb hml hown hts hK hP hD hS hA (Nat.le_of_ble_eq_true rfl) (Nat.le_of_ble_eq_true rfl) hl.1 (q_M_name hts ⟨Nat.le_of_ble_eq_true rfl, Nat.le_of_ble_eq_true rfl⟩) (c_M_name l g H.size _ (35) (58) _ hw) rfl rfl (Nat.le_of_ble_eq_true rfl) d_M_init_302 (fun S14 H locs hw hP hD hS => ?_)
  refine lv_aload_n hx hb d_M_init_305 rfl (lv_at hl 0 rfl) ?_
  refine lv_bipush (v := 40) hx hb d_M_init_306 (by decide) ?_
  refine lv_ldc2 (v := 59) hx hb hown (hts _ k_M_67) d_M_init_308 ?_
  refine cM_v (As := [.int (40), .long (59)]) (rest := []) hx hb hml hown hts hK hP hD hS hA (Nat.le_of_ble_eq_true rfl) (Nat.le_of_ble_eq_true rfl) hl.1 (q_M_name hts ⟨Nat.le_of_ble_eq_true rfl, Nat.le_of_ble_eq_true rfl⟩) (c_M_name l g H.size _ (40) (59) _ hw) rfl rfl (Nat.le_of_ble_eq_true rfl) d_M_init_311 (fun S15 H locs hw hP hD hS => ?_)
  refine lv_aload_n hx hb d_M_init_314 rfl (lv_at hl 0 rfl) ?_
  refine lv_iconst (v := 4) hx hb d_M_init_315 (by decide) ?_
  refine lv_ldc2 (v := 7171940) hx hb hown (hts _ k_M_68) d_M_init_316 ?_
  refine cM_v (As := [.int (4), .long (7171940)]) (rest := []) hx hb hml hown hts hK hP hD hS hA (Nat.le_of_ble_eq_true rfl) (Nat.le_of_ble_eq_true rfl) hl.1 (q_M_name hts ⟨Nat.le_of_ble_eq_true rfl, Nat.le_of_ble_eq_true rfl⟩) (c_M_name l g H.size _ (4) (7171940) _ hw) rfl rfl (Nat.le_of_ble_eq_true rfl) d_M_init_319 (fun S16 H locs hw hP hD hS => ?_)
  refine lv_aload_n hx hb d_M_init_322 rfl (lv_at hl 0 rfl) ?_
  refine lv_iconst (v := 5) hx hb d_M_init_323 (by decide) ?_
  refine lv_ldc2 (v := 6385252) hx hb hown (hts _ k_M_69) d_M_init_324 ?_
  refine cM_v (As := [.int (5), .long (6385252)]) (rest := []) hx hb hml hown hts hK hP hD hS hA (Nat.le_of_ble_eq_true rfl) (Nat.le_of_ble_eq_true rfl) hl.1 (q_M_name hts ⟨Nat.le_of_ble_eq_true rfl, Nat.le_of_ble_eq_true rfl⟩) (c_M_name l g H.size _ (5) (6385252) _ hw) rfl rfl (Nat.le_of_ble_eq_true rfl) d_M_init_327 (fun S17 H locs hw hP hD hS => ?_)
  refine lv_aload_n hx hb d_M_init_330 rfl (lv_at hl 0 rfl) ?_
  refine lv_bipush (v := 6) hx hb d_M_init_331 (by decide) ?_
  refine lv_ldc2 (v := 28530) hx hb hown (hts _ k_M_70) d_M_init_333 ?_
  refine cM_v (As := [.int (6), .long (28530)]) (rest := []) hx hb hml hown hts hK hP hD hS hA (Nat.le_of_ble_eq_true rfl) (Nat.le_of_ble_eq_true rfl) hl.1 (q_M_name hts ⟨Nat.le_of_ble_eq_true rfl, Nat.le_of_ble_eq_true rfl⟩) (c_M_name l g H.size _ (6) (28530) _ hw) rfl rfl (Nat.le_of_ble_eq_true rfl) d_M_init_336 (fun S18 H locs hw hP hD hS => ?_)
  refine lv_aload_n hx hb d_M_init_339 rfl (lv_at hl 0 rfl) ?_
  refine lv_bipush (v := 7) hx hb d_M_init_340 (by decide) ?_
  refine lv_ldc2 (v := 7892850) hx hb hown (hts _ k_M_71) d_M_init_342 ?_
  refine cM_v (As := [.int (7), .long (7892850)]) (rest := []) hx hb hml hown hts hK hP hD hS hA (Nat.le_of_ble_eq_true rfl) (Nat.le_of_ble_eq_true rfl) hl.1 (q_M_name hts ⟨Nat.le_of_ble_eq_true rfl, Nat.le_of_ble_eq_true rfl⟩) (c_M_name l g H.size _ (7) (7892850) _ hw) rfl rfl (Nat.le_of_ble_eq_true rfl) d_M_init_345 (fun S19 H locs hw hP hD hS => ?_)
  refine lv_aload_n hx hb d_M_init_348 rfl (lv_at hl 0 rfl) ?_
  refine lv_bipush (v := 10) hx hb d_M_init_349 (by decide) ?_
  refine lv_ldc2 (v := 12349) hx hb hown (hts _ k_M_72) d_M_init_351 ?_
  refine cM_v (As := [.int (10), .long (12349)]) (rest := []) hx hb hml hown hts hK hP hD hS hA (Nat.le_of_ble_eq_true rfl) (Nat.le_of_ble_eq_true rfl) hl.1 (q_M_name hts ⟨Nat.le_of_ble_eq_true rfl, Nat.le_of_ble_eq_true rfl⟩) (c_M_name l g H.size _ (10) (12349) _ hw) rfl rfl (Nat.le_of_ble_eq_true rfl) d_M_init_354 (fun S20 H locs hw hP hD hS => ?_)
  refine lv_aload_n hx hb d_M_init_357 rfl (lv_at hl 0 rfl) ?_
  refine lv_bipush (v := 11) hx hb d_M_init_358 (by decide) ?_
  refine lv_ldc2 (v := 121381805192293) hx hb hown (hts _ k_M_73) d_M_init_360 ?_
  refine cM_v (As := [.int (11), .long (121381805192293)]) (rest := []) hx hb hml hown hts hK hP hD hS hA (Nat.le_of_ble_eq_true rfl) (Nat.le_of_ble_eq_true rfl) hl.1 (q_M_name hts ⟨Nat.le_of_ble_eq_true rfl, Nat.le_of_ble_eq_true rfl⟩) (c_M_name l g H.size _ (11) (121381805192293) _ hw) rfl rfl (Nat.le_of_ble_eq_true rfl) d_M_init_363 (fun S21 H locs hw hP hD hS => ?_)
  refine lv_aload_n hx hb d_M_init_366 rfl (lv_at hl 0 rfl) ?_
  refine lv_bipush (v := 12) hx hb d_M_init_367 (by decide) ?_
  refine lv_ldc2 (v := 6583664) hx hb hown (hts _ k_M_74) d_M_init_369 ?_
  refine cM_v (As := [.int (12), .long (6583664)]) (rest := []) hx hb hml hown hts hK hP hD hS hA (Nat.le_of_ble_eq_true rfl) (Nat.le_of_ble_eq_true rfl) hl.1 (q_M_name hts ⟨Nat.le_of_ble_eq_true rfl, Nat.le_of_ble_eq_true rfl⟩) (c_M_name l g H.size _ (12) (6583664) _ hw) rfl rfl (Nat.le_of_ble_eq_true rfl) d_M_init_372 (fun S22 H locs hw hP hD hS => ?_)
  refine lv_aload_n hx hb d_M_init_375 rfl (lv_at hl 0 rfl) ?_
  refine lv_bipush (v := 13) hx hb d_M_init_376 (by decide) ?_
  refine lv_ldc2 (v := 1685221232) hx hb hown (hts _ k_M_75) d_M_init_378 ?_
  refine cM_v (As := [.int (13), .long (1685221232)]) (rest := []) hx hb hml hown hts hK hP hD hS hA (Nat.le_of_ble_eq_true rfl) (Nat.le_of_ble_eq_true rfl) hl.1 (q_M_name hts ⟨Nat.le_of_ble_eq_true rfl, Nat.le_of_ble_eq_true rfl⟩) (c_M_name l g H.size _ (13) (1685221232) _ hw) rfl rfl (Nat.le_of_ble_eq_true rfl) d_M_init_381 (fun S23 H locs hw hP hD hS => ?_)
  refine lv_aload_n hx hb d_M_init_384 rfl (lv_at hl 0 rfl) ?_
  refine lv_bipush (v := 14) hx hb d_M_init_385 (by decide) ?_
  refine lv_ldc2 (v := 1937203568) hx hb hown (hts _ k_M_76) d_M_init_387 ?_
  refine cM_v (As := [.int (14), .long (1937203568)]) (rest := []) hx hb hml hown hts hK hP hD hS hA (Nat.le_of_ble_eq_true rfl) (Nat.le_of_ble_eq_true rfl) hl.1 (q_M_name hts ⟨Nat.le_of_ble_eq_true rfl, Nat.le_of_ble_eq_true rfl⟩) (c_M_name l g H.size _ (14) (1937203568) _ hw) rfl rfl (Nat.le_of_ble_eq_true rfl) d_M_init_390 (fun S24 H locs hw hP hD hS => ?_)
  refine lv_aload_n hx hb d_M_init_393 rfl (lv_at hl 0 rfl) ?_
  refine lv_bipush (v := 15) hx hb d_M_init_394 (by decide) ?_
  refine lv_ldc2 (v := 1870030194) hx hb hown (hts _ k_M_77) d_M_init_396 ?_
  refine cM_v (As := [.int (15), .long (1870030194)]) (rest := []) hx hb hml hown hts hK hP hD hS hA (Nat.le_of_ble_eq_true rfl) (Nat.le_of_ble_eq_true rfl) hl.1 (q_M_name hts ⟨Nat.le_of_ble_eq_true rfl, Nat.le_of_ble_eq_true rfl⟩) (c_M_name l g H.size _ (15) (1870030194) _ hw) rfl rfl (Nat.le_of_ble_eq_true rfl) d_M_init_399 (fun S25 H locs hw hP hD hS => ?_)
  refine lv_aload_n hx hb d_M_init_402 rfl (lv_at hl 0 rfl) ?_
  refine lv_bipush (v := 16) hx hb d_M_init_403 (by decide) ?_
  refine lv_ldc2 (v := 7499636) hx hb hown (hts _ k_M_78) d_M_init_405 ?_
  refine cM_v (As := [.int (16), .long (7499636)]) (rest := []) hx hb hml hown hts hK hP hD hS hA (Nat.le_of_ble_eq_true rfl) (Nat.le_of_ble_eq_true rfl) hl.1 (q_M_name hts ⟨Nat.le_of_ble_eq_true rfl, Nat.le_of_ble_eq_true rfl⟩) (c_M_name l g H.size _ (16) (7499636) _ hw) rfl rfl (Nat.le_of_ble_eq_true rfl) d_M_init_408 (fun S26 H locs hw hP hD hS => ?_)
  refine lv_aload_n hx hb d_M_init_411 rfl (lv_at hl 0 rfl) ?_
  refine lv_bipush (v := 17) hx hb d_M_init_412 (by decide) ?_
  refine lv_ldc2 (v := 431198598248) hx hb hown (hts _ k_M_79) d_M_init_414 ?_
  refine cM_v (As := [.int (17), .long (431198598248)]) (rest := []) hx hb hml hown hts hK hP hD hS hA (Nat.le_of_ble_eq_true rfl) (Nat.le_of_ble_eq_true rfl) hl.1 (q_M_name hts ⟨Nat.le_of_ble_eq_true rfl, Nat.le_of_ble_eq_true rfl⟩) (c_M_name l g H.size _ (17) (431198598248) _ hw) rfl rfl (Nat.le_of_ble_eq_true rfl) d_M_init_417 (fun S27 H locs hw hP hD hS => ?_)
  refine lv_aload_n hx hb d_M_init_420 rfl (lv_at hl 0 rfl) ?_
  refine lv_bipush (v := 21) hx hb d_M_init_421 (by decide) ?_
  refine lv_ldc2 (v := 11041) hx hb hown (hts _ k_M_80) d_M_init_423 ?_
  refine cM_v (As := [.int (21), .long (11041)]) (rest := []) hx hb hml hown hts hK hP hD hS hA (Nat.le_of_ble_eq_true rfl) (Nat.le_of_ble_eq_true rfl) hl.1 (q_M_name hts ⟨Nat.le_of_ble_eq_true rfl, Nat.le_of_ble_eq_true rfl⟩) (c_M_name l g H.size _ (21) (11041) _ hw) rfl rfl (Nat.le_of_ble_eq_true rfl) d_M_init_426 (fun S28 H locs hw hP hD hS => ?_)
  refine lv_aload_n hx hb d_M_init_429 rfl (lv_at hl 0 rfl) ?_
  refine lv_bipush (v := 22) hx hb d_M_init_430 (by decide) ?_
  refine lv_ldc2 (v := 1751478885) hx hb hown (hts _ k_M_81) d_M_init_432 ?_
  refine cM_v (As := [.int (22), .long (1751478885)]) (rest := []) hx hb hml hown hts hK hP hD hS hA (Nat.le_of_ble_eq_true rfl) (Nat.le_of_ble_eq_true rfl) hl.1 (q_M_name hts ⟨Nat.le_of_ble_eq_true rfl, Nat.le_of_ble_eq_true rfl⟩) (c_M_name l g H.size _ (22) (1751478885) _ hw) rfl rfl (Nat.le_of_ble_eq_true rfl) d_M_init_435 (fun S29 H locs hw hP hD hS => ?_)
  refine lv_aload_n hx hb d_M_init_438 rfl (lv_at hl 0 rfl) ?_
  refine lv_bipush (v := 24) hx hb d_M_init_439 (by decide) ?_
  refine lv_ldc2 (v := 418430873460) hx hb hown (hts _ k_M_82) d_M_init_441 ?_
  refine cM_v (As := [.int (24), .long (418430873460)]) (rest := []) hx hb hml hown hts hK hP hD hS hA (Nat.le_of_ble_eq_true rfl) (Nat.le_of_ble_eq_true rfl) hl.1 (q_M_name hts ⟨Nat.le_of_ble_eq_true rfl, Nat.le_of_ble_eq_true rfl⟩) (c_M_name l g H.size _ (24) (418430873460) _ hw) rfl rfl (Nat.le_of_ble_eq_true rfl) d_M_init_444 (fun S30 H locs hw hP hD hS => ?_)
  refine lv_aload_n hx hb d_M_init_447 rfl (lv_at hl 0 rfl) ?_
  refine lv_bipush (v := 25) hx hb d_M_init_448 (by decide) ?_
  refine lv_ldc2 (v := 15986) hx hb hown (hts _ k_M_83) d_M_init_450 ?_
  refine cM_v (As := [.int (25), .long (15986)]) (rest := []) hx hb hml hown hts hK hP hD hS hA (Nat.le_of_ble_eq_true rfl) (Nat.le_of_ble_eq_true rfl) hl.1 (q_M_name hts ⟨Nat.le_of_ble_eq_true rfl, Nat.le_of_ble_eq_true rfl⟩) (c_M_name l g H.size _ (25) (15986) _ hw) rfl rfl (Nat.le_of_ble_eq_true rfl) d_M_init_453 (fun S31 H locs hw hP hD hS => ?_)
  refine lv_aload_n hx hb d_M_init_456 rfl (lv_at hl 0 rfl) ?_
  refine lv_bipush (v := 26) hx hb d_M_init_457 (by decide) ?_
  refine lv_ldc2 (v := 29246) hx hb hown (hts _ k_M_84) d_M_init_459 ?_
  refine cM_v (As := [.int (26), .long (29246)]) (rest := []) hx hb hml hown hts hK hP hD hS hA (Nat.le_of_ble_eq_true rfl) (Nat.le_of_ble_eq_true rfl) hl.1 (q_M_name hts ⟨Nat.le_of_ble_eq_true rfl, Nat.le_of_ble_eq_true rfl⟩) (c_M_name l g H.size _ (26) (29246) _ hw) rfl rfl (Nat.le_of_ble_eq_true rfl) d_M_init_462 (fun S32 H locs hw hP hD hS => ?_)
  refine lv_aload_n hx hb d_M_init_465 rfl (lv_at hl 0 rfl) ?_
  refine lv_bipush (v := 27) hx hb d_M_init_466 (by decide) ?_
  refine lv_ldc2 (v := 29248) hx hb hown (hts _ k_M_85) d_M_init_468 ?_
  refine cM_v (As := [.int (27), .long (29248)]) (rest := []) hx hb hml hown hts hK hP hD hS hA (Nat.le_of_ble_eq_true rfl) (Nat.le_of_ble_eq_true rfl) hl.1 (q_M_name hts ⟨Nat.le_of_ble_eq_true rfl, Nat.le_of_ble_eq_true rfl⟩) (c_M_name l g H.size _ (27) (29248) _ hw) rfl rfl (Nat.le_of_ble_eq_true rfl) d_M_init_471 (fun S33 H locs hw hP hD hS => ?_)
  refine lv_aload_n hx hb d_M_init_474 rfl (lv_at hl 0 rfl) ?_
  refine lv_bipush (v := 30) hx hb d_M_init_475 (by decide) ?_
  refine lv_ldc2 (v := 1702390132) hx hb hown (hts _ k_M_86) d_M_init_477 ?_
  refine cM_v (As := [.int (30), .long (1702390132)]) (rest := []) hx hb hml hown hts hK hP hD hS hA (Nat.le_of_ble_eq_true rfl) (Nat.le_of_ble_eq_true rfl) hl.1 (q_M_name hts ⟨Nat.le_of_ble_eq_true rfl, Nat.le_of_ble_eq_true rfl⟩) (c_M_name l g H.size _ (30) (1702390132) _ hw) rfl rfl (Nat.le_of_ble_eq_true rfl) d_M_init_480 (fun S34 H locs hw hP hD hS => ?_)
  refine lv_aload_n hx hb d_M_init_483 rfl (lv_at hl 0 rfl) ?_
  refine lv_bipush (v := 31) hx hb d_M_init_484 (by decide) ?_
  refine lv_ldc2 (v := 28561349503448165) hx hb hown (hts _ k_M_87) d_M_init_486 ?_
  refine cM_v (As := [.int (31), .long (28561349503448165)]) (rest := []) hx hb hml hown hts hK hP hD hS hA (Nat.le_of_ble_eq_true rfl) (Nat.le_of_ble_eq_true rfl) hl.1 (q_M_name hts ⟨Nat.le_of_ble_eq_true rfl, Nat.le_of_ble_eq_true rfl⟩) (c_M_name l g H.size _ (31) (28561349503448165) _ hw) rfl rfl (Nat.le_of_ble_eq_true rfl) d_M_init_489 (fun S35 H locs hw hP hD hS => ?_)
  refine lv_aload_n hx hb d_M_init_492 rfl (lv_at hl 0 rfl) ?_
  refine lv_bipush (v := 33) hx hb d_M_init_493 (by decide) ?_
  refine lv_ldc2 (v := 8530224966147402853) hx hb hown (hts _ k_M_88) d_M_init_495 ?_
  refine cM_v (As := [.int (33), .long (8530224966147402853)]) (rest := []) hx hb hml hown hts hK hP hD hS hA (Nat.le_of_ble_eq_true rfl) (Nat.le_of_ble_eq_true rfl) hl.1 (q_M_name hts ⟨Nat.le_of_ble_eq_true rfl, Nat.le_of_ble_eq_true rfl⟩) (c_M_name l g H.size _ (33) (8530224966147402853) _ hw) rfl rfl (Nat.le_of_ble_eq_true rfl) d_M_init_498 (fun S36 H locs hw hP hD hS => ?_)
  refine lv_aload_n hx hb d_M_init_501 rfl (lv_at hl 0 rfl) ?_
  refine lv_bipush (v := 34) hx hb d_M_init_502 (by decide) ?_
  refine lv_ldc2 (v := 7165066974322585204) hx hb hown (hts _ k_M_89) d_M_init_504 ?_
  refine cM_v (As := [.int (34), .long (7165066974322585204)]) (rest := []) hx hb hml hown hts hK hP hD hS hA (Nat.le_of_ble_eq_true rfl) (Nat.le_of_ble_eq_true rfl) hl.1 (q_M_name hts ⟨Nat.le_of_ble_eq_true rfl, Nat.le_of_ble_eq_true rfl⟩) (c_M_name l g H.size _ (34) (7165066974322585204) _ hw) rfl rfl (Nat.le_of_ble_eq_true rfl) d_M_init_507 (fun S37 H locs hw hP hD hS => ?_)
  refine lv_aload_n hx hb d_M_init_510 rfl (lv_at hl 0 rfl) ?_
  refine lv_bipush (v := 37) hx hb d_M_init_511 (by decide) ?_
  refine lv_ldc2 (v := 422726034283) hx hb hown (hts _ k_M_90) d_M_init_513 ?_
  refine cM_v (As := [.int (37), .long (422726034283)]) (rest := []) hx hb hml hown hts hK hP hD hS hA (Nat.le_of_ble_eq_true rfl) (Nat.le_of_ble_eq_true rfl) hl.1 (q_M_name hts ⟨Nat.le_of_ble_eq_true rfl, Nat.le_of_ble_eq_true rfl⟩) (c_M_name l g H.size _ (37) (422726034283) _ hw) rfl rfl (Nat.le_of_ble_eq_true rfl) d_M_init_516 (fun S38 H locs hw hP hD hS => ?_)
  refine lv_aload_n hx hb d_M_init_519 rfl (lv_at hl 0 rfl) ?_
  refine lv_bipush (v := 38) hx hb d_M_init_520 (by decide) ?_
  refine lv_ldc2 (v := 129125580895333) hx hb hown (hts _ k_M_91) d_M_init_522 ?_
  refine cM_v (As := [.int (38), .long (129125580895333)]) (rest := []) hx hb hml hown hts hK hP hD hS hA (Nat.le_of_ble_eq_true rfl) (Nat.le_of_ble_eq_true rfl) hl.1 (q_M_name hts ⟨Nat.le_of_ble_eq_true rfl, Nat.le_of_ble_eq_true rfl⟩) (c_M_name l g H.size _ (38) (129125580895333) _ hw) rfl rfl (Nat.le_of_ble_eq_true rfl) d_M_init_525 (fun S39 H locs hw hP hD hS => ?_)
  refine lv_aload_n hx hb d_M_init_528 rfl (lv_at hl 0 rfl) ?_
  refine lv_bipush (v := 39) hx hb d_M_init_529 (by decide) ?_
  refine lv_ldc2 (v := 439906300776) hx hb hown (hts _ k_M_92) d_M_init_531 ?_
  refine cM_v (As := [.int (39), .long (439906300776)]) (rest := []) hx hb hml hown hts hK hP hD hS hA (Nat.le_of_ble_eq_true rfl) (Nat.le_of_ble_eq_true rfl) hl.1 (q_M_name hts ⟨Nat.le_of_ble_eq_true rfl, Nat.le_of_ble_eq_true rfl⟩) (c_M_name l g H.size _ (39) (439906300776) _ hw) rfl rfl (Nat.le_of_ble_eq_true rfl) d_M_init_534 (fun S40 H locs hw hP hD hS => ?_)
  refine lv_aload_n hx hb d_M_init_537 rfl (lv_at hl 0 rfl) ?_
  refine lv_bipush (v := 41) hx hb d_M_init_538 (by decide) ?_
  refine lv_ldc2 (v := 26982) hx hb hown (hts _ k_M_93) d_M_init_540 ?_
  refine cM_v (As := [.int (41), .long (26982)]) (rest := []) hx hb hml hown hts hK hP hD hS hA (Nat.le_of_ble_eq_true rfl) (Nat.le_of_ble_eq_true rfl) hl.1 (q_M_name hts ⟨Nat.le_of_ble_eq_true rfl, Nat.le_of_ble_eq_true rfl⟩) (c_M_name l g H.size _ (41) (26982) _ hw) rfl rfl (Nat.le_of_ble_eq_true rfl) d_M_init_543 (fun S41 H locs hw hP hD hS => ?_)
  refine lv_aload_n hx hb d_M_init_546 rfl (lv_at hl 0 rfl) ?_
  refine lv_bipush (v := 42) hx hb d_M_init_547 (by decide) ?_
  refine lv_ldc2 (v := 1952998766) hx hb hown (hts _ k_M_94) d_M_init_549 ?_
  refine cM_v (As := [.int (42), .long (1952998766)]) (rest := []) hx hb hml hown hts hK hP hD hS hA (Nat.le_of_ble_eq_true rfl) (Nat.le_of_ble_eq_true rfl) hl.1 (q_M_name hts ⟨Nat.le_of_ble_eq_true rfl, Nat.le_of_ble_eq_true rfl⟩) (c_M_name l g H.size _ (42) (1952998766) _ hw) rfl rfl (Nat.le_of_ble_eq_true rfl) d_M_init_552 (fun S42 H locs hw hP hD hS => ?_)
  refine lv_aload_n hx hb d_M_init_555 rfl (lv_at hl 0 rfl) ?_
  refine lv_bipush (v := 43) hx hb d_M_init_556 (by decide) ?_
  refine lv_ldc2 (v := 1701606245) hx hb hown (hts _ k_M_95) d_M_init_558 ?_
  refine cM_v (As := [.int (43), .long (1701606245)]) (rest := []) hx hb hml hown hts hK hP hD hS hA (Nat.le_of_ble_eq_true rfl) (Nat.le_of_ble_eq_true rfl) hl.1 (q_M_name hts ⟨Nat.le_of_ble_eq_true rfl, Nat.le_of_ble_eq_true rfl⟩) (c_M_name l g H.size _ (43) (1701606245) _ hw) rfl rfl (Nat.le_of_ble_eq_true rfl) d_M_init_561 (fun S43 H locs hw hP hD hS => ?_)
  refine lv_aload_n hx hb d_M_init_564 rfl (lv_at hl 0 rfl) ?_
  refine lv_bipush (v := 44) hx hb d_M_init_565 (by decide) ?_
  refine lv_ldc2 (v := 422608071022) hx hb hown (hts _ k_M_96) d_M_init_567 ?_
  refine cM_v (As := [.int (44), .long (422608071022)]) (rest := []) hx hb hml hown hts hK hP hD hS hA (Nat.le_of_ble_eq_true rfl) (Nat.le_of_ble_eq_true rfl) hl.1 (q_M_name hts ⟨Nat.le_of_ble_eq_true rfl, Nat.le_of_ble_eq_true rfl⟩) (c_M_name l g H.size _ (44) (422608071022) _ hw) rfl rfl (Nat.le_of_ble_eq_true rfl) d_M_init_570 (fun S44 H locs hw hP hD hS => ?_)
  refine lv_aload_n hx hb d_M_init_573 rfl (lv_at hl 0 rfl) ?_
  refine lv_bipush (v := 45) hx hb d_M_init_574 (by decide) ?_
  refine lv_ldc2 (v := 504364296556) hx hb hown (hts _ k_M_97) d_M_init_576 ?_
  refine cM_v (As := [.int (45), .long (504364296556)]) (rest := []) hx hb hml hown hts hK hP hD hS hA (Nat.le_of_ble_eq_true rfl) (Nat.le_of_ble_eq_true rfl) hl.1 (q_M_name hts ⟨Nat.le_of_ble_eq_true rfl, Nat.le_of_ble_eq_true rfl⟩) (c_M_name l g H.size _ (45) (504364296556) _ hw) rfl rfl (Nat.le_of_ble_eq_true rfl) d_M_init_579 (fun S45 H locs hw hP hD hS => ?_)
  refine lv_aload_n hx hb d_M_init_582 rfl (lv_at hl 0 rfl) ?_
  refine lv_bipush (v := 46) hx hb d_M_init_583 (by decide) ?_
  refine lv_ldc2 (v := 418346264942) hx hb hown (hts _ k_M_98) d_M_init_585 ?_
  refine cM_v (As := [.int (46), .long (418346264942)]) (rest := []) hx hb hml hown hts hK hP hD hS hA (Nat.le_of_ble_eq_true rfl) (Nat.le_of_ble_eq_true rfl) hl.1 (q_M_name hts ⟨Nat.le_of_ble_eq_true rfl, Nat.le_of_ble_eq_true rfl⟩) (c_M_name l g H.size _ (46) (418346264942) _ hw) rfl rfl (Nat.le_of_ble_eq_true rfl) d_M_init_588 (fun S46 H locs hw hP hD hS => ?_)
  refine lv_aload_n hx hb d_M_init_591 rfl (lv_at hl 0 rfl) ?_
  refine lv_bipush (v := 47) hx hb d_M_init_592 (by decide) ?_
  refine lv_ldc2 (v := 512852847717) hx hb hown (hts _ k_M_99) d_M_init_594 ?_
  refine cM_v (As := [.int (47), .long (512852847717)]) (rest := []) hx hb hml hown hts hK hP hD hS hA (Nat.le_of_ble_eq_true rfl) (Nat.le_of_ble_eq_true rfl) hl.1 (q_M_name hts ⟨Nat.le_of_ble_eq_true rfl, Nat.le_of_ble_eq_true rfl⟩) (c_M_name l g H.size _ (47) (512852847717) _ hw) rfl rfl (Nat.le_of_ble_eq_true rfl) d_M_init_597 (fun S47 H locs hw hP hD hS => ?_)
  refine lv_aload_n hx hb d_M_init_600 rfl (lv_at hl 0 rfl) ?_
  refine lv_bipush (v := 48) hx hb d_M_init_601 (by decide) ?_
  refine lv_ldc2 (v := 125780002955636) hx hb hown (hts _ k_M_100) d_M_init_603 ?_
  refine cM_v (As := [.int (48), .long (125780002955636)]) (rest := []) hx hb hml hown hts hK hP hD hS hA (Nat.le_of_ble_eq_true rfl) (Nat.le_of_ble_eq_true rfl) hl.1 (q_M_name hts ⟨Nat.le_of_ble_eq_true rfl, Nat.le_of_ble_eq_true rfl⟩) (c_M_name l g H.size _ (48) (125780002955636) _ hw) rfl rfl (Nat.le_of_ble_eq_true rfl) d_M_init_606 (fun S48 H locs hw hP hD hS => ?_)
  refine lv_aload_n hx hb d_M_init_609 rfl (lv_at hl 0 rfl) ?_
  refine lv_bipush (v := 49) hx hb d_M_init_610 (by decide) ?_
  refine lv_ldc2 (v := 25711) hx hb hown (hts _ k_M_101) d_M_init_612 ?_
  refine cM_v (As := [.int (49), .long (25711)]) (rest := []) hx hb hml hown hts hK hP hD hS hA (Nat.le_of_ble_eq_true rfl) (Nat.le_of_ble_eq_true rfl) hl.1 (q_M_name hts ⟨Nat.le_of_ble_eq_true rfl, Nat.le_of_ble_eq_true rfl⟩) (c_M_name l g H.size _ (49) (25711) _ hw) rfl rfl (Nat.le_of_ble_eq_true rfl) d_M_init_615 (fun S49 H locs hw hP hD hS => ?_)
  refine lv_aload_n hx hb d_M_init_618 rfl (lv_at hl 0 rfl) ?_
  refine lv_bipush (v := 50) hx hb d_M_init_619 (by decide) ?_
  refine lv_ldc2 (v := 1819242352) hx hb hown (hts _ k_M_102) d_M_init_621 ?_
  refine cM_v (As := [.int (50), .long (1819242352)]) (rest := []) hx hb hml hown hts hK hP hD hS hA (Nat.le_of_ble_eq_true rfl) (Nat.le_of_ble_eq_true rfl) hl.1 (q_M_name hts ⟨Nat.le_of_ble_eq_true rfl, Nat.le_of_ble_eq_true rfl⟩) (c_M_name l g H.size _ (50) (1819242352) _ hw) rfl rfl (Nat.le_of_ble_eq_true rfl) d_M_init_624 (fun S50 H locs hw hP hD hS => ?_)
  refine lv_aload_n hx hb d_M_init_627 rfl (lv_at hl 0 rfl) ?_
  refine lv_bipush (v := 51) hx hb d_M_init_628 (by decide) ?_
  refine lv_ldc2 (v := 32199625191617381) hx hb hown (hts _ k_M_103) d_M_init_630 ?_
  refine cM_v (As := [.int (51), .long (32199625191617381)]) (rest := []) hx hb hml hown hts hK hP hD hS hA (Nat.le_of_ble_eq_true rfl) (Nat.le_of_ble_eq_true rfl) hl.1 (q_M_name hts ⟨Nat.le_of_ble_eq_true rfl, Nat.le_of_ble_eq_true rfl⟩) (c_M_name l g H.size _ (51) (32199625191617381) _ hw) rfl rfl (Nat.le_of_ble_eq_true rfl) d_M_init_633 (fun S51 H locs hw hP hD hS => ?_)
  refine lv_aload_n hx hb d_M_init_636 rfl (lv_at hl 0 rfl) ?_
  refine lv_bipush (v := 36) hx hb d_M_init_637 (by decide) ?_
  refine lv_ldc2 (v := 7596848428687647092) hx hb hown (hts _ k_M_104) d_M_init_639 ?_
  refine cM_v (As := [.int (36), .long (7596848428687647092)]) (rest := []) hx hb hml hown hts hK hP hD hS hA (Nat.le_of_ble_eq_true rfl) (Nat.le_of_ble_eq_true rfl) hl.1 (q_M_name hts ⟨Nat.le_of_ble_eq_true rfl, Nat.le_of_ble_eq_true rfl⟩) (c_M_name l g H.size _ (36) (7596848428687647092) _ hw) rfl rfl (Nat.le_of_ble_eq_true rfl) d_M_init_642 (fun S52 H locs hw hP hD hS => ?_)
  refine lv_aload_n hx hb d_M_init_645 rfl (lv_at hl 0 rfl) ?_
  refine gt_M (v := .ref (g.2.2 16)) hx hb hown hts hK hP 15 (by decide) rfl k_M_121 d_M_init_646 ?_
  refine lv_bipush (v := 36) hx hb d_M_init_649 (by decide) ?_
  refine lv_aload_n hx hb d_M_init_651 rfl (lv_at hl 0 rfl) ?_
  refine gt_M (v := .ref (g.2.2 16)) hx hb hown hts hK hP 15 (by decide) rfl k_M_121 d_M_init_652 ?_
  refine lv_bipush (v := 36) hx hb d_M_init_655 (by decide) ?_
  obtain ⟨hi, hw⟩ := hw
  refine va_lald (f := S52.2.2) hx hb hK hP 6 2 rfl rfl hi d_M_init_657 ?_
  refine lv_ldc2 (v := 128) hx hb hown (hts _ k_M_53) d_M_init_658 ?_
  refine lv_lmul hx hb d_M_init_661 ?_
  refine lv_ldc2 (v := 101) hx hb hown (hts _ k_M_105) d_M_init_662 ?_
  refine lv_ladd hx hb d_M_init_665 ?_
  obtain ⟨hi, hw⟩ := hw
  refine la_M (S2 := (S52.1, S52.2.1, (vp_updL S52.2.2 (Int32.toNatClampNeg (36)) ((((S52.2.2 (Int32.toNatClampNeg (36))) * 128) + 101))))) (f := S52.2.2) hx hb hK hP hD hS 6 rfl hi d_M_init_666 (sA_M_15 g _ _) (fun H locs hP hD hS => ?_)
  exact kr (S52.1, S52.2.1, (vp_updL S52.2.2 (Int32.toNatClampNeg (36)) ((((S52.2.2 (Int32.toNatClampNeg (36))) * 128) + 101)))) _ _ _ _ hw hP hD hS d_M_init_667
