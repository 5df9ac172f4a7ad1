theorem dX12_init_0 : decode cX12_init 0 = .ok (.aload_n 0, 1) := by decide +kernel
theorem dX12_init_1 : decode cX12_init 1 = .ok (.invokespecial 1, 3) := by decide +kernel
theorem dX12_init_4 : decode cX12_init 4 = .ok (.aload_n 0, 1) := by decide +kernel
theorem dX12_init_5 : decode cX12_init 5 = .ok (.sipush 1800, 3) := by decide +kernel
theorem dX12_init_8 : decode cX12_init 8 = .ok (.newarray .int, 2) := by decide +kernel
theorem dX12_init_10 : decode cX12_init 10 = .ok (.putfield 7, 3) := by decide +kernel
theorem dX12_init_13 : decode cX12_init 13 = .ok (.aload_n 0, 1) := by decide +kernel
theorem dX12_init_14 : decode cX12_init 14 = .ok (.iconst 0, 1) := by decide +kernel
theorem dX12_init_15 : decode cX12_init 15 = .ok (.putfield 13, 3) := by decide +kernel
theorem dX12_init_18 : decode cX12_init 18 = .ok (.aload_n 0, 1) := by decide +kernel
theorem dX12_init_19 : decode cX12_init 19 = .ok (.iconst 0, 1) := by decide +kernel
theorem dX12_init_20 : decode cX12_init 20 = .ok (.putfield 17, 3) := by decide +kernel
theorem dX12_init_23 : decode cX12_init 23 = .ok (.aload_n 0, 1) := by decide +kernel
theorem dX12_init_24 : decode cX12_init 24 = .ok (.iconst 0, 1) := by decide +kernel
theorem dX12_init_25 : decode cX12_init 25 = .ok (.putfield 20, 3) := by decide +kernel
theorem dX12_init_28 : decode cX12_init 28 = .ok (.aload_n 0, 1) := by decide +kernel
theorem dX12_init_29 : decode cX12_init 29 = .ok (.iconst 0, 1) := by decide +kernel
theorem dX12_init_30 : decode cX12_init 30 = .ok (.putfield 23, 3) := by decide +kernel
theorem dX12_init_33 : decode cX12_init 33 = .ok (.aload_n 0, 1) := by decide +kernel
theorem dX12_init_34 : decode cX12_init 34 = .ok (.iconst 0, 1) := by decide +kernel
theorem dX12_init_35 : decode cX12_init 35 = .ok (.putfield 26, 3) := by decide +kernel
theorem dX12_init_38 : decode cX12_init 38 = .ok (.aload_n 0, 1) := by decide +kernel
theorem dX12_init_39 : decode cX12_init 39 = .ok (.iconst 0, 1) := by decide +kernel
theorem dX12_init_40 : decode cX12_init 40 = .ok (.putfield 29, 3) := by decide +kernel
theorem dX12_init_43 : decode cX12_init 43 = .ok (.aload_n 0, 1) := by decide +kernel
theorem dX12_init_44 : decode cX12_init 44 = .ok (.lconst 0, 1) := by decide +kernel
theorem dX12_init_45 : decode cX12_init 45 = .ok (.putfield 32, 3) := by decide +kernel
theorem dX12_init_48 : decode cX12_init 48 = .ok (.aload_n 0, 1) := by decide +kernel
theorem dX12_init_49 : decode cX12_init 49 = .ok (.iconst 0, 1) := by decide +kernel
theorem dX12_init_50 : decode cX12_init 50 = .ok (.putfield 36, 3) := by decide +kernel
theorem dX12_init_53 : decode cX12_init 53 = .ok (.aload_n 0, 1) := by decide +kernel
theorem dX12_init_54 : decode cX12_init 54 = .ok (.iconst (-1), 1) := by decide +kernel
theorem dX12_init_55 : decode cX12_init 55 = .ok (.putfield 39, 3) := by decide +kernel
theorem dX12_init_58 : decode cX12_init 58 = .ok (.aload_n 0, 1) := by decide +kernel
theorem dX12_init_59 : decode cX12_init 59 = .ok (.iconst 0, 1) := by decide +kernel
theorem dX12_init_60 : decode cX12_init 60 = .ok (.putfield 42, 3) := by decide +kernel
theorem dX12_init_63 : decode cX12_init 63 = .ok (.aload_n 0, 1) := by decide +kernel
theorem dX12_init_64 : decode cX12_init 64 = .ok (.iconst (-1), 1) := by decide +kernel
theorem dX12_init_65 : decode cX12_init 65 = .ok (.putfield 45, 3) := by decide +kernel
theorem dX12_init_68 : decode cX12_init 68 = .ok (.aload_n 0, 1) := by decide +kernel
theorem dX12_init_69 : decode cX12_init 69 = .ok (.iconst (-1), 1) := by decide +kernel
theorem dX12_init_70 : decode cX12_init 70 = .ok (.putfield 48, 3) := by decide +kernel
theorem dX12_init_73 : decode cX12_init 73 = .ok (.aload_n 0, 1) := by decide +kernel
theorem dX12_init_74 : decode cX12_init 74 = .ok (.iconst 0, 1) := by decide +kernel
theorem dX12_init_75 : decode cX12_init 75 = .ok (.putfield 51, 3) := by decide +kernel
theorem dX12_init_78 : decode cX12_init 78 = .ok (.aload_n 0, 1) := by decide +kernel
theorem dX12_init_79 : decode cX12_init 79 = .ok (.iconst 2, 1) := by decide +kernel
theorem dX12_init_80 : decode cX12_init 80 = .ok (.newarray .int, 2) := by decide +kernel
theorem dX12_init_82 : decode cX12_init 82 = .ok (.putfield 54, 3) := by decide +kernel
theorem dX12_init_85 : decode cX12_init 85 = .ok (.aload_n 0, 1) := by decide +kernel
theorem dX12_init_86 : decode cX12_init 86 = .ok (.iconst 2, 1) := by decide +kernel
theorem dX12_init_87 : decode cX12_init 87 = .ok (.newarray .int, 2) := by decide +kernel
theorem dX12_init_89 : decode cX12_init 89 = .ok (.putfield 57, 3) := by decide +kernel
theorem dX12_init_92 : decode cX12_init 92 = .ok (.aload_n 0, 1) := by decide +kernel
theorem dX12_init_93 : decode cX12_init 93 = .ok (.bipush 98, 2) := by decide +kernel
theorem dX12_init_95 : decode cX12_init 95 = .ok (.newarray .int, 2) := by decide +kernel
theorem dX12_init_97 : decode cX12_init 97 = .ok (.putfield 60, 3) := by decide +kernel
theorem dX12_init_100 : decode cX12_init 100 = .ok (.aload_n 0, 1) := by decide +kernel
theorem dX12_init_101 : decode cX12_init 101 = .ok (.bipush 98, 2) := by decide +kernel
theorem dX12_init_103 : decode cX12_init 103 = .ok (.newarray .int, 2) := by decide +kernel
theorem dX12_init_105 : decode cX12_init 105 = .ok (.putfield 63, 3) := by decide +kernel
theorem dX12_init_108 : decode cX12_init 108 = .ok (.aload_n 0, 1) := by decide +kernel
theorem dX12_init_109 : decode cX12_init 109 = .ok (.iconst 2, 1) := by decide +kernel
theorem dX12_init_110 : decode cX12_init 110 = .ok (.newarray .int, 2) := by decide +kernel
theorem dX12_init_112 : decode cX12_init 112 = .ok (.putfield 66, 3) := by decide +kernel
theorem dX12_init_115 : decode cX12_init 115 = .ok (.aload_n 0, 1) := by decide +kernel
theorem dX12_init_116 : decode cX12_init 116 = .ok (.bipush 12, 2) := by decide +kernel
theorem dX12_init_118 : decode cX12_init 118 = .ok (.newarray .int, 2) := by decide +kernel
theorem dX12_init_120 : decode cX12_init 120 = .ok (.putfield 69, 3) := by decide +kernel
theorem dX12_init_123 : decode cX12_init 123 = .ok (.aload_n 0, 1) := by decide +kernel
theorem dX12_init_124 : decode cX12_init 124 = .ok (.bipush 12, 2) := by decide +kernel
theorem dX12_init_126 : decode cX12_init 126 = .ok (.newarray .int, 2) := by decide +kernel
theorem dX12_init_128 : decode cX12_init 128 = .ok (.putfield 72, 3) := by decide +kernel
theorem dX12_init_131 : decode cX12_init 131 = .ok (.aload_n 0, 1) := by decide +kernel
theorem dX12_init_132 : decode cX12_init 132 = .ok (.iconst 2, 1) := by decide +kernel
theorem dX12_init_133 : decode cX12_init 133 = .ok (.newarray .int, 2) := by decide +kernel
theorem dX12_init_135 : decode cX12_init 135 = .ok (.putfield 75, 3) := by decide +kernel
theorem dX12_init_138 : decode cX12_init 138 = .ok (.aload_n 0, 1) := by decide +kernel
theorem dX12_init_139 : decode cX12_init 139 = .ok (.iconst 2, 1) := by decide +kernel
theorem dX12_init_140 : decode cX12_init 140 = .ok (.newarray .int, 2) := by decide +kernel
theorem dX12_init_142 : decode cX12_init 142 = .ok (.putfield 78, 3) := by decide +kernel
theorem dX12_init_145 : decode cX12_init 145 = .ok (.aload_n 0, 1) := by decide +kernel
theorem dX12_init_146 : decode cX12_init 146 = .ok (.bipush 16, 2) := by decide +kernel
theorem dX12_init_148 : decode cX12_init 148 = .ok (.newarray .int, 2) := by decide +kernel
theorem dX12_init_150 : decode cX12_init 150 = .ok (.putfield 81, 3) := by decide +kernel
theorem dX12_init_153 : decode cX12_init 153 = .ok (.aload_n 0, 1) := by decide +kernel
theorem dX12_init_154 : decode cX12_init 154 = .ok (.bipush 16, 2) := by decide +kernel
theorem dX12_init_156 : decode cX12_init 156 = .ok (.newarray .int, 2) := by decide +kernel
theorem dX12_init_158 : decode cX12_init 158 = .ok (.putfield 84, 3) := by decide +kernel
theorem dX12_init_161 : decode cX12_init 161 = .ok (.aload_n 0, 1) := by decide +kernel
theorem dX12_init_162 : decode cX12_init 162 = .ok (.bipush 16, 2) := by decide +kernel
theorem dX12_init_164 : decode cX12_init 164 = .ok (.newarray .int, 2) := by decide +kernel
theorem dX12_init_166 : decode cX12_init 166 = .ok (.putfield 87, 3) := by decide +kernel
theorem dX12_init_169 : decode cX12_init 169 = .ok (.aload_n 0, 1) := by decide +kernel
theorem dX12_init_170 : decode cX12_init 170 = .ok (.iconst 2, 1) := by decide +kernel
theorem dX12_init_171 : decode cX12_init 171 = .ok (.newarray .int, 2) := by decide +kernel
theorem dX12_init_173 : decode cX12_init 173 = .ok (.putfield 90, 3) := by decide +kernel
theorem dX12_init_176 : decode cX12_init 176 = .ok (.aload_n 0, 1) := by decide +kernel
theorem dX12_init_177 : decode cX12_init 177 = .ok (.iconst 4, 1) := by decide +kernel
theorem dX12_init_178 : decode cX12_init 178 = .ok (.newarray .int, 2) := by decide +kernel
theorem dX12_init_180 : decode cX12_init 180 = .ok (.putfield 93, 3) := by decide +kernel
theorem dX12_init_183 : decode cX12_init 183 = .ok (.aload_n 0, 1) := by decide +kernel
theorem dX12_init_184 : decode cX12_init 184 = .ok (.iconst 4, 1) := by decide +kernel
theorem dX12_init_185 : decode cX12_init 185 = .ok (.newarray .int, 2) := by decide +kernel
theorem dX12_init_187 : decode cX12_init 187 = .ok (.putfield 96, 3) := by decide +kernel
theorem dX12_init_190 : decode cX12_init 190 = .ok (.aload_n 0, 1) := by decide +kernel
theorem dX12_init_191 : decode cX12_init 191 = .ok (.sipush 3200, 3) := by decide +kernel
theorem dX12_init_194 : decode cX12_init 194 = .ok (.newarray .int, 2) := by decide +kernel
theorem dX12_init_196 : decode cX12_init 196 = .ok (.putfield 99, 3) := by decide +kernel
theorem dX12_init_199 : decode cX12_init 199 = .ok (.aload_n 0, 1) := by decide +kernel
theorem dX12_init_200 : decode cX12_init 200 = .ok (.sipush 3200, 3) := by decide +kernel
theorem dX12_init_203 : decode cX12_init 203 = .ok (.newarray .int, 2) := by decide +kernel
theorem dX12_init_205 : decode cX12_init 205 = .ok (.putfield 102, 3) := by decide +kernel
theorem dX12_init_208 : decode cX12_init 208 = .ok (.aload_n 0, 1) := by decide +kernel
theorem dX12_init_209 : decode cX12_init 209 = .ok (.bipush 14, 2) := by decide +kernel
theorem dX12_init_211 : decode cX12_init 211 = .ok (.newarray .long, 2) := by decide +kernel
theorem dX12_init_213 : decode cX12_init 213 = .ok (.putfield 105, 3) := by decide +kernel
theorem dX12_init_216 : decode cX12_init 216 = .ok (.aload_n 0, 1) := by decide +kernel
theorem dX12_init_217 : decode cX12_init 217 = .ok (.bipush 12, 2) := by decide +kernel
theorem dX12_init_219 : decode cX12_init 219 = .ok (.newarray .long, 2) := by decide +kernel
theorem dX12_init_221 : decode cX12_init 221 = .ok (.putfield 109, 3) := by decide +kernel
theorem dX12_init_224 : decode cX12_init 224 = .ok (.aload_n 0, 1) := by decide +kernel
theorem dX12_init_225 : decode cX12_init 225 = .ok (.iconst 0, 1) := by decide +kernel
theorem dX12_init_226 : decode cX12_init 226 = .ok (.putfield 112, 3) := by decide +kernel
theorem dX12_init_229 : decode cX12_init 229 = .ok (.aload_n 0, 1) := by decide +kernel
theorem dX12_init_230 : decode cX12_init 230 = .ok (.iconst 1, 1) := by decide +kernel
theorem dX12_init_231 : decode cX12_init 231 = .ok (.putfield 115, 3) := by decide +kernel
theorem dX12_init_234 : decode cX12_init 234 = .ok (.aload_n 0, 1) := by decide +kernel
theorem dX12_init_235 : decode cX12_init 235 = .ok (.iconst 0, 1) := by decide +kernel
theorem dX12_init_236 : decode cX12_init 236 = .ok (.putfield 118, 3) := by decide +kernel
theorem dX12_init_239 : decode cX12_init 239 = .ok (.aload_n 0, 1) := by decide +kernel
theorem dX12_init_240 : decode cX12_init 240 = .ok (.bipush 20, 2) := by decide +kernel
theorem dX12_init_242 : decode cX12_init 242 = .ok (.newarray .int, 2) := by decide +kernel
theorem dX12_init_244 : decode cX12_init 244 = .ok (.putfield 122, 3) := by decide +kernel
theorem dX12_init_247 : decode cX12_init 247 = .ok (.aload_n 0, 1) := by decide +kernel
theorem dX12_init_248 : decode cX12_init 248 = .ok (.bipush 20, 2) := by decide +kernel
theorem dX12_init_250 : decode cX12_init 250 = .ok (.newarray .int, 2) := by decide +kernel
theorem dX12_init_252 : decode cX12_init 252 = .ok (.putfield 125, 3) := by decide +kernel
theorem dX12_init_255 : decode cX12_init 255 = .ok (.aload_n 0, 1) := by decide +kernel
theorem dX12_init_256 : decode cX12_init 256 = .ok (.bipush 20, 2) := by decide +kernel
theorem dX12_init_258 : decode cX12_init 258 = .ok (.newarray .boolean, 2) := by decide +kernel
theorem dX12_init_260 : decode cX12_init 260 = .ok (.putfield 128, 3) := by decide +kernel
theorem dX12_init_263 : decode cX12_init 263 = .ok (.aload_n 0, 1) := by decide +kernel
theorem dX12_init_264 : decode cX12_init 264 = .ok (.bipush 20, 2) := by decide +kernel
theorem dX12_init_266 : decode cX12_init 266 = .ok (.newarray .int, 2) := by decide +kernel
theorem dX12_init_268 : decode cX12_init 268 = .ok (.putfield 132, 3) := by decide +kernel
theorem dX12_init_271 : decode cX12_init 271 = .ok (.aload_n 0, 1) := by decide +kernel
theorem dX12_init_272 : decode cX12_init 272 = .ok (.bipush 20, 2) := by decide +kernel
theorem dX12_init_274 : decode cX12_init 274 = .ok (.newarray .int, 2) := by decide +kernel
theorem dX12_init_276 : decode cX12_init 276 = .ok (.putfield 135, 3) := by decide +kernel
theorem dX12_init_279 : decode cX12_init 279 = .ok (.aload_n 0, 1) := by decide +kernel
theorem dX12_init_280 : decode cX12_init 280 = .ok (.iconst 0, 1) := by decide +kernel
theorem dX12_init_281 : decode cX12_init 281 = .ok (.putfield 138, 3) := by decide +kernel
theorem dX12_init_284 : decode cX12_init 284 = .ok (.aload_n 0, 1) := by decide +kernel
theorem dX12_init_285 : decode cX12_init 285 = .ok (.iconst 0, 1) := by decide +kernel
theorem dX12_init_286 : decode cX12_init 286 = .ok (.putfield 141, 3) := by decide +kernel
theorem dX12_init_289 : decode cX12_init 289 = .ok (.aload_n 0, 1) := by decide +kernel
theorem dX12_init_290 : decode cX12_init 290 = .ok (.sipush 500, 3) := by decide +kernel
theorem dX12_init_293 : decode cX12_init 293 = .ok (.newarray .int, 2) := by decide +kernel
theorem dX12_init_295 : decode cX12_init 295 = .ok (.putfield 144, 3) := by decide +kernel
theorem dX12_init_298 : decode cX12_init 298 = .ok (.aload_n 0, 1) := by decide +kernel
theorem dX12_init_299 : decode cX12_init 299 = .ok (.iconst 0, 1) := by decide +kernel
theorem dX12_init_300 : decode cX12_init 300 = .ok (.putfield 147, 3) := by decide +kernel
theorem dX12_init_303 : decode cX12_init 303 = .ok (.aload_n 0, 1) := by decide +kernel
theorem dX12_init_304 : decode cX12_init 304 = .ok (.iconst 0, 1) := by decide +kernel
theorem dX12_init_305 : decode cX12_init 305 = .ok (.putfield 150, 3) := by decide +kernel
theorem dX12_init_308 : decode cX12_init 308 = .ok (.aload_n 0, 1) := by decide +kernel
theorem dX12_init_309 : decode cX12_init 309 = .ok (.bipush 6, 2) := by decide +kernel
theorem dX12_init_311 : decode cX12_init 311 = .ok (.newarray .int, 2) := by decide +kernel
theorem dX12_init_313 : decode cX12_init 313 = .ok (.putfield 153, 3) := by decide +kernel
theorem dX12_init_316 : decode cX12_init 316 = .ok (.aload_n 0, 1) := by decide +kernel
theorem dX12_init_317 : decode cX12_init 317 = .ok (.bipush 22, 2) := by decide +kernel
theorem dX12_init_319 : decode cX12_init 319 = .ok (.newarray .int, 2) := by decide +kernel
theorem dX12_init_321 : decode cX12_init 321 = .ok (.putfield 156, 3) := by decide +kernel
theorem dX12_init_324 : decode cX12_init 324 = .ok (.aload_n 0, 1) := by decide +kernel
theorem dX12_init_325 : decode cX12_init 325 = .ok (.sipush 132, 3) := by decide +kernel
theorem dX12_init_328 : decode cX12_init 328 = .ok (.newarray .int, 2) := by decide +kernel
theorem dX12_init_330 : decode cX12_init 330 = .ok (.putfield 159, 3) := by decide +kernel
theorem dX12_init_333 : decode cX12_init 333 = .ok (.aload_n 0, 1) := by decide +kernel
theorem dX12_init_334 : decode cX12_init 334 = .ok (.bipush 22, 2) := by decide +kernel
theorem dX12_init_336 : decode cX12_init 336 = .ok (.newarray .int, 2) := by decide +kernel
theorem dX12_init_338 : decode cX12_init 338 = .ok (.putfield 162, 3) := by decide +kernel
theorem dX12_init_341 : decode cX12_init 341 = .ok (.aload_n 0, 1) := by decide +kernel
theorem dX12_init_342 : decode cX12_init 342 = .ok (.bipush 22, 2) := by decide +kernel
theorem dX12_init_344 : decode cX12_init 344 = .ok (.newarray .int, 2) := by decide +kernel
theorem dX12_init_346 : decode cX12_init 346 = .ok (.putfield 165, 3) := by decide +kernel
theorem dX12_init_349 : decode cX12_init 349 = .ok (.aload_n 0, 1) := by decide +kernel
theorem dX12_init_350 : decode cX12_init 350 = .ok (.sipush 594, 3) := by decide +kernel
theorem dX12_init_353 : decode cX12_init 353 = .ok (.newarray .int, 2) := by decide +kernel
theorem dX12_init_355 : decode cX12_init 355 = .ok (.putfield 168, 3) := by decide +kernel
theorem dX12_init_358 : decode cX12_init 358 = .ok (.aload_n 0, 1) := by decide +kernel
theorem dX12_init_359 : decode cX12_init 359 = .ok (.bipush 22, 2) := by decide +kernel
theorem dX12_init_361 : decode cX12_init 361 = .ok (.newarray .int, 2) := by decide +kernel
theorem dX12_init_363 : decode cX12_init 363 = .ok (.putfield 171, 3) := by decide +kernel
theorem dX12_init_366 : decode cX12_init 366 = .ok (.aload_n 0, 1) := by decide +kernel
theorem dX12_init_367 : decode cX12_init 367 = .ok (.sipush 2640, 3) := by decide +kernel
theorem dX12_init_370 : decode cX12_init 370 = .ok (.newarray .int, 2) := by decide +kernel
theorem dX12_init_372 : decode cX12_init 372 = .ok (.putfield 174, 3) := by decide +kernel
theorem dX12_init_375 : decode cX12_init 375 = .ok (.aload_n 0, 1) := by decide +kernel
theorem dX12_init_376 : decode cX12_init 376 = .ok (.iconst 0, 1) := by decide +kernel
theorem dX12_init_377 : decode cX12_init 377 = .ok (.putfield 177, 3) := by decide +kernel
theorem dX12_init_380 : decode cX12_init 380 = .ok (.aload_n 0, 1) := by decide +kernel
theorem dX12_init_381 : decode cX12_init 381 = .ok (.iconst 0, 1) := by decide +kernel
theorem dX12_init_382 : decode cX12_init 382 = .ok (.putfield 180, 3) := by decide +kernel
theorem dX12_init_385 : decode cX12_init 385 = .ok (.aload_n 0, 1) := by decide +kernel
theorem dX12_init_386 : decode cX12_init 386 = .ok (.lconst 1, 1) := by decide +kernel
theorem dX12_init_387 : decode cX12_init 387 = .ok (.putfield 183, 3) := by decide +kernel
theorem dX12_init_390 : decode cX12_init 390 = .ok (.aload_n 0, 1) := by decide +kernel
theorem dX12_init_391 : decode cX12_init 391 = .ok (.sipush 500, 3) := by decide +kernel
theorem dX12_init_394 : decode cX12_init 394 = .ok (.newarray .long, 2) := by decide +kernel
theorem dX12_init_396 : decode cX12_init 396 = .ok (.putfield 186, 3) := by decide +kernel
theorem dX12_init_399 : decode cX12_init 399 = .ok (.aload_n 0, 1) := by decide +kernel
theorem dX12_init_400 : decode cX12_init 400 = .ok (.bipush 12, 2) := by decide +kernel
theorem dX12_init_402 : decode cX12_init 402 = .ok (.newarray .int, 2) := by decide +kernel
theorem dX12_init_404 : decode cX12_init 404 = .ok (.putfield 189, 3) := by decide +kernel
theorem dX12_init_407 : decode cX12_init 407 = .ok (.aload_n 0, 1) := by decide +kernel
theorem dX12_init_408 : decode cX12_init 408 = .ok (.bipush 54, 2) := by decide +kernel
theorem dX12_init_410 : decode cX12_init 410 = .ok (.newarray .int, 2) := by decide +kernel
theorem dX12_init_412 : decode cX12_init 412 = .ok (.putfield 192, 3) := by decide +kernel
theorem dX12_init_415 : decode cX12_init 415 = .ok (.aload_n 0, 1) := by decide +kernel
theorem dX12_init_416 : decode cX12_init 416 = .ok (.iconst 0, 1) := by decide +kernel
theorem dX12_init_417 : decode cX12_init 417 = .ok (.putfield 195, 3) := by decide +kernel
theorem dX12_init_420 : decode cX12_init 420 = .ok (.aload_n 0, 1) := by decide +kernel
theorem dX12_init_421 : decode cX12_init 421 = .ok (.bipush 16, 2) := by decide +kernel
theorem dX12_init_423 : decode cX12_init 423 = .ok (.newarray .int, 2) := by decide +kernel
theorem dX12_init_425 : decode cX12_init 425 = .ok (.putfield 198, 3) := by decide +kernel
theorem dX12_init_428 : decode cX12_init 428 = .ok (.aload_n 0, 1) := by decide +kernel
theorem dX12_init_429 : decode cX12_init 429 = .ok (.bipush 16, 2) := by decide +kernel
theorem dX12_init_431 : decode cX12_init 431 = .ok (.newarray .int, 2) := by decide +kernel
theorem dX12_init_433 : decode cX12_init 433 = .ok (.putfield 201, 3) := by decide +kernel
theorem dX12_init_436 : decode cX12_init 436 = .ok (.aload_n 0, 1) := by decide +kernel
theorem dX12_init_437 : decode cX12_init 437 = .ok (.bipush 16, 2) := by decide +kernel
theorem dX12_init_439 : decode cX12_init 439 = .ok (.newarray .int, 2) := by decide +kernel
theorem dX12_init_441 : decode cX12_init 441 = .ok (.putfield 204, 3) := by decide +kernel
theorem dX12_init_444 : decode cX12_init 444 = .ok (.aload_n 0, 1) := by decide +kernel
theorem dX12_init_445 : decode cX12_init 445 = .ok (.sipush 441, 3) := by decide +kernel
theorem dX12_init_448 : decode cX12_init 448 = .ok (.newarray .int, 2) := by decide +kernel
theorem dX12_init_450 : decode cX12_init 450 = .ok (.putfield 207, 3) := by decide +kernel
theorem dX12_init_453 : decode cX12_init 453 = .ok (.aload_n 0, 1) := by decide +kernel
theorem dX12_init_454 : decode cX12_init 454 = .ok (.bipush 60, 2) := by decide +kernel
theorem dX12_init_456 : decode cX12_init 456 = .ok (.newarray .int, 2) := by decide +kernel
theorem dX12_init_458 : decode cX12_init 458 = .ok (.putfield 210, 3) := by decide +kernel
theorem dX12_init_461 : decode cX12_init 461 = .ok (.aload_n 0, 1) := by decide +kernel
theorem dX12_init_462 : decode cX12_init 462 = .ok (.iconst 0, 1) := by decide +kernel
theorem dX12_init_463 : decode cX12_init 463 = .ok (.putfield 213, 3) := by decide +kernel
theorem dX12_init_466 : decode cX12_init 466 = .ok (.iconst 0, 1) := by decide +kernel
theorem dX12_init_467 : decode cX12_init 467 = .ok (.istore_n 1, 1) := by decide +kernel
theorem dX12_init_468 : decode cX12_init 468 = .ok (.iload_n 1, 1) := by decide +kernel
theorem dX12_init_469 : decode cX12_init 469 = .ok (.iconst 4, 1) := by decide +kernel
theorem dX12_init_470 : decode cX12_init 470 = .ok (.if_icmp .ge 16, 3) := by decide +kernel
theorem dX12_init_473 : decode cX12_init 473 = .ok (.aload_n 0, 1) := by decide +kernel
theorem dX12_init_474 : decode cX12_init 474 = .ok (.getfield 93, 3) := by decide +kernel
theorem dX12_init_477 : decode cX12_init 477 = .ok (.iload_n 1, 1) := by decide +kernel
theorem dX12_init_478 : decode cX12_init 478 = .ok (.iconst (-1), 1) := by decide +kernel
theorem dX12_init_479 : decode cX12_init 479 = .ok (.iastore, 1) := by decide +kernel
theorem dX12_init_480 : decode cX12_init 480 = .ok (.iinc 1 1, 3) := by decide +kernel
theorem dX12_init_483 : decode cX12_init 483 = .ok (.goto (-15), 3) := by decide +kernel
theorem dX12_init_486 : decode cX12_init 486 = .ok (.return_, 1) := by decide +kernel
theorem kc12 : Kcl yX12_init cX12_init 2 0 := ⟨gt_in 133 (by decide +kernel) (by decide +kernel), gt_in 1248 (by decide +kernel) (by decide +kernel), by decide, by decide +kernel, gt_in 1247 (by decide +kernel) (by decide +kernel), rfl⟩
theorem oi12_1 : Cond.methodLink RX12 1 objectInit ∈ GT := gt_in 1249 (by decide +kernel) (by decide +kernel)
theorem pf12_7 : Fpf RX12 12 0 (.array .int) := ⟨RX12, TX12, 67, rfl, rfl, rfl, by decide +kernel⟩
theorem pf12_54 : Fpf RX12 12 14 (.array .int) := ⟨RX12, TX12, 67, rfl, rfl, rfl, by decide +kernel⟩
theorem pf12_57 : Fpf RX12 12 15 (.array .int) := ⟨RX12, TX12, 67, rfl, rfl, rfl, by decide +kernel⟩
theorem pf12_60 : Fpf RX12 12 16 (.array .int) := ⟨RX12, TX12, 67, rfl, rfl, rfl, by decide +kernel⟩
theorem pf12_63 : Fpf RX12 12 17 (.array .int) := ⟨RX12, TX12, 67, rfl, rfl, rfl, by decide +kernel⟩
theorem pf12_66 : Fpf RX12 12 18 (.array .int) := ⟨RX12, TX12, 67, rfl, rfl, rfl, by decide +kernel⟩
theorem pf12_69 : Fpf RX12 12 19 (.array .int) := ⟨RX12, TX12, 67, rfl, rfl, rfl, by decide +kernel⟩
theorem pf12_72 : Fpf RX12 12 20 (.array .int) := ⟨RX12, TX12, 67, rfl, rfl, rfl, by decide +kernel⟩
theorem pf12_75 : Fpf RX12 12 21 (.array .int) := ⟨RX12, TX12, 67, rfl, rfl, rfl, by decide +kernel⟩
theorem pf12_78 : Fpf RX12 12 22 (.array .int) := ⟨RX12, TX12, 67, rfl, rfl, rfl, by decide +kernel⟩
theorem pf12_81 : Fpf RX12 12 23 (.array .int) := ⟨RX12, TX12, 67, rfl, rfl, rfl, by decide +kernel⟩
theorem pf12_84 : Fpf RX12 12 24 (.array .int) := ⟨RX12, TX12, 67, rfl, rfl, rfl, by decide +kernel⟩
theorem pf12_87 : Fpf RX12 12 25 (.array .int) := ⟨RX12, TX12, 67, rfl, rfl, rfl, by decide +kernel⟩
theorem pf12_90 : Fpf RX12 12 26 (.array .int) := ⟨RX12, TX12, 67, rfl, rfl, rfl, by decide +kernel⟩
theorem pf12_93 : Fpf RX12 12 27 (.array .int) := ⟨RX12, TX12, 67, rfl, rfl, rfl, by decide +kernel⟩
theorem pf12_96 : Fpf RX12 12 28 (.array .int) := ⟨RX12, TX12, 67, rfl, rfl, rfl, by decide +kernel⟩
theorem pf12_99 : Fpf RX12 12 29 (.array .int) := ⟨RX12, TX12, 67, rfl, rfl, rfl, by decide +kernel⟩
theorem pf12_102 : Fpf RX12 12 30 (.array .int) := ⟨RX12, TX12, 67, rfl, rfl, rfl, by decide +kernel⟩
theorem pf12_105 : Fpf RX12 12 31 (.array .long) := ⟨RX12, TX12, 67, rfl, rfl, rfl, by decide +kernel⟩
theorem pf12_109 : Fpf RX12 12 32 (.array .long) := ⟨RX12, TX12, 67, rfl, rfl, rfl, by decide +kernel⟩
theorem pf12_122 : Fpf RX12 12 36 (.array .int) := ⟨RX12, TX12, 67, rfl, rfl, rfl, by decide +kernel⟩
theorem pf12_125 : Fpf RX12 12 37 (.array .int) := ⟨RX12, TX12, 67, rfl, rfl, rfl, by decide +kernel⟩
theorem pf12_128 : Fpf RX12 12 38 (.array .boolean) := ⟨RX12, TX12, 67, rfl, rfl, rfl, by decide +kernel⟩
theorem pf12_132 : Fpf RX12 12 39 (.array .int) := ⟨RX12, TX12, 67, rfl, rfl, rfl, by decide +kernel⟩
theorem pf12_135 : Fpf RX12 12 40 (.array .int) := ⟨RX12, TX12, 67, rfl, rfl, rfl, by decide +kernel⟩
theorem pf12_144 : Fpf RX12 12 43 (.array .int) := ⟨RX12, TX12, 67, rfl, rfl, rfl, by decide +kernel⟩
theorem pf12_153 : Fpf RX12 12 46 (.array .int) := ⟨RX12, TX12, 67, rfl, rfl, rfl, by decide +kernel⟩
theorem pf12_156 : Fpf RX12 12 47 (.array .int) := ⟨RX12, TX12, 67, rfl, rfl, rfl, by decide +kernel⟩
theorem pf12_159 : Fpf RX12 12 48 (.array .int) := ⟨RX12, TX12, 67, rfl, rfl, rfl, by decide +kernel⟩
theorem pf12_162 : Fpf RX12 12 49 (.array .int) := ⟨RX12, TX12, 67, rfl, rfl, rfl, by decide +kernel⟩
theorem pf12_165 : Fpf RX12 12 50 (.array .int) := ⟨RX12, TX12, 67, rfl, rfl, rfl, by decide +kernel⟩
theorem pf12_168 : Fpf RX12 12 51 (.array .int) := ⟨RX12, TX12, 67, rfl, rfl, rfl, by decide +kernel⟩
theorem pf12_171 : Fpf RX12 12 52 (.array .int) := ⟨RX12, TX12, 67, rfl, rfl, rfl, by decide +kernel⟩
theorem pf12_174 : Fpf RX12 12 53 (.array .int) := ⟨RX12, TX12, 67, rfl, rfl, rfl, by decide +kernel⟩
theorem pf12_186 : Fpf RX12 12 57 (.array .long) := ⟨RX12, TX12, 67, rfl, rfl, rfl, by decide +kernel⟩
theorem pf12_189 : Fpf RX12 12 58 (.array .int) := ⟨RX12, TX12, 67, rfl, rfl, rfl, by decide +kernel⟩
theorem pf12_192 : Fpf RX12 12 59 (.array .int) := ⟨RX12, TX12, 67, rfl, rfl, rfl, by decide +kernel⟩
theorem pf12_198 : Fpf RX12 12 61 (.array .int) := ⟨RX12, TX12, 67, rfl, rfl, rfl, by decide +kernel⟩
theorem pf12_201 : Fpf RX12 12 62 (.array .int) := ⟨RX12, TX12, 67, rfl, rfl, rfl, by decide +kernel⟩
theorem pf12_204 : Fpf RX12 12 63 (.array .int) := ⟨RX12, TX12, 67, rfl, rfl, rfl, by decide +kernel⟩
theorem pf12_207 : Fpf RX12 12 64 (.array .int) := ⟨RX12, TX12, 67, rfl, rfl, rfl, by decide +kernel⟩
theorem pf12_210 : Fpf RX12 12 65 (.array .int) := ⟨RX12, TX12, 67, rfl, rfl, rfl, by decide +kernel⟩
/-- the four of sumFrom -/
def sf4 : Nat → Int32 := upd (upd (upd (upd (fun _ => 0) 0 (iI (-1))) 1 (iI (-1))) 2 (iI (-1))) 3 (iI (-1))
section RK
variable {Y : YT} {X : CX} {nL d mc ms k n h0 qa : Nat} {ws : va_W} {F : List Value}
theorem m_iter {f : Nat → Int32} (j : Nat) (hj : j < 4) (C : Cn Y X cX12_init 2 RX12 d mc ms) (w0 : ws[0]? = some (h0, .inr (12, F))) (wf : F[27]? = some (.ref qa)) (w1 : ws[15]? = some (qa, .inl (Y.2.1 20, 4, .inl f))) (kk : KG Y X 2 468 [(1, vI ((j : Int) + 1)), (0, .ref h0)] [] (ws.set 15 (qa, .inl (Y.2.1 20, 4, .inl (upd f j (iI (-1)))))) k n) : KG Y X 2 468 [(1, vI j), (0, .ref h0)] [] ws k n := by
  refine k_iload (q := 0) C dX12_init_468 rfl rfl ?_
  refine k_iconst C dX12_init_469 ?_
  refine k_ge (tgt := 486) C dX12_init_470 (by decide) (by omega) (by decide) (fun z => absurd z (by omega)) (fun _ => ?_)
  refine k_aload (q := 1) C dX12_init_473 rfl rfl ?_
  refine k_getQ 0 C fX12_93 w0 dX12_init_474 wf ?_
  refine k_iload (q := 0) C dX12_init_477 rfl rfl ?_
  refine k_iconst C dX12_init_478 ?_
  refine k_iast 15 C w1 (by omega) (by decide) dX12_init_479 rfl ?_
  refine k_iinc (q := 0) (v := (j : Int) + 1) (lv' := [(1, vI ((j : Int) + 1)), (0, .ref h0)]) C dX12_init_480 rfl rfl (by decide) rfl ?_
  refine k_goto (tgt := 468) C dX12_init_483 (by decide) ?_
  exact kk
theorem m_fill (C : Cn Y X cX12_init 2 RX12 d mc ms) (w0 : ws[0]? = some (h0, .inr (12, F))) (wf : F[27]? = some (.ref qa)) (w1 : ws[15]? = some (qa, .inl (Y.2.1 20, 4, .inl fun _ => 0))) (kk : KG Y X 2 486 [(1, vI 4), (0, .ref h0)] [] (ws.set 15 (qa, .inl (Y.2.1 20, 4, .inl sf4))) k n) : KG Y X 2 468 [(1, vI 0), (0, .ref h0)] [] ws k n := by
  have hlt : 15 < ws.length := (List.getElem?_eq_some_iff.mp w1).1
  have a0 : ∀ e : Nat × va_E, (ws.set 15 e)[0]? = some (h0, .inr (12, F)) := fun e => by rw [List.getElem?_set_ne (by decide)]; exact w0
  have a1 : ∀ e : Nat × va_E, (ws.set 15 e)[15]? = some e := fun e => List.getElem?_set_self hlt
  refine m_iter 0 (by decide) C w0 wf w1 ?_
  refine m_iter 1 (by decide) C (a0 _) wf (a1 _) ?_
  rw [List.set_set]
  refine m_iter 2 (by decide) C (a0 _) wf (a1 _) ?_
  rw [List.set_set]
  refine m_iter 3 (by decide) C (a0 _) wf (a1 _) ?_
  rw [List.set_set]
  refine k_iload (q := 0) C dX12_init_468 rfl rfl ?_
  refine k_iconst C dX12_init_469 ?_
  exact k_ge (tgt := 486) C dX12_init_470 (by decide) (by decide) (by decide) (fun _ => kk) (fun z => absurd (by decide) z)
end RK
def bX12 (Y : YT) (h0 : Nat) : (Nat → Nat) → va_W := fun u => (h0, .inr (12, [.ref (u 0), vI (0), vI (0), vI (0), vI (0), vI (0), vI (0), vL (0), vI (0), vI (-1), vI (0), vI (-1), vI (-1), vI (0), .ref (u 1), .ref (u 2), .ref (u 3), .ref (u 4), .ref (u 5), .ref (u 6), .ref (u 7), .ref (u 8), .ref (u 9), .ref (u 10), .ref (u 11), .ref (u 12), .ref (u 13), .ref (u 14), .ref (u 15), .ref (u 16), .ref (u 17), .ref (u 18), .ref (u 19), vI (0), vI (1), vI (0), .ref (u 20), .ref (u 21), .ref (u 22), .ref (u 23), .ref (u 24), vI (0), vI (0), .ref (u 25), vI (0), vI (0), .ref (u 26), .ref (u 27), .ref (u 28), .ref (u 29), .ref (u 30), .ref (u 31), .ref (u 32), .ref (u 33), vI (0), vI (0), vL (1), .ref (u 34), .ref (u 35), .ref (u 36), vI (0), .ref (u 37), .ref (u 38), .ref (u 39), .ref (u 40), .ref (u 41), vI (0)])) :: [((u 0), .inl (Y.2.1 20, 1800, .inl fun _ => 0)), ((u 1), .inl (Y.2.1 20, 2, .inl fun _ => 0)), ((u 2), .inl (Y.2.1 20, 2, .inl fun _ => 0)), ((u 3), .inl (Y.2.1 20, 98, .inl fun _ => 0)), ((u 4), .inl (Y.2.1 20, 98, .inl fun _ => 0)), ((u 5), .inl (Y.2.1 20, 2, .inl fun _ => 0)), ((u 6), .inl (Y.2.1 20, 12, .inl fun _ => 0)), ((u 7), .inl (Y.2.1 20, 12, .inl fun _ => 0)), ((u 8), .inl (Y.2.1 20, 2, .inl fun _ => 0)), ((u 9), .inl (Y.2.1 20, 2, .inl fun _ => 0)), ((u 10), .inl (Y.2.1 20, 16, .inl fun _ => 0)), ((u 11), .inl (Y.2.1 20, 16, .inl fun _ => 0)), ((u 12), .inl (Y.2.1 20, 16, .inl fun _ => 0)), ((u 13), .inl (Y.2.1 20, 2, .inl fun _ => 0)), ((u 14), .inl (Y.2.1 20, 4, .inl sf4)), ((u 15), .inl (Y.2.1 20, 4, .inl fun _ => 0)), ((u 16), .inl (Y.2.1 20, 3200, .inl fun _ => 0)), ((u 17), .inl (Y.2.1 20, 3200, .inl fun _ => 0)), ((u 18), .inl (Y.2.1 21, 14, .inr (.inl fun _ => 0))), ((u 19), .inl (Y.2.1 21, 12, .inr (.inl fun _ => 0))), ((u 20), .inl (Y.2.1 20, 20, .inl fun _ => 0)), ((u 21), .inl (Y.2.1 20, 20, .inl fun _ => 0)), ((u 22), .inl (Y.2.1 22, 20, .inl fun _ => 0)), ((u 23), .inl (Y.2.1 20, 20, .inl fun _ => 0)), ((u 24), .inl (Y.2.1 20, 20, .inl fun _ => 0)), ((u 25), .inl (Y.2.1 20, 500, .inl fun _ => 0)), ((u 26), .inl (Y.2.1 20, 6, .inl fun _ => 0)), ((u 27), .inl (Y.2.1 20, 22, .inl fun _ => 0)), ((u 28), .inl (Y.2.1 20, 132, .inl fun _ => 0)), ((u 29), .inl (Y.2.1 20, 22, .inl fun _ => 0)), ((u 30), .inl (Y.2.1 20, 22, .inl fun _ => 0)), ((u 31), .inl (Y.2.1 20, 594, .inl fun _ => 0)), ((u 32), .inl (Y.2.1 20, 22, .inl fun _ => 0)), ((u 33), .inl (Y.2.1 20, 2640, .inl fun _ => 0)), ((u 34), .inl (Y.2.1 21, 500, .inr (.inl fun _ => 0))), ((u 35), .inl (Y.2.1 20, 12, .inl fun _ => 0)), ((u 36), .inl (Y.2.1 20, 54, .inl fun _ => 0)), ((u 37), .inl (Y.2.1 20, 16, .inl fun _ => 0)), ((u 38), .inl (Y.2.1 20, 16, .inl fun _ => 0)), ((u 39), .inl (Y.2.1 20, 16, .inl fun _ => 0)), ((u 40), .inl (Y.2.1 20, 441, .inl fun _ => 0)), ((u 41), .inl (Y.2.1 20, 60, .inl fun _ => 0))]
set_option maxRecDepth 100000 in
set_option maxHeartbeats 4000000 in
theorem c_X12 {l : Launch} {Y : YT} {h0 : Nat} : CtrN l Y yX12_init cX12_init 2 1 42 13689 [.ref h0] h0 12 [.null, .int 0, .int 0, .int 0, .int 0, .int 0, .int 0, .long 0, .int 0, .int 0, .int 0, .int 0, .int 0, .int 0, .null, .null, .null, .null, .null, .null, .null, .null, .null, .null, .null, .null, .null, .null, .null, .null, .null, .null, .null, .int 0, .int 0, .int 0, .null, .null, .null, .null, .null, .int 0, .int 0, .null, .int 0, .int 0, .null, .null, .null, .null, .null, .null, .null, .null, .int 0, .int 0, .long 0, .null, .null, .null, .int 0, .null, .null, .null, .null, .null, .int 0] (bX12 Y h0) := by
  refine ctrn_of (by decide) rfl (Nat.le_of_ble_eq_true rfl) [(0, .ref h0)] rfl (fun A X hl C hm hR => ?_)
  subst hl
  obtain ⟨f0, g0⟩ : ∃ f : List Value, f = [.null, .int 0, .int 0, .int 0, .int 0, .int 0, .int 0, .long 0, .int 0, .int 0, .int 0, .int 0, .int 0, .int 0, .null, .null, .null, .null, .null, .null, .null, .null, .null, .null, .null, .null, .null, .null, .null, .null, .null, .null, .null, .int 0, .int 0, .int 0, .null, .null, .null, .null, .null, .int 0, .int 0, .null, .int 0, .int 0, .null, .null, .null, .null, .null, .null, .null, .null, .int 0, .int 0, .long 0, .null, .null, .null, .int 0, .null, .null, .null, .null, .null, .int 0] := ⟨_, rfl⟩
  have l0 : f0.length = 67 := by rw [g0]; rfl
  show KG _ X 2 0 _ [] ((h0, .inr (12, [.null, .int 0, .int 0, .int 0, .int 0, .int 0, .int 0, .long 0, .int 0, .int 0, .int 0, .int 0, .int 0, .int 0, .null, .null, .null, .null, .null, .null, .null, .null, .null, .null, .null, .null, .null, .null, .null, .null, .null, .null, .null, .int 0, .int 0, .int 0, .null, .null, .null, .null, .null, .int 0, .int 0, .null, .int 0, .int 0, .null, .null, .null, .null, .null, .null, .null, .null, .int 0, .int 0, .long 0, .null, .null, .null, .int 0, .null, .null, .null, .null, .null, .int 0])) :: []) 0 0
  rw [← g0]
  obtain ⟨r0, e0⟩ : ∃ r : va_W, r = [] := ⟨_, rfl⟩
  rw [← e0]
  refine k_aload (q := 0) C dX12_init_0 rfl rfl ?_
  refine k_obj C oi12_1 oi_m oi_c (by decide) dX12_init_1 ?_ rfl
  refine k_aload (q := 0) C dX12_init_4 rfl rfl ?_
  refine k_sipush (v := 1800) C dX12_init_5 (by decide +kernel) ?_
  refine k_arrput (N := 1800) (t0 := 0) (a0 := (1800, .inl fun _ => 0)) (k' := 1) (n' := 1800) C hm aw_int rfl rfl (ac_int 1800) rfl (by decide) (by decide) dX12_init_8 fX12_7 pf12_7 dX12_init_10 (fun _ => rfl) (fun _ => rfl) l0 (by decide) rfl rfl (by decide) (by decide) (fun q0 f1 r1 l1 g1 e1 => ?_)
  refine k_aload (q := 0) C dX12_init_13 rfl rfl ?_
  refine k_iconst C dX12_init_14 ?_
  refine k_intput C fX12_13 pX12_13 dX12_init_15 rfl rfl l1 (by decide) (fun f2 l2 g2 => ?_)
  refine k_aload (q := 0) C dX12_init_18 rfl rfl ?_
  refine k_iconst C dX12_init_19 ?_
  refine k_intput C fX12_17 pX12_17 dX12_init_20 rfl rfl l2 (by decide) (fun f3 l3 g3 => ?_)
  refine k_aload (q := 0) C dX12_init_23 rfl rfl ?_
  refine k_iconst C dX12_init_24 ?_
  refine k_intput C fX12_20 pX12_20 dX12_init_25 rfl rfl l3 (by decide) (fun f4 l4 g4 => ?_)
  refine k_aload (q := 0) C dX12_init_28 rfl rfl ?_
  refine k_iconst C dX12_init_29 ?_
  refine k_intput C fX12_23 pX12_23 dX12_init_30 rfl rfl l4 (by decide) (fun f5 l5 g5 => ?_)
  refine k_aload (q := 0) C dX12_init_33 rfl rfl ?_
  refine k_iconst C dX12_init_34 ?_
  refine k_intput C fX12_26 pX12_26 dX12_init_35 rfl rfl l5 (by decide) (fun f6 l6 g6 => ?_)
  refine k_aload (q := 0) C dX12_init_38 rfl rfl ?_
  refine k_iconst C dX12_init_39 ?_
  refine k_intput C fX12_29 pX12_29 dX12_init_40 rfl rfl l6 (by decide) (fun f7 l7 g7 => ?_)
  refine k_aload (q := 0) C dX12_init_43 rfl rfl ?_
  refine k_lconst (v := 0) C dX12_init_44 (by decide +kernel) ?_
  refine k_intput C fX12_32 pX12_32 dX12_init_45 rfl rfl l7 (by decide) (fun f8 l8 g8 => ?_)
  have z8 : f8 = [.ref q0, vI (0), vI (0), vI (0), vI (0), vI (0), vI (0), vL (0), .int 0, .int 0, .int 0, .int 0, .int 0, .int 0, .null, .null, .null, .null, .null, .null, .null, .null, .null, .null, .null, .null, .null, .null, .null, .null, .null, .null, .null, .int 0, .int 0, .int 0, .null, .null, .null, .null, .null, .int 0, .int 0, .null, .int 0, .int 0, .null, .null, .null, .null, .null, .null, .null, .null, .int 0, .int 0, .long 0, .null, .null, .null, .int 0, .null, .null, .null, .null, .null, .int 0] := by subst g8 g7 g6 g5 g4 g3 g2 g1 g0; rfl
  clear g8 g7 g6 g5 g4 g3 g2 g1 g0
  have y8_1 : r1 = [(q0, .inl (Y.2.1 20, 1800, .inl fun _ => 0))] := by subst e1 e0; rfl
  clear e1 e0
  refine k_aload (q := 0) C dX12_init_48 rfl rfl ?_
  refine k_iconst C dX12_init_49 ?_
  refine k_intput C fX12_36 pX12_36 dX12_init_50 rfl rfl l8 (by decide) (fun f9 l9 g9 => ?_)
  refine k_aload (q := 0) C dX12_init_53 rfl rfl ?_
  refine k_iconst C dX12_init_54 ?_
  refine k_intput C fX12_39 pX12_39 dX12_init_55 rfl rfl l9 (by decide) (fun f10 l10 g10 => ?_)
  refine k_aload (q := 0) C dX12_init_58 rfl rfl ?_
  refine k_iconst C dX12_init_59 ?_
  refine k_intput C fX12_42 pX12_42 dX12_init_60 rfl rfl l10 (by decide) (fun f11 l11 g11 => ?_)
  refine k_aload (q := 0) C dX12_init_63 rfl rfl ?_
  refine k_iconst C dX12_init_64 ?_
  refine k_intput C fX12_45 pX12_45 dX12_init_65 rfl rfl l11 (by decide) (fun f12 l12 g12 => ?_)
  refine k_aload (q := 0) C dX12_init_68 rfl rfl ?_
  refine k_iconst C dX12_init_69 ?_
  refine k_intput C fX12_48 pX12_48 dX12_init_70 rfl rfl l12 (by decide) (fun f13 l13 g13 => ?_)
  refine k_aload (q := 0) C dX12_init_73 rfl rfl ?_
  refine k_iconst C dX12_init_74 ?_
  refine k_intput C fX12_51 pX12_51 dX12_init_75 rfl rfl l13 (by decide) (fun f14 l14 g14 => ?_)
  refine k_aload (q := 0) C dX12_init_78 rfl rfl ?_
  refine k_iconst C dX12_init_79 ?_
  refine k_arrput (N := 2) (t0 := 0) (a0 := (2, .inl fun _ => 0)) (k' := 2) (n' := 1802) C hm aw_int rfl rfl (ac_int 2) rfl (by decide) (by decide) dX12_init_80 fX12_54 pf12_54 dX12_init_82 (fun _ => rfl) (fun _ => rfl) l14 (by decide) rfl rfl (by decide) (by decide) (fun q1 f15 r2 l15 g15 e2 => ?_)
  refine k_aload (q := 0) C dX12_init_85 rfl rfl ?_
  refine k_iconst C dX12_init_86 ?_
  refine k_arrput (N := 2) (t0 := 0) (a0 := (2, .inl fun _ => 0)) (k' := 3) (n' := 1804) C hm aw_int rfl rfl (ac_int 2) rfl (by decide) (by decide) dX12_init_87 fX12_57 pf12_57 dX12_init_89 (fun _ => rfl) (fun _ => rfl) l15 (by decide) rfl rfl (by decide) (by decide) (fun q2 f16 r3 l16 g16 e3 => ?_)
  have z16 : f16 = [.ref q0, vI (0), vI (0), vI (0), vI (0), vI (0), vI (0), vL (0), vI (0), vI (-1), vI (0), vI (-1), vI (-1), vI (0), .ref q1, .ref q2, .null, .null, .null, .null, .null, .null, .null, .null, .null, .null, .null, .null, .null, .null, .null, .null, .null, .int 0, .int 0, .int 0, .null, .null, .null, .null, .null, .int 0, .int 0, .null, .int 0, .int 0, .null, .null, .null, .null, .null, .null, .null, .null, .int 0, .int 0, .long 0, .null, .null, .null, .int 0, .null, .null, .null, .null, .null, .int 0] := by subst g16 g15 g14 g13 g12 g11 g10 g9 z8; rfl
  clear g16 g15 g14 g13 g12 g11 g10 g9 z8
  have y16_3 : r3 = [(q0, .inl (Y.2.1 20, 1800, .inl fun _ => 0)), (q1, .inl (Y.2.1 20, 2, .inl fun _ => 0)), (q2, .inl (Y.2.1 20, 2, .inl fun _ => 0))] := by subst e3 e2 y8_1; rfl
  clear e3 e2 y8_1
  refine k_aload (q := 0) C dX12_init_92 rfl rfl ?_
  refine k_bipush (v := 98) C dX12_init_93 (by decide +kernel) ?_
  refine k_arrput (N := 98) (t0 := 0) (a0 := (98, .inl fun _ => 0)) (k' := 4) (n' := 1902) C hm aw_int rfl rfl (ac_int 98) rfl (by decide) (by decide) dX12_init_95 fX12_60 pf12_60 dX12_init_97 (fun _ => rfl) (fun _ => rfl) l16 (by decide) rfl rfl (by decide) (by decide) (fun q3 f17 r4 l17 g17 e4 => ?_)
  refine k_aload (q := 0) C dX12_init_100 rfl rfl ?_
  refine k_bipush (v := 98) C dX12_init_101 (by decide +kernel) ?_
  refine k_arrput (N := 98) (t0 := 0) (a0 := (98, .inl fun _ => 0)) (k' := 5) (n' := 2000) C hm aw_int rfl rfl (ac_int 98) rfl (by decide) (by decide) dX12_init_103 fX12_63 pf12_63 dX12_init_105 (fun _ => rfl) (fun _ => rfl) l17 (by decide) rfl rfl (by decide) (by decide) (fun q4 f18 r5 l18 g18 e5 => ?_)
  refine k_aload (q := 0) C dX12_init_108 rfl rfl ?_
  refine k_iconst C dX12_init_109 ?_
  refine k_arrput (N := 2) (t0 := 0) (a0 := (2, .inl fun _ => 0)) (k' := 6) (n' := 2002) C hm aw_int rfl rfl (ac_int 2) rfl (by decide) (by decide) dX12_init_110 fX12_66 pf12_66 dX12_init_112 (fun _ => rfl) (fun _ => rfl) l18 (by decide) rfl rfl (by decide) (by decide) (fun q5 f19 r6 l19 g19 e6 => ?_)
  refine k_aload (q := 0) C dX12_init_115 rfl rfl ?_
  refine k_bipush (v := 12) C dX12_init_116 (by decide +kernel) ?_
  refine k_arrput (N := 12) (t0 := 0) (a0 := (12, .inl fun _ => 0)) (k' := 7) (n' := 2014) C hm aw_int rfl rfl (ac_int 12) rfl (by decide) (by decide) dX12_init_118 fX12_69 pf12_69 dX12_init_120 (fun _ => rfl) (fun _ => rfl) l19 (by decide) rfl rfl (by decide) (by decide) (fun q6 f20 r7 l20 g20 e7 => ?_)
  refine k_aload (q := 0) C dX12_init_123 rfl rfl ?_
  refine k_bipush (v := 12) C dX12_init_124 (by decide +kernel) ?_
  refine k_arrput (N := 12) (t0 := 0) (a0 := (12, .inl fun _ => 0)) (k' := 8) (n' := 2026) C hm aw_int rfl rfl (ac_int 12) rfl (by decide) (by decide) dX12_init_126 fX12_72 pf12_72 dX12_init_128 (fun _ => rfl) (fun _ => rfl) l20 (by decide) rfl rfl (by decide) (by decide) (fun q7 f21 r8 l21 g21 e8 => ?_)
  refine k_aload (q := 0) C dX12_init_131 rfl rfl ?_
  refine k_iconst C dX12_init_132 ?_
  refine k_arrput (N := 2) (t0 := 0) (a0 := (2, .inl fun _ => 0)) (k' := 9) (n' := 2028) C hm aw_int rfl rfl (ac_int 2) rfl (by decide) (by decide) dX12_init_133 fX12_75 pf12_75 dX12_init_135 (fun _ => rfl) (fun _ => rfl) l21 (by decide) rfl rfl (by decide) (by decide) (fun q8 f22 r9 l22 g22 e9 => ?_)
  refine k_aload (q := 0) C dX12_init_138 rfl rfl ?_
  refine k_iconst C dX12_init_139 ?_
  refine k_arrput (N := 2) (t0 := 0) (a0 := (2, .inl fun _ => 0)) (k' := 10) (n' := 2030) C hm aw_int rfl rfl (ac_int 2) rfl (by decide) (by decide) dX12_init_140 fX12_78 pf12_78 dX12_init_142 (fun _ => rfl) (fun _ => rfl) l22 (by decide) rfl rfl (by decide) (by decide) (fun q9 f23 r10 l23 g23 e10 => ?_)
  refine k_aload (q := 0) C dX12_init_145 rfl rfl ?_
  refine k_bipush (v := 16) C dX12_init_146 (by decide +kernel) ?_
  refine k_arrput (N := 16) (t0 := 0) (a0 := (16, .inl fun _ => 0)) (k' := 11) (n' := 2046) C hm aw_int rfl rfl (ac_int 16) rfl (by decide) (by decide) dX12_init_148 fX12_81 pf12_81 dX12_init_150 (fun _ => rfl) (fun _ => rfl) l23 (by decide) rfl rfl (by decide) (by decide) (fun q10 f24 r11 l24 g24 e11 => ?_)
  have z24 : f24 = [.ref q0, vI (0), vI (0), vI (0), vI (0), vI (0), vI (0), vL (0), vI (0), vI (-1), vI (0), vI (-1), vI (-1), vI (0), .ref q1, .ref q2, .ref q3, .ref q4, .ref q5, .ref q6, .ref q7, .ref q8, .ref q9, .ref q10, .null, .null, .null, .null, .null, .null, .null, .null, .null, .int 0, .int 0, .int 0, .null, .null, .null, .null, .null, .int 0, .int 0, .null, .int 0, .int 0, .null, .null, .null, .null, .null, .null, .null, .null, .int 0, .int 0, .long 0, .null, .null, .null, .int 0, .null, .null, .null, .null, .null, .int 0] := by subst g24 g23 g22 g21 g20 g19 g18 g17 z16; rfl
  clear g24 g23 g22 g21 g20 g19 g18 g17 z16
  have y24_11 : r11 = [(q0, .inl (Y.2.1 20, 1800, .inl fun _ => 0)), (q1, .inl (Y.2.1 20, 2, .inl fun _ => 0)), (q2, .inl (Y.2.1 20, 2, .inl fun _ => 0)), (q3, .inl (Y.2.1 20, 98, .inl fun _ => 0)), (q4, .inl (Y.2.1 20, 98, .inl fun _ => 0)), (q5, .inl (Y.2.1 20, 2, .inl fun _ => 0)), (q6, .inl (Y.2.1 20, 12, .inl fun _ => 0)), (q7, .inl (Y.2.1 20, 12, .inl fun _ => 0)), (q8, .inl (Y.2.1 20, 2, .inl fun _ => 0)), (q9, .inl (Y.2.1 20, 2, .inl fun _ => 0)), (q10, .inl (Y.2.1 20, 16, .inl fun _ => 0))] := by subst e11 e10 e9 e8 e7 e6 e5 e4 y16_3; rfl
  clear e11 e10 e9 e8 e7 e6 e5 e4 y16_3
  refine k_aload (q := 0) C dX12_init_153 rfl rfl ?_
  refine k_bipush (v := 16) C dX12_init_154 (by decide +kernel) ?_
  refine k_arrput (N := 16) (t0 := 0) (a0 := (16, .inl fun _ => 0)) (k' := 12) (n' := 2062) C hm aw_int rfl rfl (ac_int 16) rfl (by decide) (by decide) dX12_init_156 fX12_84 pf12_84 dX12_init_158 (fun _ => rfl) (fun _ => rfl) l24 (by decide) rfl rfl (by decide) (by decide) (fun q11 f25 r12 l25 g25 e12 => ?_)
  refine k_aload (q := 0) C dX12_init_161 rfl rfl ?_
  refine k_bipush (v := 16) C dX12_init_162 (by decide +kernel) ?_
  refine k_arrput (N := 16) (t0 := 0) (a0 := (16, .inl fun _ => 0)) (k' := 13) (n' := 2078) C hm aw_int rfl rfl (ac_int 16) rfl (by decide) (by decide) dX12_init_164 fX12_87 pf12_87 dX12_init_166 (fun _ => rfl) (fun _ => rfl) l25 (by decide) rfl rfl (by decide) (by decide) (fun q12 f26 r13 l26 g26 e13 => ?_)
  refine k_aload (q := 0) C dX12_init_169 rfl rfl ?_
  refine k_iconst C dX12_init_170 ?_
  refine k_arrput (N := 2) (t0 := 0) (a0 := (2, .inl fun _ => 0)) (k' := 14) (n' := 2080) C hm aw_int rfl rfl (ac_int 2) rfl (by decide) (by decide) dX12_init_171 fX12_90 pf12_90 dX12_init_173 (fun _ => rfl) (fun _ => rfl) l26 (by decide) rfl rfl (by decide) (by decide) (fun q13 f27 r14 l27 g27 e14 => ?_)
  refine k_aload (q := 0) C dX12_init_176 rfl rfl ?_
  refine k_iconst C dX12_init_177 ?_
  refine k_arrput (N := 4) (t0 := 0) (a0 := (4, .inl fun _ => 0)) (k' := 15) (n' := 2084) C hm aw_int rfl rfl (ac_int 4) rfl (by decide) (by decide) dX12_init_178 fX12_93 pf12_93 dX12_init_180 (fun _ => rfl) (fun _ => rfl) l27 (by decide) rfl rfl (by decide) (by decide) (fun q14 f28 r15 l28 g28 e15 => ?_)
  refine k_aload (q := 0) C dX12_init_183 rfl rfl ?_
  refine k_iconst C dX12_init_184 ?_
  refine k_arrput (N := 4) (t0 := 0) (a0 := (4, .inl fun _ => 0)) (k' := 16) (n' := 2088) C hm aw_int rfl rfl (ac_int 4) rfl (by decide) (by decide) dX12_init_185 fX12_96 pf12_96 dX12_init_187 (fun _ => rfl) (fun _ => rfl) l28 (by decide) rfl rfl (by decide) (by decide) (fun q15 f29 r16 l29 g29 e16 => ?_)
  refine k_aload (q := 0) C dX12_init_190 rfl rfl ?_
  refine k_sipush (v := 3200) C dX12_init_191 (by decide +kernel) ?_
  refine k_arrput (N := 3200) (t0 := 0) (a0 := (3200, .inl fun _ => 0)) (k' := 17) (n' := 5288) C hm aw_int rfl rfl (ac_int 3200) rfl (by decide) (by decide) dX12_init_194 fX12_99 pf12_99 dX12_init_196 (fun _ => rfl) (fun _ => rfl) l29 (by decide) rfl rfl (by decide) (by decide) (fun q16 f30 r17 l30 g30 e17 => ?_)
  refine k_aload (q := 0) C dX12_init_199 rfl rfl ?_
  refine k_sipush (v := 3200) C dX12_init_200 (by decide +kernel) ?_
  refine k_arrput (N := 3200) (t0 := 0) (a0 := (3200, .inl fun _ => 0)) (k' := 18) (n' := 8488) C hm aw_int rfl rfl (ac_int 3200) rfl (by decide) (by decide) dX12_init_203 fX12_102 pf12_102 dX12_init_205 (fun _ => rfl) (fun _ => rfl) l30 (by decide) rfl rfl (by decide) (by decide) (fun q17 f31 r18 l31 g31 e18 => ?_)
  refine k_aload (q := 0) C dX12_init_208 rfl rfl ?_
  refine k_bipush (v := 14) C dX12_init_209 (by decide +kernel) ?_
  refine k_arrput (N := 14) (t0 := 1) (a0 := (14, .inr (.inl fun _ => 0))) (k' := 19) (n' := 8502) C hm aw_long rfl rfl (ac_long 14) rfl (by decide) (by decide) dX12_init_211 fX12_105 pf12_105 dX12_init_213 (fun _ => rfl) (fun _ => rfl) l31 (by decide) rfl rfl (by decide) (by decide) (fun q18 f32 r19 l32 g32 e19 => ?_)
  have z32 : f32 = [.ref q0, vI (0), vI (0), vI (0), vI (0), vI (0), vI (0), vL (0), vI (0), vI (-1), vI (0), vI (-1), vI (-1), vI (0), .ref q1, .ref q2, .ref q3, .ref q4, .ref q5, .ref q6, .ref q7, .ref q8, .ref q9, .ref q10, .ref q11, .ref q12, .ref q13, .ref q14, .ref q15, .ref q16, .ref q17, .ref q18, .null, .int 0, .int 0, .int 0, .null, .null, .null, .null, .null, .int 0, .int 0, .null, .int 0, .int 0, .null, .null, .null, .null, .null, .null, .null, .null, .int 0, .int 0, .long 0, .null, .null, .null, .int 0, .null, .null, .null, .null, .null, .int 0] := by subst g32 g31 g30 g29 g28 g27 g26 g25 z24; rfl
  clear g32 g31 g30 g29 g28 g27 g26 g25 z24
  have y32_19 : r19 = [(q0, .inl (Y.2.1 20, 1800, .inl fun _ => 0)), (q1, .inl (Y.2.1 20, 2, .inl fun _ => 0)), (q2, .inl (Y.2.1 20, 2, .inl fun _ => 0)), (q3, .inl (Y.2.1 20, 98, .inl fun _ => 0)), (q4, .inl (Y.2.1 20, 98, .inl fun _ => 0)), (q5, .inl (Y.2.1 20, 2, .inl fun _ => 0)), (q6, .inl (Y.2.1 20, 12, .inl fun _ => 0)), (q7, .inl (Y.2.1 20, 12, .inl fun _ => 0)), (q8, .inl (Y.2.1 20, 2, .inl fun _ => 0)), (q9, .inl (Y.2.1 20, 2, .inl fun _ => 0)), (q10, .inl (Y.2.1 20, 16, .inl fun _ => 0)), (q11, .inl (Y.2.1 20, 16, .inl fun _ => 0)), (q12, .inl (Y.2.1 20, 16, .inl fun _ => 0)), (q13, .inl (Y.2.1 20, 2, .inl fun _ => 0)), (q14, .inl (Y.2.1 20, 4, .inl fun _ => 0)), (q15, .inl (Y.2.1 20, 4, .inl fun _ => 0)), (q16, .inl (Y.2.1 20, 3200, .inl fun _ => 0)), (q17, .inl (Y.2.1 20, 3200, .inl fun _ => 0)), (q18, .inl (Y.2.1 21, 14, .inr (.inl fun _ => 0)))] := by subst e19 e18 e17 e16 e15 e14 e13 e12 y24_11; rfl
  clear e19 e18 e17 e16 e15 e14 e13 e12 y24_11
  refine k_aload (q := 0) C dX12_init_216 rfl rfl ?_
  refine k_bipush (v := 12) C dX12_init_217 (by decide +kernel) ?_
  refine k_arrput (N := 12) (t0 := 1) (a0 := (12, .inr (.inl fun _ => 0))) (k' := 20) (n' := 8514) C hm aw_long rfl rfl (ac_long 12) rfl (by decide) (by decide) dX12_init_219 fX12_109 pf12_109 dX12_init_221 (fun _ => rfl) (fun _ => rfl) l32 (by decide) rfl rfl (by decide) (by decide) (fun q19 f33 r20 l33 g33 e20 => ?_)
  refine k_aload (q := 0) C dX12_init_224 rfl rfl ?_
  refine k_iconst C dX12_init_225 ?_
  refine k_intput C fX12_112 pX12_112 dX12_init_226 rfl rfl l33 (by decide) (fun f34 l34 g34 => ?_)
  refine k_aload (q := 0) C dX12_init_229 rfl rfl ?_
  refine k_iconst C dX12_init_230 ?_
  refine k_intput C fX12_115 pX12_115 dX12_init_231 rfl rfl l34 (by decide) (fun f35 l35 g35 => ?_)
  refine k_aload (q := 0) C dX12_init_234 rfl rfl ?_
  refine k_iconst C dX12_init_235 ?_
  refine k_intput C fX12_118 pX12_118 dX12_init_236 rfl rfl l35 (by decide) (fun f36 l36 g36 => ?_)
  refine k_aload (q := 0) C dX12_init_239 rfl rfl ?_
  refine k_bipush (v := 20) C dX12_init_240 (by decide +kernel) ?_
  refine k_arrput (N := 20) (t0 := 0) (a0 := (20, .inl fun _ => 0)) (k' := 21) (n' := 8534) C hm aw_int rfl rfl (ac_int 20) rfl (by decide) (by decide) dX12_init_242 fX12_122 pf12_122 dX12_init_244 (fun _ => rfl) (fun _ => rfl) l36 (by decide) rfl rfl (by decide) (by decide) (fun q20 f37 r21 l37 g37 e21 => ?_)
  refine k_aload (q := 0) C dX12_init_247 rfl rfl ?_
  refine k_bipush (v := 20) C dX12_init_248 (by decide +kernel) ?_
  refine k_arrput (N := 20) (t0 := 0) (a0 := (20, .inl fun _ => 0)) (k' := 22) (n' := 8554) C hm aw_int rfl rfl (ac_int 20) rfl (by decide) (by decide) dX12_init_250 fX12_125 pf12_125 dX12_init_252 (fun _ => rfl) (fun _ => rfl) l37 (by decide) rfl rfl (by decide) (by decide) (fun q21 f38 r22 l38 g38 e22 => ?_)
  refine k_aload (q := 0) C dX12_init_255 rfl rfl ?_
  refine k_bipush (v := 20) C dX12_init_256 (by decide +kernel) ?_
  refine k_arrput (N := 20) (t0 := 2) (a0 := (20, .inl fun _ => 0)) (k' := 23) (n' := 8574) C hm aw_boolean rfl rfl (ac_boolean 20) rfl (by decide) (by decide) dX12_init_258 fX12_128 pf12_128 dX12_init_260 (fun _ => rfl) (fun _ => rfl) l38 (by decide) rfl rfl (by decide) (by decide) (fun q22 f39 r23 l39 g39 e23 => ?_)
  refine k_aload (q := 0) C dX12_init_263 rfl rfl ?_
  refine k_bipush (v := 20) C dX12_init_264 (by decide +kernel) ?_
  refine k_arrput (N := 20) (t0 := 0) (a0 := (20, .inl fun _ => 0)) (k' := 24) (n' := 8594) C hm aw_int rfl rfl (ac_int 20) rfl (by decide) (by decide) dX12_init_266 fX12_132 pf12_132 dX12_init_268 (fun _ => rfl) (fun _ => rfl) l39 (by decide) rfl rfl (by decide) (by decide) (fun q23 f40 r24 l40 g40 e24 => ?_)
  have z40 : f40 = [.ref q0, vI (0), vI (0), vI (0), vI (0), vI (0), vI (0), vL (0), vI (0), vI (-1), vI (0), vI (-1), vI (-1), vI (0), .ref q1, .ref q2, .ref q3, .ref q4, .ref q5, .ref q6, .ref q7, .ref q8, .ref q9, .ref q10, .ref q11, .ref q12, .ref q13, .ref q14, .ref q15, .ref q16, .ref q17, .ref q18, .ref q19, vI (0), vI (1), vI (0), .ref q20, .ref q21, .ref q22, .ref q23, .null, .int 0, .int 0, .null, .int 0, .int 0, .null, .null, .null, .null, .null, .null, .null, .null, .int 0, .int 0, .long 0, .null, .null, .null, .int 0, .null, .null, .null, .null, .null, .int 0] := by subst g40 g39 g38 g37 g36 g35 g34 g33 z32; rfl
  clear g40 g39 g38 g37 g36 g35 g34 g33 z32
  have y40_24 : r24 = [(q0, .inl (Y.2.1 20, 1800, .inl fun _ => 0)), (q1, .inl (Y.2.1 20, 2, .inl fun _ => 0)), (q2, .inl (Y.2.1 20, 2, .inl fun _ => 0)), (q3, .inl (Y.2.1 20, 98, .inl fun _ => 0)), (q4, .inl (Y.2.1 20, 98, .inl fun _ => 0)), (q5, .inl (Y.2.1 20, 2, .inl fun _ => 0)), (q6, .inl (Y.2.1 20, 12, .inl fun _ => 0)), (q7, .inl (Y.2.1 20, 12, .inl fun _ => 0)), (q8, .inl (Y.2.1 20, 2, .inl fun _ => 0)), (q9, .inl (Y.2.1 20, 2, .inl fun _ => 0)), (q10, .inl (Y.2.1 20, 16, .inl fun _ => 0)), (q11, .inl (Y.2.1 20, 16, .inl fun _ => 0)), (q12, .inl (Y.2.1 20, 16, .inl fun _ => 0)), (q13, .inl (Y.2.1 20, 2, .inl fun _ => 0)), (q14, .inl (Y.2.1 20, 4, .inl fun _ => 0)), (q15, .inl (Y.2.1 20, 4, .inl fun _ => 0)), (q16, .inl (Y.2.1 20, 3200, .inl fun _ => 0)), (q17, .inl (Y.2.1 20, 3200, .inl fun _ => 0)), (q18, .inl (Y.2.1 21, 14, .inr (.inl fun _ => 0))), (q19, .inl (Y.2.1 21, 12, .inr (.inl fun _ => 0))), (q20, .inl (Y.2.1 20, 20, .inl fun _ => 0)), (q21, .inl (Y.2.1 20, 20, .inl fun _ => 0)), (q22, .inl (Y.2.1 22, 20, .inl fun _ => 0)), (q23, .inl (Y.2.1 20, 20, .inl fun _ => 0))] := by subst e24 e23 e22 e21 e20 y32_19; rfl
  clear e24 e23 e22 e21 e20 y32_19
  refine k_aload (q := 0) C dX12_init_271 rfl rfl ?_
  refine k_bipush (v := 20) C dX12_init_272 (by decide +kernel) ?_
  refine k_arrput (N := 20) (t0 := 0) (a0 := (20, .inl fun _ => 0)) (k' := 25) (n' := 8614) C hm aw_int rfl rfl (ac_int 20) rfl (by decide) (by decide) dX12_init_274 fX12_135 pf12_135 dX12_init_276 (fun _ => rfl) (fun _ => rfl) l40 (by decide) rfl rfl (by decide) (by decide) (fun q24 f41 r25 l41 g41 e25 => ?_)
  refine k_aload (q := 0) C dX12_init_279 rfl rfl ?_
  refine k_iconst C dX12_init_280 ?_
  refine k_intput C fX12_138 pX12_138 dX12_init_281 rfl rfl l41 (by decide) (fun f42 l42 g42 => ?_)
  refine k_aload (q := 0) C dX12_init_284 rfl rfl ?_
  refine k_iconst C dX12_init_285 ?_
  refine k_intput C fX12_141 pX12_141 dX12_init_286 rfl rfl l42 (by decide) (fun f43 l43 g43 => ?_)
  refine k_aload (q := 0) C dX12_init_289 rfl rfl ?_
  refine k_sipush (v := 500) C dX12_init_290 (by decide +kernel) ?_
  refine k_arrput (N := 500) (t0 := 0) (a0 := (500, .inl fun _ => 0)) (k' := 26) (n' := 9114) C hm aw_int rfl rfl (ac_int 500) rfl (by decide) (by decide) dX12_init_293 fX12_144 pf12_144 dX12_init_295 (fun _ => rfl) (fun _ => rfl) l43 (by decide) rfl rfl (by decide) (by decide) (fun q25 f44 r26 l44 g44 e26 => ?_)
  refine k_aload (q := 0) C dX12_init_298 rfl rfl ?_
  refine k_iconst C dX12_init_299 ?_
  refine k_intput C fX12_147 pX12_147 dX12_init_300 rfl rfl l44 (by decide) (fun f45 l45 g45 => ?_)
  refine k_aload (q := 0) C dX12_init_303 rfl rfl ?_
  refine k_iconst C dX12_init_304 ?_
  refine k_intput C fX12_150 pX12_150 dX12_init_305 rfl rfl l45 (by decide) (fun f46 l46 g46 => ?_)
  refine k_aload (q := 0) C dX12_init_308 rfl rfl ?_
  refine k_bipush (v := 6) C dX12_init_309 (by decide +kernel) ?_
  refine k_arrput (N := 6) (t0 := 0) (a0 := (6, .inl fun _ => 0)) (k' := 27) (n' := 9120) C hm aw_int rfl rfl (ac_int 6) rfl (by decide) (by decide) dX12_init_311 fX12_153 pf12_153 dX12_init_313 (fun _ => rfl) (fun _ => rfl) l46 (by decide) rfl rfl (by decide) (by decide) (fun q26 f47 r27 l47 g47 e27 => ?_)
  refine k_aload (q := 0) C dX12_init_316 rfl rfl ?_
  refine k_bipush (v := 22) C dX12_init_317 (by decide +kernel) ?_
  refine k_arrput (N := 22) (t0 := 0) (a0 := (22, .inl fun _ => 0)) (k' := 28) (n' := 9142) C hm aw_int rfl rfl (ac_int 22) rfl (by decide) (by decide) dX12_init_319 fX12_156 pf12_156 dX12_init_321 (fun _ => rfl) (fun _ => rfl) l47 (by decide) rfl rfl (by decide) (by decide) (fun q27 f48 r28 l48 g48 e28 => ?_)
  have z48 : f48 = [.ref q0, vI (0), vI (0), vI (0), vI (0), vI (0), vI (0), vL (0), vI (0), vI (-1), vI (0), vI (-1), vI (-1), vI (0), .ref q1, .ref q2, .ref q3, .ref q4, .ref q5, .ref q6, .ref q7, .ref q8, .ref q9, .ref q10, .ref q11, .ref q12, .ref q13, .ref q14, .ref q15, .ref q16, .ref q17, .ref q18, .ref q19, vI (0), vI (1), vI (0), .ref q20, .ref q21, .ref q22, .ref q23, .ref q24, vI (0), vI (0), .ref q25, vI (0), vI (0), .ref q26, .ref q27, .null, .null, .null, .null, .null, .null, .int 0, .int 0, .long 0, .null, .null, .null, .int 0, .null, .null, .null, .null, .null, .int 0] := by subst g48 g47 g46 g45 g44 g43 g42 g41 z40; rfl
  clear g48 g47 g46 g45 g44 g43 g42 g41 z40
  have y48_28 : r28 = [(q0, .inl (Y.2.1 20, 1800, .inl fun _ => 0)), (q1, .inl (Y.2.1 20, 2, .inl fun _ => 0)), (q2, .inl (Y.2.1 20, 2, .inl fun _ => 0)), (q3, .inl (Y.2.1 20, 98, .inl fun _ => 0)), (q4, .inl (Y.2.1 20, 98, .inl fun _ => 0)), (q5, .inl (Y.2.1 20, 2, .inl fun _ => 0)), (q6, .inl (Y.2.1 20, 12, .inl fun _ => 0)), (q7, .inl (Y.2.1 20, 12, .inl fun _ => 0)), (q8, .inl (Y.2.1 20, 2, .inl fun _ => 0)), (q9, .inl (Y.2.1 20, 2, .inl fun _ => 0)), (q10, .inl (Y.2.1 20, 16, .inl fun _ => 0)), (q11, .inl (Y.2.1 20, 16, .inl fun _ => 0)), (q12, .inl (Y.2.1 20, 16, .inl fun _ => 0)), (q13, .inl (Y.2.1 20, 2, .inl fun _ => 0)), (q14, .inl (Y.2.1 20, 4, .inl fun _ => 0)), (q15, .inl (Y.2.1 20, 4, .inl fun _ => 0)), (q16, .inl (Y.2.1 20, 3200, .inl fun _ => 0)), (q17, .inl (Y.2.1 20, 3200, .inl fun _ => 0)), (q18, .inl (Y.2.1 21, 14, .inr (.inl fun _ => 0))), (q19, .inl (Y.2.1 21, 12, .inr (.inl fun _ => 0))), (q20, .inl (Y.2.1 20, 20, .inl fun _ => 0)), (q21, .inl (Y.2.1 20, 20, .inl fun _ => 0)), (q22, .inl (Y.2.1 22, 20, .inl fun _ => 0)), (q23, .inl (Y.2.1 20, 20, .inl fun _ => 0)), (q24, .inl (Y.2.1 20, 20, .inl fun _ => 0)), (q25, .inl (Y.2.1 20, 500, .inl fun _ => 0)), (q26, .inl (Y.2.1 20, 6, .inl fun _ => 0)), (q27, .inl (Y.2.1 20, 22, .inl fun _ => 0))] := by subst e28 e27 e26 e25 y40_24; rfl
  clear e28 e27 e26 e25 y40_24
  refine k_aload (q := 0) C dX12_init_324 rfl rfl ?_
  refine k_sipush (v := 132) C dX12_init_325 (by decide +kernel) ?_
  refine k_arrput (N := 132) (t0 := 0) (a0 := (132, .inl fun _ => 0)) (k' := 29) (n' := 9274) C hm aw_int rfl rfl (ac_int 132) rfl (by decide) (by decide) dX12_init_328 fX12_159 pf12_159 dX12_init_330 (fun _ => rfl) (fun _ => rfl) l48 (by decide) rfl rfl (by decide) (by decide) (fun q28 f49 r29 l49 g49 e29 => ?_)
  refine k_aload (q := 0) C dX12_init_333 rfl rfl ?_
  refine k_bipush (v := 22) C dX12_init_334 (by decide +kernel) ?_
  refine k_arrput (N := 22) (t0 := 0) (a0 := (22, .inl fun _ => 0)) (k' := 30) (n' := 9296) C hm aw_int rfl rfl (ac_int 22) rfl (by decide) (by decide) dX12_init_336 fX12_162 pf12_162 dX12_init_338 (fun _ => rfl) (fun _ => rfl) l49 (by decide) rfl rfl (by decide) (by decide) (fun q29 f50 r30 l50 g50 e30 => ?_)
  refine k_aload (q := 0) C dX12_init_341 rfl rfl ?_
  refine k_bipush (v := 22) C dX12_init_342 (by decide +kernel) ?_
  refine k_arrput (N := 22) (t0 := 0) (a0 := (22, .inl fun _ => 0)) (k' := 31) (n' := 9318) C hm aw_int rfl rfl (ac_int 22) rfl (by decide) (by decide) dX12_init_344 fX12_165 pf12_165 dX12_init_346 (fun _ => rfl) (fun _ => rfl) l50 (by decide) rfl rfl (by decide) (by decide) (fun q30 f51 r31 l51 g51 e31 => ?_)
  refine k_aload (q := 0) C dX12_init_349 rfl rfl ?_
  refine k_sipush (v := 594) C dX12_init_350 (by decide +kernel) ?_
  refine k_arrput (N := 594) (t0 := 0) (a0 := (594, .inl fun _ => 0)) (k' := 32) (n' := 9912) C hm aw_int rfl rfl (ac_int 594) rfl (by decide) (by decide) dX12_init_353 fX12_168 pf12_168 dX12_init_355 (fun _ => rfl) (fun _ => rfl) l51 (by decide) rfl rfl (by decide) (by decide) (fun q31 f52 r32 l52 g52 e32 => ?_)
  refine k_aload (q := 0) C dX12_init_358 rfl rfl ?_
  refine k_bipush (v := 22) C dX12_init_359 (by decide +kernel) ?_
  refine k_arrput (N := 22) (t0 := 0) (a0 := (22, .inl fun _ => 0)) (k' := 33) (n' := 9934) C hm aw_int rfl rfl (ac_int 22) rfl (by decide) (by decide) dX12_init_361 fX12_171 pf12_171 dX12_init_363 (fun _ => rfl) (fun _ => rfl) l52 (by decide) rfl rfl (by decide) (by decide) (fun q32 f53 r33 l53 g53 e33 => ?_)
  refine k_aload (q := 0) C dX12_init_366 rfl rfl ?_
  refine k_sipush (v := 2640) C dX12_init_367 (by decide +kernel) ?_
  refine k_arrput (N := 2640) (t0 := 0) (a0 := (2640, .inl fun _ => 0)) (k' := 34) (n' := 12574) C hm aw_int rfl rfl (ac_int 2640) rfl (by decide) (by decide) dX12_init_370 fX12_174 pf12_174 dX12_init_372 (fun _ => rfl) (fun _ => rfl) l53 (by decide) rfl rfl (by decide) (by decide) (fun q33 f54 r34 l54 g54 e34 => ?_)
  refine k_aload (q := 0) C dX12_init_375 rfl rfl ?_
  refine k_iconst C dX12_init_376 ?_
  refine k_intput C fX12_177 pX12_177 dX12_init_377 rfl rfl l54 (by decide) (fun f55 l55 g55 => ?_)
  refine k_aload (q := 0) C dX12_init_380 rfl rfl ?_
  refine k_iconst C dX12_init_381 ?_
  refine k_intput C fX12_180 pX12_180 dX12_init_382 rfl rfl l55 (by decide) (fun f56 l56 g56 => ?_)
  have z56 : f56 = [.ref q0, vI (0), vI (0), vI (0), vI (0), vI (0), vI (0), vL (0), vI (0), vI (-1), vI (0), vI (-1), vI (-1), vI (0), .ref q1, .ref q2, .ref q3, .ref q4, .ref q5, .ref q6, .ref q7, .ref q8, .ref q9, .ref q10, .ref q11, .ref q12, .ref q13, .ref q14, .ref q15, .ref q16, .ref q17, .ref q18, .ref q19, vI (0), vI (1), vI (0), .ref q20, .ref q21, .ref q22, .ref q23, .ref q24, vI (0), vI (0), .ref q25, vI (0), vI (0), .ref q26, .ref q27, .ref q28, .ref q29, .ref q30, .ref q31, .ref q32, .ref q33, vI (0), vI (0), .long 0, .null, .null, .null, .int 0, .null, .null, .null, .null, .null, .int 0] := by subst g56 g55 g54 g53 g52 g51 g50 g49 z48; rfl
  clear g56 g55 g54 g53 g52 g51 g50 g49 z48
  have y56_34 : r34 = [(q0, .inl (Y.2.1 20, 1800, .inl fun _ => 0)), (q1, .inl (Y.2.1 20, 2, .inl fun _ => 0)), (q2, .inl (Y.2.1 20, 2, .inl fun _ => 0)), (q3, .inl (Y.2.1 20, 98, .inl fun _ => 0)), (q4, .inl (Y.2.1 20, 98, .inl fun _ => 0)), (q5, .inl (Y.2.1 20, 2, .inl fun _ => 0)), (q6, .inl (Y.2.1 20, 12, .inl fun _ => 0)), (q7, .inl (Y.2.1 20, 12, .inl fun _ => 0)), (q8, .inl (Y.2.1 20, 2, .inl fun _ => 0)), (q9, .inl (Y.2.1 20, 2, .inl fun _ => 0)), (q10, .inl (Y.2.1 20, 16, .inl fun _ => 0)), (q11, .inl (Y.2.1 20, 16, .inl fun _ => 0)), (q12, .inl (Y.2.1 20, 16, .inl fun _ => 0)), (q13, .inl (Y.2.1 20, 2, .inl fun _ => 0)), (q14, .inl (Y.2.1 20, 4, .inl fun _ => 0)), (q15, .inl (Y.2.1 20, 4, .inl fun _ => 0)), (q16, .inl (Y.2.1 20, 3200, .inl fun _ => 0)), (q17, .inl (Y.2.1 20, 3200, .inl fun _ => 0)), (q18, .inl (Y.2.1 21, 14, .inr (.inl fun _ => 0))), (q19, .inl (Y.2.1 21, 12, .inr (.inl fun _ => 0))), (q20, .inl (Y.2.1 20, 20, .inl fun _ => 0)), (q21, .inl (Y.2.1 20, 20, .inl fun _ => 0)), (q22, .inl (Y.2.1 22, 20, .inl fun _ => 0)), (q23, .inl (Y.2.1 20, 20, .inl fun _ => 0)), (q24, .inl (Y.2.1 20, 20, .inl fun _ => 0)), (q25, .inl (Y.2.1 20, 500, .inl fun _ => 0)), (q26, .inl (Y.2.1 20, 6, .inl fun _ => 0)), (q27, .inl (Y.2.1 20, 22, .inl fun _ => 0)), (q28, .inl (Y.2.1 20, 132, .inl fun _ => 0)), (q29, .inl (Y.2.1 20, 22, .inl fun _ => 0)), (q30, .inl (Y.2.1 20, 22, .inl fun _ => 0)), (q31, .inl (Y.2.1 20, 594, .inl fun _ => 0)), (q32, .inl (Y.2.1 20, 22, .inl fun _ => 0)), (q33, .inl (Y.2.1 20, 2640, .inl fun _ => 0))] := by subst e34 e33 e32 e31 e30 e29 y48_28; rfl
  clear e34 e33 e32 e31 e30 e29 y48_28
  refine k_aload (q := 0) C dX12_init_385 rfl rfl ?_
  refine k_lconst (v := 1) C dX12_init_386 (by decide +kernel) ?_
  refine k_intput C fX12_183 pX12_183 dX12_init_387 rfl rfl l56 (by decide) (fun f57 l57 g57 => ?_)
  refine k_aload (q := 0) C dX12_init_390 rfl rfl ?_
  refine k_sipush (v := 500) C dX12_init_391 (by decide +kernel) ?_
  refine k_arrput (N := 500) (t0 := 1) (a0 := (500, .inr (.inl fun _ => 0))) (k' := 35) (n' := 13074) C hm aw_long rfl rfl (ac_long 500) rfl (by decide) (by decide) dX12_init_394 fX12_186 pf12_186 dX12_init_396 (fun _ => rfl) (fun _ => rfl) l57 (by decide) rfl rfl (by decide) (by decide) (fun q34 f58 r35 l58 g58 e35 => ?_)
  refine k_aload (q := 0) C dX12_init_399 rfl rfl ?_
  refine k_bipush (v := 12) C dX12_init_400 (by decide +kernel) ?_
  refine k_arrput (N := 12) (t0 := 0) (a0 := (12, .inl fun _ => 0)) (k' := 36) (n' := 13086) C hm aw_int rfl rfl (ac_int 12) rfl (by decide) (by decide) dX12_init_402 fX12_189 pf12_189 dX12_init_404 (fun _ => rfl) (fun _ => rfl) l58 (by decide) rfl rfl (by decide) (by decide) (fun q35 f59 r36 l59 g59 e36 => ?_)
  refine k_aload (q := 0) C dX12_init_407 rfl rfl ?_
  refine k_bipush (v := 54) C dX12_init_408 (by decide +kernel) ?_
  refine k_arrput (N := 54) (t0 := 0) (a0 := (54, .inl fun _ => 0)) (k' := 37) (n' := 13140) C hm aw_int rfl rfl (ac_int 54) rfl (by decide) (by decide) dX12_init_410 fX12_192 pf12_192 dX12_init_412 (fun _ => rfl) (fun _ => rfl) l59 (by decide) rfl rfl (by decide) (by decide) (fun q36 f60 r37 l60 g60 e37 => ?_)
  refine k_aload (q := 0) C dX12_init_415 rfl rfl ?_
  refine k_iconst C dX12_init_416 ?_
  refine k_intput C fX12_195 pX12_195 dX12_init_417 rfl rfl l60 (by decide) (fun f61 l61 g61 => ?_)
  refine k_aload (q := 0) C dX12_init_420 rfl rfl ?_
  refine k_bipush (v := 16) C dX12_init_421 (by decide +kernel) ?_
  refine k_arrput (N := 16) (t0 := 0) (a0 := (16, .inl fun _ => 0)) (k' := 38) (n' := 13156) C hm aw_int rfl rfl (ac_int 16) rfl (by decide) (by decide) dX12_init_423 fX12_198 pf12_198 dX12_init_425 (fun _ => rfl) (fun _ => rfl) l61 (by decide) rfl rfl (by decide) (by decide) (fun q37 f62 r38 l62 g62 e38 => ?_)
  refine k_aload (q := 0) C dX12_init_428 rfl rfl ?_
  refine k_bipush (v := 16) C dX12_init_429 (by decide +kernel) ?_
  refine k_arrput (N := 16) (t0 := 0) (a0 := (16, .inl fun _ => 0)) (k' := 39) (n' := 13172) C hm aw_int rfl rfl (ac_int 16) rfl (by decide) (by decide) dX12_init_431 fX12_201 pf12_201 dX12_init_433 (fun _ => rfl) (fun _ => rfl) l62 (by decide) rfl rfl (by decide) (by decide) (fun q38 f63 r39 l63 g63 e39 => ?_)
  refine k_aload (q := 0) C dX12_init_436 rfl rfl ?_
  refine k_bipush (v := 16) C dX12_init_437 (by decide +kernel) ?_
  refine k_arrput (N := 16) (t0 := 0) (a0 := (16, .inl fun _ => 0)) (k' := 40) (n' := 13188) C hm aw_int rfl rfl (ac_int 16) rfl (by decide) (by decide) dX12_init_439 fX12_204 pf12_204 dX12_init_441 (fun _ => rfl) (fun _ => rfl) l63 (by decide) rfl rfl (by decide) (by decide) (fun q39 f64 r40 l64 g64 e40 => ?_)
  have z64 : f64 = [.ref q0, vI (0), vI (0), vI (0), vI (0), vI (0), vI (0), vL (0), vI (0), vI (-1), vI (0), vI (-1), vI (-1), vI (0), .ref q1, .ref q2, .ref q3, .ref q4, .ref q5, .ref q6, .ref q7, .ref q8, .ref q9, .ref q10, .ref q11, .ref q12, .ref q13, .ref q14, .ref q15, .ref q16, .ref q17, .ref q18, .ref q19, vI (0), vI (1), vI (0), .ref q20, .ref q21, .ref q22, .ref q23, .ref q24, vI (0), vI (0), .ref q25, vI (0), vI (0), .ref q26, .ref q27, .ref q28, .ref q29, .ref q30, .ref q31, .ref q32, .ref q33, vI (0), vI (0), vL (1), .ref q34, .ref q35, .ref q36, vI (0), .ref q37, .ref q38, .ref q39, .null, .null, .int 0] := by subst g64 g63 g62 g61 g60 g59 g58 g57 z56; rfl
  clear g64 g63 g62 g61 g60 g59 g58 g57 z56
  have y64_40 : r40 = [(q0, .inl (Y.2.1 20, 1800, .inl fun _ => 0)), (q1, .inl (Y.2.1 20, 2, .inl fun _ => 0)), (q2, .inl (Y.2.1 20, 2, .inl fun _ => 0)), (q3, .inl (Y.2.1 20, 98, .inl fun _ => 0)), (q4, .inl (Y.2.1 20, 98, .inl fun _ => 0)), (q5, .inl (Y.2.1 20, 2, .inl fun _ => 0)), (q6, .inl (Y.2.1 20, 12, .inl fun _ => 0)), (q7, .inl (Y.2.1 20, 12, .inl fun _ => 0)), (q8, .inl (Y.2.1 20, 2, .inl fun _ => 0)), (q9, .inl (Y.2.1 20, 2, .inl fun _ => 0)), (q10, .inl (Y.2.1 20, 16, .inl fun _ => 0)), (q11, .inl (Y.2.1 20, 16, .inl fun _ => 0)), (q12, .inl (Y.2.1 20, 16, .inl fun _ => 0)), (q13, .inl (Y.2.1 20, 2, .inl fun _ => 0)), (q14, .inl (Y.2.1 20, 4, .inl fun _ => 0)), (q15, .inl (Y.2.1 20, 4, .inl fun _ => 0)), (q16, .inl (Y.2.1 20, 3200, .inl fun _ => 0)), (q17, .inl (Y.2.1 20, 3200, .inl fun _ => 0)), (q18, .inl (Y.2.1 21, 14, .inr (.inl fun _ => 0))), (q19, .inl (Y.2.1 21, 12, .inr (.inl fun _ => 0))), (q20, .inl (Y.2.1 20, 20, .inl fun _ => 0)), (q21, .inl (Y.2.1 20, 20, .inl fun _ => 0)), (q22, .inl (Y.2.1 22, 20, .inl fun _ => 0)), (q23, .inl (Y.2.1 20, 20, .inl fun _ => 0)), (q24, .inl (Y.2.1 20, 20, .inl fun _ => 0)), (q25, .inl (Y.2.1 20, 500, .inl fun _ => 0)), (q26, .inl (Y.2.1 20, 6, .inl fun _ => 0)), (q27, .inl (Y.2.1 20, 22, .inl fun _ => 0)), (q28, .inl (Y.2.1 20, 132, .inl fun _ => 0)), (q29, .inl (Y.2.1 20, 22, .inl fun _ => 0)), (q30, .inl (Y.2.1 20, 22, .inl fun _ => 0)), (q31, .inl (Y.2.1 20, 594, .inl fun _ => 0)), (q32, .inl (Y.2.1 20, 22, .inl fun _ => 0)), (q33, .inl (Y.2.1 20, 2640, .inl fun _ => 0)), (q34, .inl (Y.2.1 21, 500, .inr (.inl fun _ => 0))), (q35, .inl (Y.2.1 20, 12, .inl fun _ => 0)), (q36, .inl (Y.2.1 20, 54, .inl fun _ => 0)), (q37, .inl (Y.2.1 20, 16, .inl fun _ => 0)), (q38, .inl (Y.2.1 20, 16, .inl fun _ => 0)), (q39, .inl (Y.2.1 20, 16, .inl fun _ => 0))] := by subst e40 e39 e38 e37 e36 e35 y56_34; rfl
  clear e40 e39 e38 e37 e36 e35 y56_34
  refine k_aload (q := 0) C dX12_init_444 rfl rfl ?_
  refine k_sipush (v := 441) C dX12_init_445 (by decide +kernel) ?_
  refine k_arrput (N := 441) (t0 := 0) (a0 := (441, .inl fun _ => 0)) (k' := 41) (n' := 13629) C hm aw_int rfl rfl (ac_int 441) rfl (by decide) (by decide) dX12_init_448 fX12_207 pf12_207 dX12_init_450 (fun _ => rfl) (fun _ => rfl) l64 (by decide) rfl rfl (by decide) (by decide) (fun q40 f65 r41 l65 g65 e41 => ?_)
  refine k_aload (q := 0) C dX12_init_453 rfl rfl ?_
  refine k_bipush (v := 60) C dX12_init_454 (by decide +kernel) ?_
  refine k_arrput (N := 60) (t0 := 0) (a0 := (60, .inl fun _ => 0)) (k' := 42) (n' := 13689) C hm aw_int rfl rfl (ac_int 60) rfl (by decide) (by decide) dX12_init_456 fX12_210 pf12_210 dX12_init_458 (fun _ => rfl) (fun _ => rfl) l65 (by decide) rfl rfl (by decide) (by decide) (fun q41 f66 r42 l66 g66 e42 => ?_)
  refine k_aload (q := 0) C dX12_init_461 rfl rfl ?_
  refine k_iconst C dX12_init_462 ?_
  refine k_intput C fX12_213 pX12_213 dX12_init_463 rfl rfl l66 (by decide) (fun f67 l67 g67 => ?_)
  have z67 : f67 = [.ref q0, vI (0), vI (0), vI (0), vI (0), vI (0), vI (0), vL (0), vI (0), vI (-1), vI (0), vI (-1), vI (-1), vI (0), .ref q1, .ref q2, .ref q3, .ref q4, .ref q5, .ref q6, .ref q7, .ref q8, .ref q9, .ref q10, .ref q11, .ref q12, .ref q13, .ref q14, .ref q15, .ref q16, .ref q17, .ref q18, .ref q19, vI (0), vI (1), vI (0), .ref q20, .ref q21, .ref q22, .ref q23, .ref q24, vI (0), vI (0), .ref q25, vI (0), vI (0), .ref q26, .ref q27, .ref q28, .ref q29, .ref q30, .ref q31, .ref q32, .ref q33, vI (0), vI (0), vL (1), .ref q34, .ref q35, .ref q36, vI (0), .ref q37, .ref q38, .ref q39, .ref q40, .ref q41, vI (0)] := by subst g67 g66 g65 z64; rfl
  clear g67 g66 g65 z64
  have y67_42 : r42 = [(q0, .inl (Y.2.1 20, 1800, .inl fun _ => 0)), (q1, .inl (Y.2.1 20, 2, .inl fun _ => 0)), (q2, .inl (Y.2.1 20, 2, .inl fun _ => 0)), (q3, .inl (Y.2.1 20, 98, .inl fun _ => 0)), (q4, .inl (Y.2.1 20, 98, .inl fun _ => 0)), (q5, .inl (Y.2.1 20, 2, .inl fun _ => 0)), (q6, .inl (Y.2.1 20, 12, .inl fun _ => 0)), (q7, .inl (Y.2.1 20, 12, .inl fun _ => 0)), (q8, .inl (Y.2.1 20, 2, .inl fun _ => 0)), (q9, .inl (Y.2.1 20, 2, .inl fun _ => 0)), (q10, .inl (Y.2.1 20, 16, .inl fun _ => 0)), (q11, .inl (Y.2.1 20, 16, .inl fun _ => 0)), (q12, .inl (Y.2.1 20, 16, .inl fun _ => 0)), (q13, .inl (Y.2.1 20, 2, .inl fun _ => 0)), (q14, .inl (Y.2.1 20, 4, .inl fun _ => 0)), (q15, .inl (Y.2.1 20, 4, .inl fun _ => 0)), (q16, .inl (Y.2.1 20, 3200, .inl fun _ => 0)), (q17, .inl (Y.2.1 20, 3200, .inl fun _ => 0)), (q18, .inl (Y.2.1 21, 14, .inr (.inl fun _ => 0))), (q19, .inl (Y.2.1 21, 12, .inr (.inl fun _ => 0))), (q20, .inl (Y.2.1 20, 20, .inl fun _ => 0)), (q21, .inl (Y.2.1 20, 20, .inl fun _ => 0)), (q22, .inl (Y.2.1 22, 20, .inl fun _ => 0)), (q23, .inl (Y.2.1 20, 20, .inl fun _ => 0)), (q24, .inl (Y.2.1 20, 20, .inl fun _ => 0)), (q25, .inl (Y.2.1 20, 500, .inl fun _ => 0)), (q26, .inl (Y.2.1 20, 6, .inl fun _ => 0)), (q27, .inl (Y.2.1 20, 22, .inl fun _ => 0)), (q28, .inl (Y.2.1 20, 132, .inl fun _ => 0)), (q29, .inl (Y.2.1 20, 22, .inl fun _ => 0)), (q30, .inl (Y.2.1 20, 22, .inl fun _ => 0)), (q31, .inl (Y.2.1 20, 594, .inl fun _ => 0)), (q32, .inl (Y.2.1 20, 22, .inl fun _ => 0)), (q33, .inl (Y.2.1 20, 2640, .inl fun _ => 0)), (q34, .inl (Y.2.1 21, 500, .inr (.inl fun _ => 0))), (q35, .inl (Y.2.1 20, 12, .inl fun _ => 0)), (q36, .inl (Y.2.1 20, 54, .inl fun _ => 0)), (q37, .inl (Y.2.1 20, 16, .inl fun _ => 0)), (q38, .inl (Y.2.1 20, 16, .inl fun _ => 0)), (q39, .inl (Y.2.1 20, 16, .inl fun _ => 0)), (q40, .inl (Y.2.1 20, 441, .inl fun _ => 0)), (q41, .inl (Y.2.1 20, 60, .inl fun _ => 0))] := by subst e42 e41 y64_40; rfl
  clear e42 e41 y64_40
  have zr := y67_42
  refine k_iconst C dX12_init_466 ?_
  refine k_istore (lv' := [(1, vI 0), (0, .ref h0)]) C dX12_init_467 rfl (by decide) rfl ?_
  obtain ⟨w, hw⟩ : ∃ w : va_W, w = (h0, .inr (12, f67)) :: r42 := ⟨_, rfl⟩
  have w0 : w[0]? = some (h0, .inr (12, f67)) := by rw [hw]; rfl
  have w1 : w[15]? = some (q14, .inl (Y.2.1 20, 4, .inl fun _ => 0)) := by rw [hw, zr]; rfl
  have wf : f67[27]? = some (.ref q14) := by rw [z67]; rfl
  rw [← hw]
  refine m_fill C w0 wf w1 ?_
  exact k_ret (fun j => ([q0, q1, q2, q3, q4, q5, q6, q7, q8, q9, q10, q11, q12, q13, q14, q15, q16, q17, q18, q19, q20, q21, q22, q23, q24, q25, q26, q27, q28, q29, q30, q31, q32, q33, q34, q35, q36, q37, q38, q39, q40, q41] : List Nat).getD j 0) C hR dX12_init_486 (by rw [hw, zr, z67]; rfl) (by decide) (by decide)
