theorem dX10_init_0 : decode cX10_init 0 = .ok (.aload_n 0, 1) := by decide +kernel
theorem dX10_init_1 : decode cX10_init 1 = .ok (.invokespecial 1, 3) := by decide +kernel
theorem dX10_init_4 : decode cX10_init 4 = .ok (.aload_n 0, 1) := by decide +kernel
theorem dX10_init_5 : decode cX10_init 5 = .ok (.sipush 2000, 3) := by decide +kernel
theorem dX10_init_8 : decode cX10_init 8 = .ok (.putfield 7, 3) := by decide +kernel
theorem dX10_init_11 : decode cX10_init 11 = .ok (.aload_n 0, 1) := by decide +kernel
theorem dX10_init_12 : decode cX10_init 12 = .ok (.iconst 4, 1) := by decide +kernel
theorem dX10_init_13 : decode cX10_init 13 = .ok (.putfield 13, 3) := by decide +kernel
theorem dX10_init_16 : decode cX10_init 16 = .ok (.aload_n 0, 1) := by decide +kernel
theorem dX10_init_17 : decode cX10_init 17 = .ok (.bipush 20, 2) := by decide +kernel
theorem dX10_init_19 : decode cX10_init 19 = .ok (.putfield 16, 3) := by decide +kernel
theorem dX10_init_22 : decode cX10_init 22 = .ok (.aload_n 0, 1) := by decide +kernel
theorem dX10_init_23 : decode cX10_init 23 = .ok (.sipush 200, 3) := by decide +kernel
theorem dX10_init_26 : decode cX10_init 26 = .ok (.putfield 19, 3) := by decide +kernel
theorem dX10_init_29 : decode cX10_init 29 = .ok (.aload_n 0, 1) := by decide +kernel
theorem dX10_init_30 : decode cX10_init 30 = .ok (.iconst 1, 1) := by decide +kernel
theorem dX10_init_31 : decode cX10_init 31 = .ok (.putfield 22, 3) := by decide +kernel
theorem dX10_init_34 : decode cX10_init 34 = .ok (.aload_n 0, 1) := by decide +kernel
theorem dX10_init_35 : decode cX10_init 35 = .ok (.iconst (-1), 1) := by decide +kernel
theorem dX10_init_36 : decode cX10_init 36 = .ok (.putfield 25, 3) := by decide +kernel
theorem dX10_init_39 : decode cX10_init 39 = .ok (.aload_n 0, 1) := by decide +kernel
theorem dX10_init_40 : decode cX10_init 40 = .ok (.bipush 8, 2) := by decide +kernel
theorem dX10_init_42 : decode cX10_init 42 = .ok (.newarray .int, 2) := by decide +kernel
theorem dX10_init_44 : decode cX10_init 44 = .ok (.putfield 28, 3) := by decide +kernel
theorem dX10_init_47 : decode cX10_init 47 = .ok (.aload_n 0, 1) := by decide +kernel
theorem dX10_init_48 : decode cX10_init 48 = .ok (.bipush 12, 2) := by decide +kernel
theorem dX10_init_50 : decode cX10_init 50 = .ok (.newarray .int, 2) := by decide +kernel
theorem dX10_init_52 : decode cX10_init 52 = .ok (.dup, 1) := by decide +kernel
theorem dX10_init_53 : decode cX10_init 53 = .ok (.iconst 0, 1) := by decide +kernel
theorem dX10_init_54 : decode cX10_init 54 = .ok (.sipush 1000, 3) := by decide +kernel
theorem dX10_init_57 : decode cX10_init 57 = .ok (.iastore, 1) := by decide +kernel
theorem dX10_init_58 : decode cX10_init 58 = .ok (.dup, 1) := by decide +kernel
theorem dX10_init_59 : decode cX10_init 59 = .ok (.iconst 1, 1) := by decide +kernel
theorem dX10_init_60 : decode cX10_init 60 = .ok (.sipush 1059, 3) := by decide +kernel
theorem dX10_init_63 : decode cX10_init 63 = .ok (.iastore, 1) := by decide +kernel
theorem dX10_init_64 : decode cX10_init 64 = .ok (.dup, 1) := by decide +kernel
theorem dX10_init_65 : decode cX10_init 65 = .ok (.iconst 2, 1) := by decide +kernel
theorem dX10_init_66 : decode cX10_init 66 = .ok (.sipush 1122, 3) := by decide +kernel
theorem dX10_init_69 : decode cX10_init 69 = .ok (.iastore, 1) := by decide +kernel
theorem dX10_init_70 : decode cX10_init 70 = .ok (.dup, 1) := by decide +kernel
theorem dX10_init_71 : decode cX10_init 71 = .ok (.iconst 3, 1) := by decide +kernel
theorem dX10_init_72 : decode cX10_init 72 = .ok (.sipush 1189, 3) := by decide +kernel
theorem dX10_init_75 : decode cX10_init 75 = .ok (.iastore, 1) := by decide +kernel
theorem dX10_init_76 : decode cX10_init 76 = .ok (.dup, 1) := by decide +kernel
theorem dX10_init_77 : decode cX10_init 77 = .ok (.iconst 4, 1) := by decide +kernel
theorem dX10_init_78 : decode cX10_init 78 = .ok (.sipush 1260, 3) := by decide +kernel
theorem dX10_init_81 : decode cX10_init 81 = .ok (.iastore, 1) := by decide +kernel
theorem dX10_init_82 : decode cX10_init 82 = .ok (.dup, 1) := by decide +kernel
theorem dX10_init_83 : decode cX10_init 83 = .ok (.iconst 5, 1) := by decide +kernel
theorem dX10_init_84 : decode cX10_init 84 = .ok (.sipush 1335, 3) := by decide +kernel
theorem dX10_init_87 : decode cX10_init 87 = .ok (.iastore, 1) := by decide +kernel
theorem dX10_init_88 : decode cX10_init 88 = .ok (.dup, 1) := by decide +kernel
theorem dX10_init_89 : decode cX10_init 89 = .ok (.bipush 6, 2) := by decide +kernel
theorem dX10_init_91 : decode cX10_init 91 = .ok (.sipush 1414, 3) := by decide +kernel
theorem dX10_init_94 : decode cX10_init 94 = .ok (.iastore, 1) := by decide +kernel
theorem dX10_init_95 : decode cX10_init 95 = .ok (.dup, 1) := by decide +kernel
theorem dX10_init_96 : decode cX10_init 96 = .ok (.bipush 7, 2) := by decide +kernel
theorem dX10_init_98 : decode cX10_init 98 = .ok (.sipush 1498, 3) := by decide +kernel
theorem dX10_init_101 : decode cX10_init 101 = .ok (.iastore, 1) := by decide +kernel
theorem dX10_init_102 : decode cX10_init 102 = .ok (.dup, 1) := by decide +kernel
theorem dX10_init_103 : decode cX10_init 103 = .ok (.bipush 8, 2) := by decide +kernel
theorem dX10_init_105 : decode cX10_init 105 = .ok (.sipush 1587, 3) := by decide +kernel
theorem dX10_init_108 : decode cX10_init 108 = .ok (.iastore, 1) := by decide +kernel
theorem dX10_init_109 : decode cX10_init 109 = .ok (.dup, 1) := by decide +kernel
theorem dX10_init_110 : decode cX10_init 110 = .ok (.bipush 9, 2) := by decide +kernel
theorem dX10_init_112 : decode cX10_init 112 = .ok (.sipush 1682, 3) := by decide +kernel
theorem dX10_init_115 : decode cX10_init 115 = .ok (.iastore, 1) := by decide +kernel
theorem dX10_init_116 : decode cX10_init 116 = .ok (.dup, 1) := by decide +kernel
theorem dX10_init_117 : decode cX10_init 117 = .ok (.bipush 10, 2) := by decide +kernel
theorem dX10_init_119 : decode cX10_init 119 = .ok (.sipush 1782, 3) := by decide +kernel
theorem dX10_init_122 : decode cX10_init 122 = .ok (.iastore, 1) := by decide +kernel
theorem dX10_init_123 : decode cX10_init 123 = .ok (.dup, 1) := by decide +kernel
theorem dX10_init_124 : decode cX10_init 124 = .ok (.bipush 11, 2) := by decide +kernel
theorem dX10_init_126 : decode cX10_init 126 = .ok (.sipush 1888, 3) := by decide +kernel
theorem dX10_init_129 : decode cX10_init 129 = .ok (.iastore, 1) := by decide +kernel
theorem dX10_init_130 : decode cX10_init 130 = .ok (.putfield 32, 3) := by decide +kernel
theorem dX10_init_133 : decode cX10_init 133 = .ok (.aload_n 0, 1) := by decide +kernel
theorem dX10_init_134 : decode cX10_init 134 = .ok (.bipush 16, 2) := by decide +kernel
theorem dX10_init_136 : decode cX10_init 136 = .ok (.newarray .int, 2) := by decide +kernel
theorem dX10_init_138 : decode cX10_init 138 = .ok (.putfield 35, 3) := by decide +kernel
theorem dX10_init_141 : decode cX10_init 141 = .ok (.aload_n 0, 1) := by decide +kernel
theorem dX10_init_142 : decode cX10_init 142 = .ok (.bipush 16, 2) := by decide +kernel
theorem dX10_init_144 : decode cX10_init 144 = .ok (.newarray .int, 2) := by decide +kernel
theorem dX10_init_146 : decode cX10_init 146 = .ok (.putfield 38, 3) := by decide +kernel
theorem dX10_init_149 : decode cX10_init 149 = .ok (.aload_n 0, 1) := by decide +kernel
theorem dX10_init_150 : decode cX10_init 150 = .ok (.bipush 16, 2) := by decide +kernel
theorem dX10_init_152 : decode cX10_init 152 = .ok (.newarray .int, 2) := by decide +kernel
theorem dX10_init_154 : decode cX10_init 154 = .ok (.putfield 41, 3) := by decide +kernel
theorem dX10_init_157 : decode cX10_init 157 = .ok (.aload_n 0, 1) := by decide +kernel
theorem dX10_init_158 : decode cX10_init 158 = .ok (.bipush 16, 2) := by decide +kernel
theorem dX10_init_160 : decode cX10_init 160 = .ok (.newarray .int, 2) := by decide +kernel
theorem dX10_init_162 : decode cX10_init 162 = .ok (.putfield 44, 3) := by decide +kernel
theorem dX10_init_165 : decode cX10_init 165 = .ok (.aload_n 0, 1) := by decide +kernel
theorem dX10_init_166 : decode cX10_init 166 = .ok (.bipush 6, 2) := by decide +kernel
theorem dX10_init_168 : decode cX10_init 168 = .ok (.newarray .int, 2) := by decide +kernel
theorem dX10_init_170 : decode cX10_init 170 = .ok (.putfield 47, 3) := by decide +kernel
theorem dX10_init_173 : decode cX10_init 173 = .ok (.aload_n 0, 1) := by decide +kernel
theorem dX10_init_174 : decode cX10_init 174 = .ok (.bipush 6, 2) := by decide +kernel
theorem dX10_init_176 : decode cX10_init 176 = .ok (.newarray .int, 2) := by decide +kernel
theorem dX10_init_178 : decode cX10_init 178 = .ok (.putfield 50, 3) := by decide +kernel
theorem dX10_init_181 : decode cX10_init 181 = .ok (.aload_n 0, 1) := by decide +kernel
theorem dX10_init_182 : decode cX10_init 182 = .ok (.bipush 6, 2) := by decide +kernel
theorem dX10_init_184 : decode cX10_init 184 = .ok (.newarray .int, 2) := by decide +kernel
theorem dX10_init_186 : decode cX10_init 186 = .ok (.putfield 53, 3) := by decide +kernel
theorem dX10_init_189 : decode cX10_init 189 = .ok (.aload_n 0, 1) := by decide +kernel
theorem dX10_init_190 : decode cX10_init 190 = .ok (.bipush 6, 2) := by decide +kernel
theorem dX10_init_192 : decode cX10_init 192 = .ok (.newarray .int, 2) := by decide +kernel
theorem dX10_init_194 : decode cX10_init 194 = .ok (.putfield 56, 3) := by decide +kernel
theorem dX10_init_197 : decode cX10_init 197 = .ok (.aload_n 0, 1) := by decide +kernel
theorem dX10_init_198 : decode cX10_init 198 = .ok (.bipush 72, 2) := by decide +kernel
theorem dX10_init_200 : decode cX10_init 200 = .ok (.newarray .int, 2) := by decide +kernel
theorem dX10_init_202 : decode cX10_init 202 = .ok (.putfield 59, 3) := by decide +kernel
theorem dX10_init_205 : decode cX10_init 205 = .ok (.aload_n 0, 1) := by decide +kernel
theorem dX10_init_206 : decode cX10_init 206 = .ok (.bipush 72, 2) := by decide +kernel
theorem dX10_init_208 : decode cX10_init 208 = .ok (.newarray .int, 2) := by decide +kernel
theorem dX10_init_210 : decode cX10_init 210 = .ok (.putfield 62, 3) := by decide +kernel
theorem dX10_init_213 : decode cX10_init 213 = .ok (.aload_n 0, 1) := by decide +kernel
theorem dX10_init_214 : decode cX10_init 214 = .ok (.bipush 8, 2) := by decide +kernel
theorem dX10_init_216 : decode cX10_init 216 = .ok (.newarray .int, 2) := by decide +kernel
theorem dX10_init_218 : decode cX10_init 218 = .ok (.putfield 65, 3) := by decide +kernel
theorem dX10_init_221 : decode cX10_init 221 = .ok (.aload_n 0, 1) := by decide +kernel
theorem dX10_init_222 : decode cX10_init 222 = .ok (.bipush 8, 2) := by decide +kernel
theorem dX10_init_224 : decode cX10_init 224 = .ok (.newarray .int, 2) := by decide +kernel
theorem dX10_init_226 : decode cX10_init 226 = .ok (.putfield 68, 3) := by decide +kernel
theorem dX10_init_229 : decode cX10_init 229 = .ok (.aload_n 0, 1) := by decide +kernel
theorem dX10_init_230 : decode cX10_init 230 = .ok (.bipush 8, 2) := by decide +kernel
theorem dX10_init_232 : decode cX10_init 232 = .ok (.newarray .int, 2) := by decide +kernel
theorem dX10_init_234 : decode cX10_init 234 = .ok (.putfield 71, 3) := by decide +kernel
theorem dX10_init_237 : decode cX10_init 237 = .ok (.aload_n 0, 1) := by decide +kernel
theorem dX10_init_238 : decode cX10_init 238 = .ok (.bipush 8, 2) := by decide +kernel
theorem dX10_init_240 : decode cX10_init 240 = .ok (.newarray .int, 2) := by decide +kernel
theorem dX10_init_242 : decode cX10_init 242 = .ok (.putfield 74, 3) := by decide +kernel
theorem dX10_init_245 : decode cX10_init 245 = .ok (.aload_n 0, 1) := by decide +kernel
theorem dX10_init_246 : decode cX10_init 246 = .ok (.sipush 1280, 3) := by decide +kernel
theorem dX10_init_249 : decode cX10_init 249 = .ok (.newarray .long, 2) := by decide +kernel
theorem dX10_init_251 : decode cX10_init 251 = .ok (.putfield 77, 3) := by decide +kernel
theorem dX10_init_254 : decode cX10_init 254 = .ok (.aload_n 0, 1) := by decide +kernel
theorem dX10_init_255 : decode cX10_init 255 = .ok (.sipush 160, 3) := by decide +kernel
theorem dX10_init_258 : decode cX10_init 258 = .ok (.newarray .long, 2) := by decide +kernel
theorem dX10_init_260 : decode cX10_init 260 = .ok (.putfield 81, 3) := by decide +kernel
theorem dX10_init_263 : decode cX10_init 263 = .ok (.aload_n 0, 1) := by decide +kernel
theorem dX10_init_264 : decode cX10_init 264 = .ok (.bipush 79, 2) := by decide +kernel
theorem dX10_init_266 : decode cX10_init 266 = .ok (.newarray .int, 2) := by decide +kernel
theorem dX10_init_268 : decode cX10_init 268 = .ok (.dup, 1) := by decide +kernel
theorem dX10_init_269 : decode cX10_init 269 = .ok (.iconst 0, 1) := by decide +kernel
theorem dX10_init_270 : decode cX10_init 270 = .ok (.bipush 101, 2) := by decide +kernel
theorem dX10_init_272 : decode cX10_init 272 = .ok (.iastore, 1) := by decide +kernel
theorem dX10_init_273 : decode cX10_init 273 = .ok (.dup, 1) := by decide +kernel
theorem dX10_init_274 : decode cX10_init 274 = .ok (.iconst 1, 1) := by decide +kernel
theorem dX10_init_275 : decode cX10_init 275 = .ok (.bipush 118, 2) := by decide +kernel
theorem dX10_init_277 : decode cX10_init 277 = .ok (.iastore, 1) := by decide +kernel
theorem dX10_init_278 : decode cX10_init 278 = .ok (.dup, 1) := by decide +kernel
theorem dX10_init_279 : decode cX10_init 279 = .ok (.iconst 2, 1) := by decide +kernel
theorem dX10_init_280 : decode cX10_init 280 = .ok (.bipush 101, 2) := by decide +kernel
theorem dX10_init_282 : decode cX10_init 282 = .ok (.iastore, 1) := by decide +kernel
theorem dX10_init_283 : decode cX10_init 283 = .ok (.dup, 1) := by decide +kernel
theorem dX10_init_284 : decode cX10_init 284 = .ok (.iconst 3, 1) := by decide +kernel
theorem dX10_init_285 : decode cX10_init 285 = .ok (.bipush 110, 2) := by decide +kernel
theorem dX10_init_287 : decode cX10_init 287 = .ok (.iastore, 1) := by decide +kernel
theorem dX10_init_288 : decode cX10_init 288 = .ok (.dup, 1) := by decide +kernel
theorem dX10_init_289 : decode cX10_init 289 = .ok (.iconst 4, 1) := by decide +kernel
theorem dX10_init_290 : decode cX10_init 290 = .ok (.bipush 32, 2) := by decide +kernel
theorem dX10_init_292 : decode cX10_init 292 = .ok (.iastore, 1) := by decide +kernel
theorem dX10_init_293 : decode cX10_init 293 = .ok (.dup, 1) := by decide +kernel
theorem dX10_init_294 : decode cX10_init 294 = .ok (.iconst 5, 1) := by decide +kernel
theorem dX10_init_295 : decode cX10_init 295 = .ok (.iconst 0, 1) := by decide +kernel
theorem dX10_init_296 : decode cX10_init 296 = .ok (.iastore, 1) := by decide +kernel
theorem dX10_init_297 : decode cX10_init 297 = .ok (.dup, 1) := by decide +kernel
theorem dX10_init_298 : decode cX10_init 298 = .ok (.bipush 6, 2) := by decide +kernel
theorem dX10_init_300 : decode cX10_init 300 = .ok (.bipush 112, 2) := by decide +kernel
theorem dX10_init_302 : decode cX10_init 302 = .ok (.iastore, 1) := by decide +kernel
theorem dX10_init_303 : decode cX10_init 303 = .ok (.dup, 1) := by decide +kernel
theorem dX10_init_304 : decode cX10_init 304 = .ok (.bipush 7, 2) := by decide +kernel
theorem dX10_init_306 : decode cX10_init 306 = .ok (.bipush 97, 2) := by decide +kernel
theorem dX10_init_308 : decode cX10_init 308 = .ok (.iastore, 1) := by decide +kernel
theorem dX10_init_309 : decode cX10_init 309 = .ok (.dup, 1) := by decide +kernel
theorem dX10_init_310 : decode cX10_init 310 = .ok (.bipush 8, 2) := by decide +kernel
theorem dX10_init_312 : decode cX10_init 312 = .ok (.bipush 105, 2) := by decide +kernel
theorem dX10_init_314 : decode cX10_init 314 = .ok (.iastore, 1) := by decide +kernel
theorem dX10_init_315 : decode cX10_init 315 = .ok (.dup, 1) := by decide +kernel
theorem dX10_init_316 : decode cX10_init 316 = .ok (.bipush 9, 2) := by decide +kernel
theorem dX10_init_318 : decode cX10_init 318 = .ok (.bipush 114, 2) := by decide +kernel
theorem dX10_init_320 : decode cX10_init 320 = .ok (.iastore, 1) := by decide +kernel
theorem dX10_init_321 : decode cX10_init 321 = .ok (.dup, 1) := by decide +kernel
theorem dX10_init_322 : decode cX10_init 322 = .ok (.bipush 10, 2) := by decide +kernel
theorem dX10_init_324 : decode cX10_init 324 = .ok (.bipush 32, 2) := by decide +kernel
theorem dX10_init_326 : decode cX10_init 326 = .ok (.iastore, 1) := by decide +kernel
theorem dX10_init_327 : decode cX10_init 327 = .ok (.dup, 1) := by decide +kernel
theorem dX10_init_328 : decode cX10_init 328 = .ok (.bipush 11, 2) := by decide +kernel
theorem dX10_init_330 : decode cX10_init 330 = .ok (.iconst 0, 1) := by decide +kernel
theorem dX10_init_331 : decode cX10_init 331 = .ok (.iastore, 1) := by decide +kernel
theorem dX10_init_332 : decode cX10_init 332 = .ok (.dup, 1) := by decide +kernel
theorem dX10_init_333 : decode cX10_init 333 = .ok (.bipush 12, 2) := by decide +kernel
theorem dX10_init_335 : decode cX10_init 335 = .ok (.bipush 114, 2) := by decide +kernel
theorem dX10_init_337 : decode cX10_init 337 = .ok (.iastore, 1) := by decide +kernel
theorem dX10_init_338 : decode cX10_init 338 = .ok (.dup, 1) := by decide +kernel
theorem dX10_init_339 : decode cX10_init 339 = .ok (.bipush 13, 2) := by decide +kernel
theorem dX10_init_341 : decode cX10_init 341 = .ok (.bipush 101, 2) := by decide +kernel
theorem dX10_init_343 : decode cX10_init 343 = .ok (.iastore, 1) := by decide +kernel
theorem dX10_init_344 : decode cX10_init 344 = .ok (.dup, 1) := by decide +kernel
theorem dX10_init_345 : decode cX10_init 345 = .ok (.bipush 14, 2) := by decide +kernel
theorem dX10_init_347 : decode cX10_init 347 = .ok (.bipush 115, 2) := by decide +kernel
theorem dX10_init_349 : decode cX10_init 349 = .ok (.iastore, 1) := by decide +kernel
theorem dX10_init_350 : decode cX10_init 350 = .ok (.dup, 1) := by decide +kernel
theorem dX10_init_351 : decode cX10_init 351 = .ok (.bipush 15, 2) := by decide +kernel
theorem dX10_init_353 : decode cX10_init 353 = .ok (.bipush 116, 2) := by decide +kernel
theorem dX10_init_355 : decode cX10_init 355 = .ok (.iastore, 1) := by decide +kernel
theorem dX10_init_356 : decode cX10_init 356 = .ok (.dup, 1) := by decide +kernel
theorem dX10_init_357 : decode cX10_init 357 = .ok (.bipush 16, 2) := by decide +kernel
theorem dX10_init_359 : decode cX10_init 359 = .ok (.bipush 32, 2) := by decide +kernel
theorem dX10_init_361 : decode cX10_init 361 = .ok (.iastore, 1) := by decide +kernel
theorem dX10_init_362 : decode cX10_init 362 = .ok (.dup, 1) := by decide +kernel
theorem dX10_init_363 : decode cX10_init 363 = .ok (.bipush 17, 2) := by decide +kernel
theorem dX10_init_365 : decode cX10_init 365 = .ok (.iconst 0, 1) := by decide +kernel
theorem dX10_init_366 : decode cX10_init 366 = .ok (.iastore, 1) := by decide +kernel
theorem dX10_init_367 : decode cX10_init 367 = .ok (.dup, 1) := by decide +kernel
theorem dX10_init_368 : decode cX10_init 368 = .ok (.bipush 18, 2) := by decide +kernel
theorem dX10_init_370 : decode cX10_init 370 = .ok (.bipush 100, 2) := by decide +kernel
theorem dX10_init_372 : decode cX10_init 372 = .ok (.iastore, 1) := by decide +kernel
theorem dX10_init_373 : decode cX10_init 373 = .ok (.dup, 1) := by decide +kernel
theorem dX10_init_374 : decode cX10_init 374 = .ok (.bipush 19, 2) := by decide +kernel
theorem dX10_init_376 : decode cX10_init 376 = .ok (.bipush 101, 2) := by decide +kernel
theorem dX10_init_378 : decode cX10_init 378 = .ok (.iastore, 1) := by decide +kernel
theorem dX10_init_379 : decode cX10_init 379 = .ok (.dup, 1) := by decide +kernel
theorem dX10_init_380 : decode cX10_init 380 = .ok (.bipush 20, 2) := by decide +kernel
theorem dX10_init_382 : decode cX10_init 382 = .ok (.bipush 101, 2) := by decide +kernel
theorem dX10_init_384 : decode cX10_init 384 = .ok (.iastore, 1) := by decide +kernel
theorem dX10_init_385 : decode cX10_init 385 = .ok (.dup, 1) := by decide +kernel
theorem dX10_init_386 : decode cX10_init 386 = .ok (.bipush 21, 2) := by decide +kernel
theorem dX10_init_388 : decode cX10_init 388 = .ok (.bipush 112, 2) := by decide +kernel
theorem dX10_init_390 : decode cX10_init 390 = .ok (.iastore, 1) := by decide +kernel
theorem dX10_init_391 : decode cX10_init 391 = .ok (.dup, 1) := by decide +kernel
theorem dX10_init_392 : decode cX10_init 392 = .ok (.bipush 22, 2) := by decide +kernel
theorem dX10_init_394 : decode cX10_init 394 = .ok (.bipush 32, 2) := by decide +kernel
theorem dX10_init_396 : decode cX10_init 396 = .ok (.iastore, 1) := by decide +kernel
theorem dX10_init_397 : decode cX10_init 397 = .ok (.dup, 1) := by decide +kernel
theorem dX10_init_398 : decode cX10_init 398 = .ok (.bipush 23, 2) := by decide +kernel
theorem dX10_init_400 : decode cX10_init 400 = .ok (.iconst 0, 1) := by decide +kernel
theorem dX10_init_401 : decode cX10_init 401 = .ok (.iastore, 1) := by decide +kernel
theorem dX10_init_402 : decode cX10_init 402 = .ok (.dup, 1) := by decide +kernel
theorem dX10_init_403 : decode cX10_init 403 = .ok (.bipush 24, 2) := by decide +kernel
theorem dX10_init_405 : decode cX10_init 405 = .ok (.bipush 115, 2) := by decide +kernel
theorem dX10_init_407 : decode cX10_init 407 = .ok (.iastore, 1) := by decide +kernel
theorem dX10_init_408 : decode cX10_init 408 = .ok (.dup, 1) := by decide +kernel
theorem dX10_init_409 : decode cX10_init 409 = .ok (.bipush 25, 2) := by decide +kernel
theorem dX10_init_411 : decode cX10_init 411 = .ok (.bipush 108, 2) := by decide +kernel
theorem dX10_init_413 : decode cX10_init 413 = .ok (.iastore, 1) := by decide +kernel
theorem dX10_init_414 : decode cX10_init 414 = .ok (.dup, 1) := by decide +kernel
theorem dX10_init_415 : decode cX10_init 415 = .ok (.bipush 26, 2) := by decide +kernel
theorem dX10_init_417 : decode cX10_init 417 = .ok (.bipush 97, 2) := by decide +kernel
theorem dX10_init_419 : decode cX10_init 419 = .ok (.iastore, 1) := by decide +kernel
theorem dX10_init_420 : decode cX10_init 420 = .ok (.dup, 1) := by decide +kernel
theorem dX10_init_421 : decode cX10_init 421 = .ok (.bipush 27, 2) := by decide +kernel
theorem dX10_init_423 : decode cX10_init 423 = .ok (.bipush 110, 2) := by decide +kernel
theorem dX10_init_425 : decode cX10_init 425 = .ok (.iastore, 1) := by decide +kernel
theorem dX10_init_426 : decode cX10_init 426 = .ok (.dup, 1) := by decide +kernel
theorem dX10_init_427 : decode cX10_init 427 = .ok (.bipush 28, 2) := by decide +kernel
theorem dX10_init_429 : decode cX10_init 429 = .ok (.bipush 116, 2) := by decide +kernel
theorem dX10_init_431 : decode cX10_init 431 = .ok (.iastore, 1) := by decide +kernel
theorem dX10_init_432 : decode cX10_init 432 = .ok (.dup, 1) := by decide +kernel
theorem dX10_init_433 : decode cX10_init 433 = .ok (.bipush 29, 2) := by decide +kernel
theorem dX10_init_435 : decode cX10_init 435 = .ok (.bipush 32, 2) := by decide +kernel
theorem dX10_init_437 : decode cX10_init 437 = .ok (.iastore, 1) := by decide +kernel
theorem dX10_init_438 : decode cX10_init 438 = .ok (.dup, 1) := by decide +kernel
theorem dX10_init_439 : decode cX10_init 439 = .ok (.bipush 30, 2) := by decide +kernel
theorem dX10_init_441 : decode cX10_init 441 = .ok (.iconst 0, 1) := by decide +kernel
theorem dX10_init_442 : decode cX10_init 442 = .ok (.iastore, 1) := by decide +kernel
theorem dX10_init_443 : decode cX10_init 443 = .ok (.dup, 1) := by decide +kernel
theorem dX10_init_444 : decode cX10_init 444 = .ok (.bipush 31, 2) := by decide +kernel
theorem dX10_init_446 : decode cX10_init 446 = .ok (.bipush 116, 2) := by decide +kernel
theorem dX10_init_448 : decode cX10_init 448 = .ok (.iastore, 1) := by decide +kernel
theorem dX10_init_449 : decode cX10_init 449 = .ok (.dup, 1) := by decide +kernel
theorem dX10_init_450 : decode cX10_init 450 = .ok (.bipush 32, 2) := by decide +kernel
theorem dX10_init_452 : decode cX10_init 452 = .ok (.bipush 111, 2) := by decide +kernel
theorem dX10_init_454 : decode cX10_init 454 = .ok (.iastore, 1) := by decide +kernel
theorem dX10_init_455 : decode cX10_init 455 = .ok (.dup, 1) := by decide +kernel
theorem dX10_init_456 : decode cX10_init 456 = .ok (.bipush 33, 2) := by decide +kernel
theorem dX10_init_458 : decode cX10_init 458 = .ok (.bipush 108, 2) := by decide +kernel
theorem dX10_init_460 : decode cX10_init 460 = .ok (.iastore, 1) := by decide +kernel
theorem dX10_init_461 : decode cX10_init 461 = .ok (.dup, 1) := by decide +kernel
theorem dX10_init_462 : decode cX10_init 462 = .ok (.bipush 34, 2) := by decide +kernel
theorem dX10_init_464 : decode cX10_init 464 = .ok (.bipush 100, 2) := by decide +kernel
theorem dX10_init_466 : decode cX10_init 466 = .ok (.iastore, 1) := by decide +kernel
theorem dX10_init_467 : decode cX10_init 467 = .ok (.dup, 1) := by decide +kernel
theorem dX10_init_468 : decode cX10_init 468 = .ok (.bipush 35, 2) := by decide +kernel
theorem dX10_init_470 : decode cX10_init 470 = .ok (.bipush 32, 2) := by decide +kernel
theorem dX10_init_472 : decode cX10_init 472 = .ok (.iastore, 1) := by decide +kernel
theorem dX10_init_473 : decode cX10_init 473 = .ok (.dup, 1) := by decide +kernel
theorem dX10_init_474 : decode cX10_init 474 = .ok (.bipush 36, 2) := by decide +kernel
theorem dX10_init_476 : decode cX10_init 476 = .ok (.iconst 0, 1) := by decide +kernel
theorem dX10_init_477 : decode cX10_init 477 = .ok (.iastore, 1) := by decide +kernel
theorem dX10_init_478 : decode cX10_init 478 = .ok (.dup, 1) := by decide +kernel
theorem dX10_init_479 : decode cX10_init 479 = .ok (.bipush 37, 2) := by decide +kernel
theorem dX10_init_481 : decode cX10_init 481 = .ok (.bipush 99, 2) := by decide +kernel
theorem dX10_init_483 : decode cX10_init 483 = .ok (.iastore, 1) := by decide +kernel
theorem dX10_init_484 : decode cX10_init 484 = .ok (.dup, 1) := by decide +kernel
theorem dX10_init_485 : decode cX10_init 485 = .ok (.bipush 38, 2) := by decide +kernel
theorem dX10_init_487 : decode cX10_init 487 = .ok (.bipush 97, 2) := by decide +kernel
theorem dX10_init_489 : decode cX10_init 489 = .ok (.iastore, 1) := by decide +kernel
theorem dX10_init_490 : decode cX10_init 490 = .ok (.dup, 1) := by decide +kernel
theorem dX10_init_491 : decode cX10_init 491 = .ok (.bipush 39, 2) := by decide +kernel
theorem dX10_init_493 : decode cX10_init 493 = .ok (.bipush 114, 2) := by decide +kernel
theorem dX10_init_495 : decode cX10_init 495 = .ok (.iastore, 1) := by decide +kernel
theorem dX10_init_496 : decode cX10_init 496 = .ok (.dup, 1) := by decide +kernel
theorem dX10_init_497 : decode cX10_init 497 = .ok (.bipush 40, 2) := by decide +kernel
theorem dX10_init_499 : decode cX10_init 499 = .ok (.bipush 32, 2) := by decide +kernel
theorem dX10_init_501 : decode cX10_init 501 = .ok (.iastore, 1) := by decide +kernel
theorem dX10_init_502 : decode cX10_init 502 = .ok (.dup, 1) := by decide +kernel
theorem dX10_init_503 : decode cX10_init 503 = .ok (.bipush 41, 2) := by decide +kernel
theorem dX10_init_505 : decode cX10_init 505 = .ok (.iconst 0, 1) := by decide +kernel
theorem dX10_init_506 : decode cX10_init 506 = .ok (.iastore, 1) := by decide +kernel
theorem dX10_init_507 : decode cX10_init 507 = .ok (.dup, 1) := by decide +kernel
theorem dX10_init_508 : decode cX10_init 508 = .ok (.bipush 42, 2) := by decide +kernel
theorem dX10_init_510 : decode cX10_init 510 = .ok (.bipush 116, 2) := by decide +kernel
theorem dX10_init_512 : decode cX10_init 512 = .ok (.iastore, 1) := by decide +kernel
theorem dX10_init_513 : decode cX10_init 513 = .ok (.dup, 1) := by decide +kernel
theorem dX10_init_514 : decode cX10_init 514 = .ok (.bipush 43, 2) := by decide +kernel
theorem dX10_init_516 : decode cX10_init 516 = .ok (.bipush 117, 2) := by decide +kernel
theorem dX10_init_518 : decode cX10_init 518 = .ok (.iastore, 1) := by decide +kernel
theorem dX10_init_519 : decode cX10_init 519 = .ok (.dup, 1) := by decide +kernel
theorem dX10_init_520 : decode cX10_init 520 = .ok (.bipush 44, 2) := by decide +kernel
theorem dX10_init_522 : decode cX10_init 522 = .ok (.bipush 110, 2) := by decide +kernel
theorem dX10_init_524 : decode cX10_init 524 = .ok (.iastore, 1) := by decide +kernel
theorem dX10_init_525 : decode cX10_init 525 = .ok (.dup, 1) := by decide +kernel
theorem dX10_init_526 : decode cX10_init 526 = .ok (.bipush 45, 2) := by decide +kernel
theorem dX10_init_528 : decode cX10_init 528 = .ok (.bipush 101, 2) := by decide +kernel
theorem dX10_init_530 : decode cX10_init 530 = .ok (.iastore, 1) := by decide +kernel
theorem dX10_init_531 : decode cX10_init 531 = .ok (.dup, 1) := by decide +kernel
theorem dX10_init_532 : decode cX10_init 532 = .ok (.bipush 46, 2) := by decide +kernel
theorem dX10_init_534 : decode cX10_init 534 = .ok (.iconst 0, 1) := by decide +kernel
theorem dX10_init_535 : decode cX10_init 535 = .ok (.iastore, 1) := by decide +kernel
theorem dX10_init_536 : decode cX10_init 536 = .ok (.dup, 1) := by decide +kernel
theorem dX10_init_537 : decode cX10_init 537 = .ok (.bipush 47, 2) := by decide +kernel
theorem dX10_init_539 : decode cX10_init 539 = .ok (.bipush 110, 2) := by decide +kernel
theorem dX10_init_541 : decode cX10_init 541 = .ok (.iastore, 1) := by decide +kernel
theorem dX10_init_542 : decode cX10_init 542 = .ok (.dup, 1) := by decide +kernel
theorem dX10_init_543 : decode cX10_init 543 = .ok (.bipush 48, 2) := by decide +kernel
theorem dX10_init_545 : decode cX10_init 545 = .ok (.bipush 111, 2) := by decide +kernel
theorem dX10_init_547 : decode cX10_init 547 = .ok (.iastore, 1) := by decide +kernel
theorem dX10_init_548 : decode cX10_init 548 = .ok (.dup, 1) := by decide +kernel
theorem dX10_init_549 : decode cX10_init 549 = .ok (.bipush 49, 2) := by decide +kernel
theorem dX10_init_551 : decode cX10_init 551 = .ok (.bipush 116, 2) := by decide +kernel
theorem dX10_init_553 : decode cX10_init 553 = .ok (.iastore, 1) := by decide +kernel
theorem dX10_init_554 : decode cX10_init 554 = .ok (.dup, 1) := by decide +kernel
theorem dX10_init_555 : decode cX10_init 555 = .ok (.bipush 50, 2) := by decide +kernel
theorem dX10_init_557 : decode cX10_init 557 = .ok (.bipush 101, 2) := by decide +kernel
theorem dX10_init_559 : decode cX10_init 559 = .ok (.iastore, 1) := by decide +kernel
theorem dX10_init_560 : decode cX10_init 560 = .ok (.dup, 1) := by decide +kernel
theorem dX10_init_561 : decode cX10_init 561 = .ok (.bipush 51, 2) := by decide +kernel
theorem dX10_init_563 : decode cX10_init 563 = .ok (.bipush 32, 2) := by decide +kernel
theorem dX10_init_565 : decode cX10_init 565 = .ok (.iastore, 1) := by decide +kernel
theorem dX10_init_566 : decode cX10_init 566 = .ok (.dup, 1) := by decide +kernel
theorem dX10_init_567 : decode cX10_init 567 = .ok (.bipush 52, 2) := by decide +kernel
theorem dX10_init_569 : decode cX10_init 569 = .ok (.iconst 0, 1) := by decide +kernel
theorem dX10_init_570 : decode cX10_init 570 = .ok (.iastore, 1) := by decide +kernel
theorem dX10_init_571 : decode cX10_init 571 = .ok (.dup, 1) := by decide +kernel
theorem dX10_init_572 : decode cX10_init 572 = .ok (.bipush 53, 2) := by decide +kernel
theorem dX10_init_574 : decode cX10_init 574 = .ok (.bipush 108, 2) := by decide +kernel
theorem dX10_init_576 : decode cX10_init 576 = .ok (.iastore, 1) := by decide +kernel
theorem dX10_init_577 : decode cX10_init 577 = .ok (.dup, 1) := by decide +kernel
theorem dX10_init_578 : decode cX10_init 578 = .ok (.bipush 54, 2) := by decide +kernel
theorem dX10_init_580 : decode cX10_init 580 = .ok (.bipush 111, 2) := by decide +kernel
theorem dX10_init_582 : decode cX10_init 582 = .ok (.iastore, 1) := by decide +kernel
theorem dX10_init_583 : decode cX10_init 583 = .ok (.dup, 1) := by decide +kernel
theorem dX10_init_584 : decode cX10_init 584 = .ok (.bipush 55, 2) := by decide +kernel
theorem dX10_init_586 : decode cX10_init 586 = .ok (.bipush 110, 2) := by decide +kernel
theorem dX10_init_588 : decode cX10_init 588 = .ok (.iastore, 1) := by decide +kernel
theorem dX10_init_589 : decode cX10_init 589 = .ok (.dup, 1) := by decide +kernel
theorem dX10_init_590 : decode cX10_init 590 = .ok (.bipush 56, 2) := by decide +kernel
theorem dX10_init_592 : decode cX10_init 592 = .ok (.bipush 103, 2) := by decide +kernel
theorem dX10_init_594 : decode cX10_init 594 = .ok (.iastore, 1) := by decide +kernel
theorem dX10_init_595 : decode cX10_init 595 = .ok (.dup, 1) := by decide +kernel
theorem dX10_init_596 : decode cX10_init 596 = .ok (.bipush 57, 2) := by decide +kernel
theorem dX10_init_598 : decode cX10_init 598 = .ok (.bipush 32, 2) := by decide +kernel
theorem dX10_init_600 : decode cX10_init 600 = .ok (.iastore, 1) := by decide +kernel
theorem dX10_init_601 : decode cX10_init 601 = .ok (.dup, 1) := by decide +kernel
theorem dX10_init_602 : decode cX10_init 602 = .ok (.bipush 58, 2) := by decide +kernel
theorem dX10_init_604 : decode cX10_init 604 = .ok (.iconst 0, 1) := by decide +kernel
theorem dX10_init_605 : decode cX10_init 605 = .ok (.iastore, 1) := by decide +kernel
theorem dX10_init_606 : decode cX10_init 606 = .ok (.dup, 1) := by decide +kernel
theorem dX10_init_607 : decode cX10_init 607 = .ok (.bipush 59, 2) := by decide +kernel
theorem dX10_init_609 : decode cX10_init 609 = .ok (.bipush 110, 2) := by decide +kernel
theorem dX10_init_611 : decode cX10_init 611 = .ok (.iastore, 1) := by decide +kernel
theorem dX10_init_612 : decode cX10_init 612 = .ok (.dup, 1) := by decide +kernel
theorem dX10_init_613 : decode cX10_init 613 = .ok (.bipush 60, 2) := by decide +kernel
theorem dX10_init_615 : decode cX10_init 615 = .ok (.bipush 101, 2) := by decide +kernel
theorem dX10_init_617 : decode cX10_init 617 = .ok (.iastore, 1) := by decide +kernel
theorem dX10_init_618 : decode cX10_init 618 = .ok (.dup, 1) := by decide +kernel
theorem dX10_init_619 : decode cX10_init 619 = .ok (.bipush 61, 2) := by decide +kernel
theorem dX10_init_621 : decode cX10_init 621 = .ok (.bipush 97, 2) := by decide +kernel
theorem dX10_init_623 : decode cX10_init 623 = .ok (.iastore, 1) := by decide +kernel
theorem dX10_init_624 : decode cX10_init 624 = .ok (.dup, 1) := by decide +kernel
theorem dX10_init_625 : decode cX10_init 625 = .ok (.bipush 62, 2) := by decide +kernel
theorem dX10_init_627 : decode cX10_init 627 = .ok (.bipush 114, 2) := by decide +kernel
theorem dX10_init_629 : decode cX10_init 629 = .ok (.iastore, 1) := by decide +kernel
theorem dX10_init_630 : decode cX10_init 630 = .ok (.dup, 1) := by decide +kernel
theorem dX10_init_631 : decode cX10_init 631 = .ok (.bipush 63, 2) := by decide +kernel
theorem dX10_init_633 : decode cX10_init 633 = .ok (.bipush 32, 2) := by decide +kernel
theorem dX10_init_635 : decode cX10_init 635 = .ok (.iastore, 1) := by decide +kernel
theorem dX10_init_636 : decode cX10_init 636 = .ok (.dup, 1) := by decide +kernel
theorem dX10_init_637 : decode cX10_init 637 = .ok (.bipush 64, 2) := by decide +kernel
theorem dX10_init_639 : decode cX10_init 639 = .ok (.iconst 0, 1) := by decide +kernel
theorem dX10_init_640 : decode cX10_init 640 = .ok (.iastore, 1) := by decide +kernel
theorem dX10_init_641 : decode cX10_init 641 = .ok (.dup, 1) := by decide +kernel
theorem dX10_init_642 : decode cX10_init 642 = .ok (.bipush 65, 2) := by decide +kernel
theorem dX10_init_644 : decode cX10_init 644 = .ok (.bipush 98, 2) := by decide +kernel
theorem dX10_init_646 : decode cX10_init 646 = .ok (.iastore, 1) := by decide +kernel
theorem dX10_init_647 : decode cX10_init 647 = .ok (.dup, 1) := by decide +kernel
theorem dX10_init_648 : decode cX10_init 648 = .ok (.bipush 66, 2) := by decide +kernel
theorem dX10_init_650 : decode cX10_init 650 = .ok (.bipush 111, 2) := by decide +kernel
theorem dX10_init_652 : decode cX10_init 652 = .ok (.iastore, 1) := by decide +kernel
theorem dX10_init_653 : decode cX10_init 653 = .ok (.dup, 1) := by decide +kernel
theorem dX10_init_654 : decode cX10_init 654 = .ok (.bipush 67, 2) := by decide +kernel
theorem dX10_init_656 : decode cX10_init 656 = .ok (.bipush 114, 2) := by decide +kernel
theorem dX10_init_658 : decode cX10_init 658 = .ok (.iastore, 1) := by decide +kernel
theorem dX10_init_659 : decode cX10_init 659 = .ok (.dup, 1) := by decide +kernel
theorem dX10_init_660 : decode cX10_init 660 = .ok (.bipush 68, 2) := by decide +kernel
theorem dX10_init_662 : decode cX10_init 662 = .ok (.bipush 110, 2) := by decide +kernel
theorem dX10_init_664 : decode cX10_init 664 = .ok (.iastore, 1) := by decide +kernel
theorem dX10_init_665 : decode cX10_init 665 = .ok (.dup, 1) := by decide +kernel
theorem dX10_init_666 : decode cX10_init 666 = .ok (.bipush 69, 2) := by decide +kernel
theorem dX10_init_668 : decode cX10_init 668 = .ok (.bipush 101, 2) := by decide +kernel
theorem dX10_init_670 : decode cX10_init 670 = .ok (.iastore, 1) := by decide +kernel
theorem dX10_init_671 : decode cX10_init 671 = .ok (.dup, 1) := by decide +kernel
theorem dX10_init_672 : decode cX10_init 672 = .ok (.bipush 70, 2) := by decide +kernel
theorem dX10_init_674 : decode cX10_init 674 = .ok (.bipush 32, 2) := by decide +kernel
theorem dX10_init_676 : decode cX10_init 676 = .ok (.iastore, 1) := by decide +kernel
theorem dX10_init_677 : decode cX10_init 677 = .ok (.dup, 1) := by decide +kernel
theorem dX10_init_678 : decode cX10_init 678 = .ok (.bipush 71, 2) := by decide +kernel
theorem dX10_init_680 : decode cX10_init 680 = .ok (.iconst 0, 1) := by decide +kernel
theorem dX10_init_681 : decode cX10_init 681 = .ok (.iastore, 1) := by decide +kernel
theorem dX10_init_682 : decode cX10_init 682 = .ok (.dup, 1) := by decide +kernel
theorem dX10_init_683 : decode cX10_init 683 = .ok (.bipush 72, 2) := by decide +kernel
theorem dX10_init_685 : decode cX10_init 685 = .ok (.bipush 116, 2) := by decide +kernel
theorem dX10_init_687 : decode cX10_init 687 = .ok (.iastore, 1) := by decide +kernel
theorem dX10_init_688 : decode cX10_init 688 = .ok (.dup, 1) := by decide +kernel
theorem dX10_init_689 : decode cX10_init 689 = .ok (.bipush 73, 2) := by decide +kernel
theorem dX10_init_691 : decode cX10_init 691 = .ok (.bipush 101, 2) := by decide +kernel
theorem dX10_init_693 : decode cX10_init 693 = .ok (.iastore, 1) := by decide +kernel
theorem dX10_init_694 : decode cX10_init 694 = .ok (.dup, 1) := by decide +kernel
theorem dX10_init_695 : decode cX10_init 695 = .ok (.bipush 74, 2) := by decide +kernel
theorem dX10_init_697 : decode cX10_init 697 = .ok (.bipush 109, 2) := by decide +kernel
theorem dX10_init_699 : decode cX10_init 699 = .ok (.iastore, 1) := by decide +kernel
theorem dX10_init_700 : decode cX10_init 700 = .ok (.dup, 1) := by decide +kernel
theorem dX10_init_701 : decode cX10_init 701 = .ok (.bipush 75, 2) := by decide +kernel
theorem dX10_init_703 : decode cX10_init 703 = .ok (.bipush 112, 2) := by decide +kernel
theorem dX10_init_705 : decode cX10_init 705 = .ok (.iastore, 1) := by decide +kernel
theorem dX10_init_706 : decode cX10_init 706 = .ok (.dup, 1) := by decide +kernel
theorem dX10_init_707 : decode cX10_init 707 = .ok (.bipush 76, 2) := by decide +kernel
theorem dX10_init_709 : decode cX10_init 709 = .ok (.bipush 111, 2) := by decide +kernel
theorem dX10_init_711 : decode cX10_init 711 = .ok (.iastore, 1) := by decide +kernel
theorem dX10_init_712 : decode cX10_init 712 = .ok (.dup, 1) := by decide +kernel
theorem dX10_init_713 : decode cX10_init 713 = .ok (.bipush 77, 2) := by decide +kernel
theorem dX10_init_715 : decode cX10_init 715 = .ok (.bipush 32, 2) := by decide +kernel
theorem dX10_init_717 : decode cX10_init 717 = .ok (.iastore, 1) := by decide +kernel
theorem dX10_init_718 : decode cX10_init 718 = .ok (.dup, 1) := by decide +kernel
theorem dX10_init_719 : decode cX10_init 719 = .ok (.bipush 78, 2) := by decide +kernel
theorem dX10_init_721 : decode cX10_init 721 = .ok (.iconst 0, 1) := by decide +kernel
theorem dX10_init_722 : decode cX10_init 722 = .ok (.iastore, 1) := by decide +kernel
theorem dX10_init_723 : decode cX10_init 723 = .ok (.putfield 84, 3) := by decide +kernel
theorem dX10_init_726 : decode cX10_init 726 = .ok (.aload_n 0, 1) := by decide +kernel
theorem dX10_init_727 : decode cX10_init 727 = .ok (.iconst 3, 1) := by decide +kernel
theorem dX10_init_728 : decode cX10_init 728 = .ok (.newarray .int, 2) := by decide +kernel
theorem dX10_init_730 : decode cX10_init 730 = .ok (.putfield 87, 3) := by decide +kernel
theorem dX10_init_733 : decode cX10_init 733 = .ok (.aload_n 0, 1) := by decide +kernel
theorem dX10_init_734 : decode cX10_init 734 = .ok (.sipush 240, 3) := by decide +kernel
theorem dX10_init_737 : decode cX10_init 737 = .ok (.newarray .int, 2) := by decide +kernel
theorem dX10_init_739 : decode cX10_init 739 = .ok (.putfield 90, 3) := by decide +kernel
theorem dX10_init_742 : decode cX10_init 742 = .ok (.aload_n 0, 1) := by decide +kernel
theorem dX10_init_743 : decode cX10_init 743 = .ok (.sipush 240, 3) := by decide +kernel
theorem dX10_init_746 : decode cX10_init 746 = .ok (.newarray .int, 2) := by decide +kernel
theorem dX10_init_748 : decode cX10_init 748 = .ok (.putfield 93, 3) := by decide +kernel
theorem dX10_init_751 : decode cX10_init 751 = .ok (.aload_n 0, 1) := by decide +kernel
theorem dX10_init_752 : decode cX10_init 752 = .ok (.bipush 12, 2) := by decide +kernel
theorem dX10_init_754 : decode cX10_init 754 = .ok (.newarray .int, 2) := by decide +kernel
theorem dX10_init_756 : decode cX10_init 756 = .ok (.putfield 96, 3) := by decide +kernel
theorem dX10_init_759 : decode cX10_init 759 = .ok (.aload_n 0, 1) := by decide +kernel
theorem dX10_init_760 : decode cX10_init 760 = .ok (.bipush 12, 2) := by decide +kernel
theorem dX10_init_762 : decode cX10_init 762 = .ok (.newarray .int, 2) := by decide +kernel
theorem dX10_init_764 : decode cX10_init 764 = .ok (.putfield 99, 3) := by decide +kernel
theorem dX10_init_767 : decode cX10_init 767 = .ok (.aload_n 0, 1) := by decide +kernel
theorem dX10_init_768 : decode cX10_init 768 = .ok (.bipush 12, 2) := by decide +kernel
theorem dX10_init_770 : decode cX10_init 770 = .ok (.newarray .int, 2) := by decide +kernel
theorem dX10_init_772 : decode cX10_init 772 = .ok (.putfield 102, 3) := by decide +kernel
theorem dX10_init_775 : decode cX10_init 775 = .ok (.aload_n 0, 1) := by decide +kernel
theorem dX10_init_776 : decode cX10_init 776 = .ok (.bipush 20, 2) := by decide +kernel
theorem dX10_init_778 : decode cX10_init 778 = .ok (.newarray .int, 2) := by decide +kernel
theorem dX10_init_780 : decode cX10_init 780 = .ok (.putfield 105, 3) := by decide +kernel
theorem dX10_init_783 : decode cX10_init 783 = .ok (.return_, 1) := by decide +kernel
theorem dX10_no_0 : decode cX10_no 0 = .ok (.aload_n 0, 1) := by decide +kernel
theorem dX10_no_1 : decode cX10_no 1 = .ok (.getfield 28, 3) := by decide +kernel
theorem dX10_no_4 : decode cX10_no 4 = .ok (.iload_n 1, 1) := by decide +kernel
theorem dX10_no_5 : decode cX10_no 5 = .ok (.ineg, 1) := by decide +kernel
theorem dX10_no_6 : decode cX10_no 6 = .ok (.dup2, 1) := by decide +kernel
theorem dX10_no_7 : decode cX10_no 7 = .ok (.iaload, 1) := by decide +kernel
theorem dX10_no_8 : decode cX10_no 8 = .ok (.iconst 1, 1) := by decide +kernel
theorem dX10_no_9 : decode cX10_no 9 = .ok (.iadd, 1) := by decide +kernel
theorem dX10_no_10 : decode cX10_no 10 = .ok (.iastore, 1) := by decide +kernel
theorem dX10_no_11 : decode cX10_no 11 = .ok (.iload_n 1, 1) := by decide +kernel
theorem dX10_no_12 : decode cX10_no 12 = .ok (.ireturn, 1) := by decide +kernel
theorem dX10_noTen_0 : decode cX10_noTen 0 = .ok (.aload_n 0, 1) := by decide +kernel
theorem dX10_noTen_1 : decode cX10_noTen 1 = .ok (.getfield 28, 3) := by decide +kernel
theorem dX10_noTen_4 : decode cX10_noTen 4 = .ok (.iload_n 1, 1) := by decide +kernel
theorem dX10_noTen_5 : decode cX10_noTen 5 = .ok (.ineg, 1) := by decide +kernel
theorem dX10_noTen_6 : decode cX10_noTen 6 = .ok (.dup2, 1) := by decide +kernel
theorem dX10_noTen_7 : decode cX10_noTen 7 = .ok (.iaload, 1) := by decide +kernel
theorem dX10_noTen_8 : decode cX10_noTen 8 = .ok (.iconst 1, 1) := by decide +kernel
theorem dX10_noTen_9 : decode cX10_noTen 9 = .ok (.iadd, 1) := by decide +kernel
theorem dX10_noTen_10 : decode cX10_noTen 10 = .ok (.iastore, 1) := by decide +kernel
theorem dX10_noTen_11 : decode cX10_noTen 11 = .ok (.iload_n 1, 1) := by decide +kernel
theorem dX10_noTen_12 : decode cX10_noTen 12 = .ok (.bipush 10, 2) := by decide +kernel
theorem dX10_noTen_14 : decode cX10_noTen 14 = .ok (.isub, 1) := by decide +kernel
theorem dX10_noTen_15 : decode cX10_noTen 15 = .ok (.ireturn, 1) := by decide +kernel
theorem dX10_isShelf_0 : decode cX10_isShelf 0 = .ok (.iload_n 1, 1) := by decide +kernel
theorem dX10_isShelf_1 : decode cX10_isShelf 1 = .ok (.ifCond .lt 13, 3) := by decide +kernel
theorem dX10_isShelf_4 : decode cX10_isShelf 4 = .ok (.iload_n 1, 1) := by decide +kernel
theorem dX10_isShelf_5 : decode cX10_isShelf 5 = .ok (.bipush 8, 2) := by decide +kernel
theorem dX10_isShelf_7 : decode cX10_isShelf 7 = .ok (.if_icmp .ge 7, 3) := by decide +kernel
theorem dX10_isShelf_10 : decode cX10_isShelf 10 = .ok (.iconst 1, 1) := by decide +kernel
theorem dX10_isShelf_11 : decode cX10_isShelf 11 = .ok (.goto 4, 3) := by decide +kernel
theorem dX10_isShelf_14 : decode cX10_isShelf 14 = .ok (.iconst 0, 1) := by decide +kernel
theorem dX10_isShelf_15 : decode cX10_isShelf 15 = .ok (.ireturn, 1) := by decide +kernel
theorem dX10_isStretch_0 : decode cX10_isStretch 0 = .ok (.iload_n 1, 1) := by decide +kernel
theorem dX10_isStretch_1 : decode cX10_isStretch 1 = .ok (.ifCond .lt 15, 3) := by decide +kernel
theorem dX10_isStretch_4 : decode cX10_isStretch 4 = .ok (.iload_n 1, 1) := by decide +kernel
theorem dX10_isStretch_5 : decode cX10_isStretch 5 = .ok (.aload_n 0, 1) := by decide +kernel
theorem dX10_isStretch_6 : decode cX10_isStretch 6 = .ok (.getfield 108, 3) := by decide +kernel
theorem dX10_isStretch_9 : decode cX10_isStretch 9 = .ok (.if_icmp .ge 7, 3) := by decide +kernel
theorem dX10_isStretch_12 : decode cX10_isStretch 12 = .ok (.iconst 1, 1) := by decide +kernel
theorem dX10_isStretch_13 : decode cX10_isStretch 13 = .ok (.goto 4, 3) := by decide +kernel
theorem dX10_isStretch_16 : decode cX10_isStretch 16 = .ok (.iconst 0, 1) := by decide +kernel
theorem dX10_isStretch_17 : decode cX10_isStretch 17 = .ok (.ireturn, 1) := by decide +kernel
theorem dX10_isCar_0 : decode cX10_isCar 0 = .ok (.iload_n 1, 1) := by decide +kernel
theorem dX10_isCar_1 : decode cX10_isCar 1 = .ok (.ifCond .lt 15, 3) := by decide +kernel
theorem dX10_isCar_4 : decode cX10_isCar 4 = .ok (.iload_n 1, 1) := by decide +kernel
theorem dX10_isCar_5 : decode cX10_isCar 5 = .ok (.aload_n 0, 1) := by decide +kernel
theorem dX10_isCar_6 : decode cX10_isCar 6 = .ok (.getfield 111, 3) := by decide +kernel
theorem dX10_isCar_9 : decode cX10_isCar 9 = .ok (.if_icmp .ge 7, 3) := by decide +kernel
theorem dX10_isCar_12 : decode cX10_isCar 12 = .ok (.iconst 1, 1) := by decide +kernel
theorem dX10_isCar_13 : decode cX10_isCar 13 = .ok (.goto 4, 3) := by decide +kernel
theorem dX10_isCar_16 : decode cX10_isCar 16 = .ok (.iconst 0, 1) := by decide +kernel
theorem dX10_isCar_17 : decode cX10_isCar 17 = .ok (.ireturn, 1) := by decide +kernel
theorem dX10_isTune_0 : decode cX10_isTune 0 = .ok (.iload_n 1, 1) := by decide +kernel
theorem dX10_isTune_1 : decode cX10_isTune 1 = .ok (.ifCond .lt 15, 3) := by decide +kernel
theorem dX10_isTune_4 : decode cX10_isTune 4 = .ok (.iload_n 1, 1) := by decide +kernel
theorem dX10_isTune_5 : decode cX10_isTune 5 = .ok (.aload_n 0, 1) := by decide +kernel
theorem dX10_isTune_6 : decode cX10_isTune 6 = .ok (.getfield 114, 3) := by decide +kernel
theorem dX10_isTune_9 : decode cX10_isTune 9 = .ok (.if_icmp .ge 7, 3) := by decide +kernel
theorem dX10_isTune_12 : decode cX10_isTune 12 = .ok (.iconst 1, 1) := by decide +kernel
theorem dX10_isTune_13 : decode cX10_isTune 13 = .ok (.goto 4, 3) := by decide +kernel
theorem dX10_isTune_16 : decode cX10_isTune 16 = .ok (.iconst 0, 1) := by decide +kernel
theorem dX10_isTune_17 : decode cX10_isTune 17 = .ok (.ireturn, 1) := by decide +kernel
theorem dX10_isSpeed_0 : decode cX10_isSpeed 0 = .ok (.iload_n 1, 1) := by decide +kernel
theorem dX10_isSpeed_1 : decode cX10_isSpeed 1 = .ok (.iconst 1, 1) := by decide +kernel
theorem dX10_isSpeed_2 : decode cX10_isSpeed 2 = .ok (.if_icmp .lt 13, 3) := by decide +kernel
theorem dX10_isSpeed_5 : decode cX10_isSpeed 5 = .ok (.iload_n 1, 1) := by decide +kernel
theorem dX10_isSpeed_6 : decode cX10_isSpeed 6 = .ok (.bipush 99, 2) := by decide +kernel
theorem dX10_isSpeed_8 : decode cX10_isSpeed 8 = .ok (.if_icmp .gt 7, 3) := by decide +kernel
theorem dX10_isSpeed_11 : decode cX10_isSpeed 11 = .ok (.iconst 1, 1) := by decide +kernel
theorem dX10_isSpeed_12 : decode cX10_isSpeed 12 = .ok (.goto 4, 3) := by decide +kernel
theorem dX10_isSpeed_15 : decode cX10_isSpeed 15 = .ok (.iconst 0, 1) := by decide +kernel
theorem dX10_isSpeed_16 : decode cX10_isSpeed 16 = .ok (.ireturn, 1) := by decide +kernel
theorem dX10_row_0 : decode cX10_row 0 = .ok (.aload_n 0, 1) := by decide +kernel
theorem dX10_row_1 : decode cX10_row 1 = .ok (.iload_n 1, 1) := by decide +kernel
theorem dX10_row_2 : decode cX10_row 2 = .ok (.invokevirtual 117, 3) := by decide +kernel
theorem dX10_row_5 : decode cX10_row 5 = .ok (.ifCond .ne 9, 3) := by decide +kernel
theorem dX10_row_8 : decode cX10_row 8 = .ok (.aload_n 0, 1) := by decide +kernel
theorem dX10_row_9 : decode cX10_row 9 = .ok (.iconst (-1), 1) := by decide +kernel
theorem dX10_row_10 : decode cX10_row 10 = .ok (.invokevirtual 121, 3) := by decide +kernel
theorem dX10_row_13 : decode cX10_row 13 = .ok (.ireturn, 1) := by decide +kernel
theorem dX10_row_14 : decode cX10_row 14 = .ok (.iload_n 3, 1) := by decide +kernel
theorem dX10_row_15 : decode cX10_row 15 = .ok (.ifCond .ge 10, 3) := by decide +kernel
theorem dX10_row_18 : decode cX10_row 18 = .ok (.aload_n 0, 1) := by decide +kernel
theorem dX10_row_19 : decode cX10_row 19 = .ok (.bipush (-4), 2) := by decide +kernel
theorem dX10_row_21 : decode cX10_row 21 = .ok (.invokevirtual 121, 3) := by decide +kernel
theorem dX10_row_24 : decode cX10_row 24 = .ok (.ireturn, 1) := by decide +kernel
theorem dX10_row_25 : decode cX10_row 25 = .ok (.iload_n 2, 1) := by decide +kernel
theorem dX10_row_26 : decode cX10_row 26 = .ok (.ifCond .lt 8, 3) := by decide +kernel
theorem dX10_row_29 : decode cX10_row 29 = .ok (.iload_n 2, 1) := by decide +kernel
theorem dX10_row_30 : decode cX10_row 30 = .ok (.iconst 3, 1) := by decide +kernel
theorem dX10_row_31 : decode cX10_row 31 = .ok (.if_icmp .le 10, 3) := by decide +kernel
theorem dX10_row_34 : decode cX10_row 34 = .ok (.aload_n 0, 1) := by decide +kernel
theorem dX10_row_35 : decode cX10_row 35 = .ok (.bipush (-6), 2) := by decide +kernel
theorem dX10_row_37 : decode cX10_row 37 = .ok (.invokevirtual 121, 3) := by decide +kernel
theorem dX10_row_40 : decode cX10_row 40 = .ok (.ireturn, 1) := by decide +kernel
theorem dX10_row_41 : decode cX10_row 41 = .ok (.iload_n 3, 1) := by decide +kernel
theorem dX10_row_42 : decode cX10_row 42 = .ok (.sipush 160, 3) := by decide +kernel
theorem dX10_row_45 : decode cX10_row 45 = .ok (.if_icmp .le 10, 3) := by decide +kernel
theorem dX10_row_48 : decode cX10_row 48 = .ok (.aload_n 0, 1) := by decide +kernel
theorem dX10_row_49 : decode cX10_row 49 = .ok (.bipush (-7), 2) := by decide +kernel
theorem dX10_row_51 : decode cX10_row 51 = .ok (.invokevirtual 121, 3) := by decide +kernel
theorem dX10_row_54 : decode cX10_row 54 = .ok (.ireturn, 1) := by decide +kernel
theorem dX10_row_55 : decode cX10_row 55 = .ok (.aload_n 0, 1) := by decide +kernel
theorem dX10_row_56 : decode cX10_row 56 = .ok (.getfield 65, 3) := by decide +kernel
theorem dX10_row_59 : decode cX10_row 59 = .ok (.iload_n 1, 1) := by decide +kernel
theorem dX10_row_60 : decode cX10_row 60 = .ok (.iconst 1, 1) := by decide +kernel
theorem dX10_row_61 : decode cX10_row 61 = .ok (.iastore, 1) := by decide +kernel
theorem dX10_row_62 : decode cX10_row 62 = .ok (.aload_n 0, 1) := by decide +kernel
theorem dX10_row_63 : decode cX10_row 63 = .ok (.getfield 68, 3) := by decide +kernel
theorem dX10_row_66 : decode cX10_row 66 = .ok (.iload_n 1, 1) := by decide +kernel
theorem dX10_row_67 : decode cX10_row 67 = .ok (.iload_n 2, 1) := by decide +kernel
theorem dX10_row_68 : decode cX10_row 68 = .ok (.iastore, 1) := by decide +kernel
theorem dX10_row_69 : decode cX10_row 69 = .ok (.aload_n 0, 1) := by decide +kernel
theorem dX10_row_70 : decode cX10_row 70 = .ok (.getfield 71, 3) := by decide +kernel
theorem dX10_row_73 : decode cX10_row 73 = .ok (.iload_n 1, 1) := by decide +kernel
theorem dX10_row_74 : decode cX10_row 74 = .ok (.iload_n 3, 1) := by decide +kernel
theorem dX10_row_75 : decode cX10_row 75 = .ok (.iastore, 1) := by decide +kernel
theorem dX10_row_76 : decode cX10_row 76 = .ok (.iconst 0, 1) := by decide +kernel
theorem dX10_row_77 : decode cX10_row 77 = .ok (.istore 4, 2) := by decide +kernel
theorem dX10_row_79 : decode cX10_row 79 = .ok (.iload 4, 2) := by decide +kernel
theorem dX10_row_81 : decode cX10_row 81 = .ok (.sipush 160, 3) := by decide +kernel
theorem dX10_row_84 : decode cX10_row 84 = .ok (.if_icmp .ge 23, 3) := by decide +kernel
theorem dX10_row_87 : decode cX10_row 87 = .ok (.aload_n 0, 1) := by decide +kernel
theorem dX10_row_88 : decode cX10_row 88 = .ok (.getfield 77, 3) := by decide +kernel
theorem dX10_row_91 : decode cX10_row 91 = .ok (.sipush 160, 3) := by decide +kernel
theorem dX10_row_94 : decode cX10_row 94 = .ok (.iload_n 1, 1) := by decide +kernel
theorem dX10_row_95 : decode cX10_row 95 = .ok (.imul, 1) := by decide +kernel
theorem dX10_row_96 : decode cX10_row 96 = .ok (.iload 4, 2) := by decide +kernel
theorem dX10_row_98 : decode cX10_row 98 = .ok (.iadd, 1) := by decide +kernel
theorem dX10_row_99 : decode cX10_row 99 = .ok (.lconst 0, 1) := by decide +kernel
theorem dX10_row_100 : decode cX10_row 100 = .ok (.lastore, 1) := by decide +kernel
theorem dX10_row_101 : decode cX10_row 101 = .ok (.iinc 4 1, 3) := by decide +kernel
theorem dX10_row_104 : decode cX10_row 104 = .ok (.goto (-25), 3) := by decide +kernel
theorem dX10_row_107 : decode cX10_row 107 = .ok (.iconst 1, 1) := by decide +kernel
theorem dX10_row_108 : decode cX10_row 108 = .ok (.ireturn, 1) := by decide +kernel
theorem dX10_set_0 : decode cX10_set 0 = .ok (.aload_n 0, 1) := by decide +kernel
theorem dX10_set_1 : decode cX10_set 1 = .ok (.iload_n 1, 1) := by decide +kernel
theorem dX10_set_2 : decode cX10_set 2 = .ok (.invokevirtual 117, 3) := by decide +kernel
theorem dX10_set_5 : decode cX10_set 5 = .ok (.ifCond .ne 9, 3) := by decide +kernel
theorem dX10_set_8 : decode cX10_set 8 = .ok (.aload_n 0, 1) := by decide +kernel
theorem dX10_set_9 : decode cX10_set 9 = .ok (.iconst (-1), 1) := by decide +kernel
theorem dX10_set_10 : decode cX10_set 10 = .ok (.invokevirtual 121, 3) := by decide +kernel
theorem dX10_set_13 : decode cX10_set 13 = .ok (.ireturn, 1) := by decide +kernel
theorem dX10_set_14 : decode cX10_set 14 = .ok (.aload_n 0, 1) := by decide +kernel
theorem dX10_set_15 : decode cX10_set 15 = .ok (.getfield 65, 3) := by decide +kernel
theorem dX10_set_18 : decode cX10_set 18 = .ok (.iload_n 1, 1) := by decide +kernel
theorem dX10_set_19 : decode cX10_set 19 = .ok (.iaload, 1) := by decide +kernel
theorem dX10_set_20 : decode cX10_set 20 = .ok (.iconst 2, 1) := by decide +kernel
theorem dX10_set_21 : decode cX10_set 21 = .ok (.if_icmp .ne 10, 3) := by decide +kernel
theorem dX10_set_24 : decode cX10_set 24 = .ok (.aload_n 0, 1) := by decide +kernel
theorem dX10_set_25 : decode cX10_set 25 = .ok (.bipush (-2), 2) := by decide +kernel
theorem dX10_set_27 : decode cX10_set 27 = .ok (.invokevirtual 121, 3) := by decide +kernel
theorem dX10_set_30 : decode cX10_set 30 = .ok (.ireturn, 1) := by decide +kernel
theorem dX10_set_31 : decode cX10_set 31 = .ok (.aload_n 0, 1) := by decide +kernel
theorem dX10_set_32 : decode cX10_set 32 = .ok (.getfield 65, 3) := by decide +kernel
theorem dX10_set_35 : decode cX10_set 35 = .ok (.iload_n 1, 1) := by decide +kernel
theorem dX10_set_36 : decode cX10_set 36 = .ok (.iaload, 1) := by decide +kernel
theorem dX10_set_37 : decode cX10_set 37 = .ok (.ifCond .ne 10, 3) := by decide +kernel
theorem dX10_set_40 : decode cX10_set 40 = .ok (.aload_n 0, 1) := by decide +kernel
theorem dX10_set_41 : decode cX10_set 41 = .ok (.bipush (-3), 2) := by decide +kernel
theorem dX10_set_43 : decode cX10_set 43 = .ok (.invokevirtual 121, 3) := by decide +kernel
theorem dX10_set_46 : decode cX10_set 46 = .ok (.ireturn, 1) := by decide +kernel
theorem dX10_set_47 : decode cX10_set 47 = .ok (.iload_n 2, 1) := by decide +kernel
theorem dX10_set_48 : decode cX10_set 48 = .ok (.ifCond .lt 13, 3) := by decide +kernel
theorem dX10_set_51 : decode cX10_set 51 = .ok (.iload_n 2, 1) := by decide +kernel
theorem dX10_set_52 : decode cX10_set 52 = .ok (.aload_n 0, 1) := by decide +kernel
theorem dX10_set_53 : decode cX10_set 53 = .ok (.getfield 71, 3) := by decide +kernel
theorem dX10_set_56 : decode cX10_set 56 = .ok (.iload_n 1, 1) := by decide +kernel
theorem dX10_set_57 : decode cX10_set 57 = .ok (.iaload, 1) := by decide +kernel
theorem dX10_set_58 : decode cX10_set 58 = .ok (.if_icmp .lt 10, 3) := by decide +kernel
theorem dX10_set_61 : decode cX10_set 61 = .ok (.aload_n 0, 1) := by decide +kernel
theorem dX10_set_62 : decode cX10_set 62 = .ok (.bipush (-5), 2) := by decide +kernel
theorem dX10_set_64 : decode cX10_set 64 = .ok (.invokevirtual 121, 3) := by decide +kernel
theorem dX10_set_67 : decode cX10_set 67 = .ok (.ireturn, 1) := by decide +kernel
theorem dX10_set_68 : decode cX10_set 68 = .ok (.aload_n 0, 1) := by decide +kernel
theorem dX10_set_69 : decode cX10_set 69 = .ok (.getfield 77, 3) := by decide +kernel
theorem dX10_set_72 : decode cX10_set 72 = .ok (.sipush 160, 3) := by decide +kernel
theorem dX10_set_75 : decode cX10_set 75 = .ok (.iload_n 1, 1) := by decide +kernel
theorem dX10_set_76 : decode cX10_set 76 = .ok (.imul, 1) := by decide +kernel
theorem dX10_set_77 : decode cX10_set 77 = .ok (.iload_n 2, 1) := by decide +kernel
theorem dX10_set_78 : decode cX10_set 78 = .ok (.iadd, 1) := by decide +kernel
theorem dX10_set_79 : decode cX10_set 79 = .ok (.aload_n 0, 1) := by decide +kernel
theorem dX10_set_80 : decode cX10_set 80 = .ok (.getfield 68, 3) := by decide +kernel
theorem dX10_set_83 : decode cX10_set 83 = .ok (.iload_n 1, 1) := by decide +kernel
theorem dX10_set_84 : decode cX10_set 84 = .ok (.iaload, 1) := by decide +kernel
theorem dX10_set_85 : decode cX10_set 85 = .ok (.ifCond .ne 10, 3) := by decide +kernel
theorem dX10_set_88 : decode cX10_set 88 = .ok (.lload_n 3, 1) := by decide +kernel
theorem dX10_set_89 : decode cX10_set 89 = .ok (.l2i, 1) := by decide +kernel
theorem dX10_set_90 : decode cX10_set 90 = .ok (.i2b, 1) := by decide +kernel
theorem dX10_set_91 : decode cX10_set 91 = .ok (.i2l, 1) := by decide +kernel
theorem dX10_set_92 : decode cX10_set 92 = .ok (.goto 37, 3) := by decide +kernel
theorem dX10_set_95 : decode cX10_set 95 = .ok (.aload_n 0, 1) := by decide +kernel
theorem dX10_set_96 : decode cX10_set 96 = .ok (.getfield 68, 3) := by decide +kernel
theorem dX10_set_99 : decode cX10_set 99 = .ok (.iload_n 1, 1) := by decide +kernel
theorem dX10_set_100 : decode cX10_set 100 = .ok (.iaload, 1) := by decide +kernel
theorem dX10_set_101 : decode cX10_set 101 = .ok (.iconst 1, 1) := by decide +kernel
theorem dX10_set_102 : decode cX10_set 102 = .ok (.if_icmp .ne 10, 3) := by decide +kernel
theorem dX10_set_105 : decode cX10_set 105 = .ok (.lload_n 3, 1) := by decide +kernel
theorem dX10_set_106 : decode cX10_set 106 = .ok (.l2i, 1) := by decide +kernel
theorem dX10_set_107 : decode cX10_set 107 = .ok (.i2s, 1) := by decide +kernel
theorem dX10_set_108 : decode cX10_set 108 = .ok (.i2l, 1) := by decide +kernel
theorem dX10_set_109 : decode cX10_set 109 = .ok (.goto 20, 3) := by decide +kernel
theorem dX10_set_112 : decode cX10_set 112 = .ok (.aload_n 0, 1) := by decide +kernel
theorem dX10_set_113 : decode cX10_set 113 = .ok (.getfield 68, 3) := by decide +kernel
theorem dX10_set_116 : decode cX10_set 116 = .ok (.iload_n 1, 1) := by decide +kernel
theorem dX10_set_117 : decode cX10_set 117 = .ok (.iaload, 1) := by decide +kernel
theorem dX10_set_118 : decode cX10_set 118 = .ok (.iconst 2, 1) := by decide +kernel
theorem dX10_set_119 : decode cX10_set 119 = .ok (.if_icmp .ne 9, 3) := by decide +kernel
theorem dX10_set_122 : decode cX10_set 122 = .ok (.lload_n 3, 1) := by decide +kernel
theorem dX10_set_123 : decode cX10_set 123 = .ok (.l2i, 1) := by decide +kernel
theorem dX10_set_124 : decode cX10_set 124 = .ok (.i2l, 1) := by decide +kernel
theorem dX10_set_125 : decode cX10_set 125 = .ok (.goto 4, 3) := by decide +kernel
theorem dX10_set_128 : decode cX10_set 128 = .ok (.lload_n 3, 1) := by decide +kernel
theorem dX10_set_129 : decode cX10_set 129 = .ok (.lastore, 1) := by decide +kernel
theorem dX10_set_130 : decode cX10_set 130 = .ok (.iconst 1, 1) := by decide +kernel
theorem dX10_set_131 : decode cX10_set 131 = .ok (.ireturn, 1) := by decide +kernel
theorem dX10_copy_0 : decode cX10_copy 0 = .ok (.aload_n 0, 1) := by decide +kernel
theorem dX10_copy_1 : decode cX10_copy 1 = .ok (.iload_n 1, 1) := by decide +kernel
theorem dX10_copy_2 : decode cX10_copy 2 = .ok (.invokevirtual 117, 3) := by decide +kernel
theorem dX10_copy_5 : decode cX10_copy 5 = .ok (.ifCond .eq 11, 3) := by decide +kernel
theorem dX10_copy_8 : decode cX10_copy 8 = .ok (.aload_n 0, 1) := by decide +kernel
theorem dX10_copy_9 : decode cX10_copy 9 = .ok (.iload_n 2, 1) := by decide +kernel
theorem dX10_copy_10 : decode cX10_copy 10 = .ok (.invokevirtual 117, 3) := by decide +kernel
theorem dX10_copy_13 : decode cX10_copy 13 = .ok (.ifCond .ne 9, 3) := by decide +kernel
theorem dX10_copy_16 : decode cX10_copy 16 = .ok (.aload_n 0, 1) := by decide +kernel
theorem dX10_copy_17 : decode cX10_copy 17 = .ok (.iconst (-1), 1) := by decide +kernel
theorem dX10_copy_18 : decode cX10_copy 18 = .ok (.invokevirtual 121, 3) := by decide +kernel
theorem dX10_copy_21 : decode cX10_copy 21 = .ok (.ireturn, 1) := by decide +kernel
theorem dX10_copy_22 : decode cX10_copy 22 = .ok (.aload_n 0, 1) := by decide +kernel
theorem dX10_copy_23 : decode cX10_copy 23 = .ok (.getfield 65, 3) := by decide +kernel
theorem dX10_copy_26 : decode cX10_copy 26 = .ok (.iload_n 1, 1) := by decide +kernel
theorem dX10_copy_27 : decode cX10_copy 27 = .ok (.iaload, 1) := by decide +kernel
theorem dX10_copy_28 : decode cX10_copy 28 = .ok (.iconst 2, 1) := by decide +kernel
theorem dX10_copy_29 : decode cX10_copy 29 = .ok (.if_icmp .eq 48, 3) := by decide +kernel
theorem dX10_copy_32 : decode cX10_copy 32 = .ok (.aload_n 0, 1) := by decide +kernel
theorem dX10_copy_33 : decode cX10_copy 33 = .ok (.getfield 65, 3) := by decide +kernel
theorem dX10_copy_36 : decode cX10_copy 36 = .ok (.iload_n 2, 1) := by decide +kernel
theorem dX10_copy_37 : decode cX10_copy 37 = .ok (.iaload, 1) := by decide +kernel
theorem dX10_copy_38 : decode cX10_copy 38 = .ok (.iconst 2, 1) := by decide +kernel
theorem dX10_copy_39 : decode cX10_copy 39 = .ok (.if_icmp .eq 38, 3) := by decide +kernel
theorem dX10_copy_42 : decode cX10_copy 42 = .ok (.aload_n 0, 1) := by decide +kernel
theorem dX10_copy_43 : decode cX10_copy 43 = .ok (.getfield 65, 3) := by decide +kernel
theorem dX10_copy_46 : decode cX10_copy 46 = .ok (.iload_n 1, 1) := by decide +kernel
theorem dX10_copy_47 : decode cX10_copy 47 = .ok (.iaload, 1) := by decide +kernel
theorem dX10_copy_48 : decode cX10_copy 48 = .ok (.iconst 1, 1) := by decide +kernel
theorem dX10_copy_49 : decode cX10_copy 49 = .ok (.if_icmp .ne 35, 3) := by decide +kernel
theorem dX10_copy_52 : decode cX10_copy 52 = .ok (.aload_n 0, 1) := by decide +kernel
theorem dX10_copy_53 : decode cX10_copy 53 = .ok (.getfield 65, 3) := by decide +kernel
theorem dX10_copy_56 : decode cX10_copy 56 = .ok (.iload_n 2, 1) := by decide +kernel
theorem dX10_copy_57 : decode cX10_copy 57 = .ok (.iaload, 1) := by decide +kernel
theorem dX10_copy_58 : decode cX10_copy 58 = .ok (.iconst 1, 1) := by decide +kernel
theorem dX10_copy_59 : decode cX10_copy 59 = .ok (.if_icmp .ne 25, 3) := by decide +kernel
theorem dX10_copy_62 : decode cX10_copy 62 = .ok (.aload_n 0, 1) := by decide +kernel
theorem dX10_copy_63 : decode cX10_copy 63 = .ok (.getfield 68, 3) := by decide +kernel
theorem dX10_copy_66 : decode cX10_copy 66 = .ok (.iload_n 1, 1) := by decide +kernel
theorem dX10_copy_67 : decode cX10_copy 67 = .ok (.iaload, 1) := by decide +kernel
theorem dX10_copy_68 : decode cX10_copy 68 = .ok (.aload_n 0, 1) := by decide +kernel
theorem dX10_copy_69 : decode cX10_copy 69 = .ok (.getfield 68, 3) := by decide +kernel
theorem dX10_copy_72 : decode cX10_copy 72 = .ok (.iload_n 2, 1) := by decide +kernel
theorem dX10_copy_73 : decode cX10_copy 73 = .ok (.iaload, 1) := by decide +kernel
theorem dX10_copy_74 : decode cX10_copy 74 = .ok (.if_icmp .eq 10, 3) := by decide +kernel
theorem dX10_copy_77 : decode cX10_copy 77 = .ok (.aload_n 0, 1) := by decide +kernel
theorem dX10_copy_78 : decode cX10_copy 78 = .ok (.bipush (-2), 2) := by decide +kernel
theorem dX10_copy_80 : decode cX10_copy 80 = .ok (.invokevirtual 121, 3) := by decide +kernel
theorem dX10_copy_83 : decode cX10_copy 83 = .ok (.ireturn, 1) := by decide +kernel
theorem dX10_copy_84 : decode cX10_copy 84 = .ok (.aload_n 0, 1) := by decide +kernel
theorem dX10_copy_85 : decode cX10_copy 85 = .ok (.getfield 65, 3) := by decide +kernel
theorem dX10_copy_88 : decode cX10_copy 88 = .ok (.iload_n 1, 1) := by decide +kernel
theorem dX10_copy_89 : decode cX10_copy 89 = .ok (.iaload, 1) := by decide +kernel
theorem dX10_copy_90 : decode cX10_copy 90 = .ok (.ifCond .eq 12, 3) := by decide +kernel
theorem dX10_copy_93 : decode cX10_copy 93 = .ok (.aload_n 0, 1) := by decide +kernel
theorem dX10_copy_94 : decode cX10_copy 94 = .ok (.getfield 65, 3) := by decide +kernel
theorem dX10_copy_97 : decode cX10_copy 97 = .ok (.iload_n 2, 1) := by decide +kernel
theorem dX10_copy_98 : decode cX10_copy 98 = .ok (.iaload, 1) := by decide +kernel
theorem dX10_copy_99 : decode cX10_copy 99 = .ok (.ifCond .ne 10, 3) := by decide +kernel
theorem dX10_copy_102 : decode cX10_copy 102 = .ok (.aload_n 0, 1) := by decide +kernel
theorem dX10_copy_103 : decode cX10_copy 103 = .ok (.bipush (-3), 2) := by decide +kernel
theorem dX10_copy_105 : decode cX10_copy 105 = .ok (.invokevirtual 121, 3) := by decide +kernel
theorem dX10_copy_108 : decode cX10_copy 108 = .ok (.ireturn, 1) := by decide +kernel
theorem dX10_copy_109 : decode cX10_copy 109 = .ok (.iload 5, 2) := by decide +kernel
theorem dX10_copy_111 : decode cX10_copy 111 = .ok (.ifCond .ge 10, 3) := by decide +kernel
theorem dX10_copy_114 : decode cX10_copy 114 = .ok (.aload_n 0, 1) := by decide +kernel
theorem dX10_copy_115 : decode cX10_copy 115 = .ok (.bipush (-4), 2) := by decide +kernel
theorem dX10_copy_117 : decode cX10_copy 117 = .ok (.invokevirtual 121, 3) := by decide +kernel
theorem dX10_copy_120 : decode cX10_copy 120 = .ok (.ireturn, 1) := by decide +kernel
theorem dX10_copy_121 : decode cX10_copy 121 = .ok (.iload_n 3, 1) := by decide +kernel
theorem dX10_copy_122 : decode cX10_copy 122 = .ok (.ifCond .lt 35, 3) := by decide +kernel
theorem dX10_copy_125 : decode cX10_copy 125 = .ok (.iload 4, 2) := by decide +kernel
theorem dX10_copy_127 : decode cX10_copy 127 = .ok (.ifCond .lt 30, 3) := by decide +kernel
theorem dX10_copy_130 : decode cX10_copy 130 = .ok (.iload_n 3, 1) := by decide +kernel
theorem dX10_copy_131 : decode cX10_copy 131 = .ok (.aload_n 0, 1) := by decide +kernel
theorem dX10_copy_132 : decode cX10_copy 132 = .ok (.getfield 71, 3) := by decide +kernel
theorem dX10_copy_135 : decode cX10_copy 135 = .ok (.iload_n 1, 1) := by decide +kernel
theorem dX10_copy_136 : decode cX10_copy 136 = .ok (.iaload, 1) := by decide +kernel
theorem dX10_copy_137 : decode cX10_copy 137 = .ok (.iload 5, 2) := by decide +kernel
theorem dX10_copy_139 : decode cX10_copy 139 = .ok (.isub, 1) := by decide +kernel
theorem dX10_copy_140 : decode cX10_copy 140 = .ok (.if_icmp .gt 17, 3) := by decide +kernel
theorem dX10_copy_143 : decode cX10_copy 143 = .ok (.iload 4, 2) := by decide +kernel
theorem dX10_copy_145 : decode cX10_copy 145 = .ok (.aload_n 0, 1) := by decide +kernel
theorem dX10_copy_146 : decode cX10_copy 146 = .ok (.getfield 71, 3) := by decide +kernel
theorem dX10_copy_149 : decode cX10_copy 149 = .ok (.iload_n 2, 1) := by decide +kernel
theorem dX10_copy_150 : decode cX10_copy 150 = .ok (.iaload, 1) := by decide +kernel
theorem dX10_copy_151 : decode cX10_copy 151 = .ok (.iload 5, 2) := by decide +kernel
theorem dX10_copy_153 : decode cX10_copy 153 = .ok (.isub, 1) := by decide +kernel
theorem dX10_copy_154 : decode cX10_copy 154 = .ok (.if_icmp .le 10, 3) := by decide +kernel
theorem dX10_copy_157 : decode cX10_copy 157 = .ok (.aload_n 0, 1) := by decide +kernel
theorem dX10_copy_158 : decode cX10_copy 158 = .ok (.bipush (-5), 2) := by decide +kernel
theorem dX10_copy_160 : decode cX10_copy 160 = .ok (.invokevirtual 121, 3) := by decide +kernel
theorem dX10_copy_163 : decode cX10_copy 163 = .ok (.ireturn, 1) := by decide +kernel
theorem dX10_copy_164 : decode cX10_copy 164 = .ok (.iconst 0, 1) := by decide +kernel
theorem dX10_copy_165 : decode cX10_copy 165 = .ok (.istore 6, 2) := by decide +kernel
theorem dX10_copy_167 : decode cX10_copy 167 = .ok (.iload 6, 2) := by decide +kernel
theorem dX10_copy_169 : decode cX10_copy 169 = .ok (.iload 5, 2) := by decide +kernel
theorem dX10_copy_171 : decode cX10_copy 171 = .ok (.if_icmp .ge 31, 3) := by decide +kernel
theorem dX10_copy_174 : decode cX10_copy 174 = .ok (.aload_n 0, 1) := by decide +kernel
theorem dX10_copy_175 : decode cX10_copy 175 = .ok (.getfield 81, 3) := by decide +kernel
theorem dX10_copy_178 : decode cX10_copy 178 = .ok (.iload 6, 2) := by decide +kernel
theorem dX10_copy_180 : decode cX10_copy 180 = .ok (.aload_n 0, 1) := by decide +kernel
theorem dX10_copy_181 : decode cX10_copy 181 = .ok (.getfield 77, 3) := by decide +kernel
theorem dX10_copy_184 : decode cX10_copy 184 = .ok (.sipush 160, 3) := by decide +kernel
theorem dX10_copy_187 : decode cX10_copy 187 = .ok (.iload_n 1, 1) := by decide +kernel
theorem dX10_copy_188 : decode cX10_copy 188 = .ok (.imul, 1) := by decide +kernel
theorem dX10_copy_189 : decode cX10_copy 189 = .ok (.iload_n 3, 1) := by decide +kernel
theorem dX10_copy_190 : decode cX10_copy 190 = .ok (.iadd, 1) := by decide +kernel
theorem dX10_copy_191 : decode cX10_copy 191 = .ok (.iload 6, 2) := by decide +kernel
theorem dX10_copy_193 : decode cX10_copy 193 = .ok (.iadd, 1) := by decide +kernel
theorem dX10_copy_194 : decode cX10_copy 194 = .ok (.laload, 1) := by decide +kernel
theorem dX10_copy_195 : decode cX10_copy 195 = .ok (.lastore, 1) := by decide +kernel
theorem dX10_copy_196 : decode cX10_copy 196 = .ok (.iinc 6 1, 3) := by decide +kernel
theorem dX10_copy_199 : decode cX10_copy 199 = .ok (.goto (-32), 3) := by decide +kernel
theorem dX10_copy_202 : decode cX10_copy 202 = .ok (.iconst 0, 1) := by decide +kernel
theorem dX10_copy_203 : decode cX10_copy 203 = .ok (.istore 6, 2) := by decide +kernel
theorem dX10_copy_205 : decode cX10_copy 205 = .ok (.iload 6, 2) := by decide +kernel
theorem dX10_copy_207 : decode cX10_copy 207 = .ok (.iload 5, 2) := by decide +kernel
theorem dX10_copy_209 : decode cX10_copy 209 = .ok (.if_icmp .ge 32, 3) := by decide +kernel
theorem dX10_copy_212 : decode cX10_copy 212 = .ok (.aload_n 0, 1) := by decide +kernel
theorem dX10_copy_213 : decode cX10_copy 213 = .ok (.getfield 77, 3) := by decide +kernel
theorem dX10_copy_216 : decode cX10_copy 216 = .ok (.sipush 160, 3) := by decide +kernel
theorem dX10_copy_219 : decode cX10_copy 219 = .ok (.iload_n 2, 1) := by decide +kernel
theorem dX10_copy_220 : decode cX10_copy 220 = .ok (.imul, 1) := by decide +kernel
theorem dX10_copy_221 : decode cX10_copy 221 = .ok (.iload 4, 2) := by decide +kernel
theorem dX10_copy_223 : decode cX10_copy 223 = .ok (.iadd, 1) := by decide +kernel
theorem dX10_copy_224 : decode cX10_copy 224 = .ok (.iload 6, 2) := by decide +kernel
theorem dX10_copy_226 : decode cX10_copy 226 = .ok (.iadd, 1) := by decide +kernel
theorem dX10_copy_227 : decode cX10_copy 227 = .ok (.aload_n 0, 1) := by decide +kernel
theorem dX10_copy_228 : decode cX10_copy 228 = .ok (.getfield 81, 3) := by decide +kernel
theorem dX10_copy_231 : decode cX10_copy 231 = .ok (.iload 6, 2) := by decide +kernel
theorem dX10_copy_233 : decode cX10_copy 233 = .ok (.laload, 1) := by decide +kernel
theorem dX10_copy_234 : decode cX10_copy 234 = .ok (.lastore, 1) := by decide +kernel
theorem dX10_copy_235 : decode cX10_copy 235 = .ok (.iinc 6 1, 3) := by decide +kernel
theorem dX10_copy_238 : decode cX10_copy 238 = .ok (.goto (-33), 3) := by decide +kernel
theorem dX10_copy_241 : decode cX10_copy 241 = .ok (.iconst 1, 1) := by decide +kernel
theorem dX10_copy_242 : decode cX10_copy 242 = .ok (.ireturn, 1) := by decide +kernel
theorem dX10_element_0 : decode cX10_element 0 = .ok (.aload_n 0, 1) := by decide +kernel
theorem dX10_element_1 : decode cX10_element 1 = .ok (.iload_n 1, 1) := by decide +kernel
theorem dX10_element_2 : decode cX10_element 2 = .ok (.invokevirtual 117, 3) := by decide +kernel
theorem dX10_element_5 : decode cX10_element 5 = .ok (.ifCond .eq 42, 3) := by decide +kernel
theorem dX10_element_8 : decode cX10_element 8 = .ok (.aload_n 0, 1) := by decide +kernel
theorem dX10_element_9 : decode cX10_element 9 = .ok (.getfield 65, 3) := by decide +kernel
theorem dX10_element_12 : decode cX10_element 12 = .ok (.iload_n 1, 1) := by decide +kernel
theorem dX10_element_13 : decode cX10_element 13 = .ok (.iaload, 1) := by decide +kernel
theorem dX10_element_14 : decode cX10_element 14 = .ok (.iconst 1, 1) := by decide +kernel
theorem dX10_element_15 : decode cX10_element 15 = .ok (.if_icmp .ne 32, 3) := by decide +kernel
theorem dX10_element_18 : decode cX10_element 18 = .ok (.iload_n 2, 1) := by decide +kernel
theorem dX10_element_19 : decode cX10_element 19 = .ok (.ifCond .lt 28, 3) := by decide +kernel
theorem dX10_element_22 : decode cX10_element 22 = .ok (.iload_n 2, 1) := by decide +kernel
theorem dX10_element_23 : decode cX10_element 23 = .ok (.aload_n 0, 1) := by decide +kernel
theorem dX10_element_24 : decode cX10_element 24 = .ok (.getfield 71, 3) := by decide +kernel
theorem dX10_element_27 : decode cX10_element 27 = .ok (.iload_n 1, 1) := by decide +kernel
theorem dX10_element_28 : decode cX10_element 28 = .ok (.iaload, 1) := by decide +kernel
theorem dX10_element_29 : decode cX10_element 29 = .ok (.if_icmp .ge 18, 3) := by decide +kernel
theorem dX10_element_32 : decode cX10_element 32 = .ok (.aload_n 0, 1) := by decide +kernel
theorem dX10_element_33 : decode cX10_element 33 = .ok (.getfield 77, 3) := by decide +kernel
theorem dX10_element_36 : decode cX10_element 36 = .ok (.sipush 160, 3) := by decide +kernel
theorem dX10_element_39 : decode cX10_element 39 = .ok (.iload_n 1, 1) := by decide +kernel
theorem dX10_element_40 : decode cX10_element 40 = .ok (.imul, 1) := by decide +kernel
theorem dX10_element_41 : decode cX10_element 41 = .ok (.iload_n 2, 1) := by decide +kernel
theorem dX10_element_42 : decode cX10_element 42 = .ok (.iadd, 1) := by decide +kernel
theorem dX10_element_43 : decode cX10_element 43 = .ok (.laload, 1) := by decide +kernel
theorem dX10_element_44 : decode cX10_element 44 = .ok (.goto 4, 3) := by decide +kernel
theorem dX10_element_47 : decode cX10_element 47 = .ok (.lconst 0, 1) := by decide +kernel
theorem dX10_element_48 : decode cX10_element 48 = .ok (.lreturn, 1) := by decide +kernel
theorem dX10_show_0 : decode cX10_show 0 = .ok (.aload_n 0, 1) := by decide +kernel
theorem dX10_show_1 : decode cX10_show 1 = .ok (.iload_n 1, 1) := by decide +kernel
theorem dX10_show_2 : decode cX10_show 2 = .ok (.invokevirtual 117, 3) := by decide +kernel
theorem dX10_show_5 : decode cX10_show 5 = .ok (.ifCond .eq 16, 3) := by decide +kernel
theorem dX10_show_8 : decode cX10_show 8 = .ok (.iload_n 2, 1) := by decide +kernel
theorem dX10_show_9 : decode cX10_show 9 = .ok (.iconst (-1), 1) := by decide +kernel
theorem dX10_show_10 : decode cX10_show 10 = .ok (.if_icmp .eq 17, 3) := by decide +kernel
theorem dX10_show_13 : decode cX10_show 13 = .ok (.aload_n 0, 1) := by decide +kernel
theorem dX10_show_14 : decode cX10_show 14 = .ok (.iload_n 2, 1) := by decide +kernel
theorem dX10_show_15 : decode cX10_show 15 = .ok (.invokevirtual 125, 3) := by decide +kernel
theorem dX10_show_18 : decode cX10_show 18 = .ok (.ifCond .ne 9, 3) := by decide +kernel
theorem dX10_show_21 : decode cX10_show 21 = .ok (.aload_n 0, 1) := by decide +kernel
theorem dX10_show_22 : decode cX10_show 22 = .ok (.iconst (-1), 1) := by decide +kernel
theorem dX10_show_23 : decode cX10_show 23 = .ok (.invokevirtual 121, 3) := by decide +kernel
theorem dX10_show_26 : decode cX10_show 26 = .ok (.ireturn, 1) := by decide +kernel
theorem dX10_show_27 : decode cX10_show 27 = .ok (.aload_n 0, 1) := by decide +kernel
theorem dX10_show_28 : decode cX10_show 28 = .ok (.getfield 65, 3) := by decide +kernel
theorem dX10_show_31 : decode cX10_show 31 = .ok (.iload_n 1, 1) := by decide +kernel
theorem dX10_show_32 : decode cX10_show 32 = .ok (.iload_n 2, 1) := by decide +kernel
theorem dX10_show_33 : decode cX10_show 33 = .ok (.iconst (-1), 1) := by decide +kernel
theorem dX10_show_34 : decode cX10_show 34 = .ok (.if_icmp .ne 7, 3) := by decide +kernel
theorem dX10_show_37 : decode cX10_show 37 = .ok (.iconst 0, 1) := by decide +kernel
theorem dX10_show_38 : decode cX10_show 38 = .ok (.goto 4, 3) := by decide +kernel
theorem dX10_show_41 : decode cX10_show 41 = .ok (.iconst 2, 1) := by decide +kernel
theorem dX10_show_42 : decode cX10_show 42 = .ok (.iastore, 1) := by decide +kernel
theorem dX10_show_43 : decode cX10_show 43 = .ok (.aload_n 0, 1) := by decide +kernel
theorem dX10_show_44 : decode cX10_show 44 = .ok (.getfield 74, 3) := by decide +kernel
theorem dX10_show_47 : decode cX10_show 47 = .ok (.iload_n 1, 1) := by decide +kernel
theorem dX10_show_48 : decode cX10_show 48 = .ok (.iload_n 2, 1) := by decide +kernel
theorem dX10_show_49 : decode cX10_show 49 = .ok (.iastore, 1) := by decide +kernel
theorem dX10_show_50 : decode cX10_show 50 = .ok (.iload_n 2, 1) := by decide +kernel
theorem dX10_show_51 : decode cX10_show 51 = .ok (.iconst (-1), 1) := by decide +kernel
theorem dX10_show_52 : decode cX10_show 52 = .ok (.if_icmp .ne 7, 3) := by decide +kernel
theorem dX10_show_55 : decode cX10_show 55 = .ok (.iconst 0, 1) := by decide +kernel
theorem dX10_show_56 : decode cX10_show 56 = .ok (.goto 4, 3) := by decide +kernel
theorem dX10_show_59 : decode cX10_show 59 = .ok (.iconst 1, 1) := by decide +kernel
theorem dX10_show_60 : decode cX10_show 60 = .ok (.ireturn, 1) := by decide +kernel
theorem dX10_shows_0 : decode cX10_shows 0 = .ok (.iconst 0, 1) := by decide +kernel
theorem dX10_shows_1 : decode cX10_shows 1 = .ok (.istore_n 1, 1) := by decide +kernel
theorem dX10_shows_2 : decode cX10_shows 2 = .ok (.iload_n 1, 1) := by decide +kernel
theorem dX10_shows_3 : decode cX10_shows 3 = .ok (.bipush 8, 2) := by decide +kernel
theorem dX10_shows_5 : decode cX10_shows 5 = .ok (.if_icmp .ge 39, 3) := by decide +kernel
theorem dX10_shows_8 : decode cX10_shows 8 = .ok (.aload_n 0, 1) := by decide +kernel
theorem dX10_shows_9 : decode cX10_shows 9 = .ok (.getfield 65, 3) := by decide +kernel
theorem dX10_shows_12 : decode cX10_shows 12 = .ok (.iload_n 1, 1) := by decide +kernel
theorem dX10_shows_13 : decode cX10_shows 13 = .ok (.iaload, 1) := by decide +kernel
theorem dX10_shows_14 : decode cX10_shows 14 = .ok (.iconst 2, 1) := by decide +kernel
theorem dX10_shows_15 : decode cX10_shows 15 = .ok (.if_icmp .ne 23, 3) := by decide +kernel
theorem dX10_shows_18 : decode cX10_shows 18 = .ok (.aload_n 0, 1) := by decide +kernel
theorem dX10_shows_19 : decode cX10_shows 19 = .ok (.getfield 74, 3) := by decide +kernel
theorem dX10_shows_22 : decode cX10_shows 22 = .ok (.iload_n 1, 1) := by decide +kernel
theorem dX10_shows_23 : decode cX10_shows 23 = .ok (.iaload, 1) := by decide +kernel
theorem dX10_shows_24 : decode cX10_shows 24 = .ok (.aload_n 0, 1) := by decide +kernel
theorem dX10_shows_25 : decode cX10_shows 25 = .ok (.getfield 108, 3) := by decide +kernel
theorem dX10_shows_28 : decode cX10_shows 28 = .ok (.if_icmp .lt 10, 3) := by decide +kernel
theorem dX10_shows_31 : decode cX10_shows 31 = .ok (.aload_n 0, 1) := by decide +kernel
theorem dX10_shows_32 : decode cX10_shows 32 = .ok (.getfield 65, 3) := by decide +kernel
theorem dX10_shows_35 : decode cX10_shows 35 = .ok (.iload_n 1, 1) := by decide +kernel
theorem dX10_shows_36 : decode cX10_shows 36 = .ok (.iconst 0, 1) := by decide +kernel
theorem dX10_shows_37 : decode cX10_shows 37 = .ok (.iastore, 1) := by decide +kernel
theorem dX10_shows_38 : decode cX10_shows 38 = .ok (.iinc 1 1, 3) := by decide +kernel
theorem dX10_shows_41 : decode cX10_shows 41 = .ok (.goto (-39), 3) := by decide +kernel
theorem dX10_shows_44 : decode cX10_shows 44 = .ok (.return_, 1) := by decide +kernel
theorem dX10_holds_0 : decode cX10_holds 0 = .ok (.aload_n 0, 1) := by decide +kernel
theorem dX10_holds_1 : decode cX10_holds 1 = .ok (.iload_n 1, 1) := by decide +kernel
theorem dX10_holds_2 : decode cX10_holds 2 = .ok (.invokevirtual 117, 3) := by decide +kernel
theorem dX10_holds_5 : decode cX10_holds 5 = .ok (.ifCond .eq 12, 3) := by decide +kernel
theorem dX10_holds_8 : decode cX10_holds 8 = .ok (.aload_n 0, 1) := by decide +kernel
theorem dX10_holds_9 : decode cX10_holds 9 = .ok (.getfield 65, 3) := by decide +kernel
theorem dX10_holds_12 : decode cX10_holds 12 = .ok (.iload_n 1, 1) := by decide +kernel
theorem dX10_holds_13 : decode cX10_holds 13 = .ok (.iaload, 1) := by decide +kernel
theorem dX10_holds_14 : decode cX10_holds 14 = .ok (.ifCond .ne 5, 3) := by decide +kernel
theorem dX10_holds_17 : decode cX10_holds 17 = .ok (.iconst (-1), 1) := by decide +kernel
theorem dX10_holds_18 : decode cX10_holds 18 = .ok (.ireturn, 1) := by decide +kernel
theorem dX10_holds_19 : decode cX10_holds 19 = .ok (.aload_n 0, 1) := by decide +kernel
theorem dX10_holds_20 : decode cX10_holds 20 = .ok (.getfield 65, 3) := by decide +kernel
theorem dX10_holds_23 : decode cX10_holds 23 = .ok (.iload_n 1, 1) := by decide +kernel
theorem dX10_holds_24 : decode cX10_holds 24 = .ok (.iaload, 1) := by decide +kernel
theorem dX10_holds_25 : decode cX10_holds 25 = .ok (.iconst 1, 1) := by decide +kernel
theorem dX10_holds_26 : decode cX10_holds 26 = .ok (.if_icmp .ne 15, 3) := by decide +kernel
theorem dX10_holds_29 : decode cX10_holds 29 = .ok (.bipush 100, 2) := by decide +kernel
theorem dX10_holds_31 : decode cX10_holds 31 = .ok (.aload_n 0, 1) := by decide +kernel
theorem dX10_holds_32 : decode cX10_holds 32 = .ok (.getfield 68, 3) := by decide +kernel
theorem dX10_holds_35 : decode cX10_holds 35 = .ok (.iload_n 1, 1) := by decide +kernel
theorem dX10_holds_36 : decode cX10_holds 36 = .ok (.iaload, 1) := by decide +kernel
theorem dX10_holds_37 : decode cX10_holds 37 = .ok (.iadd, 1) := by decide +kernel
theorem dX10_holds_38 : decode cX10_holds 38 = .ok (.goto 9, 3) := by decide +kernel
theorem dX10_holds_41 : decode cX10_holds 41 = .ok (.aload_n 0, 1) := by decide +kernel
theorem dX10_holds_42 : decode cX10_holds 42 = .ok (.getfield 74, 3) := by decide +kernel
theorem dX10_holds_45 : decode cX10_holds 45 = .ok (.iload_n 1, 1) := by decide +kernel
theorem dX10_holds_46 : decode cX10_holds 46 = .ok (.iaload, 1) := by decide +kernel
theorem dX10_holds_47 : decode cX10_holds 47 = .ok (.ireturn, 1) := by decide +kernel
theorem dX10_isEven_0 : decode cX10_isEven 0 = .ok (.iload_n 1, 1) := by decide +kernel
theorem dX10_isEven_1 : decode cX10_isEven 1 = .ok (.iconst 1, 1) := by decide +kernel
theorem dX10_isEven_2 : decode cX10_isEven 2 = .ok (.if_icmp .eq 18, 3) := by decide +kernel
theorem dX10_isEven_5 : decode cX10_isEven 5 = .ok (.iload_n 1, 1) := by decide +kernel
theorem dX10_isEven_6 : decode cX10_isEven 6 = .ok (.iconst 2, 1) := by decide +kernel
theorem dX10_isEven_7 : decode cX10_isEven 7 = .ok (.if_icmp .eq 13, 3) := by decide +kernel
theorem dX10_isEven_10 : decode cX10_isEven 10 = .ok (.iload_n 1, 1) := by decide +kernel
theorem dX10_isEven_11 : decode cX10_isEven 11 = .ok (.iconst 4, 1) := by decide +kernel
theorem dX10_isEven_12 : decode cX10_isEven 12 = .ok (.if_icmp .eq 8, 3) := by decide +kernel
theorem dX10_isEven_15 : decode cX10_isEven 15 = .ok (.iload_n 1, 1) := by decide +kernel
theorem dX10_isEven_16 : decode cX10_isEven 16 = .ok (.iconst 5, 1) := by decide +kernel
theorem dX10_isEven_17 : decode cX10_isEven 17 = .ok (.if_icmp .ne 7, 3) := by decide +kernel
theorem dX10_isEven_20 : decode cX10_isEven 20 = .ok (.iconst 1, 1) := by decide +kernel
theorem dX10_isEven_21 : decode cX10_isEven 21 = .ok (.goto 4, 3) := by decide +kernel
theorem dX10_isEven_24 : decode cX10_isEven 24 = .ok (.iconst 0, 1) := by decide +kernel
theorem dX10_isEven_25 : decode cX10_isEven 25 = .ok (.ireturn, 1) := by decide +kernel
theorem dX10_says_0 : decode cX10_says 0 = .ok (.aload_n 0, 1) := by decide +kernel
theorem dX10_says_1 : decode cX10_says 1 = .ok (.iload_n 1, 1) := by decide +kernel
theorem dX10_says_2 : decode cX10_says 2 = .ok (.invokevirtual 117, 3) := by decide +kernel
theorem dX10_says_5 : decode cX10_says 5 = .ok (.ifCond .eq 13, 3) := by decide +kernel
theorem dX10_says_8 : decode cX10_says 8 = .ok (.iload_n 2, 1) := by decide +kernel
theorem dX10_says_9 : decode cX10_says 9 = .ok (.ifCond .lt 9, 3) := by decide +kernel
theorem dX10_says_12 : decode cX10_says 12 = .ok (.iload_n 2, 1) := by decide +kernel
theorem dX10_says_13 : decode cX10_says 13 = .ok (.bipush 6, 2) := by decide +kernel
theorem dX10_says_15 : decode cX10_says 15 = .ok (.if_icmp .le 9, 3) := by decide +kernel
theorem dX10_says_18 : decode cX10_says 18 = .ok (.aload_n 0, 1) := by decide +kernel
theorem dX10_says_19 : decode cX10_says 19 = .ok (.iconst (-1), 1) := by decide +kernel
theorem dX10_says_20 : decode cX10_says 20 = .ok (.invokevirtual 121, 3) := by decide +kernel
theorem dX10_says_23 : decode cX10_says 23 = .ok (.ireturn, 1) := by decide +kernel
theorem dX10_says_24 : decode cX10_says 24 = .ok (.aload_n 0, 1) := by decide +kernel
theorem dX10_says_25 : decode cX10_says 25 = .ok (.getfield 65, 3) := by decide +kernel
theorem dX10_says_28 : decode cX10_says 28 = .ok (.iload_n 1, 1) := by decide +kernel
theorem dX10_says_29 : decode cX10_says 29 = .ok (.iaload, 1) := by decide +kernel
theorem dX10_says_30 : decode cX10_says 30 = .ok (.iconst 1, 1) := by decide +kernel
theorem dX10_says_31 : decode cX10_says 31 = .ok (.if_icmp .ne 10, 3) := by decide +kernel
theorem dX10_says_34 : decode cX10_says 34 = .ok (.aload_n 0, 1) := by decide +kernel
theorem dX10_says_35 : decode cX10_says 35 = .ok (.bipush (-2), 2) := by decide +kernel
theorem dX10_says_37 : decode cX10_says 37 = .ok (.invokevirtual 121, 3) := by decide +kernel
theorem dX10_says_40 : decode cX10_says 40 = .ok (.ireturn, 1) := by decide +kernel
theorem dX10_says_41 : decode cX10_says 41 = .ok (.aload_n 0, 1) := by decide +kernel
theorem dX10_says_42 : decode cX10_says 42 = .ok (.getfield 65, 3) := by decide +kernel
theorem dX10_says_45 : decode cX10_says 45 = .ok (.iload_n 1, 1) := by decide +kernel
theorem dX10_says_46 : decode cX10_says 46 = .ok (.iaload, 1) := by decide +kernel
theorem dX10_says_47 : decode cX10_says 47 = .ok (.ifCond .ne 10, 3) := by decide +kernel
theorem dX10_says_50 : decode cX10_says 50 = .ok (.aload_n 0, 1) := by decide +kernel
theorem dX10_says_51 : decode cX10_says 51 = .ok (.bipush (-3), 2) := by decide +kernel
theorem dX10_says_53 : decode cX10_says 53 = .ok (.invokevirtual 121, 3) := by decide +kernel
theorem dX10_says_56 : decode cX10_says 56 = .ok (.ireturn, 1) := by decide +kernel
theorem dX10_says_57 : decode cX10_says 57 = .ok (.aload_n 0, 1) := by decide +kernel
theorem dX10_says_58 : decode cX10_says 58 = .ok (.getfield 74, 3) := by decide +kernel
theorem dX10_says_61 : decode cX10_says 61 = .ok (.iload_n 1, 1) := by decide +kernel
theorem dX10_says_62 : decode cX10_says 62 = .ok (.iaload, 1) := by decide +kernel
theorem dX10_says_63 : decode cX10_says 63 = .ok (.istore_n 3, 1) := by decide +kernel
theorem dX10_says_64 : decode cX10_says 64 = .ok (.aload_n 0, 1) := by decide +kernel
theorem dX10_says_65 : decode cX10_says 65 = .ok (.getfield 35, 3) := by decide +kernel
theorem dX10_says_68 : decode cX10_says 68 = .ok (.iload_n 3, 1) := by decide +kernel
theorem dX10_says_69 : decode cX10_says 69 = .ok (.iaload, 1) := by decide +kernel
theorem dX10_says_70 : decode cX10_says 70 = .ok (.istore 4, 2) := by decide +kernel
theorem dX10_says_72 : decode cX10_says 72 = .ok (.iload_n 2, 1) := by decide +kernel
theorem dX10_says_73 : decode cX10_says 73 = .ok (.ifCond .eq 41, 3) := by decide +kernel
theorem dX10_says_76 : decode cX10_says 76 = .ok (.iload_n 2, 1) := by decide +kernel
theorem dX10_says_77 : decode cX10_says 77 = .ok (.iload 4, 2) := by decide +kernel
theorem dX10_says_79 : decode cX10_says 79 = .ok (.if_icmp .eq 35, 3) := by decide +kernel
theorem dX10_says_82 : decode cX10_says 82 = .ok (.iload_n 2, 1) := by decide +kernel
theorem dX10_says_83 : decode cX10_says 83 = .ok (.iconst 1, 1) := by decide +kernel
theorem dX10_says_84 : decode cX10_says 84 = .ok (.if_icmp .ne 12, 3) := by decide +kernel
theorem dX10_says_87 : decode cX10_says 87 = .ok (.aload_n 0, 1) := by decide +kernel
theorem dX10_says_88 : decode cX10_says 88 = .ok (.iload 4, 2) := by decide +kernel
theorem dX10_says_90 : decode cX10_says 90 = .ok (.invokevirtual 128, 3) := by decide +kernel
theorem dX10_says_93 : decode cX10_says 93 = .ok (.ifCond .ne 21, 3) := by decide +kernel
theorem dX10_says_96 : decode cX10_says 96 = .ok (.iload_n 2, 1) := by decide +kernel
theorem dX10_says_97 : decode cX10_says 97 = .ok (.iconst 2, 1) := by decide +kernel
theorem dX10_says_98 : decode cX10_says 98 = .ok (.if_icmp .ne 9, 3) := by decide +kernel
theorem dX10_says_101 : decode cX10_says 101 = .ok (.iload 4, 2) := by decide +kernel
theorem dX10_says_103 : decode cX10_says 103 = .ok (.iconst 5, 1) := by decide +kernel
theorem dX10_says_104 : decode cX10_says 104 = .ok (.if_icmp .eq 10, 3) := by decide +kernel
theorem dX10_says_107 : decode cX10_says 107 = .ok (.aload_n 0, 1) := by decide +kernel
theorem dX10_says_108 : decode cX10_says 108 = .ok (.bipush (-2), 2) := by decide +kernel
theorem dX10_says_110 : decode cX10_says 110 = .ok (.invokevirtual 121, 3) := by decide +kernel
theorem dX10_says_113 : decode cX10_says 113 = .ok (.ireturn, 1) := by decide +kernel
theorem dX10_says_114 : decode cX10_says 114 = .ok (.iload_n 2, 1) := by decide +kernel
theorem dX10_says_115 : decode cX10_says 115 = .ok (.tableswitch 71 0 5 #[37, 43, 50, 64, 43, 50], 37) := by decide +kernel
theorem dX10_says_152 : decode cX10_says 152 = .ok (.aload_n 0, 1) := by decide +kernel
theorem dX10_says_153 : decode cX10_says 153 = .ok (.iload_n 3, 1) := by decide +kernel
theorem dX10_says_154 : decode cX10_says 154 = .ok (.invokevirtual 131, 3) := by decide +kernel
theorem dX10_says_157 : decode cX10_says 157 = .ok (.ireturn, 1) := by decide +kernel
theorem dX10_says_158 : decode cX10_says 158 = .ok (.aload_n 0, 1) := by decide +kernel
theorem dX10_says_159 : decode cX10_says 159 = .ok (.getfield 38, 3) := by decide +kernel
theorem dX10_says_162 : decode cX10_says 162 = .ok (.iload_n 3, 1) := by decide +kernel
theorem dX10_says_163 : decode cX10_says 163 = .ok (.iaload, 1) := by decide +kernel
theorem dX10_says_164 : decode cX10_says 164 = .ok (.ireturn, 1) := by decide +kernel
theorem dX10_says_165 : decode cX10_says 165 = .ok (.aload_n 0, 1) := by decide +kernel
theorem dX10_says_166 : decode cX10_says 166 = .ok (.getfield 38, 3) := by decide +kernel
theorem dX10_says_169 : decode cX10_says 169 = .ok (.iload_n 3, 1) := by decide +kernel
theorem dX10_says_170 : decode cX10_says 170 = .ok (.iaload, 1) := by decide +kernel
theorem dX10_says_171 : decode cX10_says 171 = .ok (.aload_n 0, 1) := by decide +kernel
theorem dX10_says_172 : decode cX10_says 172 = .ok (.getfield 41, 3) := by decide +kernel
theorem dX10_says_175 : decode cX10_says 175 = .ok (.iload_n 3, 1) := by decide +kernel
theorem dX10_says_176 : decode cX10_says 176 = .ok (.iaload, 1) := by decide +kernel
theorem dX10_says_177 : decode cX10_says 177 = .ok (.iadd, 1) := by decide +kernel
theorem dX10_says_178 : decode cX10_says 178 = .ok (.ireturn, 1) := by decide +kernel
theorem dX10_says_179 : decode cX10_says 179 = .ok (.aload_n 0, 1) := by decide +kernel
theorem dX10_says_180 : decode cX10_says 180 = .ok (.getfield 44, 3) := by decide +kernel
theorem dX10_says_183 : decode cX10_says 183 = .ok (.iload_n 3, 1) := by decide +kernel
theorem dX10_says_184 : decode cX10_says 184 = .ok (.iaload, 1) := by decide +kernel
theorem dX10_says_185 : decode cX10_says 185 = .ok (.ireturn, 1) := by decide +kernel
theorem dX10_says_186 : decode cX10_says 186 = .ok (.aload_n 0, 1) := by decide +kernel
theorem dX10_says_187 : decode cX10_says 187 = .ok (.getfield 41, 3) := by decide +kernel
theorem dX10_says_190 : decode cX10_says 190 = .ok (.iload_n 3, 1) := by decide +kernel
theorem dX10_says_191 : decode cX10_says 191 = .ok (.iaload, 1) := by decide +kernel
theorem dX10_says_192 : decode cX10_says 192 = .ok (.ireturn, 1) := by decide +kernel
theorem dX10_wants_0 : decode cX10_wants 0 = .ok (.aload_n 0, 1) := by decide +kernel
theorem dX10_wants_1 : decode cX10_wants 1 = .ok (.iload_n 1, 1) := by decide +kernel
theorem dX10_wants_2 : decode cX10_wants 2 = .ok (.invokevirtual 117, 3) := by decide +kernel
theorem dX10_wants_5 : decode cX10_wants 5 = .ok (.ifCond .ne 7, 3) := by decide +kernel
theorem dX10_wants_8 : decode cX10_wants 8 = .ok (.iconst (-1), 1) := by decide +kernel
theorem dX10_wants_9 : decode cX10_wants 9 = .ok (.goto 33, 3) := by decide +kernel
theorem dX10_wants_12 : decode cX10_wants 12 = .ok (.aload_n 0, 1) := by decide +kernel
theorem dX10_wants_13 : decode cX10_wants 13 = .ok (.getfield 65, 3) := by decide +kernel
theorem dX10_wants_16 : decode cX10_wants 16 = .ok (.iload_n 1, 1) := by decide +kernel
theorem dX10_wants_17 : decode cX10_wants 17 = .ok (.iaload, 1) := by decide +kernel
theorem dX10_wants_18 : decode cX10_wants 18 = .ok (.iconst 2, 1) := by decide +kernel
theorem dX10_wants_19 : decode cX10_wants 19 = .ok (.if_icmp .ne 8, 3) := by decide +kernel
theorem dX10_wants_22 : decode cX10_wants 22 = .ok (.bipush (-2), 2) := by decide +kernel
theorem dX10_wants_24 : decode cX10_wants 24 = .ok (.goto 18, 3) := by decide +kernel
theorem dX10_wants_27 : decode cX10_wants 27 = .ok (.aload_n 0, 1) := by decide +kernel
theorem dX10_wants_28 : decode cX10_wants 28 = .ok (.getfield 65, 3) := by decide +kernel
theorem dX10_wants_31 : decode cX10_wants 31 = .ok (.iload_n 1, 1) := by decide +kernel
theorem dX10_wants_32 : decode cX10_wants 32 = .ok (.iaload, 1) := by decide +kernel
theorem dX10_wants_33 : decode cX10_wants 33 = .ok (.ifCond .ne 8, 3) := by decide +kernel
theorem dX10_wants_36 : decode cX10_wants 36 = .ok (.bipush (-3), 2) := by decide +kernel
theorem dX10_wants_38 : decode cX10_wants 38 = .ok (.goto 4, 3) := by decide +kernel
theorem dX10_wants_41 : decode cX10_wants 41 = .ok (.iconst 0, 1) := by decide +kernel
theorem dX10_wants_42 : decode cX10_wants 42 = .ok (.ireturn, 1) := by decide +kernel
theorem dX10_intAt_0 : decode cX10_intAt 0 = .ok (.aload_n 0, 1) := by decide +kernel
theorem dX10_intAt_1 : decode cX10_intAt 1 = .ok (.getfield 77, 3) := by decide +kernel
theorem dX10_intAt_4 : decode cX10_intAt 4 = .ok (.sipush 160, 3) := by decide +kernel
theorem dX10_intAt_7 : decode cX10_intAt 7 = .ok (.iload_n 1, 1) := by decide +kernel
theorem dX10_intAt_8 : decode cX10_intAt 8 = .ok (.imul, 1) := by decide +kernel
theorem dX10_intAt_9 : decode cX10_intAt 9 = .ok (.iload_n 2, 1) := by decide +kernel
theorem dX10_intAt_10 : decode cX10_intAt 10 = .ok (.iadd, 1) := by decide +kernel
theorem dX10_intAt_11 : decode cX10_intAt 11 = .ok (.laload, 1) := by decide +kernel
theorem dX10_intAt_12 : decode cX10_intAt 12 = .ok (.l2i, 1) := by decide +kernel
theorem dX10_intAt_13 : decode cX10_intAt 13 = .ok (.ireturn, 1) := by decide +kernel
theorem dX10_isSo_0 : decode cX10_isSo 0 = .ok (.iload_n 1, 1) := by decide +kernel
theorem dX10_isSo_1 : decode cX10_isSo 1 = .ok (.iconst 1, 1) := by decide +kernel
theorem dX10_isSo_2 : decode cX10_isSo 2 = .ok (.if_icmp .lt 34, 3) := by decide +kernel
theorem dX10_isSo_5 : decode cX10_isSo 5 = .ok (.iload_n 1, 1) := by decide +kernel
theorem dX10_isSo_6 : decode cX10_isSo 6 = .ok (.bipush 60, 2) := by decide +kernel
theorem dX10_isSo_8 : decode cX10_isSo 8 = .ok (.if_icmp .gt 28, 3) := by decide +kernel
theorem dX10_isSo_11 : decode cX10_isSo 11 = .ok (.iload_n 2, 1) := by decide +kernel
theorem dX10_isSo_12 : decode cX10_isSo 12 = .ok (.ifCond .lt 24, 3) := by decide +kernel
theorem dX10_isSo_15 : decode cX10_isSo 15 = .ok (.iload_n 2, 1) := by decide +kernel
theorem dX10_isSo_16 : decode cX10_isSo 16 = .ok (.bipush 60, 2) := by decide +kernel
theorem dX10_isSo_18 : decode cX10_isSo 18 = .ok (.if_icmp .gt 18, 3) := by decide +kernel
theorem dX10_isSo_21 : decode cX10_isSo 21 = .ok (.iload_n 3, 1) := by decide +kernel
theorem dX10_isSo_22 : decode cX10_isSo 22 = .ok (.iconst 1, 1) := by decide +kernel
theorem dX10_isSo_23 : decode cX10_isSo 23 = .ok (.if_icmp .lt 13, 3) := by decide +kernel
theorem dX10_isSo_26 : decode cX10_isSo 26 = .ok (.iload_n 3, 1) := by decide +kernel
theorem dX10_isSo_27 : decode cX10_isSo 27 = .ok (.bipush 60, 2) := by decide +kernel
theorem dX10_isSo_29 : decode cX10_isSo 29 = .ok (.if_icmp .gt 7, 3) := by decide +kernel
theorem dX10_isSo_32 : decode cX10_isSo 32 = .ok (.iconst 1, 1) := by decide +kernel
theorem dX10_isSo_33 : decode cX10_isSo 33 = .ok (.goto 4, 3) := by decide +kernel
theorem dX10_isSo_36 : decode cX10_isSo 36 = .ok (.iconst 0, 1) := by decide +kernel
theorem dX10_isSo_37 : decode cX10_isSo 37 = .ok (.ireturn, 1) := by decide +kernel
theorem dX10_comes_0 : decode cX10_comes 0 = .ok (.aload_n 0, 1) := by decide +kernel
theorem dX10_comes_1 : decode cX10_comes 1 = .ok (.getfield 35, 3) := by decide +kernel
theorem dX10_comes_4 : decode cX10_comes 4 = .ok (.aload_n 0, 1) := by decide +kernel
theorem dX10_comes_5 : decode cX10_comes 5 = .ok (.getfield 108, 3) := by decide +kernel
theorem dX10_comes_8 : decode cX10_comes 8 = .ok (.iload_n 1, 1) := by decide +kernel
theorem dX10_comes_9 : decode cX10_comes 9 = .ok (.iastore, 1) := by decide +kernel
theorem dX10_comes_10 : decode cX10_comes 10 = .ok (.aload_n 0, 1) := by decide +kernel
theorem dX10_comes_11 : decode cX10_comes 11 = .ok (.getfield 38, 3) := by decide +kernel
theorem dX10_comes_14 : decode cX10_comes 14 = .ok (.aload_n 0, 1) := by decide +kernel
theorem dX10_comes_15 : decode cX10_comes 15 = .ok (.getfield 108, 3) := by decide +kernel
theorem dX10_comes_18 : decode cX10_comes 18 = .ok (.iload_n 2, 1) := by decide +kernel
theorem dX10_comes_19 : decode cX10_comes 19 = .ok (.iastore, 1) := by decide +kernel
theorem dX10_comes_20 : decode cX10_comes 20 = .ok (.aload_n 0, 1) := by decide +kernel
theorem dX10_comes_21 : decode cX10_comes 21 = .ok (.getfield 41, 3) := by decide +kernel
theorem dX10_comes_24 : decode cX10_comes 24 = .ok (.aload_n 0, 1) := by decide +kernel
theorem dX10_comes_25 : decode cX10_comes 25 = .ok (.getfield 108, 3) := by decide +kernel
theorem dX10_comes_28 : decode cX10_comes 28 = .ok (.iload_n 3, 1) := by decide +kernel
theorem dX10_comes_29 : decode cX10_comes 29 = .ok (.iastore, 1) := by decide +kernel
theorem dX10_comes_30 : decode cX10_comes 30 = .ok (.aload_n 0, 1) := by decide +kernel
theorem dX10_comes_31 : decode cX10_comes 31 = .ok (.getfield 44, 3) := by decide +kernel
theorem dX10_comes_34 : decode cX10_comes 34 = .ok (.aload_n 0, 1) := by decide +kernel
theorem dX10_comes_35 : decode cX10_comes 35 = .ok (.getfield 108, 3) := by decide +kernel
theorem dX10_comes_38 : decode cX10_comes 38 = .ok (.iload 4, 2) := by decide +kernel
theorem dX10_comes_40 : decode cX10_comes 40 = .ok (.iastore, 1) := by decide +kernel
theorem dX10_comes_41 : decode cX10_comes 41 = .ok (.aload_n 0, 1) := by decide +kernel
theorem dX10_comes_42 : decode cX10_comes 42 = .ok (.dup, 1) := by decide +kernel
theorem dX10_comes_43 : decode cX10_comes 43 = .ok (.getfield 108, 3) := by decide +kernel
theorem dX10_comes_46 : decode cX10_comes 46 = .ok (.iconst 1, 1) := by decide +kernel
theorem dX10_comes_47 : decode cX10_comes 47 = .ok (.iadd, 1) := by decide +kernel
theorem dX10_comes_48 : decode cX10_comes 48 = .ok (.putfield 108, 3) := by decide +kernel
theorem dX10_comes_51 : decode cX10_comes 51 = .ok (.return_, 1) := by decide +kernel
theorem dX10_stretch_0 : decode cX10_stretch 0 = .ok (.iload_n 1, 1) := by decide +kernel
theorem dX10_stretch_1 : decode cX10_stretch 1 = .ok (.ifCond .lt 9, 3) := by decide +kernel
theorem dX10_stretch_4 : decode cX10_stretch 4 = .ok (.iload_n 1, 1) := by decide +kernel
theorem dX10_stretch_5 : decode cX10_stretch 5 = .ok (.bipush 6, 2) := by decide +kernel
theorem dX10_stretch_7 : decode cX10_stretch 7 = .ok (.if_icmp .le 9, 3) := by decide +kernel
theorem dX10_stretch_10 : decode cX10_stretch 10 = .ok (.aload_n 0, 1) := by decide +kernel
theorem dX10_stretch_11 : decode cX10_stretch 11 = .ok (.iconst (-1), 1) := by decide +kernel
theorem dX10_stretch_12 : decode cX10_stretch 12 = .ok (.invokevirtual 121, 3) := by decide +kernel
theorem dX10_stretch_15 : decode cX10_stretch 15 = .ok (.ireturn, 1) := by decide +kernel
theorem dX10_stretch_16 : decode cX10_stretch 16 = .ok (.aload_n 0, 1) := by decide +kernel
theorem dX10_stretch_17 : decode cX10_stretch 17 = .ok (.iload_n 2, 1) := by decide +kernel
theorem dX10_stretch_18 : decode cX10_stretch 18 = .ok (.iload_n 3, 1) := by decide +kernel
theorem dX10_stretch_19 : decode cX10_stretch 19 = .ok (.iload 4, 2) := by decide +kernel
theorem dX10_stretch_21 : decode cX10_stretch 21 = .ok (.invokevirtual 134, 3) := by decide +kernel
theorem dX10_stretch_24 : decode cX10_stretch 24 = .ok (.ifCond .ne 10, 3) := by decide +kernel
theorem dX10_stretch_27 : decode cX10_stretch 27 = .ok (.aload_n 0, 1) := by decide +kernel
theorem dX10_stretch_28 : decode cX10_stretch 28 = .ok (.bipush (-6), 2) := by decide +kernel
theorem dX10_stretch_30 : decode cX10_stretch 30 = .ok (.invokevirtual 121, 3) := by decide +kernel
theorem dX10_stretch_33 : decode cX10_stretch 33 = .ok (.ireturn, 1) := by decide +kernel
theorem dX10_stretch_34 : decode cX10_stretch 34 = .ok (.aload_n 0, 1) := by decide +kernel
theorem dX10_stretch_35 : decode cX10_stretch 35 = .ok (.getfield 108, 3) := by decide +kernel
theorem dX10_stretch_38 : decode cX10_stretch 38 = .ok (.bipush 16, 2) := by decide +kernel
theorem dX10_stretch_40 : decode cX10_stretch 40 = .ok (.if_icmp .ne 10, 3) := by decide +kernel
theorem dX10_stretch_43 : decode cX10_stretch 43 = .ok (.aload_n 0, 1) := by decide +kernel
theorem dX10_stretch_44 : decode cX10_stretch 44 = .ok (.bipush (-7), 2) := by decide +kernel
theorem dX10_stretch_46 : decode cX10_stretch 46 = .ok (.invokevirtual 121, 3) := by decide +kernel
theorem dX10_stretch_49 : decode cX10_stretch 49 = .ok (.ireturn, 1) := by decide +kernel
theorem dX10_stretch_50 : decode cX10_stretch 50 = .ok (.aload_n 0, 1) := by decide +kernel
theorem dX10_stretch_51 : decode cX10_stretch 51 = .ok (.iload_n 1, 1) := by decide +kernel
theorem dX10_stretch_52 : decode cX10_stretch 52 = .ok (.iload_n 2, 1) := by decide +kernel
theorem dX10_stretch_53 : decode cX10_stretch 53 = .ok (.iload_n 3, 1) := by decide +kernel
theorem dX10_stretch_54 : decode cX10_stretch 54 = .ok (.iload 4, 2) := by decide +kernel
theorem dX10_stretch_56 : decode cX10_stretch 56 = .ok (.invokevirtual 138, 3) := by decide +kernel
theorem dX10_stretch_59 : decode cX10_stretch 59 = .ok (.aload_n 0, 1) := by decide +kernel
theorem dX10_stretch_60 : decode cX10_stretch 60 = .ok (.getfield 108, 3) := by decide +kernel
theorem dX10_stretch_63 : decode cX10_stretch 63 = .ok (.iconst 1, 1) := by decide +kernel
theorem dX10_stretch_64 : decode cX10_stretch 64 = .ok (.isub, 1) := by decide +kernel
theorem dX10_stretch_65 : decode cX10_stretch 65 = .ok (.ireturn, 1) := by decide +kernel
theorem dX10_stretches_0 : decode cX10_stretches 0 = .ok (.aload_n 0, 1) := by decide +kernel
theorem dX10_stretches_1 : decode cX10_stretches 1 = .ok (.iload_n 1, 1) := by decide +kernel
theorem dX10_stretches_2 : decode cX10_stretches 2 = .ok (.invokevirtual 142, 3) := by decide +kernel
theorem dX10_stretches_5 : decode cX10_stretches 5 = .ok (.istore 4, 2) := by decide +kernel
theorem dX10_stretches_7 : decode cX10_stretches 7 = .ok (.iload 4, 2) := by decide +kernel
theorem dX10_stretches_9 : decode cX10_stretches 9 = .ok (.ifCond .eq 10, 3) := by decide +kernel
theorem dX10_stretches_12 : decode cX10_stretches 12 = .ok (.aload_n 0, 1) := by decide +kernel
theorem dX10_stretches_13 : decode cX10_stretches 13 = .ok (.iload 4, 2) := by decide +kernel
theorem dX10_stretches_15 : decode cX10_stretches 15 = .ok (.invokevirtual 121, 3) := by decide +kernel
theorem dX10_stretches_18 : decode cX10_stretches 18 = .ok (.ireturn, 1) := by decide +kernel
theorem dX10_stretches_19 : decode cX10_stretches 19 = .ok (.iload_n 3, 1) := by decide +kernel
theorem dX10_stretches_20 : decode cX10_stretches 20 = .ok (.ifCond .ge 10, 3) := by decide +kernel
theorem dX10_stretches_23 : decode cX10_stretches 23 = .ok (.aload_n 0, 1) := by decide +kernel
theorem dX10_stretches_24 : decode cX10_stretches 24 = .ok (.bipush (-4), 2) := by decide +kernel
theorem dX10_stretches_26 : decode cX10_stretches 26 = .ok (.invokevirtual 121, 3) := by decide +kernel
theorem dX10_stretches_29 : decode cX10_stretches 29 = .ok (.ireturn, 1) := by decide +kernel
theorem dX10_stretches_30 : decode cX10_stretches 30 = .ok (.iload_n 2, 1) := by decide +kernel
theorem dX10_stretches_31 : decode cX10_stretches 31 = .ok (.ifCond .lt 15, 3) := by decide +kernel
theorem dX10_stretches_34 : decode cX10_stretches 34 = .ok (.iload_n 2, 1) := by decide +kernel
theorem dX10_stretches_35 : decode cX10_stretches 35 = .ok (.aload_n 0, 1) := by decide +kernel
theorem dX10_stretches_36 : decode cX10_stretches 36 = .ok (.getfield 71, 3) := by decide +kernel
theorem dX10_stretches_39 : decode cX10_stretches 39 = .ok (.iload_n 1, 1) := by decide +kernel
theorem dX10_stretches_40 : decode cX10_stretches 40 = .ok (.iaload, 1) := by decide +kernel
theorem dX10_stretches_41 : decode cX10_stretches 41 = .ok (.iload_n 3, 1) := by decide +kernel
theorem dX10_stretches_42 : decode cX10_stretches 42 = .ok (.isub, 1) := by decide +kernel
theorem dX10_stretches_43 : decode cX10_stretches 43 = .ok (.if_icmp .le 10, 3) := by decide +kernel
theorem dX10_stretches_46 : decode cX10_stretches 46 = .ok (.aload_n 0, 1) := by decide +kernel
theorem dX10_stretches_47 : decode cX10_stretches 47 = .ok (.bipush (-5), 2) := by decide +kernel
theorem dX10_stretches_49 : decode cX10_stretches 49 = .ok (.invokevirtual 121, 3) := by decide +kernel
theorem dX10_stretches_52 : decode cX10_stretches 52 = .ok (.ireturn, 1) := by decide +kernel
theorem dX10_stretches_53 : decode cX10_stretches 53 = .ok (.iload_n 3, 1) := by decide +kernel
theorem dX10_stretches_54 : decode cX10_stretches 54 = .ok (.iconst 4, 1) := by decide +kernel
theorem dX10_stretches_55 : decode cX10_stretches 55 = .ok (.irem, 1) := by decide +kernel
theorem dX10_stretches_56 : decode cX10_stretches 56 = .ok (.ifCond .eq 10, 3) := by decide +kernel
theorem dX10_stretches_59 : decode cX10_stretches 59 = .ok (.aload_n 0, 1) := by decide +kernel
theorem dX10_stretches_60 : decode cX10_stretches 60 = .ok (.bipush (-6), 2) := by decide +kernel
theorem dX10_stretches_62 : decode cX10_stretches 62 = .ok (.invokevirtual 121, 3) := by decide +kernel
theorem dX10_stretches_65 : decode cX10_stretches 65 = .ok (.ireturn, 1) := by decide +kernel
theorem dX10_stretches_66 : decode cX10_stretches 66 = .ok (.iconst 0, 1) := by decide +kernel
theorem dX10_stretches_67 : decode cX10_stretches 67 = .ok (.istore 5, 2) := by decide +kernel
theorem dX10_stretches_69 : decode cX10_stretches 69 = .ok (.iload_n 2, 1) := by decide +kernel
theorem dX10_stretches_70 : decode cX10_stretches 70 = .ok (.istore 6, 2) := by decide +kernel
theorem dX10_stretches_72 : decode cX10_stretches 72 = .ok (.iload 6, 2) := by decide +kernel
theorem dX10_stretches_74 : decode cX10_stretches 74 = .ok (.iload_n 2, 1) := by decide +kernel
theorem dX10_stretches_75 : decode cX10_stretches 75 = .ok (.iload_n 3, 1) := by decide +kernel
theorem dX10_stretches_76 : decode cX10_stretches 76 = .ok (.iadd, 1) := by decide +kernel
theorem dX10_stretches_77 : decode cX10_stretches 77 = .ok (.if_icmp .ge 112, 3) := by decide +kernel
theorem dX10_stretches_80 : decode cX10_stretches 80 = .ok (.aload_n 0, 1) := by decide +kernel
theorem dX10_stretches_81 : decode cX10_stretches 81 = .ok (.iload_n 1, 1) := by decide +kernel
theorem dX10_stretches_82 : decode cX10_stretches 82 = .ok (.iload 6, 2) := by decide +kernel
theorem dX10_stretches_84 : decode cX10_stretches 84 = .ok (.invokevirtual 145, 3) := by decide +kernel
theorem dX10_stretches_87 : decode cX10_stretches 87 = .ok (.istore 7, 2) := by decide +kernel
theorem dX10_stretches_89 : decode cX10_stretches 89 = .ok (.aload_n 0, 1) := by decide +kernel
theorem dX10_stretches_90 : decode cX10_stretches 90 = .ok (.getfield 108, 3) := by decide +kernel
theorem dX10_stretches_93 : decode cX10_stretches 93 = .ok (.bipush 16, 2) := by decide +kernel
theorem dX10_stretches_95 : decode cX10_stretches 95 = .ok (.if_icmp .eq 49, 3) := by decide +kernel
theorem dX10_stretches_98 : decode cX10_stretches 98 = .ok (.iload 7, 2) := by decide +kernel
theorem dX10_stretches_100 : decode cX10_stretches 100 = .ok (.ifCond .lt 44, 3) := by decide +kernel
theorem dX10_stretches_103 : decode cX10_stretches 103 = .ok (.iload 7, 2) := by decide +kernel
theorem dX10_stretches_105 : decode cX10_stretches 105 = .ok (.bipush 6, 2) := by decide +kernel
theorem dX10_stretches_107 : decode cX10_stretches 107 = .ok (.if_icmp .gt 37, 3) := by decide +kernel
theorem dX10_stretches_110 : decode cX10_stretches 110 = .ok (.aload_n 0, 1) := by decide +kernel
theorem dX10_stretches_111 : decode cX10_stretches 111 = .ok (.aload_n 0, 1) := by decide +kernel
theorem dX10_stretches_112 : decode cX10_stretches 112 = .ok (.iload_n 1, 1) := by decide +kernel
theorem dX10_stretches_113 : decode cX10_stretches 113 = .ok (.iload 6, 2) := by decide +kernel
theorem dX10_stretches_115 : decode cX10_stretches 115 = .ok (.iconst 1, 1) := by decide +kernel
theorem dX10_stretches_116 : decode cX10_stretches 116 = .ok (.iadd, 1) := by decide +kernel
theorem dX10_stretches_117 : decode cX10_stretches 117 = .ok (.invokevirtual 145, 3) := by decide +kernel
theorem dX10_stretches_120 : decode cX10_stretches 120 = .ok (.aload_n 0, 1) := by decide +kernel
theorem dX10_stretches_121 : decode cX10_stretches 121 = .ok (.iload_n 1, 1) := by decide +kernel
theorem dX10_stretches_122 : decode cX10_stretches 122 = .ok (.iload 6, 2) := by decide +kernel
theorem dX10_stretches_124 : decode cX10_stretches 124 = .ok (.iconst 2, 1) := by decide +kernel
theorem dX10_stretches_125 : decode cX10_stretches 125 = .ok (.iadd, 1) := by decide +kernel
theorem dX10_stretches_126 : decode cX10_stretches 126 = .ok (.invokevirtual 145, 3) := by decide +kernel
theorem dX10_stretches_129 : decode cX10_stretches 129 = .ok (.aload_n 0, 1) := by decide +kernel
theorem dX10_stretches_130 : decode cX10_stretches 130 = .ok (.iload_n 1, 1) := by decide +kernel
theorem dX10_stretches_131 : decode cX10_stretches 131 = .ok (.iload 6, 2) := by decide +kernel
theorem dX10_stretches_133 : decode cX10_stretches 133 = .ok (.iconst 3, 1) := by decide +kernel
theorem dX10_stretches_134 : decode cX10_stretches 134 = .ok (.iadd, 1) := by decide +kernel
theorem dX10_stretches_135 : decode cX10_stretches 135 = .ok (.invokevirtual 145, 3) := by decide +kernel
theorem dX10_stretches_138 : decode cX10_stretches 138 = .ok (.invokevirtual 134, 3) := by decide +kernel
theorem dX10_stretches_141 : decode cX10_stretches 141 = .ok (.ifCond .ne 6, 3) := by decide +kernel
theorem dX10_stretches_144 : decode cX10_stretches 144 = .ok (.iload 5, 2) := by decide +kernel
theorem dX10_stretches_146 : decode cX10_stretches 146 = .ok (.ireturn, 1) := by decide +kernel
theorem dX10_stretches_147 : decode cX10_stretches 147 = .ok (.aload_n 0, 1) := by decide +kernel
theorem dX10_stretches_148 : decode cX10_stretches 148 = .ok (.iload 7, 2) := by decide +kernel
theorem dX10_stretches_150 : decode cX10_stretches 150 = .ok (.aload_n 0, 1) := by decide +kernel
theorem dX10_stretches_151 : decode cX10_stretches 151 = .ok (.iload_n 1, 1) := by decide +kernel
theorem dX10_stretches_152 : decode cX10_stretches 152 = .ok (.iload 6, 2) := by decide +kernel
theorem dX10_stretches_154 : decode cX10_stretches 154 = .ok (.iconst 1, 1) := by decide +kernel
theorem dX10_stretches_155 : decode cX10_stretches 155 = .ok (.iadd, 1) := by decide +kernel
theorem dX10_stretches_156 : decode cX10_stretches 156 = .ok (.invokevirtual 145, 3) := by decide +kernel
theorem dX10_stretches_159 : decode cX10_stretches 159 = .ok (.aload_n 0, 1) := by decide +kernel
theorem dX10_stretches_160 : decode cX10_stretches 160 = .ok (.iload_n 1, 1) := by decide +kernel
theorem dX10_stretches_161 : decode cX10_stretches 161 = .ok (.iload 6, 2) := by decide +kernel
theorem dX10_stretches_163 : decode cX10_stretches 163 = .ok (.iconst 2, 1) := by decide +kernel
theorem dX10_stretches_164 : decode cX10_stretches 164 = .ok (.iadd, 1) := by decide +kernel
theorem dX10_stretches_165 : decode cX10_stretches 165 = .ok (.invokevirtual 145, 3) := by decide +kernel
theorem dX10_stretches_168 : decode cX10_stretches 168 = .ok (.aload_n 0, 1) := by decide +kernel
theorem dX10_stretches_169 : decode cX10_stretches 169 = .ok (.iload_n 1, 1) := by decide +kernel
theorem dX10_stretches_170 : decode cX10_stretches 170 = .ok (.iload 6, 2) := by decide +kernel
theorem dX10_stretches_172 : decode cX10_stretches 172 = .ok (.iconst 3, 1) := by decide +kernel
theorem dX10_stretches_173 : decode cX10_stretches 173 = .ok (.iadd, 1) := by decide +kernel
theorem dX10_stretches_174 : decode cX10_stretches 174 = .ok (.invokevirtual 145, 3) := by decide +kernel
theorem dX10_stretches_177 : decode cX10_stretches 177 = .ok (.invokevirtual 138, 3) := by decide +kernel
theorem dX10_stretches_180 : decode cX10_stretches 180 = .ok (.iinc 5 1, 3) := by decide +kernel
theorem dX10_stretches_183 : decode cX10_stretches 183 = .ok (.iinc 6 4, 3) := by decide +kernel
theorem dX10_stretches_186 : decode cX10_stretches 186 = .ok (.goto (-114), 3) := by decide +kernel
theorem dX10_stretches_189 : decode cX10_stretches 189 = .ok (.iload 5, 2) := by decide +kernel
theorem dX10_stretches_191 : decode cX10_stretches 191 = .ok (.ireturn, 1) := by decide +kernel
theorem dX10_till_0 : decode cX10_till 0 = .ok (.iload_n 1, 1) := by decide +kernel
theorem dX10_till_1 : decode cX10_till 1 = .ok (.ifCond .lt 11, 3) := by decide +kernel
theorem dX10_till_4 : decode cX10_till 4 = .ok (.iload_n 1, 1) := by decide +kernel
theorem dX10_till_5 : decode cX10_till 5 = .ok (.aload_n 0, 1) := by decide +kernel
theorem dX10_till_6 : decode cX10_till 6 = .ok (.getfield 108, 3) := by decide +kernel
theorem dX10_till_9 : decode cX10_till 9 = .ok (.if_icmp .le 10, 3) := by decide +kernel
theorem dX10_till_12 : decode cX10_till 12 = .ok (.aload_n 0, 1) := by decide +kernel
theorem dX10_till_13 : decode cX10_till 13 = .ok (.bipush (-6), 2) := by decide +kernel
theorem dX10_till_15 : decode cX10_till 15 = .ok (.invokevirtual 121, 3) := by decide +kernel
theorem dX10_till_18 : decode cX10_till 18 = .ok (.ireturn, 1) := by decide +kernel
theorem dX10_till_19 : decode cX10_till 19 = .ok (.aload_n 0, 1) := by decide +kernel
theorem dX10_till_20 : decode cX10_till 20 = .ok (.iload_n 1, 1) := by decide +kernel
theorem dX10_till_21 : decode cX10_till 21 = .ok (.putfield 108, 3) := by decide +kernel
theorem dX10_till_24 : decode cX10_till 24 = .ok (.aload_n 0, 1) := by decide +kernel
theorem dX10_till_25 : decode cX10_till 25 = .ok (.invokevirtual 149, 3) := by decide +kernel
theorem dX10_till_28 : decode cX10_till 28 = .ok (.iload_n 1, 1) := by decide +kernel
theorem dX10_till_29 : decode cX10_till 29 = .ok (.ireturn, 1) := by decide +kernel
theorem dX10_isTwo_0 : decode cX10_isTwo 0 = .ok (.iload_n 1, 1) := by decide +kernel
theorem dX10_isTwo_1 : decode cX10_isTwo 1 = .ok (.iconst 2, 1) := by decide +kernel
theorem dX10_isTwo_2 : decode cX10_isTwo 2 = .ok (.if_icmp .eq 8, 3) := by decide +kernel
theorem dX10_isTwo_5 : decode cX10_isTwo 5 = .ok (.iload_n 1, 1) := by decide +kernel
theorem dX10_isTwo_6 : decode cX10_isTwo 6 = .ok (.iconst 5, 1) := by decide +kernel
theorem dX10_isTwo_7 : decode cX10_isTwo 7 = .ok (.if_icmp .ne 7, 3) := by decide +kernel
theorem dX10_isTwo_10 : decode cX10_isTwo 10 = .ok (.iconst 1, 1) := by decide +kernel
theorem dX10_isTwo_11 : decode cX10_isTwo 11 = .ok (.goto 4, 3) := by decide +kernel
theorem dX10_isTwo_14 : decode cX10_isTwo 14 = .ok (.iconst 0, 1) := by decide +kernel
theorem dX10_isTwo_15 : decode cX10_isTwo 15 = .ok (.ireturn, 1) := by decide +kernel
theorem dX10_lengthOf_0 : decode cX10_lengthOf 0 = .ok (.aload_n 0, 1) := by decide +kernel
theorem dX10_lengthOf_1 : decode cX10_lengthOf 1 = .ok (.aload_n 0, 1) := by decide +kernel
theorem dX10_lengthOf_2 : decode cX10_lengthOf 2 = .ok (.getfield 35, 3) := by decide +kernel
theorem dX10_lengthOf_5 : decode cX10_lengthOf 5 = .ok (.iload_n 1, 1) := by decide +kernel
theorem dX10_lengthOf_6 : decode cX10_lengthOf 6 = .ok (.iaload, 1) := by decide +kernel
theorem dX10_lengthOf_7 : decode cX10_lengthOf 7 = .ok (.invokevirtual 152, 3) := by decide +kernel
theorem dX10_lengthOf_10 : decode cX10_lengthOf 10 = .ok (.ifCond .eq 19, 3) := by decide +kernel
theorem dX10_lengthOf_13 : decode cX10_lengthOf 13 = .ok (.aload_n 0, 1) := by decide +kernel
theorem dX10_lengthOf_14 : decode cX10_lengthOf 14 = .ok (.getfield 38, 3) := by decide +kernel
theorem dX10_lengthOf_17 : decode cX10_lengthOf 17 = .ok (.iload_n 1, 1) := by decide +kernel
theorem dX10_lengthOf_18 : decode cX10_lengthOf 18 = .ok (.iaload, 1) := by decide +kernel
theorem dX10_lengthOf_19 : decode cX10_lengthOf 19 = .ok (.aload_n 0, 1) := by decide +kernel
theorem dX10_lengthOf_20 : decode cX10_lengthOf 20 = .ok (.getfield 41, 3) := by decide +kernel
theorem dX10_lengthOf_23 : decode cX10_lengthOf 23 = .ok (.iload_n 1, 1) := by decide +kernel
theorem dX10_lengthOf_24 : decode cX10_lengthOf 24 = .ok (.iaload, 1) := by decide +kernel
theorem dX10_lengthOf_25 : decode cX10_lengthOf 25 = .ok (.iadd, 1) := by decide +kernel
theorem dX10_lengthOf_26 : decode cX10_lengthOf 26 = .ok (.goto 29, 3) := by decide +kernel
theorem dX10_lengthOf_29 : decode cX10_lengthOf 29 = .ok (.aload_n 0, 1) := by decide +kernel
theorem dX10_lengthOf_30 : decode cX10_lengthOf 30 = .ok (.getfield 35, 3) := by decide +kernel
theorem dX10_lengthOf_33 : decode cX10_lengthOf 33 = .ok (.iload_n 1, 1) := by decide +kernel
theorem dX10_lengthOf_34 : decode cX10_lengthOf 34 = .ok (.iaload, 1) := by decide +kernel
theorem dX10_lengthOf_35 : decode cX10_lengthOf 35 = .ok (.bipush 6, 2) := by decide +kernel
theorem dX10_lengthOf_37 : decode cX10_lengthOf 37 = .ok (.if_icmp .ne 12, 3) := by decide +kernel
theorem dX10_lengthOf_40 : decode cX10_lengthOf 40 = .ok (.aload_n 0, 1) := by decide +kernel
theorem dX10_lengthOf_41 : decode cX10_lengthOf 41 = .ok (.getfield 41, 3) := by decide +kernel
theorem dX10_lengthOf_44 : decode cX10_lengthOf 44 = .ok (.iload_n 1, 1) := by decide +kernel
theorem dX10_lengthOf_45 : decode cX10_lengthOf 45 = .ok (.iaload, 1) := by decide +kernel
theorem dX10_lengthOf_46 : decode cX10_lengthOf 46 = .ok (.goto 9, 3) := by decide +kernel
theorem dX10_lengthOf_49 : decode cX10_lengthOf 49 = .ok (.aload_n 0, 1) := by decide +kernel
theorem dX10_lengthOf_50 : decode cX10_lengthOf 50 = .ok (.getfield 38, 3) := by decide +kernel
theorem dX10_lengthOf_53 : decode cX10_lengthOf 53 = .ok (.iload_n 1, 1) := by decide +kernel
theorem dX10_lengthOf_54 : decode cX10_lengthOf 54 = .ok (.iaload, 1) := by decide +kernel
theorem dX10_lengthOf_55 : decode cX10_lengthOf 55 = .ok (.istore_n 2, 1) := by decide +kernel
theorem dX10_lengthOf_56 : decode cX10_lengthOf 56 = .ok (.aload_n 0, 1) := by decide +kernel
theorem dX10_lengthOf_57 : decode cX10_lengthOf 57 = .ok (.getfield 44, 3) := by decide +kernel
theorem dX10_lengthOf_60 : decode cX10_lengthOf 60 = .ok (.iload_n 1, 1) := by decide +kernel
theorem dX10_lengthOf_61 : decode cX10_lengthOf 61 = .ok (.iaload, 1) := by decide +kernel
theorem dX10_lengthOf_62 : decode cX10_lengthOf 62 = .ok (.iload_n 2, 1) := by decide +kernel
theorem dX10_lengthOf_63 : decode cX10_lengthOf 63 = .ok (.imul, 1) := by decide +kernel
theorem dX10_lengthOf_64 : decode cX10_lengthOf 64 = .ok (.ireturn, 1) := by decide +kernel
theorem dX10_stretchOf_0 : decode cX10_stretchOf 0 = .ok (.aload_n 0, 1) := by decide +kernel
theorem dX10_stretchOf_1 : decode cX10_stretchOf 1 = .ok (.iload_n 1, 1) := by decide +kernel
theorem dX10_stretchOf_2 : decode cX10_stretchOf 2 = .ok (.invokevirtual 125, 3) := by decide +kernel
theorem dX10_stretchOf_5 : decode cX10_stretchOf 5 = .ok (.ifCond .eq 12, 3) := by decide +kernel
theorem dX10_stretchOf_8 : decode cX10_stretchOf 8 = .ok (.iload_n 2, 1) := by decide +kernel
theorem dX10_stretchOf_9 : decode cX10_stretchOf 9 = .ok (.ifCond .lt 8, 3) := by decide +kernel
theorem dX10_stretchOf_12 : decode cX10_stretchOf 12 = .ok (.iload_n 2, 1) := by decide +kernel
theorem dX10_stretchOf_13 : decode cX10_stretchOf 13 = .ok (.iconst 4, 1) := by decide +kernel
theorem dX10_stretchOf_14 : decode cX10_stretchOf 14 = .ok (.if_icmp .le 10, 3) := by decide +kernel
theorem dX10_stretchOf_17 : decode cX10_stretchOf 17 = .ok (.aload_n 0, 1) := by decide +kernel
theorem dX10_stretchOf_18 : decode cX10_stretchOf 18 = .ok (.bipush (-5), 2) := by decide +kernel
theorem dX10_stretchOf_20 : decode cX10_stretchOf 20 = .ok (.invokevirtual 121, 3) := by decide +kernel
theorem dX10_stretchOf_23 : decode cX10_stretchOf 23 = .ok (.ireturn, 1) := by decide +kernel
theorem dX10_stretchOf_24 : decode cX10_stretchOf 24 = .ok (.iload_n 2, 1) := by decide +kernel
theorem dX10_stretchOf_25 : decode cX10_stretchOf 25 = .ok (.ifCond .ne 12, 3) := by decide +kernel
theorem dX10_stretchOf_28 : decode cX10_stretchOf 28 = .ok (.aload_n 0, 1) := by decide +kernel
theorem dX10_stretchOf_29 : decode cX10_stretchOf 29 = .ok (.getfield 35, 3) := by decide +kernel
theorem dX10_stretchOf_32 : decode cX10_stretchOf 32 = .ok (.iload_n 1, 1) := by decide +kernel
theorem dX10_stretchOf_33 : decode cX10_stretchOf 33 = .ok (.iaload, 1) := by decide +kernel
theorem dX10_stretchOf_34 : decode cX10_stretchOf 34 = .ok (.goto 50, 3) := by decide +kernel
theorem dX10_stretchOf_37 : decode cX10_stretchOf 37 = .ok (.iload_n 2, 1) := by decide +kernel
theorem dX10_stretchOf_38 : decode cX10_stretchOf 38 = .ok (.iconst 1, 1) := by decide +kernel
theorem dX10_stretchOf_39 : decode cX10_stretchOf 39 = .ok (.if_icmp .ne 12, 3) := by decide +kernel
theorem dX10_stretchOf_42 : decode cX10_stretchOf 42 = .ok (.aload_n 0, 1) := by decide +kernel
theorem dX10_stretchOf_43 : decode cX10_stretchOf 43 = .ok (.getfield 38, 3) := by decide +kernel
theorem dX10_stretchOf_46 : decode cX10_stretchOf 46 = .ok (.iload_n 1, 1) := by decide +kernel
theorem dX10_stretchOf_47 : decode cX10_stretchOf 47 = .ok (.iaload, 1) := by decide +kernel
theorem dX10_stretchOf_48 : decode cX10_stretchOf 48 = .ok (.goto 36, 3) := by decide +kernel
theorem dX10_stretchOf_51 : decode cX10_stretchOf 51 = .ok (.iload_n 2, 1) := by decide +kernel
theorem dX10_stretchOf_52 : decode cX10_stretchOf 52 = .ok (.iconst 2, 1) := by decide +kernel
theorem dX10_stretchOf_53 : decode cX10_stretchOf 53 = .ok (.if_icmp .ne 12, 3) := by decide +kernel
theorem dX10_stretchOf_56 : decode cX10_stretchOf 56 = .ok (.aload_n 0, 1) := by decide +kernel
theorem dX10_stretchOf_57 : decode cX10_stretchOf 57 = .ok (.getfield 41, 3) := by decide +kernel
theorem dX10_stretchOf_60 : decode cX10_stretchOf 60 = .ok (.iload_n 1, 1) := by decide +kernel
theorem dX10_stretchOf_61 : decode cX10_stretchOf 61 = .ok (.iaload, 1) := by decide +kernel
theorem dX10_stretchOf_62 : decode cX10_stretchOf 62 = .ok (.goto 22, 3) := by decide +kernel
theorem dX10_stretchOf_65 : decode cX10_stretchOf 65 = .ok (.iload_n 2, 1) := by decide +kernel
theorem dX10_stretchOf_66 : decode cX10_stretchOf 66 = .ok (.iconst 3, 1) := by decide +kernel
theorem dX10_stretchOf_67 : decode cX10_stretchOf 67 = .ok (.if_icmp .ne 12, 3) := by decide +kernel
theorem dX10_stretchOf_70 : decode cX10_stretchOf 70 = .ok (.aload_n 0, 1) := by decide +kernel
theorem dX10_stretchOf_71 : decode cX10_stretchOf 71 = .ok (.getfield 44, 3) := by decide +kernel
theorem dX10_stretchOf_74 : decode cX10_stretchOf 74 = .ok (.iload_n 1, 1) := by decide +kernel
theorem dX10_stretchOf_75 : decode cX10_stretchOf 75 = .ok (.iaload, 1) := by decide +kernel
theorem dX10_stretchOf_76 : decode cX10_stretchOf 76 = .ok (.goto 8, 3) := by decide +kernel
theorem dX10_stretchOf_79 : decode cX10_stretchOf 79 = .ok (.aload_n 0, 1) := by decide +kernel
theorem dX10_stretchOf_80 : decode cX10_stretchOf 80 = .ok (.iload_n 1, 1) := by decide +kernel
theorem dX10_stretchOf_81 : decode cX10_stretchOf 81 = .ok (.invokevirtual 131, 3) := by decide +kernel
theorem dX10_stretchOf_84 : decode cX10_stretchOf 84 = .ok (.ireturn, 1) := by decide +kernel
theorem dX10_shares_0 : decode cX10_shares 0 = .ok (.iconst 0, 1) := by decide +kernel
theorem dX10_shares_1 : decode cX10_shares 1 = .ok (.istore_n 1, 1) := by decide +kernel
theorem dX10_shares_2 : decode cX10_shares 2 = .ok (.iconst 0, 1) := by decide +kernel
theorem dX10_shares_3 : decode cX10_shares 3 = .ok (.istore_n 2, 1) := by decide +kernel
theorem dX10_shares_4 : decode cX10_shares 4 = .ok (.iload_n 2, 1) := by decide +kernel
theorem dX10_shares_5 : decode cX10_shares 5 = .ok (.aload_n 0, 1) := by decide +kernel
theorem dX10_shares_6 : decode cX10_shares 6 = .ok (.getfield 111, 3) := by decide +kernel
theorem dX10_shares_9 : decode cX10_shares 9 = .ok (.if_icmp .ge 18, 3) := by decide +kernel
theorem dX10_shares_12 : decode cX10_shares 12 = .ok (.iload_n 1, 1) := by decide +kernel
theorem dX10_shares_13 : decode cX10_shares 13 = .ok (.aload_n 0, 1) := by decide +kernel
theorem dX10_shares_14 : decode cX10_shares 14 = .ok (.getfield 53, 3) := by decide +kernel
theorem dX10_shares_17 : decode cX10_shares 17 = .ok (.iload_n 2, 1) := by decide +kernel
theorem dX10_shares_18 : decode cX10_shares 18 = .ok (.iaload, 1) := by decide +kernel
theorem dX10_shares_19 : decode cX10_shares 19 = .ok (.iadd, 1) := by decide +kernel
theorem dX10_shares_20 : decode cX10_shares 20 = .ok (.istore_n 1, 1) := by decide +kernel
theorem dX10_shares_21 : decode cX10_shares 21 = .ok (.iinc 2 1, 3) := by decide +kernel
theorem dX10_shares_24 : decode cX10_shares 24 = .ok (.goto (-20), 3) := by decide +kernel
theorem dX10_shares_27 : decode cX10_shares 27 = .ok (.iload_n 1, 1) := by decide +kernel
theorem dX10_shares_28 : decode cX10_shares 28 = .ok (.ireturn, 1) := by decide +kernel
theorem dX10_cars_0 : decode cX10_cars 0 = .ok (.aload_n 0, 1) := by decide +kernel
theorem dX10_cars_1 : decode cX10_cars 1 = .ok (.getfield 47, 3) := by decide +kernel
theorem dX10_cars_4 : decode cX10_cars 4 = .ok (.aload_n 0, 1) := by decide +kernel
theorem dX10_cars_5 : decode cX10_cars 5 = .ok (.getfield 111, 3) := by decide +kernel
theorem dX10_cars_8 : decode cX10_cars 8 = .ok (.iload_n 1, 1) := by decide +kernel
theorem dX10_cars_9 : decode cX10_cars 9 = .ok (.iastore, 1) := by decide +kernel
theorem dX10_cars_10 : decode cX10_cars 10 = .ok (.aload_n 0, 1) := by decide +kernel
theorem dX10_cars_11 : decode cX10_cars 11 = .ok (.getfield 50, 3) := by decide +kernel
theorem dX10_cars_14 : decode cX10_cars 14 = .ok (.aload_n 0, 1) := by decide +kernel
theorem dX10_cars_15 : decode cX10_cars 15 = .ok (.getfield 111, 3) := by decide +kernel
theorem dX10_cars_18 : decode cX10_cars 18 = .ok (.iload_n 2, 1) := by decide +kernel
theorem dX10_cars_19 : decode cX10_cars 19 = .ok (.iastore, 1) := by decide +kernel
theorem dX10_cars_20 : decode cX10_cars 20 = .ok (.aload_n 0, 1) := by decide +kernel
theorem dX10_cars_21 : decode cX10_cars 21 = .ok (.getfield 53, 3) := by decide +kernel
theorem dX10_cars_24 : decode cX10_cars 24 = .ok (.aload_n 0, 1) := by decide +kernel
theorem dX10_cars_25 : decode cX10_cars 25 = .ok (.getfield 111, 3) := by decide +kernel
theorem dX10_cars_28 : decode cX10_cars 28 = .ok (.iload_n 3, 1) := by decide +kernel
theorem dX10_cars_29 : decode cX10_cars 29 = .ok (.iastore, 1) := by decide +kernel
theorem dX10_cars_30 : decode cX10_cars 30 = .ok (.aload_n 0, 1) := by decide +kernel
theorem dX10_cars_31 : decode cX10_cars 31 = .ok (.dup, 1) := by decide +kernel
theorem dX10_cars_32 : decode cX10_cars 32 = .ok (.getfield 111, 3) := by decide +kernel
theorem dX10_cars_35 : decode cX10_cars 35 = .ok (.dup_x1, 1) := by decide +kernel
theorem dX10_cars_36 : decode cX10_cars 36 = .ok (.iconst 1, 1) := by decide +kernel
theorem dX10_cars_37 : decode cX10_cars 37 = .ok (.iadd, 1) := by decide +kernel
theorem dX10_cars_38 : decode cX10_cars 38 = .ok (.putfield 111, 3) := by decide +kernel
theorem dX10_cars_41 : decode cX10_cars 41 = .ok (.ireturn, 1) := by decide +kernel
theorem dX10_car_0 : decode cX10_car 0 = .ok (.aload_n 0, 1) := by decide +kernel
theorem dX10_car_1 : decode cX10_car 1 = .ok (.iload_n 1, 1) := by decide +kernel
theorem dX10_car_2 : decode cX10_car 2 = .ok (.invokevirtual 155, 3) := by decide +kernel
theorem dX10_car_5 : decode cX10_car 5 = .ok (.ifCond .eq 29, 3) := by decide +kernel
theorem dX10_car_8 : decode cX10_car 8 = .ok (.iload_n 2, 1) := by decide +kernel
theorem dX10_car_9 : decode cX10_car 9 = .ok (.ifCond .lt 25, 3) := by decide +kernel
theorem dX10_car_12 : decode cX10_car 12 = .ok (.iload_n 2, 1) := by decide +kernel
theorem dX10_car_13 : decode cX10_car 13 = .ok (.sipush 999, 3) := by decide +kernel
theorem dX10_car_16 : decode cX10_car 16 = .ok (.if_icmp .gt 18, 3) := by decide +kernel
theorem dX10_car_19 : decode cX10_car 19 = .ok (.iload_n 3, 1) := by decide +kernel
theorem dX10_car_20 : decode cX10_car 20 = .ok (.ifCond .lt 14, 3) := by decide +kernel
theorem dX10_car_23 : decode cX10_car 23 = .ok (.iload_n 3, 1) := by decide +kernel
theorem dX10_car_24 : decode cX10_car 24 = .ok (.bipush 100, 2) := by decide +kernel
theorem dX10_car_26 : decode cX10_car 26 = .ok (.aload_n 0, 1) := by decide +kernel
theorem dX10_car_27 : decode cX10_car 27 = .ok (.invokevirtual 158, 3) := by decide +kernel
theorem dX10_car_30 : decode cX10_car 30 = .ok (.isub, 1) := by decide +kernel
theorem dX10_car_31 : decode cX10_car 31 = .ok (.if_icmp .le 10, 3) := by decide +kernel
theorem dX10_car_34 : decode cX10_car 34 = .ok (.aload_n 0, 1) := by decide +kernel
theorem dX10_car_35 : decode cX10_car 35 = .ok (.bipush (-6), 2) := by decide +kernel
theorem dX10_car_37 : decode cX10_car 37 = .ok (.invokevirtual 121, 3) := by decide +kernel
theorem dX10_car_40 : decode cX10_car 40 = .ok (.ireturn, 1) := by decide +kernel
theorem dX10_car_41 : decode cX10_car 41 = .ok (.aload_n 0, 1) := by decide +kernel
theorem dX10_car_42 : decode cX10_car 42 = .ok (.getfield 111, 3) := by decide +kernel
theorem dX10_car_45 : decode cX10_car 45 = .ok (.bipush 6, 2) := by decide +kernel
theorem dX10_car_47 : decode cX10_car 47 = .ok (.if_icmp .ne 12, 3) := by decide +kernel
theorem dX10_car_50 : decode cX10_car 50 = .ok (.aload_n 0, 1) := by decide +kernel
theorem dX10_car_51 : decode cX10_car 51 = .ok (.bipush (-7), 2) := by decide +kernel
theorem dX10_car_53 : decode cX10_car 53 = .ok (.invokevirtual 121, 3) := by decide +kernel
theorem dX10_car_56 : decode cX10_car 56 = .ok (.goto 10, 3) := by decide +kernel
theorem dX10_car_59 : decode cX10_car 59 = .ok (.aload_n 0, 1) := by decide +kernel
theorem dX10_car_60 : decode cX10_car 60 = .ok (.iload_n 1, 1) := by decide +kernel
theorem dX10_car_61 : decode cX10_car 61 = .ok (.iload_n 2, 1) := by decide +kernel
theorem dX10_car_62 : decode cX10_car 62 = .ok (.iload_n 3, 1) := by decide +kernel
theorem dX10_car_63 : decode cX10_car 63 = .ok (.invokevirtual 162, 3) := by decide +kernel
theorem dX10_car_66 : decode cX10_car 66 = .ok (.ireturn, 1) := by decide +kernel
theorem dX10_carOf_0 : decode cX10_carOf 0 = .ok (.aload_n 0, 1) := by decide +kernel
theorem dX10_carOf_1 : decode cX10_carOf 1 = .ok (.iload_n 1, 1) := by decide +kernel
theorem dX10_carOf_2 : decode cX10_carOf 2 = .ok (.invokevirtual 165, 3) := by decide +kernel
theorem dX10_carOf_5 : decode cX10_carOf 5 = .ok (.ifCond .eq 12, 3) := by decide +kernel
theorem dX10_carOf_8 : decode cX10_carOf 8 = .ok (.iload_n 2, 1) := by decide +kernel
theorem dX10_carOf_9 : decode cX10_carOf 9 = .ok (.ifCond .lt 8, 3) := by decide +kernel
theorem dX10_carOf_12 : decode cX10_carOf 12 = .ok (.iload_n 2, 1) := by decide +kernel
theorem dX10_carOf_13 : decode cX10_carOf 13 = .ok (.iconst 2, 1) := by decide +kernel
theorem dX10_carOf_14 : decode cX10_carOf 14 = .ok (.if_icmp .le 10, 3) := by decide +kernel
theorem dX10_carOf_17 : decode cX10_carOf 17 = .ok (.aload_n 0, 1) := by decide +kernel
theorem dX10_carOf_18 : decode cX10_carOf 18 = .ok (.bipush (-5), 2) := by decide +kernel
theorem dX10_carOf_20 : decode cX10_carOf 20 = .ok (.invokevirtual 121, 3) := by decide +kernel
theorem dX10_carOf_23 : decode cX10_carOf 23 = .ok (.ireturn, 1) := by decide +kernel
theorem dX10_carOf_24 : decode cX10_carOf 24 = .ok (.iload_n 2, 1) := by decide +kernel
theorem dX10_carOf_25 : decode cX10_carOf 25 = .ok (.ifCond .ne 12, 3) := by decide +kernel
theorem dX10_carOf_28 : decode cX10_carOf 28 = .ok (.aload_n 0, 1) := by decide +kernel
theorem dX10_carOf_29 : decode cX10_carOf 29 = .ok (.getfield 47, 3) := by decide +kernel
theorem dX10_carOf_32 : decode cX10_carOf 32 = .ok (.iload_n 1, 1) := by decide +kernel
theorem dX10_carOf_33 : decode cX10_carOf 33 = .ok (.iaload, 1) := by decide +kernel
theorem dX10_carOf_34 : decode cX10_carOf 34 = .ok (.goto 23, 3) := by decide +kernel
theorem dX10_carOf_37 : decode cX10_carOf 37 = .ok (.iload_n 2, 1) := by decide +kernel
theorem dX10_carOf_38 : decode cX10_carOf 38 = .ok (.iconst 1, 1) := by decide +kernel
theorem dX10_carOf_39 : decode cX10_carOf 39 = .ok (.if_icmp .ne 12, 3) := by decide +kernel
theorem dX10_carOf_42 : decode cX10_carOf 42 = .ok (.aload_n 0, 1) := by decide +kernel
theorem dX10_carOf_43 : decode cX10_carOf 43 = .ok (.getfield 50, 3) := by decide +kernel
theorem dX10_carOf_46 : decode cX10_carOf 46 = .ok (.iload_n 1, 1) := by decide +kernel
theorem dX10_carOf_47 : decode cX10_carOf 47 = .ok (.iaload, 1) := by decide +kernel
theorem dX10_carOf_48 : decode cX10_carOf 48 = .ok (.goto 9, 3) := by decide +kernel
theorem dX10_carOf_51 : decode cX10_carOf 51 = .ok (.aload_n 0, 1) := by decide +kernel
theorem dX10_carOf_52 : decode cX10_carOf 52 = .ok (.getfield 53, 3) := by decide +kernel
theorem dX10_carOf_55 : decode cX10_carOf 55 = .ok (.iload_n 1, 1) := by decide +kernel
theorem dX10_carOf_56 : decode cX10_carOf 56 = .ok (.iaload, 1) := by decide +kernel
theorem dX10_carOf_57 : decode cX10_carOf 57 = .ok (.ireturn, 1) := by decide +kernel
theorem dX10_tune_0 : decode cX10_tune 0 = .ok (.aload_n 0, 1) := by decide +kernel
theorem dX10_tune_1 : decode cX10_tune 1 = .ok (.iload_n 1, 1) := by decide +kernel
theorem dX10_tune_2 : decode cX10_tune 2 = .ok (.invokevirtual 142, 3) := by decide +kernel
theorem dX10_tune_5 : decode cX10_tune 5 = .ok (.istore_n 3, 1) := by decide +kernel
theorem dX10_tune_6 : decode cX10_tune 6 = .ok (.iload_n 3, 1) := by decide +kernel
theorem dX10_tune_7 : decode cX10_tune 7 = .ok (.ifCond .eq 9, 3) := by decide +kernel
theorem dX10_tune_10 : decode cX10_tune 10 = .ok (.aload_n 0, 1) := by decide +kernel
theorem dX10_tune_11 : decode cX10_tune 11 = .ok (.iload_n 3, 1) := by decide +kernel
theorem dX10_tune_12 : decode cX10_tune 12 = .ok (.invokevirtual 121, 3) := by decide +kernel
theorem dX10_tune_15 : decode cX10_tune 15 = .ok (.ireturn, 1) := by decide +kernel
theorem dX10_tune_16 : decode cX10_tune 16 = .ok (.iload_n 2, 1) := by decide +kernel
theorem dX10_tune_17 : decode cX10_tune 17 = .ok (.ifCond .ge 10, 3) := by decide +kernel
theorem dX10_tune_20 : decode cX10_tune 20 = .ok (.aload_n 0, 1) := by decide +kernel
theorem dX10_tune_21 : decode cX10_tune 21 = .ok (.bipush (-4), 2) := by decide +kernel
theorem dX10_tune_23 : decode cX10_tune 23 = .ok (.invokevirtual 121, 3) := by decide +kernel
theorem dX10_tune_26 : decode cX10_tune 26 = .ok (.ireturn, 1) := by decide +kernel
theorem dX10_tune_27 : decode cX10_tune 27 = .ok (.iload_n 2, 1) := by decide +kernel
theorem dX10_tune_28 : decode cX10_tune 28 = .ok (.aload_n 0, 1) := by decide +kernel
theorem dX10_tune_29 : decode cX10_tune 29 = .ok (.getfield 71, 3) := by decide +kernel
theorem dX10_tune_32 : decode cX10_tune 32 = .ok (.iload_n 1, 1) := by decide +kernel
theorem dX10_tune_33 : decode cX10_tune 33 = .ok (.iaload, 1) := by decide +kernel
theorem dX10_tune_34 : decode cX10_tune 34 = .ok (.iconst 2, 1) := by decide +kernel
theorem dX10_tune_35 : decode cX10_tune 35 = .ok (.idiv, 1) := by decide +kernel
theorem dX10_tune_36 : decode cX10_tune 36 = .ok (.if_icmp .le 10, 3) := by decide +kernel
theorem dX10_tune_39 : decode cX10_tune 39 = .ok (.aload_n 0, 1) := by decide +kernel
theorem dX10_tune_40 : decode cX10_tune 40 = .ok (.bipush (-5), 2) := by decide +kernel
theorem dX10_tune_42 : decode cX10_tune 42 = .ok (.invokevirtual 121, 3) := by decide +kernel
theorem dX10_tune_45 : decode cX10_tune 45 = .ok (.ireturn, 1) := by decide +kernel
theorem dX10_tune_46 : decode cX10_tune 46 = .ok (.iload_n 2, 1) := by decide +kernel
theorem dX10_tune_47 : decode cX10_tune 47 = .ok (.bipush 12, 2) := by decide +kernel
theorem dX10_tune_49 : decode cX10_tune 49 = .ok (.if_icmp .gt 7, 3) := by decide +kernel
theorem dX10_tune_52 : decode cX10_tune 52 = .ok (.iconst 1, 1) := by decide +kernel
theorem dX10_tune_53 : decode cX10_tune 53 = .ok (.goto 4, 3) := by decide +kernel
theorem dX10_tune_56 : decode cX10_tune 56 = .ok (.iconst 0, 1) := by decide +kernel
theorem dX10_tune_57 : decode cX10_tune 57 = .ok (.istore 4, 2) := by decide +kernel
theorem dX10_tune_59 : decode cX10_tune 59 = .ok (.iconst 0, 1) := by decide +kernel
theorem dX10_tune_60 : decode cX10_tune 60 = .ok (.istore 5, 2) := by decide +kernel
theorem dX10_tune_62 : decode cX10_tune 62 = .ok (.iload 5, 2) := by decide +kernel
theorem dX10_tune_64 : decode cX10_tune 64 = .ok (.iload_n 2, 1) := by decide +kernel
theorem dX10_tune_65 : decode cX10_tune 65 = .ok (.if_icmp .ge 71, 3) := by decide +kernel
theorem dX10_tune_68 : decode cX10_tune 68 = .ok (.iload 4, 2) := by decide +kernel
theorem dX10_tune_70 : decode cX10_tune 70 = .ok (.ifCond .eq 66, 3) := by decide +kernel
theorem dX10_tune_73 : decode cX10_tune 73 = .ok (.aload_n 0, 1) := by decide +kernel
theorem dX10_tune_74 : decode cX10_tune 74 = .ok (.iload_n 1, 1) := by decide +kernel
theorem dX10_tune_75 : decode cX10_tune 75 = .ok (.iconst 2, 1) := by decide +kernel
theorem dX10_tune_76 : decode cX10_tune 76 = .ok (.iload 5, 2) := by decide +kernel
theorem dX10_tune_78 : decode cX10_tune 78 = .ok (.imul, 1) := by decide +kernel
theorem dX10_tune_79 : decode cX10_tune 79 = .ok (.invokevirtual 145, 3) := by decide +kernel
theorem dX10_tune_82 : decode cX10_tune 82 = .ok (.istore 6, 2) := by decide +kernel
theorem dX10_tune_84 : decode cX10_tune 84 = .ok (.aload_n 0, 1) := by decide +kernel
theorem dX10_tune_85 : decode cX10_tune 85 = .ok (.iload_n 1, 1) := by decide +kernel
theorem dX10_tune_86 : decode cX10_tune 86 = .ok (.iconst 2, 1) := by decide +kernel
theorem dX10_tune_87 : decode cX10_tune 87 = .ok (.iload 5, 2) := by decide +kernel
theorem dX10_tune_89 : decode cX10_tune 89 = .ok (.imul, 1) := by decide +kernel
theorem dX10_tune_90 : decode cX10_tune 90 = .ok (.iconst 1, 1) := by decide +kernel
theorem dX10_tune_91 : decode cX10_tune 91 = .ok (.iadd, 1) := by decide +kernel
theorem dX10_tune_92 : decode cX10_tune 92 = .ok (.invokevirtual 145, 3) := by decide +kernel
theorem dX10_tune_95 : decode cX10_tune 95 = .ok (.istore 7, 2) := by decide +kernel
theorem dX10_tune_97 : decode cX10_tune 97 = .ok (.iload 6, 2) := by decide +kernel
theorem dX10_tune_99 : decode cX10_tune 99 = .ok (.ifCond .lt 28, 3) := by decide +kernel
theorem dX10_tune_102 : decode cX10_tune 102 = .ok (.iload 6, 2) := by decide +kernel
theorem dX10_tune_104 : decode cX10_tune 104 = .ok (.sipush 9999, 3) := by decide +kernel
theorem dX10_tune_107 : decode cX10_tune 107 = .ok (.if_icmp .gt 20, 3) := by decide +kernel
theorem dX10_tune_110 : decode cX10_tune 110 = .ok (.iload 7, 2) := by decide +kernel
theorem dX10_tune_112 : decode cX10_tune 112 = .ok (.iconst 1, 1) := by decide +kernel
theorem dX10_tune_113 : decode cX10_tune 113 = .ok (.if_icmp .lt 14, 3) := by decide +kernel
theorem dX10_tune_116 : decode cX10_tune 116 = .ok (.iload 7, 2) := by decide +kernel
theorem dX10_tune_118 : decode cX10_tune 118 = .ok (.bipush 16, 2) := by decide +kernel
theorem dX10_tune_120 : decode cX10_tune 120 = .ok (.if_icmp .gt 7, 3) := by decide +kernel
theorem dX10_tune_123 : decode cX10_tune 123 = .ok (.iconst 1, 1) := by decide +kernel
theorem dX10_tune_124 : decode cX10_tune 124 = .ok (.goto 4, 3) := by decide +kernel
theorem dX10_tune_127 : decode cX10_tune 127 = .ok (.iconst 0, 1) := by decide +kernel
theorem dX10_tune_128 : decode cX10_tune 128 = .ok (.istore 4, 2) := by decide +kernel
theorem dX10_tune_130 : decode cX10_tune 130 = .ok (.iinc 5 1, 3) := by decide +kernel
theorem dX10_tune_133 : decode cX10_tune 133 = .ok (.goto (-71), 3) := by decide +kernel
theorem dX10_tune_136 : decode cX10_tune 136 = .ok (.iload 4, 2) := by decide +kernel
theorem dX10_tune_138 : decode cX10_tune 138 = .ok (.ifCond .ne 10, 3) := by decide +kernel
theorem dX10_tune_141 : decode cX10_tune 141 = .ok (.aload_n 0, 1) := by decide +kernel
theorem dX10_tune_142 : decode cX10_tune 142 = .ok (.bipush (-6), 2) := by decide +kernel
theorem dX10_tune_144 : decode cX10_tune 144 = .ok (.invokevirtual 121, 3) := by decide +kernel
theorem dX10_tune_147 : decode cX10_tune 147 = .ok (.ireturn, 1) := by decide +kernel
theorem dX10_tune_148 : decode cX10_tune 148 = .ok (.aload_n 0, 1) := by decide +kernel
theorem dX10_tune_149 : decode cX10_tune 149 = .ok (.getfield 114, 3) := by decide +kernel
theorem dX10_tune_152 : decode cX10_tune 152 = .ok (.bipush 6, 2) := by decide +kernel
theorem dX10_tune_154 : decode cX10_tune 154 = .ok (.if_icmp .ne 10, 3) := by decide +kernel
theorem dX10_tune_157 : decode cX10_tune 157 = .ok (.aload_n 0, 1) := by decide +kernel
theorem dX10_tune_158 : decode cX10_tune 158 = .ok (.bipush (-7), 2) := by decide +kernel
theorem dX10_tune_160 : decode cX10_tune 160 = .ok (.invokevirtual 121, 3) := by decide +kernel
theorem dX10_tune_163 : decode cX10_tune 163 = .ok (.ireturn, 1) := by decide +kernel
theorem dX10_tune_164 : decode cX10_tune 164 = .ok (.aload_n 0, 1) := by decide +kernel
theorem dX10_tune_165 : decode cX10_tune 165 = .ok (.getfield 56, 3) := by decide +kernel
theorem dX10_tune_168 : decode cX10_tune 168 = .ok (.aload_n 0, 1) := by decide +kernel
theorem dX10_tune_169 : decode cX10_tune 169 = .ok (.getfield 114, 3) := by decide +kernel
theorem dX10_tune_172 : decode cX10_tune 172 = .ok (.iload_n 2, 1) := by decide +kernel
theorem dX10_tune_173 : decode cX10_tune 173 = .ok (.iastore, 1) := by decide +kernel
theorem dX10_tune_174 : decode cX10_tune 174 = .ok (.iconst 0, 1) := by decide +kernel
theorem dX10_tune_175 : decode cX10_tune 175 = .ok (.istore 5, 2) := by decide +kernel
theorem dX10_tune_177 : decode cX10_tune 177 = .ok (.iload 5, 2) := by decide +kernel
theorem dX10_tune_179 : decode cX10_tune 179 = .ok (.iload_n 2, 1) := by decide +kernel
theorem dX10_tune_180 : decode cX10_tune 180 = .ok (.if_icmp .ge 59, 3) := by decide +kernel
theorem dX10_tune_183 : decode cX10_tune 183 = .ok (.aload_n 0, 1) := by decide +kernel
theorem dX10_tune_184 : decode cX10_tune 184 = .ok (.getfield 59, 3) := by decide +kernel
theorem dX10_tune_187 : decode cX10_tune 187 = .ok (.bipush 12, 2) := by decide +kernel
theorem dX10_tune_189 : decode cX10_tune 189 = .ok (.aload_n 0, 1) := by decide +kernel
theorem dX10_tune_190 : decode cX10_tune 190 = .ok (.getfield 114, 3) := by decide +kernel
theorem dX10_tune_193 : decode cX10_tune 193 = .ok (.imul, 1) := by decide +kernel
theorem dX10_tune_194 : decode cX10_tune 194 = .ok (.iload 5, 2) := by decide +kernel
theorem dX10_tune_196 : decode cX10_tune 196 = .ok (.iadd, 1) := by decide +kernel
theorem dX10_tune_197 : decode cX10_tune 197 = .ok (.aload_n 0, 1) := by decide +kernel
theorem dX10_tune_198 : decode cX10_tune 198 = .ok (.iload_n 1, 1) := by decide +kernel
theorem dX10_tune_199 : decode cX10_tune 199 = .ok (.iconst 2, 1) := by decide +kernel
theorem dX10_tune_200 : decode cX10_tune 200 = .ok (.iload 5, 2) := by decide +kernel
theorem dX10_tune_202 : decode cX10_tune 202 = .ok (.imul, 1) := by decide +kernel
theorem dX10_tune_203 : decode cX10_tune 203 = .ok (.invokevirtual 145, 3) := by decide +kernel
theorem dX10_tune_206 : decode cX10_tune 206 = .ok (.iastore, 1) := by decide +kernel
theorem dX10_tune_207 : decode cX10_tune 207 = .ok (.aload_n 0, 1) := by decide +kernel
theorem dX10_tune_208 : decode cX10_tune 208 = .ok (.getfield 62, 3) := by decide +kernel
theorem dX10_tune_211 : decode cX10_tune 211 = .ok (.bipush 12, 2) := by decide +kernel
theorem dX10_tune_213 : decode cX10_tune 213 = .ok (.aload_n 0, 1) := by decide +kernel
theorem dX10_tune_214 : decode cX10_tune 214 = .ok (.getfield 114, 3) := by decide +kernel
theorem dX10_tune_217 : decode cX10_tune 217 = .ok (.imul, 1) := by decide +kernel
theorem dX10_tune_218 : decode cX10_tune 218 = .ok (.iload 5, 2) := by decide +kernel
theorem dX10_tune_220 : decode cX10_tune 220 = .ok (.iadd, 1) := by decide +kernel
theorem dX10_tune_221 : decode cX10_tune 221 = .ok (.aload_n 0, 1) := by decide +kernel
theorem dX10_tune_222 : decode cX10_tune 222 = .ok (.iload_n 1, 1) := by decide +kernel
theorem dX10_tune_223 : decode cX10_tune 223 = .ok (.iconst 2, 1) := by decide +kernel
theorem dX10_tune_224 : decode cX10_tune 224 = .ok (.iload 5, 2) := by decide +kernel
theorem dX10_tune_226 : decode cX10_tune 226 = .ok (.imul, 1) := by decide +kernel
theorem dX10_tune_227 : decode cX10_tune 227 = .ok (.iconst 1, 1) := by decide +kernel
theorem dX10_tune_228 : decode cX10_tune 228 = .ok (.iadd, 1) := by decide +kernel
theorem dX10_tune_229 : decode cX10_tune 229 = .ok (.invokevirtual 145, 3) := by decide +kernel
theorem dX10_tune_232 : decode cX10_tune 232 = .ok (.iastore, 1) := by decide +kernel
theorem dX10_tune_233 : decode cX10_tune 233 = .ok (.iinc 5 1, 3) := by decide +kernel
theorem dX10_tune_236 : decode cX10_tune 236 = .ok (.goto (-59), 3) := by decide +kernel
theorem dX10_tune_239 : decode cX10_tune 239 = .ok (.aload_n 0, 1) := by decide +kernel
theorem dX10_tune_240 : decode cX10_tune 240 = .ok (.dup, 1) := by decide +kernel
theorem dX10_tune_241 : decode cX10_tune 241 = .ok (.getfield 114, 3) := by decide +kernel
theorem dX10_tune_244 : decode cX10_tune 244 = .ok (.dup_x1, 1) := by decide +kernel
theorem dX10_tune_245 : decode cX10_tune 245 = .ok (.iconst 1, 1) := by decide +kernel
theorem dX10_tune_246 : decode cX10_tune 246 = .ok (.iadd, 1) := by decide +kernel
theorem dX10_tune_247 : decode cX10_tune 247 = .ok (.putfield 114, 3) := by decide +kernel
theorem dX10_tune_250 : decode cX10_tune 250 = .ok (.ireturn, 1) := by decide +kernel
theorem dX10_beatsTo_0 : decode cX10_beatsTo 0 = .ok (.iconst 0, 1) := by decide +kernel
theorem dX10_beatsTo_1 : decode cX10_beatsTo 1 = .ok (.istore_n 3, 1) := by decide +kernel
theorem dX10_beatsTo_2 : decode cX10_beatsTo 2 = .ok (.iconst 0, 1) := by decide +kernel
theorem dX10_beatsTo_3 : decode cX10_beatsTo 3 = .ok (.istore 4, 2) := by decide +kernel
theorem dX10_beatsTo_5 : decode cX10_beatsTo 5 = .ok (.iload 4, 2) := by decide +kernel
theorem dX10_beatsTo_7 : decode cX10_beatsTo 7 = .ok (.iload_n 2, 1) := by decide +kernel
theorem dX10_beatsTo_8 : decode cX10_beatsTo 8 = .ok (.if_icmp .ge 24, 3) := by decide +kernel
theorem dX10_beatsTo_11 : decode cX10_beatsTo 11 = .ok (.iload_n 3, 1) := by decide +kernel
theorem dX10_beatsTo_12 : decode cX10_beatsTo 12 = .ok (.aload_n 0, 1) := by decide +kernel
theorem dX10_beatsTo_13 : decode cX10_beatsTo 13 = .ok (.getfield 62, 3) := by decide +kernel
theorem dX10_beatsTo_16 : decode cX10_beatsTo 16 = .ok (.bipush 12, 2) := by decide +kernel
theorem dX10_beatsTo_18 : decode cX10_beatsTo 18 = .ok (.iload_n 1, 1) := by decide +kernel
theorem dX10_beatsTo_19 : decode cX10_beatsTo 19 = .ok (.imul, 1) := by decide +kernel
theorem dX10_beatsTo_20 : decode cX10_beatsTo 20 = .ok (.iload 4, 2) := by decide +kernel
theorem dX10_beatsTo_22 : decode cX10_beatsTo 22 = .ok (.iadd, 1) := by decide +kernel
theorem dX10_beatsTo_23 : decode cX10_beatsTo 23 = .ok (.iaload, 1) := by decide +kernel
theorem dX10_beatsTo_24 : decode cX10_beatsTo 24 = .ok (.iadd, 1) := by decide +kernel
theorem dX10_beatsTo_25 : decode cX10_beatsTo 25 = .ok (.istore_n 3, 1) := by decide +kernel
theorem dX10_beatsTo_26 : decode cX10_beatsTo 26 = .ok (.iinc 4 1, 3) := by decide +kernel
theorem dX10_beatsTo_29 : decode cX10_beatsTo 29 = .ok (.goto (-24), 3) := by decide +kernel
theorem dX10_beatsTo_32 : decode cX10_beatsTo 32 = .ok (.iload_n 3, 1) := by decide +kernel
theorem dX10_beatsTo_33 : decode cX10_beatsTo 33 = .ok (.ireturn, 1) := by decide +kernel
theorem dX10_noteOf_0 : decode cX10_noteOf 0 = .ok (.aload_n 0, 1) := by decide +kernel
theorem dX10_noteOf_1 : decode cX10_noteOf 1 = .ok (.iload_n 1, 1) := by decide +kernel
theorem dX10_noteOf_2 : decode cX10_noteOf 2 = .ok (.invokevirtual 168, 3) := by decide +kernel
theorem dX10_noteOf_5 : decode cX10_noteOf 5 = .ok (.ifCond .eq 27, 3) := by decide +kernel
theorem dX10_noteOf_8 : decode cX10_noteOf 8 = .ok (.iload_n 2, 1) := by decide +kernel
theorem dX10_noteOf_9 : decode cX10_noteOf 9 = .ok (.iconst (-1), 1) := by decide +kernel
theorem dX10_noteOf_10 : decode cX10_noteOf 10 = .ok (.if_icmp .lt 22, 3) := by decide +kernel
theorem dX10_noteOf_13 : decode cX10_noteOf 13 = .ok (.iload_n 2, 1) := by decide +kernel
theorem dX10_noteOf_14 : decode cX10_noteOf 14 = .ok (.aload_n 0, 1) := by decide +kernel
theorem dX10_noteOf_15 : decode cX10_noteOf 15 = .ok (.getfield 56, 3) := by decide +kernel
theorem dX10_noteOf_18 : decode cX10_noteOf 18 = .ok (.iload_n 1, 1) := by decide +kernel
theorem dX10_noteOf_19 : decode cX10_noteOf 19 = .ok (.iaload, 1) := by decide +kernel
theorem dX10_noteOf_20 : decode cX10_noteOf 20 = .ok (.if_icmp .ge 12, 3) := by decide +kernel
theorem dX10_noteOf_23 : decode cX10_noteOf 23 = .ok (.iload_n 3, 1) := by decide +kernel
theorem dX10_noteOf_24 : decode cX10_noteOf 24 = .ok (.ifCond .lt 8, 3) := by decide +kernel
theorem dX10_noteOf_27 : decode cX10_noteOf 27 = .ok (.iload_n 3, 1) := by decide +kernel
theorem dX10_noteOf_28 : decode cX10_noteOf 28 = .ok (.iconst 1, 1) := by decide +kernel
theorem dX10_noteOf_29 : decode cX10_noteOf 29 = .ok (.if_icmp .le 10, 3) := by decide +kernel
theorem dX10_noteOf_32 : decode cX10_noteOf 32 = .ok (.aload_n 0, 1) := by decide +kernel
theorem dX10_noteOf_33 : decode cX10_noteOf 33 = .ok (.bipush (-5), 2) := by decide +kernel
theorem dX10_noteOf_35 : decode cX10_noteOf 35 = .ok (.invokevirtual 121, 3) := by decide +kernel
theorem dX10_noteOf_38 : decode cX10_noteOf 38 = .ok (.ireturn, 1) := by decide +kernel
theorem dX10_noteOf_39 : decode cX10_noteOf 39 = .ok (.iload_n 2, 1) := by decide +kernel
theorem dX10_noteOf_40 : decode cX10_noteOf 40 = .ok (.iconst (-1), 1) := by decide +kernel
theorem dX10_noteOf_41 : decode cX10_noteOf 41 = .ok (.if_icmp .ne 28, 3) := by decide +kernel
theorem dX10_noteOf_44 : decode cX10_noteOf 44 = .ok (.iload_n 3, 1) := by decide +kernel
theorem dX10_noteOf_45 : decode cX10_noteOf 45 = .ok (.ifCond .ne 12, 3) := by decide +kernel
theorem dX10_noteOf_48 : decode cX10_noteOf 48 = .ok (.aload_n 0, 1) := by decide +kernel
theorem dX10_noteOf_49 : decode cX10_noteOf 49 = .ok (.getfield 56, 3) := by decide +kernel
theorem dX10_noteOf_52 : decode cX10_noteOf 52 = .ok (.iload_n 1, 1) := by decide +kernel
theorem dX10_noteOf_53 : decode cX10_noteOf 53 = .ok (.iaload, 1) := by decide +kernel
theorem dX10_noteOf_54 : decode cX10_noteOf 54 = .ok (.goto 14, 3) := by decide +kernel
theorem dX10_noteOf_57 : decode cX10_noteOf 57 = .ok (.aload_n 0, 1) := by decide +kernel
theorem dX10_noteOf_58 : decode cX10_noteOf 58 = .ok (.iload_n 1, 1) := by decide +kernel
theorem dX10_noteOf_59 : decode cX10_noteOf 59 = .ok (.aload_n 0, 1) := by decide +kernel
theorem dX10_noteOf_60 : decode cX10_noteOf 60 = .ok (.getfield 56, 3) := by decide +kernel
theorem dX10_noteOf_63 : decode cX10_noteOf 63 = .ok (.iload_n 1, 1) := by decide +kernel
theorem dX10_noteOf_64 : decode cX10_noteOf 64 = .ok (.iaload, 1) := by decide +kernel
theorem dX10_noteOf_65 : decode cX10_noteOf 65 = .ok (.invokevirtual 171, 3) := by decide +kernel
theorem dX10_noteOf_68 : decode cX10_noteOf 68 = .ok (.ireturn, 1) := by decide +kernel
theorem dX10_noteOf_69 : decode cX10_noteOf 69 = .ok (.iload_n 3, 1) := by decide +kernel
theorem dX10_noteOf_70 : decode cX10_noteOf 70 = .ok (.ifCond .ne 17, 3) := by decide +kernel
theorem dX10_noteOf_73 : decode cX10_noteOf 73 = .ok (.aload_n 0, 1) := by decide +kernel
theorem dX10_noteOf_74 : decode cX10_noteOf 74 = .ok (.getfield 59, 3) := by decide +kernel
theorem dX10_noteOf_77 : decode cX10_noteOf 77 = .ok (.bipush 12, 2) := by decide +kernel
theorem dX10_noteOf_79 : decode cX10_noteOf 79 = .ok (.iload_n 1, 1) := by decide +kernel
theorem dX10_noteOf_80 : decode cX10_noteOf 80 = .ok (.imul, 1) := by decide +kernel
theorem dX10_noteOf_81 : decode cX10_noteOf 81 = .ok (.iload_n 2, 1) := by decide +kernel
theorem dX10_noteOf_82 : decode cX10_noteOf 82 = .ok (.iadd, 1) := by decide +kernel
theorem dX10_noteOf_83 : decode cX10_noteOf 83 = .ok (.iaload, 1) := by decide +kernel
theorem dX10_noteOf_84 : decode cX10_noteOf 84 = .ok (.goto 14, 3) := by decide +kernel
theorem dX10_noteOf_87 : decode cX10_noteOf 87 = .ok (.aload_n 0, 1) := by decide +kernel
theorem dX10_noteOf_88 : decode cX10_noteOf 88 = .ok (.getfield 62, 3) := by decide +kernel
theorem dX10_noteOf_91 : decode cX10_noteOf 91 = .ok (.bipush 12, 2) := by decide +kernel
theorem dX10_noteOf_93 : decode cX10_noteOf 93 = .ok (.iload_n 1, 1) := by decide +kernel
theorem dX10_noteOf_94 : decode cX10_noteOf 94 = .ok (.imul, 1) := by decide +kernel
theorem dX10_noteOf_95 : decode cX10_noteOf 95 = .ok (.iload_n 2, 1) := by decide +kernel
theorem dX10_noteOf_96 : decode cX10_noteOf 96 = .ok (.iadd, 1) := by decide +kernel
theorem dX10_noteOf_97 : decode cX10_noteOf 97 = .ok (.iaload, 1) := by decide +kernel
theorem dX10_noteOf_98 : decode cX10_noteOf 98 = .ok (.ireturn, 1) := by decide +kernel
theorem dX10_ask_0 : decode cX10_ask 0 = .ok (.iload_n 1, 1) := by decide +kernel
theorem dX10_ask_1 : decode cX10_ask 1 = .ok (.ifCond .ne 28, 3) := by decide +kernel
theorem dX10_ask_4 : decode cX10_ask 4 = .ok (.iload_n 2, 1) := by decide +kernel
theorem dX10_ask_5 : decode cX10_ask 5 = .ok (.iconst 1, 1) := by decide +kernel
theorem dX10_ask_6 : decode cX10_ask 6 = .ok (.if_icmp .lt 23, 3) := by decide +kernel
theorem dX10_ask_9 : decode cX10_ask 9 = .ok (.iload_n 2, 1) := by decide +kernel
theorem dX10_ask_10 : decode cX10_ask 10 = .ok (.sipush 9999, 3) := by decide +kernel
theorem dX10_ask_13 : decode cX10_ask 13 = .ok (.if_icmp .gt 16, 3) := by decide +kernel
theorem dX10_ask_16 : decode cX10_ask 16 = .ok (.aload_n 0, 1) := by decide +kernel
theorem dX10_ask_17 : decode cX10_ask 17 = .ok (.getfield 7, 3) := by decide +kernel
theorem dX10_ask_20 : decode cX10_ask 20 = .ok (.istore_n 3, 1) := by decide +kernel
theorem dX10_ask_21 : decode cX10_ask 21 = .ok (.aload_n 0, 1) := by decide +kernel
theorem dX10_ask_22 : decode cX10_ask 22 = .ok (.iload_n 2, 1) := by decide +kernel
theorem dX10_ask_23 : decode cX10_ask 23 = .ok (.putfield 7, 3) := by decide +kernel
theorem dX10_ask_26 : decode cX10_ask 26 = .ok (.goto 99, 3) := by decide +kernel
theorem dX10_ask_29 : decode cX10_ask 29 = .ok (.iload_n 1, 1) := by decide +kernel
theorem dX10_ask_30 : decode cX10_ask 30 = .ok (.iconst 1, 1) := by decide +kernel
theorem dX10_ask_31 : decode cX10_ask 31 = .ok (.if_icmp .ne 27, 3) := by decide +kernel
theorem dX10_ask_34 : decode cX10_ask 34 = .ok (.iload_n 2, 1) := by decide +kernel
theorem dX10_ask_35 : decode cX10_ask 35 = .ok (.iconst 2, 1) := by decide +kernel
theorem dX10_ask_36 : decode cX10_ask 36 = .ok (.if_icmp .lt 22, 3) := by decide +kernel
theorem dX10_ask_39 : decode cX10_ask 39 = .ok (.iload_n 2, 1) := by decide +kernel
theorem dX10_ask_40 : decode cX10_ask 40 = .ok (.bipush 30, 2) := by decide +kernel
theorem dX10_ask_42 : decode cX10_ask 42 = .ok (.if_icmp .gt 16, 3) := by decide +kernel
theorem dX10_ask_45 : decode cX10_ask 45 = .ok (.aload_n 0, 1) := by decide +kernel
theorem dX10_ask_46 : decode cX10_ask 46 = .ok (.getfield 13, 3) := by decide +kernel
theorem dX10_ask_49 : decode cX10_ask 49 = .ok (.istore_n 3, 1) := by decide +kernel
theorem dX10_ask_50 : decode cX10_ask 50 = .ok (.aload_n 0, 1) := by decide +kernel
theorem dX10_ask_51 : decode cX10_ask 51 = .ok (.iload_n 2, 1) := by decide +kernel
theorem dX10_ask_52 : decode cX10_ask 52 = .ok (.putfield 13, 3) := by decide +kernel
theorem dX10_ask_55 : decode cX10_ask 55 = .ok (.goto 70, 3) := by decide +kernel
theorem dX10_ask_58 : decode cX10_ask 58 = .ok (.iload_n 1, 1) := by decide +kernel
theorem dX10_ask_59 : decode cX10_ask 59 = .ok (.iconst 2, 1) := by decide +kernel
theorem dX10_ask_60 : decode cX10_ask 60 = .ok (.if_icmp .ne 27, 3) := by decide +kernel
theorem dX10_ask_63 : decode cX10_ask 63 = .ok (.iload_n 2, 1) := by decide +kernel
theorem dX10_ask_64 : decode cX10_ask 64 = .ok (.ifCond .lt 23, 3) := by decide +kernel
theorem dX10_ask_67 : decode cX10_ask 67 = .ok (.iload_n 2, 1) := by decide +kernel
theorem dX10_ask_68 : decode cX10_ask 68 = .ok (.sipush 500, 3) := by decide +kernel
theorem dX10_ask_71 : decode cX10_ask 71 = .ok (.if_icmp .gt 16, 3) := by decide +kernel
theorem dX10_ask_74 : decode cX10_ask 74 = .ok (.aload_n 0, 1) := by decide +kernel
theorem dX10_ask_75 : decode cX10_ask 75 = .ok (.getfield 16, 3) := by decide +kernel
theorem dX10_ask_78 : decode cX10_ask 78 = .ok (.istore_n 3, 1) := by decide +kernel
theorem dX10_ask_79 : decode cX10_ask 79 = .ok (.aload_n 0, 1) := by decide +kernel
theorem dX10_ask_80 : decode cX10_ask 80 = .ok (.iload_n 2, 1) := by decide +kernel
theorem dX10_ask_81 : decode cX10_ask 81 = .ok (.putfield 16, 3) := by decide +kernel
theorem dX10_ask_84 : decode cX10_ask 84 = .ok (.goto 41, 3) := by decide +kernel
theorem dX10_ask_87 : decode cX10_ask 87 = .ok (.iload_n 1, 1) := by decide +kernel
theorem dX10_ask_88 : decode cX10_ask 88 = .ok (.iconst 3, 1) := by decide +kernel
theorem dX10_ask_89 : decode cX10_ask 89 = .ok (.if_icmp .ne 29, 3) := by decide +kernel
theorem dX10_ask_92 : decode cX10_ask 92 = .ok (.iload_n 2, 1) := by decide +kernel
theorem dX10_ask_93 : decode cX10_ask 93 = .ok (.bipush 50, 2) := by decide +kernel
theorem dX10_ask_95 : decode cX10_ask 95 = .ok (.if_icmp .lt 23, 3) := by decide +kernel
theorem dX10_ask_98 : decode cX10_ask 98 = .ok (.iload_n 2, 1) := by decide +kernel
theorem dX10_ask_99 : decode cX10_ask 99 = .ok (.sipush 2000, 3) := by decide +kernel
theorem dX10_ask_102 : decode cX10_ask 102 = .ok (.if_icmp .gt 16, 3) := by decide +kernel
theorem dX10_ask_105 : decode cX10_ask 105 = .ok (.aload_n 0, 1) := by decide +kernel
theorem dX10_ask_106 : decode cX10_ask 106 = .ok (.getfield 19, 3) := by decide +kernel
theorem dX10_ask_109 : decode cX10_ask 109 = .ok (.istore_n 3, 1) := by decide +kernel
theorem dX10_ask_110 : decode cX10_ask 110 = .ok (.aload_n 0, 1) := by decide +kernel
theorem dX10_ask_111 : decode cX10_ask 111 = .ok (.iload_n 2, 1) := by decide +kernel
theorem dX10_ask_112 : decode cX10_ask 112 = .ok (.putfield 19, 3) := by decide +kernel
theorem dX10_ask_115 : decode cX10_ask 115 = .ok (.goto 10, 3) := by decide +kernel
theorem dX10_ask_118 : decode cX10_ask 118 = .ok (.aload_n 0, 1) := by decide +kernel
theorem dX10_ask_119 : decode cX10_ask 119 = .ok (.bipush (-6), 2) := by decide +kernel
theorem dX10_ask_121 : decode cX10_ask 121 = .ok (.invokevirtual 121, 3) := by decide +kernel
theorem dX10_ask_124 : decode cX10_ask 124 = .ok (.ireturn, 1) := by decide +kernel
theorem dX10_ask_125 : decode cX10_ask 125 = .ok (.iload_n 3, 1) := by decide +kernel
theorem dX10_ask_126 : decode cX10_ask 126 = .ok (.ireturn, 1) := by decide +kernel
theorem dX10_wrong_0 : decode cX10_wrong 0 = .ok (.aload_n 0, 1) := by decide +kernel
theorem dX10_wrong_1 : decode cX10_wrong 1 = .ok (.iload_n 1, 1) := by decide +kernel
theorem dX10_wrong_2 : decode cX10_wrong 2 = .ok (.putfield 174, 3) := by decide +kernel
theorem dX10_wrong_5 : decode cX10_wrong 5 = .ok (.iconst 0, 1) := by decide +kernel
theorem dX10_wrong_6 : decode cX10_wrong 6 = .ok (.ireturn, 1) := by decide +kernel
theorem dX10_word_0 : decode cX10_word 0 = .ok (.iconst 0, 1) := by decide +kernel
theorem dX10_word_1 : decode cX10_word 1 = .ok (.istore_n 1, 1) := by decide +kernel
theorem dX10_word_2 : decode cX10_word 2 = .ok (.aload_n 0, 1) := by decide +kernel
theorem dX10_word_3 : decode cX10_word 3 = .ok (.getfield 177, 3) := by decide +kernel
theorem dX10_word_6 : decode cX10_word 6 = .ok (.istore_n 2, 1) := by decide +kernel
theorem dX10_word_7 : decode cX10_word 7 = .ok (.iconst 0, 1) := by decide +kernel
theorem dX10_word_8 : decode cX10_word 8 = .ok (.istore_n 3, 1) := by decide +kernel
theorem dX10_word_9 : decode cX10_word 9 = .ok (.iload_n 3, 1) := by decide +kernel
theorem dX10_word_10 : decode cX10_word 10 = .ok (.bipush 13, 2) := by decide +kernel
theorem dX10_word_12 : decode cX10_word 12 = .ok (.if_icmp .ge 118, 3) := by decide +kernel
theorem dX10_word_15 : decode cX10_word 15 = .ok (.aload_n 0, 1) := by decide +kernel
theorem dX10_word_16 : decode cX10_word 16 = .ok (.getfield 177, 3) := by decide +kernel
theorem dX10_word_19 : decode cX10_word 19 = .ok (.istore 4, 2) := by decide +kernel
theorem dX10_word_21 : decode cX10_word 21 = .ok (.iload_n 1, 1) := by decide +kernel
theorem dX10_word_22 : decode cX10_word 22 = .ok (.istore 5, 2) := by decide +kernel
theorem dX10_word_24 : decode cX10_word 24 = .ok (.aload_n 0, 1) := by decide +kernel
theorem dX10_word_25 : decode cX10_word 25 = .ok (.getfield 84, 3) := by decide +kernel
theorem dX10_word_28 : decode cX10_word 28 = .ok (.iload 5, 2) := by decide +kernel
theorem dX10_word_30 : decode cX10_word 30 = .ok (.iaload, 1) := by decide +kernel
theorem dX10_word_31 : decode cX10_word 31 = .ok (.ifCond .eq 44, 3) := by decide +kernel
theorem dX10_word_34 : decode cX10_word 34 = .ok (.iload 4, 2) := by decide +kernel
theorem dX10_word_36 : decode cX10_word 36 = .ok (.aload_n 0, 1) := by decide +kernel
theorem dX10_word_37 : decode cX10_word 37 = .ok (.getfield 180, 3) := by decide +kernel
theorem dX10_word_40 : decode cX10_word 40 = .ok (.if_icmp .ge 35, 3) := by decide +kernel
theorem dX10_word_43 : decode cX10_word 43 = .ok (.aload_n 0, 1) := by decide +kernel
theorem dX10_word_44 : decode cX10_word 44 = .ok (.getfield 77, 3) := by decide +kernel
theorem dX10_word_47 : decode cX10_word 47 = .ok (.aload_n 0, 1) := by decide +kernel
theorem dX10_word_48 : decode cX10_word 48 = .ok (.getfield 183, 3) := by decide +kernel
theorem dX10_word_51 : decode cX10_word 51 = .ok (.iload 4, 2) := by decide +kernel
theorem dX10_word_53 : decode cX10_word 53 = .ok (.iadd, 1) := by decide +kernel
theorem dX10_word_54 : decode cX10_word 54 = .ok (.laload, 1) := by decide +kernel
theorem dX10_word_55 : decode cX10_word 55 = .ok (.l2i, 1) := by decide +kernel
theorem dX10_word_56 : decode cX10_word 56 = .ok (.aload_n 0, 1) := by decide +kernel
theorem dX10_word_57 : decode cX10_word 57 = .ok (.getfield 84, 3) := by decide +kernel
theorem dX10_word_60 : decode cX10_word 60 = .ok (.iload 5, 2) := by decide +kernel
theorem dX10_word_62 : decode cX10_word 62 = .ok (.iaload, 1) := by decide +kernel
theorem dX10_word_63 : decode cX10_word 63 = .ok (.if_icmp .ne 12, 3) := by decide +kernel
theorem dX10_word_66 : decode cX10_word 66 = .ok (.iinc 4 1, 3) := by decide +kernel
theorem dX10_word_69 : decode cX10_word 69 = .ok (.iinc 5 1, 3) := by decide +kernel
theorem dX10_word_72 : decode cX10_word 72 = .ok (.goto (-48), 3) := by decide +kernel
theorem dX10_word_75 : decode cX10_word 75 = .ok (.aload_n 0, 1) := by decide +kernel
theorem dX10_word_76 : decode cX10_word 76 = .ok (.getfield 84, 3) := by decide +kernel
theorem dX10_word_79 : decode cX10_word 79 = .ok (.iload 5, 2) := by decide +kernel
theorem dX10_word_81 : decode cX10_word 81 = .ok (.iaload, 1) := by decide +kernel
theorem dX10_word_82 : decode cX10_word 82 = .ok (.ifCond .ne 11, 3) := by decide +kernel
theorem dX10_word_85 : decode cX10_word 85 = .ok (.aload_n 0, 1) := by decide +kernel
theorem dX10_word_86 : decode cX10_word 86 = .ok (.iload 4, 2) := by decide +kernel
theorem dX10_word_88 : decode cX10_word 88 = .ok (.putfield 177, 3) := by decide +kernel
theorem dX10_word_91 : decode cX10_word 91 = .ok (.iload_n 3, 1) := by decide +kernel
theorem dX10_word_92 : decode cX10_word 92 = .ok (.ireturn, 1) := by decide +kernel
theorem dX10_word_93 : decode cX10_word 93 = .ok (.iload 4, 2) := by decide +kernel
theorem dX10_word_95 : decode cX10_word 95 = .ok (.iload_n 2, 1) := by decide +kernel
theorem dX10_word_96 : decode cX10_word 96 = .ok (.if_icmp .le 8, 3) := by decide +kernel
theorem dX10_word_99 : decode cX10_word 99 = .ok (.iload 4, 2) := by decide +kernel
theorem dX10_word_101 : decode cX10_word 101 = .ok (.goto 4, 3) := by decide +kernel
theorem dX10_word_104 : decode cX10_word 104 = .ok (.iload_n 2, 1) := by decide +kernel
theorem dX10_word_105 : decode cX10_word 105 = .ok (.istore_n 2, 1) := by decide +kernel
theorem dX10_word_106 : decode cX10_word 106 = .ok (.aload_n 0, 1) := by decide +kernel
theorem dX10_word_107 : decode cX10_word 107 = .ok (.getfield 84, 3) := by decide +kernel
theorem dX10_word_110 : decode cX10_word 110 = .ok (.iload_n 1, 1) := by decide +kernel
theorem dX10_word_111 : decode cX10_word 111 = .ok (.iaload, 1) := by decide +kernel
theorem dX10_word_112 : decode cX10_word 112 = .ok (.ifCond .eq 9, 3) := by decide +kernel
theorem dX10_word_115 : decode cX10_word 115 = .ok (.iinc 1 1, 3) := by decide +kernel
theorem dX10_word_118 : decode cX10_word 118 = .ok (.goto (-12), 3) := by decide +kernel
theorem dX10_word_121 : decode cX10_word 121 = .ok (.iinc 1 1, 3) := by decide +kernel
theorem dX10_word_124 : decode cX10_word 124 = .ok (.iinc 3 1, 3) := by decide +kernel
theorem dX10_word_127 : decode cX10_word 127 = .ok (.goto (-118), 3) := by decide +kernel
theorem dX10_word_130 : decode cX10_word 130 = .ok (.aload_n 0, 1) := by decide +kernel
theorem dX10_word_131 : decode cX10_word 131 = .ok (.iload_n 2, 1) := by decide +kernel
theorem dX10_word_132 : decode cX10_word 132 = .ok (.putfield 174, 3) := by decide +kernel
theorem dX10_word_135 : decode cX10_word 135 = .ok (.iconst (-1), 1) := by decide +kernel
theorem dX10_word_136 : decode cX10_word 136 = .ok (.ireturn, 1) := by decide +kernel
theorem dX10_isDigit_0 : decode cX10_isDigit 0 = .ok (.aload_n 0, 1) := by decide +kernel
theorem dX10_isDigit_1 : decode cX10_isDigit 1 = .ok (.getfield 177, 3) := by decide +kernel
theorem dX10_isDigit_4 : decode cX10_isDigit 4 = .ok (.aload_n 0, 1) := by decide +kernel
theorem dX10_isDigit_5 : decode cX10_isDigit 5 = .ok (.getfield 180, 3) := by decide +kernel
theorem dX10_isDigit_8 : decode cX10_isDigit 8 = .ok (.if_icmp .ge 47, 3) := by decide +kernel
theorem dX10_isDigit_11 : decode cX10_isDigit 11 = .ok (.aload_n 0, 1) := by decide +kernel
theorem dX10_isDigit_12 : decode cX10_isDigit 12 = .ok (.getfield 77, 3) := by decide +kernel
theorem dX10_isDigit_15 : decode cX10_isDigit 15 = .ok (.aload_n 0, 1) := by decide +kernel
theorem dX10_isDigit_16 : decode cX10_isDigit 16 = .ok (.getfield 183, 3) := by decide +kernel
theorem dX10_isDigit_19 : decode cX10_isDigit 19 = .ok (.aload_n 0, 1) := by decide +kernel
theorem dX10_isDigit_20 : decode cX10_isDigit 20 = .ok (.getfield 177, 3) := by decide +kernel
theorem dX10_isDigit_23 : decode cX10_isDigit 23 = .ok (.iadd, 1) := by decide +kernel
theorem dX10_isDigit_24 : decode cX10_isDigit 24 = .ok (.laload, 1) := by decide +kernel
theorem dX10_isDigit_25 : decode cX10_isDigit 25 = .ok (.l2i, 1) := by decide +kernel
theorem dX10_isDigit_26 : decode cX10_isDigit 26 = .ok (.bipush 48, 2) := by decide +kernel
theorem dX10_isDigit_28 : decode cX10_isDigit 28 = .ok (.if_icmp .lt 27, 3) := by decide +kernel
theorem dX10_isDigit_31 : decode cX10_isDigit 31 = .ok (.aload_n 0, 1) := by decide +kernel
theorem dX10_isDigit_32 : decode cX10_isDigit 32 = .ok (.getfield 77, 3) := by decide +kernel
theorem dX10_isDigit_35 : decode cX10_isDigit 35 = .ok (.aload_n 0, 1) := by decide +kernel
theorem dX10_isDigit_36 : decode cX10_isDigit 36 = .ok (.getfield 183, 3) := by decide +kernel
theorem dX10_isDigit_39 : decode cX10_isDigit 39 = .ok (.aload_n 0, 1) := by decide +kernel
theorem dX10_isDigit_40 : decode cX10_isDigit 40 = .ok (.getfield 177, 3) := by decide +kernel
theorem dX10_isDigit_43 : decode cX10_isDigit 43 = .ok (.iadd, 1) := by decide +kernel
theorem dX10_isDigit_44 : decode cX10_isDigit 44 = .ok (.laload, 1) := by decide +kernel
theorem dX10_isDigit_45 : decode cX10_isDigit 45 = .ok (.l2i, 1) := by decide +kernel
theorem dX10_isDigit_46 : decode cX10_isDigit 46 = .ok (.bipush 57, 2) := by decide +kernel
theorem dX10_isDigit_48 : decode cX10_isDigit 48 = .ok (.if_icmp .gt 7, 3) := by decide +kernel
theorem dX10_isDigit_51 : decode cX10_isDigit 51 = .ok (.iconst 1, 1) := by decide +kernel
theorem dX10_isDigit_52 : decode cX10_isDigit 52 = .ok (.goto 4, 3) := by decide +kernel
theorem dX10_isDigit_55 : decode cX10_isDigit 55 = .ok (.iconst 0, 1) := by decide +kernel
theorem dX10_isDigit_56 : decode cX10_isDigit 56 = .ok (.ireturn, 1) := by decide +kernel
theorem dX10_number_0 : decode cX10_number 0 = .ok (.aload_n 0, 1) := by decide +kernel
theorem dX10_number_1 : decode cX10_number 1 = .ok (.getfield 177, 3) := by decide +kernel
theorem dX10_number_4 : decode cX10_number 4 = .ok (.istore_n 3, 1) := by decide +kernel
theorem dX10_number_5 : decode cX10_number 5 = .ok (.aload_n 0, 1) := by decide +kernel
theorem dX10_number_6 : decode cX10_number 6 = .ok (.iconst 0, 1) := by decide +kernel
theorem dX10_number_7 : decode cX10_number 7 = .ok (.putfield 186, 3) := by decide +kernel
theorem dX10_number_10 : decode cX10_number 10 = .ok (.aload_n 0, 1) := by decide +kernel
theorem dX10_number_11 : decode cX10_number 11 = .ok (.invokevirtual 189, 3) := by decide +kernel
theorem dX10_number_14 : decode cX10_number 14 = .ok (.ifCond .ne 12, 3) := by decide +kernel
theorem dX10_number_17 : decode cX10_number 17 = .ok (.aload_n 0, 1) := by decide +kernel
theorem dX10_number_18 : decode cX10_number 18 = .ok (.aload_n 0, 1) := by decide +kernel
theorem dX10_number_19 : decode cX10_number 19 = .ok (.getfield 177, 3) := by decide +kernel
theorem dX10_number_22 : decode cX10_number 22 = .ok (.invokevirtual 193, 3) := by decide +kernel
theorem dX10_number_25 : decode cX10_number 25 = .ok (.ireturn, 1) := by decide +kernel
theorem dX10_number_26 : decode cX10_number 26 = .ok (.iconst 0, 1) := by decide +kernel
theorem dX10_number_27 : decode cX10_number 27 = .ok (.istore 4, 2) := by decide +kernel
theorem dX10_number_29 : decode cX10_number 29 = .ok (.iload 4, 2) := by decide +kernel
theorem dX10_number_31 : decode cX10_number 31 = .ok (.iconst 4, 1) := by decide +kernel
theorem dX10_number_32 : decode cX10_number 32 = .ok (.if_icmp .ge 56, 3) := by decide +kernel
theorem dX10_number_35 : decode cX10_number 35 = .ok (.aload_n 0, 1) := by decide +kernel
theorem dX10_number_36 : decode cX10_number 36 = .ok (.invokevirtual 189, 3) := by decide +kernel
theorem dX10_number_39 : decode cX10_number 39 = .ok (.ifCond .eq 49, 3) := by decide +kernel
theorem dX10_number_42 : decode cX10_number 42 = .ok (.aload_n 0, 1) := by decide +kernel
theorem dX10_number_43 : decode cX10_number 43 = .ok (.bipush 10, 2) := by decide +kernel
theorem dX10_number_45 : decode cX10_number 45 = .ok (.aload_n 0, 1) := by decide +kernel
theorem dX10_number_46 : decode cX10_number 46 = .ok (.getfield 186, 3) := by decide +kernel
theorem dX10_number_49 : decode cX10_number 49 = .ok (.imul, 1) := by decide +kernel
theorem dX10_number_50 : decode cX10_number 50 = .ok (.aload_n 0, 1) := by decide +kernel
theorem dX10_number_51 : decode cX10_number 51 = .ok (.getfield 77, 3) := by decide +kernel
theorem dX10_number_54 : decode cX10_number 54 = .ok (.aload_n 0, 1) := by decide +kernel
theorem dX10_number_55 : decode cX10_number 55 = .ok (.getfield 183, 3) := by decide +kernel
theorem dX10_number_58 : decode cX10_number 58 = .ok (.aload_n 0, 1) := by decide +kernel
theorem dX10_number_59 : decode cX10_number 59 = .ok (.getfield 177, 3) := by decide +kernel
theorem dX10_number_62 : decode cX10_number 62 = .ok (.iadd, 1) := by decide +kernel
theorem dX10_number_63 : decode cX10_number 63 = .ok (.laload, 1) := by decide +kernel
theorem dX10_number_64 : decode cX10_number 64 = .ok (.l2i, 1) := by decide +kernel
theorem dX10_number_65 : decode cX10_number 65 = .ok (.iadd, 1) := by decide +kernel
theorem dX10_number_66 : decode cX10_number 66 = .ok (.bipush 48, 2) := by decide +kernel
theorem dX10_number_68 : decode cX10_number 68 = .ok (.isub, 1) := by decide +kernel
theorem dX10_number_69 : decode cX10_number 69 = .ok (.putfield 186, 3) := by decide +kernel
theorem dX10_number_72 : decode cX10_number 72 = .ok (.aload_n 0, 1) := by decide +kernel
theorem dX10_number_73 : decode cX10_number 73 = .ok (.dup, 1) := by decide +kernel
theorem dX10_number_74 : decode cX10_number 74 = .ok (.getfield 177, 3) := by decide +kernel
theorem dX10_number_77 : decode cX10_number 77 = .ok (.iconst 1, 1) := by decide +kernel
theorem dX10_number_78 : decode cX10_number 78 = .ok (.iadd, 1) := by decide +kernel
theorem dX10_number_79 : decode cX10_number 79 = .ok (.putfield 177, 3) := by decide +kernel
theorem dX10_number_82 : decode cX10_number 82 = .ok (.iinc 4 1, 3) := by decide +kernel
theorem dX10_number_85 : decode cX10_number 85 = .ok (.goto (-56), 3) := by decide +kernel
theorem dX10_number_88 : decode cX10_number 88 = .ok (.aload_n 0, 1) := by decide +kernel
theorem dX10_number_89 : decode cX10_number 89 = .ok (.getfield 186, 3) := by decide +kernel
theorem dX10_number_92 : decode cX10_number 92 = .ok (.iload_n 1, 1) := by decide +kernel
theorem dX10_number_93 : decode cX10_number 93 = .ok (.if_icmp .lt 11, 3) := by decide +kernel
theorem dX10_number_96 : decode cX10_number 96 = .ok (.aload_n 0, 1) := by decide +kernel
theorem dX10_number_97 : decode cX10_number 97 = .ok (.getfield 186, 3) := by decide +kernel
theorem dX10_number_100 : decode cX10_number 100 = .ok (.iload_n 2, 1) := by decide +kernel
theorem dX10_number_101 : decode cX10_number 101 = .ok (.if_icmp .le 11, 3) := by decide +kernel
theorem dX10_number_104 : decode cX10_number 104 = .ok (.aload_n 0, 1) := by decide +kernel
theorem dX10_number_105 : decode cX10_number 105 = .ok (.iload_n 3, 1) := by decide +kernel
theorem dX10_number_106 : decode cX10_number 106 = .ok (.invokevirtual 193, 3) := by decide +kernel
theorem dX10_number_109 : decode cX10_number 109 = .ok (.ifCond .eq 7, 3) := by decide +kernel
theorem dX10_number_112 : decode cX10_number 112 = .ok (.iconst 1, 1) := by decide +kernel
theorem dX10_number_113 : decode cX10_number 113 = .ok (.goto 4, 3) := by decide +kernel
theorem dX10_number_116 : decode cX10_number 116 = .ok (.iconst 0, 1) := by decide +kernel
theorem dX10_number_117 : decode cX10_number 117 = .ok (.ireturn, 1) := by decide +kernel
theorem dX10_many_0 : decode cX10_many 0 = .ok (.iload_n 1, 1) := by decide +kernel
theorem dX10_many_1 : decode cX10_many 1 = .ok (.ifCond .eq 19, 3) := by decide +kernel
theorem dX10_many_4 : decode cX10_many 4 = .ok (.iload_n 1, 1) := by decide +kernel
theorem dX10_many_5 : decode cX10_many 5 = .ok (.iconst 2, 1) := by decide +kernel
theorem dX10_many_6 : decode cX10_many 6 = .ok (.if_icmp .eq 14, 3) := by decide +kernel
theorem dX10_many_9 : decode cX10_many 9 = .ok (.iload_n 1, 1) := by decide +kernel
theorem dX10_many_10 : decode cX10_many 10 = .ok (.iconst 3, 1) := by decide +kernel
theorem dX10_many_11 : decode cX10_many 11 = .ok (.if_icmp .eq 9, 3) := by decide +kernel
theorem dX10_many_14 : decode cX10_many 14 = .ok (.iload_n 1, 1) := by decide +kernel
theorem dX10_many_15 : decode cX10_many 15 = .ok (.bipush 8, 2) := by decide +kernel
theorem dX10_many_17 : decode cX10_many 17 = .ok (.if_icmp .ne 7, 3) := by decide +kernel
theorem dX10_many_20 : decode cX10_many 20 = .ok (.iconst 2, 1) := by decide +kernel
theorem dX10_many_21 : decode cX10_many 21 = .ok (.goto 24, 3) := by decide +kernel
theorem dX10_many_24 : decode cX10_many 24 = .ok (.iload_n 1, 1) := by decide +kernel
theorem dX10_many_25 : decode cX10_many 25 = .ok (.bipush 7, 2) := by decide +kernel
theorem dX10_many_27 : decode cX10_many 27 = .ok (.if_icmp .ge 7, 3) := by decide +kernel
theorem dX10_many_30 : decode cX10_many 30 = .ok (.iconst 3, 1) := by decide +kernel
theorem dX10_many_31 : decode cX10_many 31 = .ok (.goto 14, 3) := by decide +kernel
theorem dX10_many_34 : decode cX10_many 34 = .ok (.iload_n 1, 1) := by decide +kernel
theorem dX10_many_35 : decode cX10_many 35 = .ok (.bipush 7, 2) := by decide +kernel
theorem dX10_many_37 : decode cX10_many 37 = .ok (.if_icmp .ne 7, 3) := by decide +kernel
theorem dX10_many_40 : decode cX10_many 40 = .ok (.iconst 0, 1) := by decide +kernel
theorem dX10_many_41 : decode cX10_many 41 = .ok (.goto 4, 3) := by decide +kernel
theorem dX10_many_44 : decode cX10_many 44 = .ok (.iconst 1, 1) := by decide +kernel
theorem dX10_many_45 : decode cX10_many 45 = .ok (.ireturn, 1) := by decide +kernel
theorem dX10_low_0 : decode cX10_low 0 = .ok (.iload_n 1, 1) := by decide +kernel
theorem dX10_low_1 : decode cX10_low 1 = .ok (.bipush 6, 2) := by decide +kernel
theorem dX10_low_3 : decode cX10_low 3 = .ok (.if_icmp .ge 23, 3) := by decide +kernel
theorem dX10_low_6 : decode cX10_low 6 = .ok (.aload_n 0, 1) := by decide +kernel
theorem dX10_low_7 : decode cX10_low 7 = .ok (.iload_n 1, 1) := by decide +kernel
theorem dX10_low_8 : decode cX10_low 8 = .ok (.invokevirtual 196, 3) := by decide +kernel
theorem dX10_low_11 : decode cX10_low 11 = .ok (.iconst 3, 1) := by decide +kernel
theorem dX10_low_12 : decode cX10_low 12 = .ok (.if_icmp .ne 12, 3) := by decide +kernel
theorem dX10_low_15 : decode cX10_low 15 = .ok (.iload_n 2, 1) := by decide +kernel
theorem dX10_low_16 : decode cX10_low 16 = .ok (.iconst 1, 1) := by decide +kernel
theorem dX10_low_17 : decode cX10_low 17 = .ok (.if_icmp .ne 7, 3) := by decide +kernel
theorem dX10_low_20 : decode cX10_low 20 = .ok (.iconst 0, 1) := by decide +kernel
theorem dX10_low_21 : decode cX10_low 21 = .ok (.goto 4, 3) := by decide +kernel
theorem dX10_low_24 : decode cX10_low 24 = .ok (.iconst 1, 1) := by decide +kernel
theorem dX10_low_25 : decode cX10_low 25 = .ok (.ireturn, 1) := by decide +kernel
theorem dX10_low_26 : decode cX10_low 26 = .ok (.iload_n 1, 1) := by decide +kernel
theorem dX10_low_27 : decode cX10_low 27 = .ok (.bipush 6, 2) := by decide +kernel
theorem dX10_low_29 : decode cX10_low 29 = .ok (.if_icmp .ne 13, 3) := by decide +kernel
theorem dX10_low_32 : decode cX10_low 32 = .ok (.iload_n 2, 1) := by decide +kernel
theorem dX10_low_33 : decode cX10_low 33 = .ok (.ifCond .ne 7, 3) := by decide +kernel
theorem dX10_low_36 : decode cX10_low 36 = .ok (.iconst 1, 1) := by decide +kernel
theorem dX10_low_37 : decode cX10_low 37 = .ok (.goto 4, 3) := by decide +kernel
theorem dX10_low_40 : decode cX10_low 40 = .ok (.iconst 0, 1) := by decide +kernel
theorem dX10_low_41 : decode cX10_low 41 = .ok (.ireturn, 1) := by decide +kernel
theorem dX10_low_42 : decode cX10_low 42 = .ok (.iload_n 1, 1) := by decide +kernel
theorem dX10_low_43 : decode cX10_low 43 = .ok (.bipush 8, 2) := by decide +kernel
theorem dX10_low_45 : decode cX10_low 45 = .ok (.if_icmp .ne 7, 3) := by decide +kernel
theorem dX10_low_48 : decode cX10_low 48 = .ok (.iload_n 2, 1) := by decide +kernel
theorem dX10_low_49 : decode cX10_low 49 = .ok (.goto 35, 3) := by decide +kernel
theorem dX10_low_52 : decode cX10_low 52 = .ok (.iload_n 1, 1) := by decide +kernel
theorem dX10_low_53 : decode cX10_low 53 = .ok (.bipush 9, 2) := by decide +kernel
theorem dX10_low_55 : decode cX10_low 55 = .ok (.if_icmp .ne 7, 3) := by decide +kernel
theorem dX10_low_58 : decode cX10_low 58 = .ok (.iconst 1, 1) := by decide +kernel
theorem dX10_low_59 : decode cX10_low 59 = .ok (.goto 25, 3) := by decide +kernel
theorem dX10_low_62 : decode cX10_low 62 = .ok (.iload_n 1, 1) := by decide +kernel
theorem dX10_low_63 : decode cX10_low 63 = .ok (.bipush 10, 2) := by decide +kernel
theorem dX10_low_65 : decode cX10_low 65 = .ok (.if_icmp .ne 7, 3) := by decide +kernel
theorem dX10_low_68 : decode cX10_low 68 = .ok (.iconst 2, 1) := by decide +kernel
theorem dX10_low_69 : decode cX10_low 69 = .ok (.goto 15, 3) := by decide +kernel
theorem dX10_low_72 : decode cX10_low 72 = .ok (.iload_n 1, 1) := by decide +kernel
theorem dX10_low_73 : decode cX10_low 73 = .ok (.bipush 12, 2) := by decide +kernel
theorem dX10_low_75 : decode cX10_low 75 = .ok (.if_icmp .ne 8, 3) := by decide +kernel
theorem dX10_low_78 : decode cX10_low 78 = .ok (.bipush 50, 2) := by decide +kernel
theorem dX10_low_80 : decode cX10_low 80 = .ok (.goto 4, 3) := by decide +kernel
theorem dX10_low_83 : decode cX10_low 83 = .ok (.iconst 0, 1) := by decide +kernel
theorem dX10_low_84 : decode cX10_low 84 = .ok (.ireturn, 1) := by decide +kernel
theorem dX10_high_0 : decode cX10_high 0 = .ok (.iload_n 1, 1) := by decide +kernel
theorem dX10_high_1 : decode cX10_high 1 = .ok (.bipush 6, 2) := by decide +kernel
theorem dX10_high_3 : decode cX10_high 3 = .ok (.if_icmp .ge 6, 3) := by decide +kernel
theorem dX10_high_6 : decode cX10_high 6 = .ok (.bipush 60, 2) := by decide +kernel
theorem dX10_high_8 : decode cX10_high 8 = .ok (.ireturn, 1) := by decide +kernel
theorem dX10_high_9 : decode cX10_high 9 = .ok (.iload_n 1, 1) := by decide +kernel
theorem dX10_high_10 : decode cX10_high 10 = .ok (.bipush 6, 2) := by decide +kernel
theorem dX10_high_12 : decode cX10_high 12 = .ok (.if_icmp .ne 31, 3) := by decide +kernel
theorem dX10_high_15 : decode cX10_high 15 = .ok (.iload_n 2, 1) := by decide +kernel
theorem dX10_high_16 : decode cX10_high 16 = .ok (.ifCond .ne 8, 3) := by decide +kernel
theorem dX10_high_19 : decode cX10_high 19 = .ok (.bipush 99, 2) := by decide +kernel
theorem dX10_high_21 : decode cX10_high 21 = .ok (.goto 21, 3) := by decide +kernel
theorem dX10_high_24 : decode cX10_high 24 = .ok (.iload_n 2, 1) := by decide +kernel
theorem dX10_high_25 : decode cX10_high 25 = .ok (.iconst 1, 1) := by decide +kernel
theorem dX10_high_26 : decode cX10_high 26 = .ok (.if_icmp .ne 9, 3) := by decide +kernel
theorem dX10_high_29 : decode cX10_high 29 = .ok (.sipush 999, 3) := by decide +kernel
theorem dX10_high_32 : decode cX10_high 32 = .ok (.goto 10, 3) := by decide +kernel
theorem dX10_high_35 : decode cX10_high 35 = .ok (.bipush 100, 2) := by decide +kernel
theorem dX10_high_37 : decode cX10_high 37 = .ok (.aload_n 0, 1) := by decide +kernel
theorem dX10_high_38 : decode cX10_high 38 = .ok (.invokevirtual 158, 3) := by decide +kernel
theorem dX10_high_41 : decode cX10_high 41 = .ok (.isub, 1) := by decide +kernel
theorem dX10_high_42 : decode cX10_high 42 = .ok (.ireturn, 1) := by decide +kernel
theorem dX10_high_43 : decode cX10_high 43 = .ok (.iload_n 1, 1) := by decide +kernel
theorem dX10_high_44 : decode cX10_high 44 = .ok (.bipush 8, 2) := by decide +kernel
theorem dX10_high_46 : decode cX10_high 46 = .ok (.if_icmp .ne 16, 3) := by decide +kernel
theorem dX10_high_49 : decode cX10_high 49 = .ok (.iload_n 2, 1) := by decide +kernel
theorem dX10_high_50 : decode cX10_high 50 = .ok (.ifCond .ne 9, 3) := by decide +kernel
theorem dX10_high_53 : decode cX10_high 53 = .ok (.sipush 9999, 3) := by decide +kernel
theorem dX10_high_56 : decode cX10_high 56 = .ok (.goto 5, 3) := by decide +kernel
theorem dX10_high_59 : decode cX10_high 59 = .ok (.bipush 16, 2) := by decide +kernel
theorem dX10_high_61 : decode cX10_high 61 = .ok (.ireturn, 1) := by decide +kernel
theorem dX10_high_62 : decode cX10_high 62 = .ok (.iload_n 1, 1) := by decide +kernel
theorem dX10_high_63 : decode cX10_high 63 = .ok (.bipush 9, 2) := by decide +kernel
theorem dX10_high_65 : decode cX10_high 65 = .ok (.if_icmp .ne 9, 3) := by decide +kernel
theorem dX10_high_68 : decode cX10_high 68 = .ok (.sipush 9999, 3) := by decide +kernel
theorem dX10_high_71 : decode cX10_high 71 = .ok (.goto 29, 3) := by decide +kernel
theorem dX10_high_74 : decode cX10_high 74 = .ok (.iload_n 1, 1) := by decide +kernel
theorem dX10_high_75 : decode cX10_high 75 = .ok (.bipush 10, 2) := by decide +kernel
theorem dX10_high_77 : decode cX10_high 77 = .ok (.if_icmp .ne 8, 3) := by decide +kernel
theorem dX10_high_80 : decode cX10_high 80 = .ok (.bipush 30, 2) := by decide +kernel
theorem dX10_high_82 : decode cX10_high 82 = .ok (.goto 18, 3) := by decide +kernel
theorem dX10_high_85 : decode cX10_high 85 = .ok (.iload_n 1, 1) := by decide +kernel
theorem dX10_high_86 : decode cX10_high 86 = .ok (.bipush 11, 2) := by decide +kernel
theorem dX10_high_88 : decode cX10_high 88 = .ok (.if_icmp .ne 9, 3) := by decide +kernel
theorem dX10_high_91 : decode cX10_high 91 = .ok (.sipush 500, 3) := by decide +kernel
theorem dX10_high_94 : decode cX10_high 94 = .ok (.goto 6, 3) := by decide +kernel
theorem dX10_high_97 : decode cX10_high 97 = .ok (.sipush 2000, 3) := by decide +kernel
theorem dX10_high_100 : decode cX10_high 100 = .ok (.ireturn, 1) := by decide +kernel
theorem dX10_isFull_0 : decode cX10_isFull 0 = .ok (.iload_n 1, 1) := by decide +kernel
theorem dX10_isFull_1 : decode cX10_isFull 1 = .ok (.bipush 6, 2) := by decide +kernel
theorem dX10_isFull_3 : decode cX10_isFull 3 = .ok (.if_icmp .ge 12, 3) := by decide +kernel
theorem dX10_isFull_6 : decode cX10_isFull 6 = .ok (.aload_n 0, 1) := by decide +kernel
theorem dX10_isFull_7 : decode cX10_isFull 7 = .ok (.getfield 108, 3) := by decide +kernel
theorem dX10_isFull_10 : decode cX10_isFull 10 = .ok (.bipush 16, 2) := by decide +kernel
theorem dX10_isFull_12 : decode cX10_isFull 12 = .ok (.if_icmp .eq 62, 3) := by decide +kernel
theorem dX10_isFull_15 : decode cX10_isFull 15 = .ok (.iload_n 1, 1) := by decide +kernel
theorem dX10_isFull_16 : decode cX10_isFull 16 = .ok (.bipush 6, 2) := by decide +kernel
theorem dX10_isFull_18 : decode cX10_isFull 18 = .ok (.if_icmp .ne 12, 3) := by decide +kernel
theorem dX10_isFull_21 : decode cX10_isFull 21 = .ok (.aload_n 0, 1) := by decide +kernel
theorem dX10_isFull_22 : decode cX10_isFull 22 = .ok (.getfield 111, 3) := by decide +kernel
theorem dX10_isFull_25 : decode cX10_isFull 25 = .ok (.bipush 6, 2) := by decide +kernel
theorem dX10_isFull_27 : decode cX10_isFull 27 = .ok (.if_icmp .eq 47, 3) := by decide +kernel
theorem dX10_isFull_30 : decode cX10_isFull 30 = .ok (.iload_n 1, 1) := by decide +kernel
theorem dX10_isFull_31 : decode cX10_isFull 31 = .ok (.bipush 7, 2) := by decide +kernel
theorem dX10_isFull_33 : decode cX10_isFull 33 = .ok (.if_icmp .ne 12, 3) := by decide +kernel
theorem dX10_isFull_36 : decode cX10_isFull 36 = .ok (.aload_n 0, 1) := by decide +kernel
theorem dX10_isFull_37 : decode cX10_isFull 37 = .ok (.getfield 114, 3) := by decide +kernel
theorem dX10_isFull_40 : decode cX10_isFull 40 = .ok (.bipush 6, 2) := by decide +kernel
theorem dX10_isFull_42 : decode cX10_isFull 42 = .ok (.if_icmp .eq 32, 3) := by decide +kernel
theorem dX10_isFull_45 : decode cX10_isFull 45 = .ok (.iload_n 1, 1) := by decide +kernel
theorem dX10_isFull_46 : decode cX10_isFull 46 = .ok (.bipush 8, 2) := by decide +kernel
theorem dX10_isFull_48 : decode cX10_isFull 48 = .ok (.if_icmp .ne 30, 3) := by decide +kernel
theorem dX10_isFull_51 : decode cX10_isFull 51 = .ok (.aload_n 0, 1) := by decide +kernel
theorem dX10_isFull_52 : decode cX10_isFull 52 = .ok (.getfield 114, 3) := by decide +kernel
theorem dX10_isFull_55 : decode cX10_isFull 55 = .ok (.ifCond .eq 19, 3) := by decide +kernel
theorem dX10_isFull_58 : decode cX10_isFull 58 = .ok (.aload_n 0, 1) := by decide +kernel
theorem dX10_isFull_59 : decode cX10_isFull 59 = .ok (.getfield 56, 3) := by decide +kernel
theorem dX10_isFull_62 : decode cX10_isFull 62 = .ok (.aload_n 0, 1) := by decide +kernel
theorem dX10_isFull_63 : decode cX10_isFull 63 = .ok (.getfield 114, 3) := by decide +kernel
theorem dX10_isFull_66 : decode cX10_isFull 66 = .ok (.iconst 1, 1) := by decide +kernel
theorem dX10_isFull_67 : decode cX10_isFull 67 = .ok (.isub, 1) := by decide +kernel
theorem dX10_isFull_68 : decode cX10_isFull 68 = .ok (.iaload, 1) := by decide +kernel
theorem dX10_isFull_69 : decode cX10_isFull 69 = .ok (.bipush 12, 2) := by decide +kernel
theorem dX10_isFull_71 : decode cX10_isFull 71 = .ok (.if_icmp .ne 7, 3) := by decide +kernel
theorem dX10_isFull_74 : decode cX10_isFull 74 = .ok (.iconst 1, 1) := by decide +kernel
theorem dX10_isFull_75 : decode cX10_isFull 75 = .ok (.goto 4, 3) := by decide +kernel
theorem dX10_isFull_78 : decode cX10_isFull 78 = .ok (.iconst 0, 1) := by decide +kernel
theorem dX10_isFull_79 : decode cX10_isFull 79 = .ok (.ireturn, 1) := by decide +kernel
theorem dX10_isWordAt_0 : decode cX10_isWordAt 0 = .ok (.iconst 0, 1) := by decide +kernel
theorem dX10_isWordAt_1 : decode cX10_isWordAt 1 = .ok (.istore_n 2, 1) := by decide +kernel
theorem dX10_isWordAt_2 : decode cX10_isWordAt 2 = .ok (.iconst 0, 1) := by decide +kernel
theorem dX10_isWordAt_3 : decode cX10_isWordAt 3 = .ok (.istore_n 3, 1) := by decide +kernel
theorem dX10_isWordAt_4 : decode cX10_isWordAt 4 = .ok (.iload_n 3, 1) := by decide +kernel
theorem dX10_isWordAt_5 : decode cX10_isWordAt 5 = .ok (.iload_n 1, 1) := by decide +kernel
theorem dX10_isWordAt_6 : decode cX10_isWordAt 6 = .ok (.if_icmp .ge 26, 3) := by decide +kernel
theorem dX10_isWordAt_9 : decode cX10_isWordAt 9 = .ok (.iload_n 3, 1) := by decide +kernel
theorem dX10_isWordAt_10 : decode cX10_isWordAt 10 = .ok (.aload_n 0, 1) := by decide +kernel
theorem dX10_isWordAt_11 : decode cX10_isWordAt 11 = .ok (.getfield 84, 3) := by decide +kernel
theorem dX10_isWordAt_14 : decode cX10_isWordAt 14 = .ok (.iload_n 2, 1) := by decide +kernel
theorem dX10_isWordAt_15 : decode cX10_isWordAt 15 = .ok (.iaload, 1) := by decide +kernel
theorem dX10_isWordAt_16 : decode cX10_isWordAt 16 = .ok (.ifCond .ne 7, 3) := by decide +kernel
theorem dX10_isWordAt_19 : decode cX10_isWordAt 19 = .ok (.iconst 1, 1) := by decide +kernel
theorem dX10_isWordAt_20 : decode cX10_isWordAt 20 = .ok (.goto 4, 3) := by decide +kernel
theorem dX10_isWordAt_23 : decode cX10_isWordAt 23 = .ok (.iconst 0, 1) := by decide +kernel
theorem dX10_isWordAt_24 : decode cX10_isWordAt 24 = .ok (.iadd, 1) := by decide +kernel
theorem dX10_isWordAt_25 : decode cX10_isWordAt 25 = .ok (.istore_n 3, 1) := by decide +kernel
theorem dX10_isWordAt_26 : decode cX10_isWordAt 26 = .ok (.iinc 2 1, 3) := by decide +kernel
theorem dX10_isWordAt_29 : decode cX10_isWordAt 29 = .ok (.goto (-25), 3) := by decide +kernel
theorem dX10_isWordAt_32 : decode cX10_isWordAt 32 = .ok (.aload_n 0, 1) := by decide +kernel
theorem dX10_isWordAt_33 : decode cX10_isWordAt 33 = .ok (.getfield 177, 3) := by decide +kernel
theorem dX10_isWordAt_36 : decode cX10_isWordAt 36 = .ok (.istore_n 3, 1) := by decide +kernel
theorem dX10_isWordAt_37 : decode cX10_isWordAt 37 = .ok (.aload_n 0, 1) := by decide +kernel
theorem dX10_isWordAt_38 : decode cX10_isWordAt 38 = .ok (.getfield 84, 3) := by decide +kernel
theorem dX10_isWordAt_41 : decode cX10_isWordAt 41 = .ok (.iload_n 2, 1) := by decide +kernel
theorem dX10_isWordAt_42 : decode cX10_isWordAt 42 = .ok (.iaload, 1) := by decide +kernel
theorem dX10_isWordAt_43 : decode cX10_isWordAt 43 = .ok (.bipush 32, 2) := by decide +kernel
theorem dX10_isWordAt_45 : decode cX10_isWordAt 45 = .ok (.if_icmp .le 41, 3) := by decide +kernel
theorem dX10_isWordAt_48 : decode cX10_isWordAt 48 = .ok (.iload_n 3, 1) := by decide +kernel
theorem dX10_isWordAt_49 : decode cX10_isWordAt 49 = .ok (.aload_n 0, 1) := by decide +kernel
theorem dX10_isWordAt_50 : decode cX10_isWordAt 50 = .ok (.getfield 180, 3) := by decide +kernel
theorem dX10_isWordAt_53 : decode cX10_isWordAt 53 = .ok (.if_icmp .ge 33, 3) := by decide +kernel
theorem dX10_isWordAt_56 : decode cX10_isWordAt 56 = .ok (.aload_n 0, 1) := by decide +kernel
theorem dX10_isWordAt_57 : decode cX10_isWordAt 57 = .ok (.getfield 77, 3) := by decide +kernel
theorem dX10_isWordAt_60 : decode cX10_isWordAt 60 = .ok (.aload_n 0, 1) := by decide +kernel
theorem dX10_isWordAt_61 : decode cX10_isWordAt 61 = .ok (.getfield 183, 3) := by decide +kernel
theorem dX10_isWordAt_64 : decode cX10_isWordAt 64 = .ok (.iload_n 3, 1) := by decide +kernel
theorem dX10_isWordAt_65 : decode cX10_isWordAt 65 = .ok (.iadd, 1) := by decide +kernel
theorem dX10_isWordAt_66 : decode cX10_isWordAt 66 = .ok (.laload, 1) := by decide +kernel
theorem dX10_isWordAt_67 : decode cX10_isWordAt 67 = .ok (.l2i, 1) := by decide +kernel
theorem dX10_isWordAt_68 : decode cX10_isWordAt 68 = .ok (.aload_n 0, 1) := by decide +kernel
theorem dX10_isWordAt_69 : decode cX10_isWordAt 69 = .ok (.getfield 84, 3) := by decide +kernel
theorem dX10_isWordAt_72 : decode cX10_isWordAt 72 = .ok (.iload_n 2, 1) := by decide +kernel
theorem dX10_isWordAt_73 : decode cX10_isWordAt 73 = .ok (.iaload, 1) := by decide +kernel
theorem dX10_isWordAt_74 : decode cX10_isWordAt 74 = .ok (.if_icmp .ne 12, 3) := by decide +kernel
theorem dX10_isWordAt_77 : decode cX10_isWordAt 77 = .ok (.iinc 3 1, 3) := by decide +kernel
theorem dX10_isWordAt_80 : decode cX10_isWordAt 80 = .ok (.iinc 2 1, 3) := by decide +kernel
theorem dX10_isWordAt_83 : decode cX10_isWordAt 83 = .ok (.goto (-46), 3) := by decide +kernel
theorem dX10_isWordAt_86 : decode cX10_isWordAt 86 = .ok (.aload_n 0, 1) := by decide +kernel
theorem dX10_isWordAt_87 : decode cX10_isWordAt 87 = .ok (.getfield 84, 3) := by decide +kernel
theorem dX10_isWordAt_90 : decode cX10_isWordAt 90 = .ok (.iload_n 2, 1) := by decide +kernel
theorem dX10_isWordAt_91 : decode cX10_isWordAt 91 = .ok (.iaload, 1) := by decide +kernel
theorem dX10_isWordAt_92 : decode cX10_isWordAt 92 = .ok (.bipush 32, 2) := by decide +kernel
theorem dX10_isWordAt_94 : decode cX10_isWordAt 94 = .ok (.if_icmp .gt 7, 3) := by decide +kernel
theorem dX10_isWordAt_97 : decode cX10_isWordAt 97 = .ok (.iconst 1, 1) := by decide +kernel
theorem dX10_isWordAt_98 : decode cX10_isWordAt 98 = .ok (.goto 4, 3) := by decide +kernel
theorem dX10_isWordAt_101 : decode cX10_isWordAt 101 = .ok (.iconst 0, 1) := by decide +kernel
theorem dX10_isWordAt_102 : decode cX10_isWordAt 102 = .ok (.ireturn, 1) := by decide +kernel
theorem dX10_item_0 : decode cX10_item 0 = .ok (.iconst 0, 1) := by decide +kernel
theorem dX10_item_1 : decode cX10_item 1 = .ok (.istore_n 1, 1) := by decide +kernel
theorem dX10_item_2 : decode cX10_item 2 = .ok (.iload_n 1, 1) := by decide +kernel
theorem dX10_item_3 : decode cX10_item 3 = .ok (.bipush 13, 2) := by decide +kernel
theorem dX10_item_5 : decode cX10_item 5 = .ok (.if_icmp .ge 34, 3) := by decide +kernel
theorem dX10_item_8 : decode cX10_item 8 = .ok (.aload_n 0, 1) := by decide +kernel
theorem dX10_item_9 : decode cX10_item 9 = .ok (.iload_n 1, 1) := by decide +kernel
theorem dX10_item_10 : decode cX10_item 10 = .ok (.invokevirtual 199, 3) := by decide +kernel
theorem dX10_item_13 : decode cX10_item 13 = .ok (.ifCond .eq 20, 3) := by decide +kernel
theorem dX10_item_16 : decode cX10_item 16 = .ok (.aload_n 0, 1) := by decide +kernel
theorem dX10_item_17 : decode cX10_item 17 = .ok (.iload_n 1, 1) := by decide +kernel
theorem dX10_item_18 : decode cX10_item 18 = .ok (.invokevirtual 202, 3) := by decide +kernel
theorem dX10_item_21 : decode cX10_item 21 = .ok (.ifCond .eq 12, 3) := by decide +kernel
theorem dX10_item_24 : decode cX10_item 24 = .ok (.aload_n 0, 1) := by decide +kernel
theorem dX10_item_25 : decode cX10_item 25 = .ok (.aload_n 0, 1) := by decide +kernel
theorem dX10_item_26 : decode cX10_item 26 = .ok (.getfield 177, 3) := by decide +kernel
theorem dX10_item_29 : decode cX10_item 29 = .ok (.invokevirtual 193, 3) := by decide +kernel
theorem dX10_item_32 : decode cX10_item 32 = .ok (.ireturn, 1) := by decide +kernel
theorem dX10_item_33 : decode cX10_item 33 = .ok (.iinc 1 1, 3) := by decide +kernel
theorem dX10_item_36 : decode cX10_item 36 = .ok (.goto (-34), 3) := by decide +kernel
theorem dX10_item_39 : decode cX10_item 39 = .ok (.aload_n 0, 1) := by decide +kernel
theorem dX10_item_40 : decode cX10_item 40 = .ok (.getfield 177, 3) := by decide +kernel
theorem dX10_item_43 : decode cX10_item 43 = .ok (.istore_n 1, 1) := by decide +kernel
theorem dX10_item_44 : decode cX10_item 44 = .ok (.aload_n 0, 1) := by decide +kernel
theorem dX10_item_45 : decode cX10_item 45 = .ok (.invokevirtual 205, 3) := by decide +kernel
theorem dX10_item_48 : decode cX10_item 48 = .ok (.istore_n 2, 1) := by decide +kernel
theorem dX10_item_49 : decode cX10_item 49 = .ok (.iload_n 2, 1) := by decide +kernel
theorem dX10_item_50 : decode cX10_item 50 = .ok (.iconst (-1), 1) := by decide +kernel
theorem dX10_item_51 : decode cX10_item 51 = .ok (.if_icmp .ne 5, 3) := by decide +kernel
theorem dX10_item_54 : decode cX10_item 54 = .ok (.iconst 0, 1) := by decide +kernel
theorem dX10_item_55 : decode cX10_item 55 = .ok (.ireturn, 1) := by decide +kernel
theorem dX10_item_56 : decode cX10_item 56 = .ok (.iload_n 2, 1) := by decide +kernel
theorem dX10_item_57 : decode cX10_item 57 = .ok (.bipush 6, 2) := by decide +kernel
theorem dX10_item_59 : decode cX10_item 59 = .ok (.if_icmp .ge 12, 3) := by decide +kernel
theorem dX10_item_62 : decode cX10_item 62 = .ok (.aload_n 0, 1) := by decide +kernel
theorem dX10_item_63 : decode cX10_item 63 = .ok (.getfield 108, 3) := by decide +kernel
theorem dX10_item_66 : decode cX10_item 66 = .ok (.bipush 16, 2) := by decide +kernel
theorem dX10_item_68 : decode cX10_item 68 = .ok (.if_icmp .eq 62, 3) := by decide +kernel
theorem dX10_item_71 : decode cX10_item 71 = .ok (.iload_n 2, 1) := by decide +kernel
theorem dX10_item_72 : decode cX10_item 72 = .ok (.bipush 6, 2) := by decide +kernel
theorem dX10_item_74 : decode cX10_item 74 = .ok (.if_icmp .ne 12, 3) := by decide +kernel
theorem dX10_item_77 : decode cX10_item 77 = .ok (.aload_n 0, 1) := by decide +kernel
theorem dX10_item_78 : decode cX10_item 78 = .ok (.getfield 111, 3) := by decide +kernel
theorem dX10_item_81 : decode cX10_item 81 = .ok (.bipush 6, 2) := by decide +kernel
theorem dX10_item_83 : decode cX10_item 83 = .ok (.if_icmp .eq 47, 3) := by decide +kernel
theorem dX10_item_86 : decode cX10_item 86 = .ok (.iload_n 2, 1) := by decide +kernel
theorem dX10_item_87 : decode cX10_item 87 = .ok (.bipush 7, 2) := by decide +kernel
theorem dX10_item_89 : decode cX10_item 89 = .ok (.if_icmp .ne 12, 3) := by decide +kernel
theorem dX10_item_92 : decode cX10_item 92 = .ok (.aload_n 0, 1) := by decide +kernel
theorem dX10_item_93 : decode cX10_item 93 = .ok (.getfield 114, 3) := by decide +kernel
theorem dX10_item_96 : decode cX10_item 96 = .ok (.bipush 6, 2) := by decide +kernel
theorem dX10_item_98 : decode cX10_item 98 = .ok (.if_icmp .eq 32, 3) := by decide +kernel
theorem dX10_item_101 : decode cX10_item 101 = .ok (.iload_n 2, 1) := by decide +kernel
theorem dX10_item_102 : decode cX10_item 102 = .ok (.bipush 8, 2) := by decide +kernel
theorem dX10_item_104 : decode cX10_item 104 = .ok (.if_icmp .ne 32, 3) := by decide +kernel
theorem dX10_item_107 : decode cX10_item 107 = .ok (.aload_n 0, 1) := by decide +kernel
theorem dX10_item_108 : decode cX10_item 108 = .ok (.getfield 114, 3) := by decide +kernel
theorem dX10_item_111 : decode cX10_item 111 = .ok (.ifCond .eq 19, 3) := by decide +kernel
theorem dX10_item_114 : decode cX10_item 114 = .ok (.aload_n 0, 1) := by decide +kernel
theorem dX10_item_115 : decode cX10_item 115 = .ok (.getfield 56, 3) := by decide +kernel
theorem dX10_item_118 : decode cX10_item 118 = .ok (.aload_n 0, 1) := by decide +kernel
theorem dX10_item_119 : decode cX10_item 119 = .ok (.getfield 114, 3) := by decide +kernel
theorem dX10_item_122 : decode cX10_item 122 = .ok (.iconst 1, 1) := by decide +kernel
theorem dX10_item_123 : decode cX10_item 123 = .ok (.isub, 1) := by decide +kernel
theorem dX10_item_124 : decode cX10_item 124 = .ok (.iaload, 1) := by decide +kernel
theorem dX10_item_125 : decode cX10_item 125 = .ok (.bipush 12, 2) := by decide +kernel
theorem dX10_item_127 : decode cX10_item 127 = .ok (.if_icmp .ne 9, 3) := by decide +kernel
theorem dX10_item_130 : decode cX10_item 130 = .ok (.aload_n 0, 1) := by decide +kernel
theorem dX10_item_131 : decode cX10_item 131 = .ok (.iload_n 1, 1) := by decide +kernel
theorem dX10_item_132 : decode cX10_item 132 = .ok (.invokevirtual 193, 3) := by decide +kernel
theorem dX10_item_135 : decode cX10_item 135 = .ok (.ireturn, 1) := by decide +kernel
theorem dX10_item_136 : decode cX10_item 136 = .ok (.aload_n 0, 1) := by decide +kernel
theorem dX10_item_137 : decode cX10_item 137 = .ok (.iload_n 2, 1) := by decide +kernel
theorem dX10_item_138 : decode cX10_item 138 = .ok (.invokevirtual 196, 3) := by decide +kernel
theorem dX10_item_141 : decode cX10_item 141 = .ok (.istore_n 3, 1) := by decide +kernel
theorem dX10_item_142 : decode cX10_item 142 = .ok (.iconst 0, 1) := by decide +kernel
theorem dX10_item_143 : decode cX10_item 143 = .ok (.istore 4, 2) := by decide +kernel
theorem dX10_item_145 : decode cX10_item 145 = .ok (.iload 4, 2) := by decide +kernel
theorem dX10_item_147 : decode cX10_item 147 = .ok (.iload_n 3, 1) := by decide +kernel
theorem dX10_item_148 : decode cX10_item 148 = .ok (.if_icmp .ge 98, 3) := by decide +kernel
theorem dX10_item_151 : decode cX10_item 151 = .ok (.iload 4, 2) := by decide +kernel
theorem dX10_item_153 : decode cX10_item 153 = .ok (.ifCond .le 53, 3) := by decide +kernel
theorem dX10_item_156 : decode cX10_item 156 = .ok (.aload_n 0, 1) := by decide +kernel
theorem dX10_item_157 : decode cX10_item 157 = .ok (.getfield 177, 3) := by decide +kernel
theorem dX10_item_160 : decode cX10_item 160 = .ok (.aload_n 0, 1) := by decide +kernel
theorem dX10_item_161 : decode cX10_item 161 = .ok (.getfield 180, 3) := by decide +kernel
theorem dX10_item_164 : decode cX10_item 164 = .ok (.if_icmp .ge 23, 3) := by decide +kernel
theorem dX10_item_167 : decode cX10_item 167 = .ok (.aload_n 0, 1) := by decide +kernel
theorem dX10_item_168 : decode cX10_item 168 = .ok (.getfield 77, 3) := by decide +kernel
theorem dX10_item_171 : decode cX10_item 171 = .ok (.aload_n 0, 1) := by decide +kernel
theorem dX10_item_172 : decode cX10_item 172 = .ok (.getfield 183, 3) := by decide +kernel
theorem dX10_item_175 : decode cX10_item 175 = .ok (.aload_n 0, 1) := by decide +kernel
theorem dX10_item_176 : decode cX10_item 176 = .ok (.getfield 177, 3) := by decide +kernel
theorem dX10_item_179 : decode cX10_item 179 = .ok (.iadd, 1) := by decide +kernel
theorem dX10_item_180 : decode cX10_item 180 = .ok (.laload, 1) := by decide +kernel
theorem dX10_item_181 : decode cX10_item 181 = .ok (.l2i, 1) := by decide +kernel
theorem dX10_item_182 : decode cX10_item 182 = .ok (.bipush 32, 2) := by decide +kernel
theorem dX10_item_184 : decode cX10_item 184 = .ok (.if_icmp .eq 12, 3) := by decide +kernel
theorem dX10_item_187 : decode cX10_item 187 = .ok (.aload_n 0, 1) := by decide +kernel
theorem dX10_item_188 : decode cX10_item 188 = .ok (.aload_n 0, 1) := by decide +kernel
theorem dX10_item_189 : decode cX10_item 189 = .ok (.getfield 177, 3) := by decide +kernel
theorem dX10_item_192 : decode cX10_item 192 = .ok (.invokevirtual 193, 3) := by decide +kernel
theorem dX10_item_195 : decode cX10_item 195 = .ok (.ireturn, 1) := by decide +kernel
theorem dX10_item_196 : decode cX10_item 196 = .ok (.aload_n 0, 1) := by decide +kernel
theorem dX10_item_197 : decode cX10_item 197 = .ok (.dup, 1) := by decide +kernel
theorem dX10_item_198 : decode cX10_item 198 = .ok (.getfield 177, 3) := by decide +kernel
theorem dX10_item_201 : decode cX10_item 201 = .ok (.iconst 1, 1) := by decide +kernel
theorem dX10_item_202 : decode cX10_item 202 = .ok (.iadd, 1) := by decide +kernel
theorem dX10_item_203 : decode cX10_item 203 = .ok (.putfield 177, 3) := by decide +kernel
theorem dX10_item_206 : decode cX10_item 206 = .ok (.aload_n 0, 1) := by decide +kernel
theorem dX10_item_207 : decode cX10_item 207 = .ok (.aload_n 0, 1) := by decide +kernel
theorem dX10_item_208 : decode cX10_item 208 = .ok (.iload_n 2, 1) := by decide +kernel
theorem dX10_item_209 : decode cX10_item 209 = .ok (.iload 4, 2) := by decide +kernel
theorem dX10_item_211 : decode cX10_item 211 = .ok (.invokevirtual 208, 3) := by decide +kernel
theorem dX10_item_214 : decode cX10_item 214 = .ok (.aload_n 0, 1) := by decide +kernel
theorem dX10_item_215 : decode cX10_item 215 = .ok (.iload_n 2, 1) := by decide +kernel
theorem dX10_item_216 : decode cX10_item 216 = .ok (.iload 4, 2) := by decide +kernel
theorem dX10_item_218 : decode cX10_item 218 = .ok (.invokevirtual 211, 3) := by decide +kernel
theorem dX10_item_221 : decode cX10_item 221 = .ok (.invokevirtual 214, 3) := by decide +kernel
theorem dX10_item_224 : decode cX10_item 224 = .ok (.ifCond .ne 5, 3) := by decide +kernel
theorem dX10_item_227 : decode cX10_item 227 = .ok (.iconst 0, 1) := by decide +kernel
theorem dX10_item_228 : decode cX10_item 228 = .ok (.ireturn, 1) := by decide +kernel
theorem dX10_item_229 : decode cX10_item 229 = .ok (.aload_n 0, 1) := by decide +kernel
theorem dX10_item_230 : decode cX10_item 230 = .ok (.getfield 87, 3) := by decide +kernel
theorem dX10_item_233 : decode cX10_item 233 = .ok (.iload 4, 2) := by decide +kernel
theorem dX10_item_235 : decode cX10_item 235 = .ok (.aload_n 0, 1) := by decide +kernel
theorem dX10_item_236 : decode cX10_item 236 = .ok (.getfield 186, 3) := by decide +kernel
theorem dX10_item_239 : decode cX10_item 239 = .ok (.iastore, 1) := by decide +kernel
theorem dX10_item_240 : decode cX10_item 240 = .ok (.iinc 4 1, 3) := by decide +kernel
theorem dX10_item_243 : decode cX10_item 243 = .ok (.goto (-98), 3) := by decide +kernel
theorem dX10_item_246 : decode cX10_item 246 = .ok (.iload_n 2, 1) := by decide +kernel
theorem dX10_item_247 : decode cX10_item 247 = .ok (.tableswitch 292 0 11 #[61, 99, 61, 61, 99, 99, 144, 170, 190, 253, 266, 279], 61) := by decide +kernel
theorem dX10_item_308 : decode cX10_item 308 = .ok (.aload_n 0, 1) := by decide +kernel
theorem dX10_item_309 : decode cX10_item 309 = .ok (.iload_n 2, 1) := by decide +kernel
theorem dX10_item_310 : decode cX10_item 310 = .ok (.ifCond .ne 7, 3) := by decide +kernel
theorem dX10_item_313 : decode cX10_item 313 = .ok (.iconst 1, 1) := by decide +kernel
theorem dX10_item_314 : decode cX10_item 314 = .ok (.goto 13, 3) := by decide +kernel
theorem dX10_item_317 : decode cX10_item 317 = .ok (.iload_n 2, 1) := by decide +kernel
theorem dX10_item_318 : decode cX10_item 318 = .ok (.iconst 2, 1) := by decide +kernel
theorem dX10_item_319 : decode cX10_item 319 = .ok (.if_icmp .ne 7, 3) := by decide +kernel
theorem dX10_item_322 : decode cX10_item 322 = .ok (.iconst 3, 1) := by decide +kernel
theorem dX10_item_323 : decode cX10_item 323 = .ok (.goto 4, 3) := by decide +kernel
theorem dX10_item_326 : decode cX10_item 326 = .ok (.iconst 4, 1) := by decide +kernel
theorem dX10_item_327 : decode cX10_item 327 = .ok (.aload_n 0, 1) := by decide +kernel
theorem dX10_item_328 : decode cX10_item 328 = .ok (.getfield 87, 3) := by decide +kernel
theorem dX10_item_331 : decode cX10_item 331 = .ok (.iconst 0, 1) := by decide +kernel
theorem dX10_item_332 : decode cX10_item 332 = .ok (.iaload, 1) := by decide +kernel
theorem dX10_item_333 : decode cX10_item 333 = .ok (.iconst 0, 1) := by decide +kernel
theorem dX10_item_334 : decode cX10_item 334 = .ok (.aload_n 0, 1) := by decide +kernel
theorem dX10_item_335 : decode cX10_item 335 = .ok (.getfield 87, 3) := by decide +kernel
theorem dX10_item_338 : decode cX10_item 338 = .ok (.iconst 1, 1) := by decide +kernel
theorem dX10_item_339 : decode cX10_item 339 = .ok (.iaload, 1) := by decide +kernel
theorem dX10_item_340 : decode cX10_item 340 = .ok (.invokevirtual 138, 3) := by decide +kernel
theorem dX10_item_343 : decode cX10_item 343 = .ok (.goto 206, 3) := by decide +kernel
theorem dX10_item_346 : decode cX10_item 346 = .ok (.aload_n 0, 1) := by decide +kernel
theorem dX10_item_347 : decode cX10_item 347 = .ok (.iload_n 2, 1) := by decide +kernel
theorem dX10_item_348 : decode cX10_item 348 = .ok (.iconst 1, 1) := by decide +kernel
theorem dX10_item_349 : decode cX10_item 349 = .ok (.if_icmp .ne 7, 3) := by decide +kernel
theorem dX10_item_352 : decode cX10_item 352 = .ok (.iconst 2, 1) := by decide +kernel
theorem dX10_item_353 : decode cX10_item 353 = .ok (.goto 14, 3) := by decide +kernel
theorem dX10_item_356 : decode cX10_item 356 = .ok (.iload_n 2, 1) := by decide +kernel
theorem dX10_item_357 : decode cX10_item 357 = .ok (.iconst 4, 1) := by decide +kernel
theorem dX10_item_358 : decode cX10_item 358 = .ok (.if_icmp .ne 7, 3) := by decide +kernel
theorem dX10_item_361 : decode cX10_item 361 = .ok (.iconst 5, 1) := by decide +kernel
theorem dX10_item_362 : decode cX10_item 362 = .ok (.goto 5, 3) := by decide +kernel
theorem dX10_item_365 : decode cX10_item 365 = .ok (.bipush 6, 2) := by decide +kernel
theorem dX10_item_367 : decode cX10_item 367 = .ok (.aload_n 0, 1) := by decide +kernel
theorem dX10_item_368 : decode cX10_item 368 = .ok (.getfield 87, 3) := by decide +kernel
theorem dX10_item_371 : decode cX10_item 371 = .ok (.iconst 0, 1) := by decide +kernel
theorem dX10_item_372 : decode cX10_item 372 = .ok (.iaload, 1) := by decide +kernel
theorem dX10_item_373 : decode cX10_item 373 = .ok (.aload_n 0, 1) := by decide +kernel
theorem dX10_item_374 : decode cX10_item 374 = .ok (.getfield 87, 3) := by decide +kernel
theorem dX10_item_377 : decode cX10_item 377 = .ok (.iconst 1, 1) := by decide +kernel
theorem dX10_item_378 : decode cX10_item 378 = .ok (.iaload, 1) := by decide +kernel
theorem dX10_item_379 : decode cX10_item 379 = .ok (.aload_n 0, 1) := by decide +kernel
theorem dX10_item_380 : decode cX10_item 380 = .ok (.getfield 87, 3) := by decide +kernel
theorem dX10_item_383 : decode cX10_item 383 = .ok (.iconst 2, 1) := by decide +kernel
theorem dX10_item_384 : decode cX10_item 384 = .ok (.iaload, 1) := by decide +kernel
theorem dX10_item_385 : decode cX10_item 385 = .ok (.invokevirtual 138, 3) := by decide +kernel
theorem dX10_item_388 : decode cX10_item 388 = .ok (.goto 161, 3) := by decide +kernel
theorem dX10_item_391 : decode cX10_item 391 = .ok (.aload_n 0, 1) := by decide +kernel
theorem dX10_item_392 : decode cX10_item 392 = .ok (.aload_n 0, 1) := by decide +kernel
theorem dX10_item_393 : decode cX10_item 393 = .ok (.getfield 87, 3) := by decide +kernel
theorem dX10_item_396 : decode cX10_item 396 = .ok (.iconst 0, 1) := by decide +kernel
theorem dX10_item_397 : decode cX10_item 397 = .ok (.iaload, 1) := by decide +kernel
theorem dX10_item_398 : decode cX10_item 398 = .ok (.aload_n 0, 1) := by decide +kernel
theorem dX10_item_399 : decode cX10_item 399 = .ok (.getfield 87, 3) := by decide +kernel
theorem dX10_item_402 : decode cX10_item 402 = .ok (.iconst 1, 1) := by decide +kernel
theorem dX10_item_403 : decode cX10_item 403 = .ok (.iaload, 1) := by decide +kernel
theorem dX10_item_404 : decode cX10_item 404 = .ok (.aload_n 0, 1) := by decide +kernel
theorem dX10_item_405 : decode cX10_item 405 = .ok (.getfield 87, 3) := by decide +kernel
theorem dX10_item_408 : decode cX10_item 408 = .ok (.iconst 2, 1) := by decide +kernel
theorem dX10_item_409 : decode cX10_item 409 = .ok (.iaload, 1) := by decide +kernel
theorem dX10_item_410 : decode cX10_item 410 = .ok (.invokevirtual 162, 3) := by decide +kernel
theorem dX10_item_413 : decode cX10_item 413 = .ok (.pop, 1) := by decide +kernel
theorem dX10_item_414 : decode cX10_item 414 = .ok (.goto 135, 3) := by decide +kernel
theorem dX10_item_417 : decode cX10_item 417 = .ok (.aload_n 0, 1) := by decide +kernel
theorem dX10_item_418 : decode cX10_item 418 = .ok (.getfield 56, 3) := by decide +kernel
theorem dX10_item_421 : decode cX10_item 421 = .ok (.aload_n 0, 1) := by decide +kernel
theorem dX10_item_422 : decode cX10_item 422 = .ok (.dup, 1) := by decide +kernel
theorem dX10_item_423 : decode cX10_item 423 = .ok (.getfield 114, 3) := by decide +kernel
theorem dX10_item_426 : decode cX10_item 426 = .ok (.dup_x1, 1) := by decide +kernel
theorem dX10_item_427 : decode cX10_item 427 = .ok (.iconst 1, 1) := by decide +kernel
theorem dX10_item_428 : decode cX10_item 428 = .ok (.iadd, 1) := by decide +kernel
theorem dX10_item_429 : decode cX10_item 429 = .ok (.putfield 114, 3) := by decide +kernel
theorem dX10_item_432 : decode cX10_item 432 = .ok (.iconst 0, 1) := by decide +kernel
theorem dX10_item_433 : decode cX10_item 433 = .ok (.iastore, 1) := by decide +kernel
theorem dX10_item_434 : decode cX10_item 434 = .ok (.goto 115, 3) := by decide +kernel
theorem dX10_item_437 : decode cX10_item 437 = .ok (.aload_n 0, 1) := by decide +kernel
theorem dX10_item_438 : decode cX10_item 438 = .ok (.getfield 114, 3) := by decide +kernel
theorem dX10_item_441 : decode cX10_item 441 = .ok (.iconst 1, 1) := by decide +kernel
theorem dX10_item_442 : decode cX10_item 442 = .ok (.isub, 1) := by decide +kernel
theorem dX10_item_443 : decode cX10_item 443 = .ok (.istore 4, 2) := by decide +kernel
theorem dX10_item_445 : decode cX10_item 445 = .ok (.bipush 12, 2) := by decide +kernel
theorem dX10_item_447 : decode cX10_item 447 = .ok (.iload 4, 2) := by decide +kernel
theorem dX10_item_449 : decode cX10_item 449 = .ok (.imul, 1) := by decide +kernel
theorem dX10_item_450 : decode cX10_item 450 = .ok (.aload_n 0, 1) := by decide +kernel
theorem dX10_item_451 : decode cX10_item 451 = .ok (.getfield 56, 3) := by decide +kernel
theorem dX10_item_454 : decode cX10_item 454 = .ok (.iload 4, 2) := by decide +kernel
theorem dX10_item_456 : decode cX10_item 456 = .ok (.iaload, 1) := by decide +kernel
theorem dX10_item_457 : decode cX10_item 457 = .ok (.iadd, 1) := by decide +kernel
theorem dX10_item_458 : decode cX10_item 458 = .ok (.istore 5, 2) := by decide +kernel
theorem dX10_item_460 : decode cX10_item 460 = .ok (.aload_n 0, 1) := by decide +kernel
theorem dX10_item_461 : decode cX10_item 461 = .ok (.getfield 59, 3) := by decide +kernel
theorem dX10_item_464 : decode cX10_item 464 = .ok (.iload 5, 2) := by decide +kernel
theorem dX10_item_466 : decode cX10_item 466 = .ok (.aload_n 0, 1) := by decide +kernel
theorem dX10_item_467 : decode cX10_item 467 = .ok (.getfield 87, 3) := by decide +kernel
theorem dX10_item_470 : decode cX10_item 470 = .ok (.iconst 0, 1) := by decide +kernel
theorem dX10_item_471 : decode cX10_item 471 = .ok (.iaload, 1) := by decide +kernel
theorem dX10_item_472 : decode cX10_item 472 = .ok (.iastore, 1) := by decide +kernel
theorem dX10_item_473 : decode cX10_item 473 = .ok (.aload_n 0, 1) := by decide +kernel
theorem dX10_item_474 : decode cX10_item 474 = .ok (.getfield 62, 3) := by decide +kernel
theorem dX10_item_477 : decode cX10_item 477 = .ok (.iload 5, 2) := by decide +kernel
theorem dX10_item_479 : decode cX10_item 479 = .ok (.aload_n 0, 1) := by decide +kernel
theorem dX10_item_480 : decode cX10_item 480 = .ok (.getfield 87, 3) := by decide +kernel
theorem dX10_item_483 : decode cX10_item 483 = .ok (.iconst 1, 1) := by decide +kernel
theorem dX10_item_484 : decode cX10_item 484 = .ok (.iaload, 1) := by decide +kernel
theorem dX10_item_485 : decode cX10_item 485 = .ok (.iastore, 1) := by decide +kernel
theorem dX10_item_486 : decode cX10_item 486 = .ok (.aload_n 0, 1) := by decide +kernel
theorem dX10_item_487 : decode cX10_item 487 = .ok (.getfield 56, 3) := by decide +kernel
theorem dX10_item_490 : decode cX10_item 490 = .ok (.iload 4, 2) := by decide +kernel
theorem dX10_item_492 : decode cX10_item 492 = .ok (.dup2, 1) := by decide +kernel
theorem dX10_item_493 : decode cX10_item 493 = .ok (.iaload, 1) := by decide +kernel
theorem dX10_item_494 : decode cX10_item 494 = .ok (.iconst 1, 1) := by decide +kernel
theorem dX10_item_495 : decode cX10_item 495 = .ok (.iadd, 1) := by decide +kernel
theorem dX10_item_496 : decode cX10_item 496 = .ok (.iastore, 1) := by decide +kernel
theorem dX10_item_497 : decode cX10_item 497 = .ok (.goto 52, 3) := by decide +kernel
theorem dX10_item_500 : decode cX10_item 500 = .ok (.aload_n 0, 1) := by decide +kernel
theorem dX10_item_501 : decode cX10_item 501 = .ok (.aload_n 0, 1) := by decide +kernel
theorem dX10_item_502 : decode cX10_item 502 = .ok (.getfield 87, 3) := by decide +kernel
theorem dX10_item_505 : decode cX10_item 505 = .ok (.iconst 0, 1) := by decide +kernel
theorem dX10_item_506 : decode cX10_item 506 = .ok (.iaload, 1) := by decide +kernel
theorem dX10_item_507 : decode cX10_item 507 = .ok (.putfield 7, 3) := by decide +kernel
theorem dX10_item_510 : decode cX10_item 510 = .ok (.goto 39, 3) := by decide +kernel
theorem dX10_item_513 : decode cX10_item 513 = .ok (.aload_n 0, 1) := by decide +kernel
theorem dX10_item_514 : decode cX10_item 514 = .ok (.aload_n 0, 1) := by decide +kernel
theorem dX10_item_515 : decode cX10_item 515 = .ok (.getfield 87, 3) := by decide +kernel
theorem dX10_item_518 : decode cX10_item 518 = .ok (.iconst 0, 1) := by decide +kernel
theorem dX10_item_519 : decode cX10_item 519 = .ok (.iaload, 1) := by decide +kernel
theorem dX10_item_520 : decode cX10_item 520 = .ok (.putfield 13, 3) := by decide +kernel
theorem dX10_item_523 : decode cX10_item 523 = .ok (.goto 26, 3) := by decide +kernel
theorem dX10_item_526 : decode cX10_item 526 = .ok (.aload_n 0, 1) := by decide +kernel
theorem dX10_item_527 : decode cX10_item 527 = .ok (.aload_n 0, 1) := by decide +kernel
theorem dX10_item_528 : decode cX10_item 528 = .ok (.getfield 87, 3) := by decide +kernel
theorem dX10_item_531 : decode cX10_item 531 = .ok (.iconst 0, 1) := by decide +kernel
theorem dX10_item_532 : decode cX10_item 532 = .ok (.iaload, 1) := by decide +kernel
theorem dX10_item_533 : decode cX10_item 533 = .ok (.putfield 16, 3) := by decide +kernel
theorem dX10_item_536 : decode cX10_item 536 = .ok (.goto 13, 3) := by decide +kernel
theorem dX10_item_539 : decode cX10_item 539 = .ok (.aload_n 0, 1) := by decide +kernel
theorem dX10_item_540 : decode cX10_item 540 = .ok (.aload_n 0, 1) := by decide +kernel
theorem dX10_item_541 : decode cX10_item 541 = .ok (.getfield 87, 3) := by decide +kernel
theorem dX10_item_544 : decode cX10_item 544 = .ok (.iconst 0, 1) := by decide +kernel
theorem dX10_item_545 : decode cX10_item 545 = .ok (.iaload, 1) := by decide +kernel
theorem dX10_item_546 : decode cX10_item 546 = .ok (.putfield 19, 3) := by decide +kernel
theorem dX10_item_549 : decode cX10_item 549 = .ok (.iconst 1, 1) := by decide +kernel
theorem dX10_item_550 : decode cX10_item 550 = .ok (.ireturn, 1) := by decide +kernel
theorem dX10_keeps_0 : decode cX10_keeps 0 = .ok (.iconst 0, 1) := by decide +kernel
theorem dX10_keeps_1 : decode cX10_keeps 1 = .ok (.istore 6, 2) := by decide +kernel
theorem dX10_keeps_3 : decode cX10_keeps 3 = .ok (.iload 6, 2) := by decide +kernel
theorem dX10_keeps_5 : decode cX10_keeps 5 = .ok (.iload_n 2, 1) := by decide +kernel
theorem dX10_keeps_6 : decode cX10_keeps 6 = .ok (.if_icmp .ge 39, 3) := by decide +kernel
theorem dX10_keeps_9 : decode cX10_keeps 9 = .ok (.iload 5, 2) := by decide +kernel
theorem dX10_keeps_11 : decode cX10_keeps 11 = .ok (.ifCond .eq 17, 3) := by decide +kernel
theorem dX10_keeps_14 : decode cX10_keeps 14 = .ok (.aload_n 1, 1) := by decide +kernel
theorem dX10_keeps_15 : decode cX10_keeps 15 = .ok (.iload 6, 2) := by decide +kernel
theorem dX10_keeps_17 : decode cX10_keeps 17 = .ok (.aload_n 3, 1) := by decide +kernel
theorem dX10_keeps_18 : decode cX10_keeps 18 = .ok (.iload 4, 2) := by decide +kernel
theorem dX10_keeps_20 : decode cX10_keeps 20 = .ok (.iload 6, 2) := by decide +kernel
theorem dX10_keeps_22 : decode cX10_keeps 22 = .ok (.iadd, 1) := by decide +kernel
theorem dX10_keeps_23 : decode cX10_keeps 23 = .ok (.iaload, 1) := by decide +kernel
theorem dX10_keeps_24 : decode cX10_keeps 24 = .ok (.iastore, 1) := by decide +kernel
theorem dX10_keeps_25 : decode cX10_keeps 25 = .ok (.goto 14, 3) := by decide +kernel
theorem dX10_keeps_28 : decode cX10_keeps 28 = .ok (.aload_n 3, 1) := by decide +kernel
theorem dX10_keeps_29 : decode cX10_keeps 29 = .ok (.iload 4, 2) := by decide +kernel
theorem dX10_keeps_31 : decode cX10_keeps 31 = .ok (.iload 6, 2) := by decide +kernel
theorem dX10_keeps_33 : decode cX10_keeps 33 = .ok (.iadd, 1) := by decide +kernel
theorem dX10_keeps_34 : decode cX10_keeps 34 = .ok (.aload_n 1, 1) := by decide +kernel
theorem dX10_keeps_35 : decode cX10_keeps 35 = .ok (.iload 6, 2) := by decide +kernel
theorem dX10_keeps_37 : decode cX10_keeps 37 = .ok (.iaload, 1) := by decide +kernel
theorem dX10_keeps_38 : decode cX10_keeps 38 = .ok (.iastore, 1) := by decide +kernel
theorem dX10_keeps_39 : decode cX10_keeps 39 = .ok (.iinc 6 1, 3) := by decide +kernel
theorem dX10_keeps_42 : decode cX10_keeps 42 = .ok (.goto (-39), 3) := by decide +kernel
theorem dX10_keeps_45 : decode cX10_keeps 45 = .ok (.iload 4, 2) := by decide +kernel
theorem dX10_keeps_47 : decode cX10_keeps 47 = .ok (.iload_n 2, 1) := by decide +kernel
theorem dX10_keeps_48 : decode cX10_keeps 48 = .ok (.iadd, 1) := by decide +kernel
theorem dX10_keeps_49 : decode cX10_keeps 49 = .ok (.ireturn, 1) := by decide +kernel
theorem dX10_all_0 : decode cX10_all 0 = .ok (.aload_n 0, 1) := by decide +kernel
theorem dX10_all_1 : decode cX10_all 1 = .ok (.aload_n 0, 1) := by decide +kernel
theorem dX10_all_2 : decode cX10_all 2 = .ok (.getfield 35, 3) := by decide +kernel
theorem dX10_all_5 : decode cX10_all 5 = .ok (.bipush 16, 2) := by decide +kernel
theorem dX10_all_7 : decode cX10_all 7 = .ok (.aload_n 1, 1) := by decide +kernel
theorem dX10_all_8 : decode cX10_all 8 = .ok (.iconst 0, 1) := by decide +kernel
theorem dX10_all_9 : decode cX10_all 9 = .ok (.iload_n 2, 1) := by decide +kernel
theorem dX10_all_10 : decode cX10_all 10 = .ok (.invokevirtual 218, 3) := by decide +kernel
theorem dX10_all_13 : decode cX10_all 13 = .ok (.istore_n 3, 1) := by decide +kernel
theorem dX10_all_14 : decode cX10_all 14 = .ok (.aload_n 0, 1) := by decide +kernel
theorem dX10_all_15 : decode cX10_all 15 = .ok (.aload_n 0, 1) := by decide +kernel
theorem dX10_all_16 : decode cX10_all 16 = .ok (.getfield 38, 3) := by decide +kernel
theorem dX10_all_19 : decode cX10_all 19 = .ok (.bipush 16, 2) := by decide +kernel
theorem dX10_all_21 : decode cX10_all 21 = .ok (.aload_n 1, 1) := by decide +kernel
theorem dX10_all_22 : decode cX10_all 22 = .ok (.iload_n 3, 1) := by decide +kernel
theorem dX10_all_23 : decode cX10_all 23 = .ok (.iload_n 2, 1) := by decide +kernel
theorem dX10_all_24 : decode cX10_all 24 = .ok (.invokevirtual 218, 3) := by decide +kernel
theorem dX10_all_27 : decode cX10_all 27 = .ok (.istore_n 3, 1) := by decide +kernel
theorem dX10_all_28 : decode cX10_all 28 = .ok (.aload_n 0, 1) := by decide +kernel
theorem dX10_all_29 : decode cX10_all 29 = .ok (.aload_n 0, 1) := by decide +kernel
theorem dX10_all_30 : decode cX10_all 30 = .ok (.getfield 41, 3) := by decide +kernel
theorem dX10_all_33 : decode cX10_all 33 = .ok (.bipush 16, 2) := by decide +kernel
theorem dX10_all_35 : decode cX10_all 35 = .ok (.aload_n 1, 1) := by decide +kernel
theorem dX10_all_36 : decode cX10_all 36 = .ok (.iload_n 3, 1) := by decide +kernel
theorem dX10_all_37 : decode cX10_all 37 = .ok (.iload_n 2, 1) := by decide +kernel
theorem dX10_all_38 : decode cX10_all 38 = .ok (.invokevirtual 218, 3) := by decide +kernel
theorem dX10_all_41 : decode cX10_all 41 = .ok (.istore_n 3, 1) := by decide +kernel
theorem dX10_all_42 : decode cX10_all 42 = .ok (.aload_n 0, 1) := by decide +kernel
theorem dX10_all_43 : decode cX10_all 43 = .ok (.aload_n 0, 1) := by decide +kernel
theorem dX10_all_44 : decode cX10_all 44 = .ok (.getfield 44, 3) := by decide +kernel
theorem dX10_all_47 : decode cX10_all 47 = .ok (.bipush 16, 2) := by decide +kernel
theorem dX10_all_49 : decode cX10_all 49 = .ok (.aload_n 1, 1) := by decide +kernel
theorem dX10_all_50 : decode cX10_all 50 = .ok (.iload_n 3, 1) := by decide +kernel
theorem dX10_all_51 : decode cX10_all 51 = .ok (.iload_n 2, 1) := by decide +kernel
theorem dX10_all_52 : decode cX10_all 52 = .ok (.invokevirtual 218, 3) := by decide +kernel
theorem dX10_all_55 : decode cX10_all 55 = .ok (.istore_n 3, 1) := by decide +kernel
theorem dX10_all_56 : decode cX10_all 56 = .ok (.aload_n 0, 1) := by decide +kernel
theorem dX10_all_57 : decode cX10_all 57 = .ok (.aload_n 0, 1) := by decide +kernel
theorem dX10_all_58 : decode cX10_all 58 = .ok (.getfield 47, 3) := by decide +kernel
theorem dX10_all_61 : decode cX10_all 61 = .ok (.bipush 6, 2) := by decide +kernel
theorem dX10_all_63 : decode cX10_all 63 = .ok (.aload_n 1, 1) := by decide +kernel
theorem dX10_all_64 : decode cX10_all 64 = .ok (.iload_n 3, 1) := by decide +kernel
theorem dX10_all_65 : decode cX10_all 65 = .ok (.iload_n 2, 1) := by decide +kernel
theorem dX10_all_66 : decode cX10_all 66 = .ok (.invokevirtual 218, 3) := by decide +kernel
theorem dX10_all_69 : decode cX10_all 69 = .ok (.istore_n 3, 1) := by decide +kernel
theorem dX10_all_70 : decode cX10_all 70 = .ok (.aload_n 0, 1) := by decide +kernel
theorem dX10_all_71 : decode cX10_all 71 = .ok (.aload_n 0, 1) := by decide +kernel
theorem dX10_all_72 : decode cX10_all 72 = .ok (.getfield 50, 3) := by decide +kernel
theorem dX10_all_75 : decode cX10_all 75 = .ok (.bipush 6, 2) := by decide +kernel
theorem dX10_all_77 : decode cX10_all 77 = .ok (.aload_n 1, 1) := by decide +kernel
theorem dX10_all_78 : decode cX10_all 78 = .ok (.iload_n 3, 1) := by decide +kernel
theorem dX10_all_79 : decode cX10_all 79 = .ok (.iload_n 2, 1) := by decide +kernel
theorem dX10_all_80 : decode cX10_all 80 = .ok (.invokevirtual 218, 3) := by decide +kernel
theorem dX10_all_83 : decode cX10_all 83 = .ok (.istore_n 3, 1) := by decide +kernel
theorem dX10_all_84 : decode cX10_all 84 = .ok (.aload_n 0, 1) := by decide +kernel
theorem dX10_all_85 : decode cX10_all 85 = .ok (.aload_n 0, 1) := by decide +kernel
theorem dX10_all_86 : decode cX10_all 86 = .ok (.getfield 53, 3) := by decide +kernel
theorem dX10_all_89 : decode cX10_all 89 = .ok (.bipush 6, 2) := by decide +kernel
theorem dX10_all_91 : decode cX10_all 91 = .ok (.aload_n 1, 1) := by decide +kernel
theorem dX10_all_92 : decode cX10_all 92 = .ok (.iload_n 3, 1) := by decide +kernel
theorem dX10_all_93 : decode cX10_all 93 = .ok (.iload_n 2, 1) := by decide +kernel
theorem dX10_all_94 : decode cX10_all 94 = .ok (.invokevirtual 218, 3) := by decide +kernel
theorem dX10_all_97 : decode cX10_all 97 = .ok (.istore_n 3, 1) := by decide +kernel
theorem dX10_all_98 : decode cX10_all 98 = .ok (.aload_n 0, 1) := by decide +kernel
theorem dX10_all_99 : decode cX10_all 99 = .ok (.aload_n 0, 1) := by decide +kernel
theorem dX10_all_100 : decode cX10_all 100 = .ok (.getfield 56, 3) := by decide +kernel
theorem dX10_all_103 : decode cX10_all 103 = .ok (.bipush 6, 2) := by decide +kernel
theorem dX10_all_105 : decode cX10_all 105 = .ok (.aload_n 1, 1) := by decide +kernel
theorem dX10_all_106 : decode cX10_all 106 = .ok (.iload_n 3, 1) := by decide +kernel
theorem dX10_all_107 : decode cX10_all 107 = .ok (.iload_n 2, 1) := by decide +kernel
theorem dX10_all_108 : decode cX10_all 108 = .ok (.invokevirtual 218, 3) := by decide +kernel
theorem dX10_all_111 : decode cX10_all 111 = .ok (.istore_n 3, 1) := by decide +kernel
theorem dX10_all_112 : decode cX10_all 112 = .ok (.aload_n 0, 1) := by decide +kernel
theorem dX10_all_113 : decode cX10_all 113 = .ok (.aload_n 0, 1) := by decide +kernel
theorem dX10_all_114 : decode cX10_all 114 = .ok (.getfield 59, 3) := by decide +kernel
theorem dX10_all_117 : decode cX10_all 117 = .ok (.bipush 72, 2) := by decide +kernel
theorem dX10_all_119 : decode cX10_all 119 = .ok (.aload_n 1, 1) := by decide +kernel
theorem dX10_all_120 : decode cX10_all 120 = .ok (.iload_n 3, 1) := by decide +kernel
theorem dX10_all_121 : decode cX10_all 121 = .ok (.iload_n 2, 1) := by decide +kernel
theorem dX10_all_122 : decode cX10_all 122 = .ok (.invokevirtual 218, 3) := by decide +kernel
theorem dX10_all_125 : decode cX10_all 125 = .ok (.istore_n 3, 1) := by decide +kernel
theorem dX10_all_126 : decode cX10_all 126 = .ok (.aload_n 0, 1) := by decide +kernel
theorem dX10_all_127 : decode cX10_all 127 = .ok (.aload_n 0, 1) := by decide +kernel
theorem dX10_all_128 : decode cX10_all 128 = .ok (.getfield 62, 3) := by decide +kernel
theorem dX10_all_131 : decode cX10_all 131 = .ok (.bipush 72, 2) := by decide +kernel
theorem dX10_all_133 : decode cX10_all 133 = .ok (.aload_n 1, 1) := by decide +kernel
theorem dX10_all_134 : decode cX10_all 134 = .ok (.iload_n 3, 1) := by decide +kernel
theorem dX10_all_135 : decode cX10_all 135 = .ok (.iload_n 2, 1) := by decide +kernel
theorem dX10_all_136 : decode cX10_all 136 = .ok (.invokevirtual 218, 3) := by decide +kernel
theorem dX10_all_139 : decode cX10_all 139 = .ok (.istore_n 3, 1) := by decide +kernel
theorem dX10_all_140 : decode cX10_all 140 = .ok (.iload_n 2, 1) := by decide +kernel
theorem dX10_all_141 : decode cX10_all 141 = .ok (.ifCond .eq 78, 3) := by decide +kernel
theorem dX10_all_144 : decode cX10_all 144 = .ok (.aload_n 0, 1) := by decide +kernel
theorem dX10_all_145 : decode cX10_all 145 = .ok (.aload_n 1, 1) := by decide +kernel
theorem dX10_all_146 : decode cX10_all 146 = .ok (.iload_n 3, 1) := by decide +kernel
theorem dX10_all_147 : decode cX10_all 147 = .ok (.iaload, 1) := by decide +kernel
theorem dX10_all_148 : decode cX10_all 148 = .ok (.putfield 108, 3) := by decide +kernel
theorem dX10_all_151 : decode cX10_all 151 = .ok (.aload_n 0, 1) := by decide +kernel
theorem dX10_all_152 : decode cX10_all 152 = .ok (.aload_n 1, 1) := by decide +kernel
theorem dX10_all_153 : decode cX10_all 153 = .ok (.iload_n 3, 1) := by decide +kernel
theorem dX10_all_154 : decode cX10_all 154 = .ok (.iconst 1, 1) := by decide +kernel
theorem dX10_all_155 : decode cX10_all 155 = .ok (.iadd, 1) := by decide +kernel
theorem dX10_all_156 : decode cX10_all 156 = .ok (.iaload, 1) := by decide +kernel
theorem dX10_all_157 : decode cX10_all 157 = .ok (.putfield 111, 3) := by decide +kernel
theorem dX10_all_160 : decode cX10_all 160 = .ok (.aload_n 0, 1) := by decide +kernel
theorem dX10_all_161 : decode cX10_all 161 = .ok (.aload_n 1, 1) := by decide +kernel
theorem dX10_all_162 : decode cX10_all 162 = .ok (.iload_n 3, 1) := by decide +kernel
theorem dX10_all_163 : decode cX10_all 163 = .ok (.iconst 2, 1) := by decide +kernel
theorem dX10_all_164 : decode cX10_all 164 = .ok (.iadd, 1) := by decide +kernel
theorem dX10_all_165 : decode cX10_all 165 = .ok (.iaload, 1) := by decide +kernel
theorem dX10_all_166 : decode cX10_all 166 = .ok (.putfield 114, 3) := by decide +kernel
theorem dX10_all_169 : decode cX10_all 169 = .ok (.aload_n 0, 1) := by decide +kernel
theorem dX10_all_170 : decode cX10_all 170 = .ok (.aload_n 1, 1) := by decide +kernel
theorem dX10_all_171 : decode cX10_all 171 = .ok (.iload_n 3, 1) := by decide +kernel
theorem dX10_all_172 : decode cX10_all 172 = .ok (.iconst 3, 1) := by decide +kernel
theorem dX10_all_173 : decode cX10_all 173 = .ok (.iadd, 1) := by decide +kernel
theorem dX10_all_174 : decode cX10_all 174 = .ok (.iaload, 1) := by decide +kernel
theorem dX10_all_175 : decode cX10_all 175 = .ok (.putfield 7, 3) := by decide +kernel
theorem dX10_all_178 : decode cX10_all 178 = .ok (.aload_n 0, 1) := by decide +kernel
theorem dX10_all_179 : decode cX10_all 179 = .ok (.aload_n 1, 1) := by decide +kernel
theorem dX10_all_180 : decode cX10_all 180 = .ok (.iload_n 3, 1) := by decide +kernel
theorem dX10_all_181 : decode cX10_all 181 = .ok (.iconst 4, 1) := by decide +kernel
theorem dX10_all_182 : decode cX10_all 182 = .ok (.iadd, 1) := by decide +kernel
theorem dX10_all_183 : decode cX10_all 183 = .ok (.iaload, 1) := by decide +kernel
theorem dX10_all_184 : decode cX10_all 184 = .ok (.putfield 13, 3) := by decide +kernel
theorem dX10_all_187 : decode cX10_all 187 = .ok (.aload_n 0, 1) := by decide +kernel
theorem dX10_all_188 : decode cX10_all 188 = .ok (.aload_n 1, 1) := by decide +kernel
theorem dX10_all_189 : decode cX10_all 189 = .ok (.iload_n 3, 1) := by decide +kernel
theorem dX10_all_190 : decode cX10_all 190 = .ok (.iconst 5, 1) := by decide +kernel
theorem dX10_all_191 : decode cX10_all 191 = .ok (.iadd, 1) := by decide +kernel
theorem dX10_all_192 : decode cX10_all 192 = .ok (.iaload, 1) := by decide +kernel
theorem dX10_all_193 : decode cX10_all 193 = .ok (.putfield 16, 3) := by decide +kernel
theorem dX10_all_196 : decode cX10_all 196 = .ok (.aload_n 0, 1) := by decide +kernel
theorem dX10_all_197 : decode cX10_all 197 = .ok (.aload_n 1, 1) := by decide +kernel
theorem dX10_all_198 : decode cX10_all 198 = .ok (.iload_n 3, 1) := by decide +kernel
theorem dX10_all_199 : decode cX10_all 199 = .ok (.bipush 6, 2) := by decide +kernel
theorem dX10_all_201 : decode cX10_all 201 = .ok (.iadd, 1) := by decide +kernel
theorem dX10_all_202 : decode cX10_all 202 = .ok (.iaload, 1) := by decide +kernel
theorem dX10_all_203 : decode cX10_all 203 = .ok (.putfield 19, 3) := by decide +kernel
theorem dX10_all_206 : decode cX10_all 206 = .ok (.aload_n 0, 1) := by decide +kernel
theorem dX10_all_207 : decode cX10_all 207 = .ok (.aload_n 1, 1) := by decide +kernel
theorem dX10_all_208 : decode cX10_all 208 = .ok (.iload_n 3, 1) := by decide +kernel
theorem dX10_all_209 : decode cX10_all 209 = .ok (.bipush 7, 2) := by decide +kernel
theorem dX10_all_211 : decode cX10_all 211 = .ok (.iadd, 1) := by decide +kernel
theorem dX10_all_212 : decode cX10_all 212 = .ok (.iaload, 1) := by decide +kernel
theorem dX10_all_213 : decode cX10_all 213 = .ok (.putfield 22, 3) := by decide +kernel
theorem dX10_all_216 : decode cX10_all 216 = .ok (.goto 75, 3) := by decide +kernel
theorem dX10_all_219 : decode cX10_all 219 = .ok (.aload_n 1, 1) := by decide +kernel
theorem dX10_all_220 : decode cX10_all 220 = .ok (.iload_n 3, 1) := by decide +kernel
theorem dX10_all_221 : decode cX10_all 221 = .ok (.aload_n 0, 1) := by decide +kernel
theorem dX10_all_222 : decode cX10_all 222 = .ok (.getfield 108, 3) := by decide +kernel
theorem dX10_all_225 : decode cX10_all 225 = .ok (.iastore, 1) := by decide +kernel
theorem dX10_all_226 : decode cX10_all 226 = .ok (.aload_n 1, 1) := by decide +kernel
theorem dX10_all_227 : decode cX10_all 227 = .ok (.iload_n 3, 1) := by decide +kernel
theorem dX10_all_228 : decode cX10_all 228 = .ok (.iconst 1, 1) := by decide +kernel
theorem dX10_all_229 : decode cX10_all 229 = .ok (.iadd, 1) := by decide +kernel
theorem dX10_all_230 : decode cX10_all 230 = .ok (.aload_n 0, 1) := by decide +kernel
theorem dX10_all_231 : decode cX10_all 231 = .ok (.getfield 111, 3) := by decide +kernel
theorem dX10_all_234 : decode cX10_all 234 = .ok (.iastore, 1) := by decide +kernel
theorem dX10_all_235 : decode cX10_all 235 = .ok (.aload_n 1, 1) := by decide +kernel
theorem dX10_all_236 : decode cX10_all 236 = .ok (.iload_n 3, 1) := by decide +kernel
theorem dX10_all_237 : decode cX10_all 237 = .ok (.iconst 2, 1) := by decide +kernel
theorem dX10_all_238 : decode cX10_all 238 = .ok (.iadd, 1) := by decide +kernel
theorem dX10_all_239 : decode cX10_all 239 = .ok (.aload_n 0, 1) := by decide +kernel
theorem dX10_all_240 : decode cX10_all 240 = .ok (.getfield 114, 3) := by decide +kernel
theorem dX10_all_243 : decode cX10_all 243 = .ok (.iastore, 1) := by decide +kernel
theorem dX10_all_244 : decode cX10_all 244 = .ok (.aload_n 1, 1) := by decide +kernel
theorem dX10_all_245 : decode cX10_all 245 = .ok (.iload_n 3, 1) := by decide +kernel
theorem dX10_all_246 : decode cX10_all 246 = .ok (.iconst 3, 1) := by decide +kernel
theorem dX10_all_247 : decode cX10_all 247 = .ok (.iadd, 1) := by decide +kernel
theorem dX10_all_248 : decode cX10_all 248 = .ok (.aload_n 0, 1) := by decide +kernel
theorem dX10_all_249 : decode cX10_all 249 = .ok (.getfield 7, 3) := by decide +kernel
theorem dX10_all_252 : decode cX10_all 252 = .ok (.iastore, 1) := by decide +kernel
theorem dX10_all_253 : decode cX10_all 253 = .ok (.aload_n 1, 1) := by decide +kernel
theorem dX10_all_254 : decode cX10_all 254 = .ok (.iload_n 3, 1) := by decide +kernel
theorem dX10_all_255 : decode cX10_all 255 = .ok (.iconst 4, 1) := by decide +kernel
theorem dX10_all_256 : decode cX10_all 256 = .ok (.iadd, 1) := by decide +kernel
theorem dX10_all_257 : decode cX10_all 257 = .ok (.aload_n 0, 1) := by decide +kernel
theorem dX10_all_258 : decode cX10_all 258 = .ok (.getfield 13, 3) := by decide +kernel
theorem dX10_all_261 : decode cX10_all 261 = .ok (.iastore, 1) := by decide +kernel
theorem dX10_all_262 : decode cX10_all 262 = .ok (.aload_n 1, 1) := by decide +kernel
theorem dX10_all_263 : decode cX10_all 263 = .ok (.iload_n 3, 1) := by decide +kernel
theorem dX10_all_264 : decode cX10_all 264 = .ok (.iconst 5, 1) := by decide +kernel
theorem dX10_all_265 : decode cX10_all 265 = .ok (.iadd, 1) := by decide +kernel
theorem dX10_all_266 : decode cX10_all 266 = .ok (.aload_n 0, 1) := by decide +kernel
theorem dX10_all_267 : decode cX10_all 267 = .ok (.getfield 16, 3) := by decide +kernel
theorem dX10_all_270 : decode cX10_all 270 = .ok (.iastore, 1) := by decide +kernel
theorem dX10_all_271 : decode cX10_all 271 = .ok (.aload_n 1, 1) := by decide +kernel
theorem dX10_all_272 : decode cX10_all 272 = .ok (.iload_n 3, 1) := by decide +kernel
theorem dX10_all_273 : decode cX10_all 273 = .ok (.bipush 6, 2) := by decide +kernel
theorem dX10_all_275 : decode cX10_all 275 = .ok (.iadd, 1) := by decide +kernel
theorem dX10_all_276 : decode cX10_all 276 = .ok (.aload_n 0, 1) := by decide +kernel
theorem dX10_all_277 : decode cX10_all 277 = .ok (.getfield 19, 3) := by decide +kernel
theorem dX10_all_280 : decode cX10_all 280 = .ok (.iastore, 1) := by decide +kernel
theorem dX10_all_281 : decode cX10_all 281 = .ok (.aload_n 1, 1) := by decide +kernel
theorem dX10_all_282 : decode cX10_all 282 = .ok (.iload_n 3, 1) := by decide +kernel
theorem dX10_all_283 : decode cX10_all 283 = .ok (.bipush 7, 2) := by decide +kernel
theorem dX10_all_285 : decode cX10_all 285 = .ok (.iadd, 1) := by decide +kernel
theorem dX10_all_286 : decode cX10_all 286 = .ok (.aload_n 0, 1) := by decide +kernel
theorem dX10_all_287 : decode cX10_all 287 = .ok (.getfield 22, 3) := by decide +kernel
theorem dX10_all_290 : decode cX10_all 290 = .ok (.iastore, 1) := by decide +kernel
theorem dX10_all_291 : decode cX10_all 291 = .ok (.return_, 1) := by decide +kernel
theorem dX10_book_0 : decode cX10_book 0 = .ok (.aload_n 0, 1) := by decide +kernel
theorem dX10_book_1 : decode cX10_book 1 = .ok (.iload_n 1, 1) := by decide +kernel
theorem dX10_book_2 : decode cX10_book 2 = .ok (.invokevirtual 142, 3) := by decide +kernel
theorem dX10_book_5 : decode cX10_book 5 = .ok (.istore_n 2, 1) := by decide +kernel
theorem dX10_book_6 : decode cX10_book 6 = .ok (.iload_n 2, 1) := by decide +kernel
theorem dX10_book_7 : decode cX10_book 7 = .ok (.ifCond .eq 9, 3) := by decide +kernel
theorem dX10_book_10 : decode cX10_book 10 = .ok (.aload_n 0, 1) := by decide +kernel
theorem dX10_book_11 : decode cX10_book 11 = .ok (.iload_n 2, 1) := by decide +kernel
theorem dX10_book_12 : decode cX10_book 12 = .ok (.invokevirtual 121, 3) := by decide +kernel
theorem dX10_book_15 : decode cX10_book 15 = .ok (.ireturn, 1) := by decide +kernel
theorem dX10_book_16 : decode cX10_book 16 = .ok (.aload_n 0, 1) := by decide +kernel
theorem dX10_book_17 : decode cX10_book 17 = .ok (.aload_n 0, 1) := by decide +kernel
theorem dX10_book_18 : decode cX10_book 18 = .ok (.getfield 90, 3) := by decide +kernel
theorem dX10_book_21 : decode cX10_book 21 = .ok (.iconst 0, 1) := by decide +kernel
theorem dX10_book_22 : decode cX10_book 22 = .ok (.invokevirtual 222, 3) := by decide +kernel
theorem dX10_book_25 : decode cX10_book 25 = .ok (.aload_n 0, 1) := by decide +kernel
theorem dX10_book_26 : decode cX10_book 26 = .ok (.sipush 160, 3) := by decide +kernel
theorem dX10_book_29 : decode cX10_book 29 = .ok (.iload_n 1, 1) := by decide +kernel
theorem dX10_book_30 : decode cX10_book 30 = .ok (.imul, 1) := by decide +kernel
theorem dX10_book_31 : decode cX10_book 31 = .ok (.putfield 183, 3) := by decide +kernel
theorem dX10_book_34 : decode cX10_book 34 = .ok (.aload_n 0, 1) := by decide +kernel
theorem dX10_book_35 : decode cX10_book 35 = .ok (.iconst 0, 1) := by decide +kernel
theorem dX10_book_36 : decode cX10_book 36 = .ok (.putfield 177, 3) := by decide +kernel
theorem dX10_book_39 : decode cX10_book 39 = .ok (.aload_n 0, 1) := by decide +kernel
theorem dX10_book_40 : decode cX10_book 40 = .ok (.aload_n 0, 1) := by decide +kernel
theorem dX10_book_41 : decode cX10_book 41 = .ok (.getfield 71, 3) := by decide +kernel
theorem dX10_book_44 : decode cX10_book 44 = .ok (.iload_n 1, 1) := by decide +kernel
theorem dX10_book_45 : decode cX10_book 45 = .ok (.iaload, 1) := by decide +kernel
theorem dX10_book_46 : decode cX10_book 46 = .ok (.putfield 180, 3) := by decide +kernel
theorem dX10_book_49 : decode cX10_book 49 = .ok (.aload_n 0, 1) := by decide +kernel
theorem dX10_book_50 : decode cX10_book 50 = .ok (.iconst (-1), 1) := by decide +kernel
theorem dX10_book_51 : decode cX10_book 51 = .ok (.putfield 25, 3) := by decide +kernel
theorem dX10_book_54 : decode cX10_book 54 = .ok (.iconst 1, 1) := by decide +kernel
theorem dX10_book_55 : decode cX10_book 55 = .ok (.istore_n 3, 1) := by decide +kernel
theorem dX10_book_56 : decode cX10_book 56 = .ok (.aload_n 0, 1) := by decide +kernel
theorem dX10_book_57 : decode cX10_book 57 = .ok (.invokevirtual 226, 3) := by decide +kernel
theorem dX10_book_60 : decode cX10_book 60 = .ok (.istore 4, 2) := by decide +kernel
theorem dX10_book_62 : decode cX10_book 62 = .ok (.iload 4, 2) := by decide +kernel
theorem dX10_book_64 : decode cX10_book 64 = .ok (.ifCond .eq 69, 3) := by decide +kernel
theorem dX10_book_67 : decode cX10_book 67 = .ok (.aload_n 0, 1) := by decide +kernel
theorem dX10_book_68 : decode cX10_book 68 = .ok (.getfield 177, 3) := by decide +kernel
theorem dX10_book_71 : decode cX10_book 71 = .ok (.aload_n 0, 1) := by decide +kernel
theorem dX10_book_72 : decode cX10_book 72 = .ok (.getfield 180, 3) := by decide +kernel
theorem dX10_book_75 : decode cX10_book 75 = .ok (.if_icmp .ge 58, 3) := by decide +kernel
theorem dX10_book_78 : decode cX10_book 78 = .ok (.aload_n 0, 1) := by decide +kernel
theorem dX10_book_79 : decode cX10_book 79 = .ok (.getfield 77, 3) := by decide +kernel
theorem dX10_book_82 : decode cX10_book 82 = .ok (.aload_n 0, 1) := by decide +kernel
theorem dX10_book_83 : decode cX10_book 83 = .ok (.getfield 183, 3) := by decide +kernel
theorem dX10_book_86 : decode cX10_book 86 = .ok (.aload_n 0, 1) := by decide +kernel
theorem dX10_book_87 : decode cX10_book 87 = .ok (.getfield 177, 3) := by decide +kernel
theorem dX10_book_90 : decode cX10_book 90 = .ok (.iadd, 1) := by decide +kernel
theorem dX10_book_91 : decode cX10_book 91 = .ok (.laload, 1) := by decide +kernel
theorem dX10_book_92 : decode cX10_book 92 = .ok (.l2i, 1) := by decide +kernel
theorem dX10_book_93 : decode cX10_book 93 = .ok (.bipush 59, 2) := by decide +kernel
theorem dX10_book_95 : decode cX10_book 95 = .ok (.if_icmp .eq 16, 3) := by decide +kernel
theorem dX10_book_98 : decode cX10_book 98 = .ok (.aload_n 0, 1) := by decide +kernel
theorem dX10_book_99 : decode cX10_book 99 = .ok (.aload_n 0, 1) := by decide +kernel
theorem dX10_book_100 : decode cX10_book 100 = .ok (.getfield 177, 3) := by decide +kernel
theorem dX10_book_103 : decode cX10_book 103 = .ok (.invokevirtual 193, 3) := by decide +kernel
theorem dX10_book_106 : decode cX10_book 106 = .ok (.istore 4, 2) := by decide +kernel
theorem dX10_book_108 : decode cX10_book 108 = .ok (.goto (-46), 3) := by decide +kernel
theorem dX10_book_111 : decode cX10_book 111 = .ok (.aload_n 0, 1) := by decide +kernel
theorem dX10_book_112 : decode cX10_book 112 = .ok (.dup, 1) := by decide +kernel
theorem dX10_book_113 : decode cX10_book 113 = .ok (.getfield 177, 3) := by decide +kernel
theorem dX10_book_116 : decode cX10_book 116 = .ok (.iconst 1, 1) := by decide +kernel
theorem dX10_book_117 : decode cX10_book 117 = .ok (.iadd, 1) := by decide +kernel
theorem dX10_book_118 : decode cX10_book 118 = .ok (.putfield 177, 3) := by decide +kernel
theorem dX10_book_121 : decode cX10_book 121 = .ok (.iinc 3 1, 3) := by decide +kernel
theorem dX10_book_124 : decode cX10_book 124 = .ok (.aload_n 0, 1) := by decide +kernel
theorem dX10_book_125 : decode cX10_book 125 = .ok (.invokevirtual 226, 3) := by decide +kernel
theorem dX10_book_128 : decode cX10_book 128 = .ok (.istore 4, 2) := by decide +kernel
theorem dX10_book_130 : decode cX10_book 130 = .ok (.goto (-68), 3) := by decide +kernel
theorem dX10_book_133 : decode cX10_book 133 = .ok (.iload 4, 2) := by decide +kernel
theorem dX10_book_135 : decode cX10_book 135 = .ok (.ifCond .eq 5, 3) := by decide +kernel
theorem dX10_book_138 : decode cX10_book 138 = .ok (.iload_n 3, 1) := by decide +kernel
theorem dX10_book_139 : decode cX10_book 139 = .ok (.ireturn, 1) := by decide +kernel
theorem dX10_book_140 : decode cX10_book 140 = .ok (.aload_n 0, 1) := by decide +kernel
theorem dX10_book_141 : decode cX10_book 141 = .ok (.aload_n 0, 1) := by decide +kernel
theorem dX10_book_142 : decode cX10_book 142 = .ok (.getfield 90, 3) := by decide +kernel
theorem dX10_book_145 : decode cX10_book 145 = .ok (.iconst 1, 1) := by decide +kernel
theorem dX10_book_146 : decode cX10_book 146 = .ok (.invokevirtual 222, 3) := by decide +kernel
theorem dX10_book_149 : decode cX10_book 149 = .ok (.aload_n 0, 1) := by decide +kernel
theorem dX10_book_150 : decode cX10_book 150 = .ok (.aload_n 0, 1) := by decide +kernel
theorem dX10_book_151 : decode cX10_book 151 = .ok (.getfield 174, 3) := by decide +kernel
theorem dX10_book_154 : decode cX10_book 154 = .ok (.putfield 25, 3) := by decide +kernel
theorem dX10_book_157 : decode cX10_book 157 = .ok (.aload_n 0, 1) := by decide +kernel
theorem dX10_book_158 : decode cX10_book 158 = .ok (.bipush (-6), 2) := by decide +kernel
theorem dX10_book_160 : decode cX10_book 160 = .ok (.invokevirtual 121, 3) := by decide +kernel
theorem dX10_book_163 : decode cX10_book 163 = .ok (.ireturn, 1) := by decide +kernel
theorem dX10_fault_0 : decode cX10_fault 0 = .ok (.aload_n 0, 1) := by decide +kernel
theorem dX10_fault_1 : decode cX10_fault 1 = .ok (.getfield 25, 3) := by decide +kernel
theorem dX10_fault_4 : decode cX10_fault 4 = .ok (.ireturn, 1) := by decide +kernel
theorem dX10_humBy_0 : decode cX10_humBy 0 = .ok (.sipush 704, 3) := by decide +kernel
theorem dX10_humBy_3 : decode cX10_humBy 3 = .ok (.iload_n 2, 1) := by decide +kernel
theorem dX10_humBy_4 : decode cX10_humBy 4 = .ok (.imul, 1) := by decide +kernel
theorem dX10_humBy_5 : decode cX10_humBy 5 = .ok (.iload_n 1, 1) := by decide +kernel
theorem dX10_humBy_6 : decode cX10_humBy 6 = .ok (.idiv, 1) := by decide +kernel
theorem dX10_humBy_7 : decode cX10_humBy 7 = .ok (.ireturn, 1) := by decide +kernel
theorem dX10_humOf_0 : decode cX10_humOf 0 = .ok (.aload_n 0, 1) := by decide +kernel
theorem dX10_humOf_1 : decode cX10_humOf 1 = .ok (.getfield 35, 3) := by decide +kernel
theorem dX10_humOf_4 : decode cX10_humOf 4 = .ok (.iload_n 1, 1) := by decide +kernel
theorem dX10_humOf_5 : decode cX10_humOf 5 = .ok (.iaload, 1) := by decide +kernel
theorem dX10_humOf_6 : decode cX10_humOf 6 = .ok (.istore_n 3, 1) := by decide +kernel
theorem dX10_humOf_7 : decode cX10_humOf 7 = .ok (.iload_n 3, 1) := by decide +kernel
theorem dX10_humOf_8 : decode cX10_humOf 8 = .ok (.iconst 3, 1) := by decide +kernel
theorem dX10_humOf_9 : decode cX10_humOf 9 = .ok (.if_icmp .ne 5, 3) := by decide +kernel
theorem dX10_humOf_12 : decode cX10_humOf 12 = .ok (.iconst 0, 1) := by decide +kernel
theorem dX10_humOf_13 : decode cX10_humOf 13 = .ok (.ireturn, 1) := by decide +kernel
theorem dX10_humOf_14 : decode cX10_humOf 14 = .ok (.aload_n 0, 1) := by decide +kernel
theorem dX10_humOf_15 : decode cX10_humOf 15 = .ok (.iload_n 3, 1) := by decide +kernel
theorem dX10_humOf_16 : decode cX10_humOf 16 = .ok (.invokevirtual 152, 3) := by decide +kernel
theorem dX10_humOf_19 : decode cX10_humOf 19 = .ok (.ifCond .ne 15, 3) := by decide +kernel
theorem dX10_humOf_22 : decode cX10_humOf 22 = .ok (.aload_n 0, 1) := by decide +kernel
theorem dX10_humOf_23 : decode cX10_humOf 23 = .ok (.aload_n 0, 1) := by decide +kernel
theorem dX10_humOf_24 : decode cX10_humOf 24 = .ok (.getfield 38, 3) := by decide +kernel
theorem dX10_humOf_27 : decode cX10_humOf 27 = .ok (.iload_n 1, 1) := by decide +kernel
theorem dX10_humOf_28 : decode cX10_humOf 28 = .ok (.iaload, 1) := by decide +kernel
theorem dX10_humOf_29 : decode cX10_humOf 29 = .ok (.iload_n 2, 1) := by decide +kernel
theorem dX10_humOf_30 : decode cX10_humOf 30 = .ok (.invokevirtual 229, 3) := by decide +kernel
theorem dX10_humOf_33 : decode cX10_humOf 33 = .ok (.ireturn, 1) := by decide +kernel
theorem dX10_humOf_34 : decode cX10_humOf 34 = .ok (.iconst 2, 1) := by decide +kernel
theorem dX10_humOf_35 : decode cX10_humOf 35 = .ok (.aload_n 0, 1) := by decide +kernel
theorem dX10_humOf_36 : decode cX10_humOf 36 = .ok (.aload_n 0, 1) := by decide +kernel
theorem dX10_humOf_37 : decode cX10_humOf 37 = .ok (.getfield 38, 3) := by decide +kernel
theorem dX10_humOf_40 : decode cX10_humOf 40 = .ok (.iload_n 1, 1) := by decide +kernel
theorem dX10_humOf_41 : decode cX10_humOf 41 = .ok (.iaload, 1) := by decide +kernel
theorem dX10_humOf_42 : decode cX10_humOf 42 = .ok (.aload_n 0, 1) := by decide +kernel
theorem dX10_humOf_43 : decode cX10_humOf 43 = .ok (.getfield 41, 3) := by decide +kernel
theorem dX10_humOf_46 : decode cX10_humOf 46 = .ok (.iload_n 1, 1) := by decide +kernel
theorem dX10_humOf_47 : decode cX10_humOf 47 = .ok (.iaload, 1) := by decide +kernel
theorem dX10_humOf_48 : decode cX10_humOf 48 = .ok (.iadd, 1) := by decide +kernel
theorem dX10_humOf_49 : decode cX10_humOf 49 = .ok (.iload_n 2, 1) := by decide +kernel
theorem dX10_humOf_50 : decode cX10_humOf 50 = .ok (.invokevirtual 229, 3) := by decide +kernel
theorem dX10_humOf_53 : decode cX10_humOf 53 = .ok (.imul, 1) := by decide +kernel
theorem dX10_humOf_54 : decode cX10_humOf 54 = .ok (.istore 4, 2) := by decide +kernel
theorem dX10_humOf_56 : decode cX10_humOf 56 = .ok (.iload_n 3, 1) := by decide +kernel
theorem dX10_humOf_57 : decode cX10_humOf 57 = .ok (.iconst 5, 1) := by decide +kernel
theorem dX10_humOf_58 : decode cX10_humOf 58 = .ok (.if_icmp .ne 10, 3) := by decide +kernel
theorem dX10_humOf_61 : decode cX10_humOf 61 = .ok (.iload 4, 2) := by decide +kernel
theorem dX10_humOf_63 : decode cX10_humOf 63 = .ok (.iconst 2, 1) := by decide +kernel
theorem dX10_humOf_64 : decode cX10_humOf 64 = .ok (.idiv, 1) := by decide +kernel
theorem dX10_humOf_65 : decode cX10_humOf 65 = .ok (.goto 5, 3) := by decide +kernel
theorem dX10_humOf_68 : decode cX10_humOf 68 = .ok (.iload 4, 2) := by decide +kernel
theorem dX10_humOf_70 : decode cX10_humOf 70 = .ok (.ireturn, 1) := by decide +kernel
theorem dX10_lastsBy_0 : decode cX10_lastsBy 0 = .ok (.iload_n 1, 1) := by decide +kernel
theorem dX10_lastsBy_1 : decode cX10_lastsBy 1 = .ok (.sipush 10000, 3) := by decide +kernel
theorem dX10_lastsBy_4 : decode cX10_lastsBy 4 = .ok (.imul, 1) := by decide +kernel
theorem dX10_lastsBy_5 : decode cX10_lastsBy 5 = .ok (.sipush 704, 3) := by decide +kernel
theorem dX10_lastsBy_8 : decode cX10_lastsBy 8 = .ok (.iload_n 2, 1) := by decide +kernel
theorem dX10_lastsBy_9 : decode cX10_lastsBy 9 = .ok (.imul, 1) := by decide +kernel
theorem dX10_lastsBy_10 : decode cX10_lastsBy 10 = .ok (.idiv, 1) := by decide +kernel
theorem dX10_lastsBy_11 : decode cX10_lastsBy 11 = .ok (.ireturn, 1) := by decide +kernel
theorem dX10_hum_0 : decode cX10_hum 0 = .ok (.aload_n 0, 1) := by decide +kernel
theorem dX10_hum_1 : decode cX10_hum 1 = .ok (.iload_n 1, 1) := by decide +kernel
theorem dX10_hum_2 : decode cX10_hum 2 = .ok (.invokevirtual 125, 3) := by decide +kernel
theorem dX10_hum_5 : decode cX10_hum 5 = .ok (.ifCond .ne 9, 3) := by decide +kernel
theorem dX10_hum_8 : decode cX10_hum 8 = .ok (.aload_n 0, 1) := by decide +kernel
theorem dX10_hum_9 : decode cX10_hum 9 = .ok (.iconst (-1), 1) := by decide +kernel
theorem dX10_hum_10 : decode cX10_hum 10 = .ok (.invokevirtual 121, 3) := by decide +kernel
theorem dX10_hum_13 : decode cX10_hum 13 = .ok (.ireturn, 1) := by decide +kernel
theorem dX10_hum_14 : decode cX10_hum 14 = .ok (.aload_n 0, 1) := by decide +kernel
theorem dX10_hum_15 : decode cX10_hum 15 = .ok (.iload_n 2, 1) := by decide +kernel
theorem dX10_hum_16 : decode cX10_hum 16 = .ok (.invokevirtual 155, 3) := by decide +kernel
theorem dX10_hum_19 : decode cX10_hum 19 = .ok (.ifCond .eq 12, 3) := by decide +kernel
theorem dX10_hum_22 : decode cX10_hum 22 = .ok (.aload_n 0, 1) := by decide +kernel
theorem dX10_hum_23 : decode cX10_hum 23 = .ok (.iload_n 1, 1) := by decide +kernel
theorem dX10_hum_24 : decode cX10_hum 24 = .ok (.iload_n 2, 1) := by decide +kernel
theorem dX10_hum_25 : decode cX10_hum 25 = .ok (.invokevirtual 232, 3) := by decide +kernel
theorem dX10_hum_28 : decode cX10_hum 28 = .ok (.goto 9, 3) := by decide +kernel
theorem dX10_hum_31 : decode cX10_hum 31 = .ok (.aload_n 0, 1) := by decide +kernel
theorem dX10_hum_32 : decode cX10_hum 32 = .ok (.bipush (-6), 2) := by decide +kernel
theorem dX10_hum_34 : decode cX10_hum 34 = .ok (.invokevirtual 121, 3) := by decide +kernel
theorem dX10_hum_37 : decode cX10_hum 37 = .ok (.ireturn, 1) := by decide +kernel
theorem dX10_lasts_0 : decode cX10_lasts 0 = .ok (.aload_n 0, 1) := by decide +kernel
theorem dX10_lasts_1 : decode cX10_lasts 1 = .ok (.iload_n 1, 1) := by decide +kernel
theorem dX10_lasts_2 : decode cX10_lasts 2 = .ok (.invokevirtual 125, 3) := by decide +kernel
theorem dX10_lasts_5 : decode cX10_lasts 5 = .ok (.ifCond .ne 9, 3) := by decide +kernel
theorem dX10_lasts_8 : decode cX10_lasts 8 = .ok (.aload_n 0, 1) := by decide +kernel
theorem dX10_lasts_9 : decode cX10_lasts 9 = .ok (.iconst (-1), 1) := by decide +kernel
theorem dX10_lasts_10 : decode cX10_lasts 10 = .ok (.invokevirtual 121, 3) := by decide +kernel
theorem dX10_lasts_13 : decode cX10_lasts 13 = .ok (.ireturn, 1) := by decide +kernel
theorem dX10_lasts_14 : decode cX10_lasts 14 = .ok (.aload_n 0, 1) := by decide +kernel
theorem dX10_lasts_15 : decode cX10_lasts 15 = .ok (.iload_n 2, 1) := by decide +kernel
theorem dX10_lasts_16 : decode cX10_lasts 16 = .ok (.invokevirtual 155, 3) := by decide +kernel
theorem dX10_lasts_19 : decode cX10_lasts 19 = .ok (.ifCond .eq 16, 3) := by decide +kernel
theorem dX10_lasts_22 : decode cX10_lasts 22 = .ok (.aload_n 0, 1) := by decide +kernel
theorem dX10_lasts_23 : decode cX10_lasts 23 = .ok (.aload_n 0, 1) := by decide +kernel
theorem dX10_lasts_24 : decode cX10_lasts 24 = .ok (.iload_n 1, 1) := by decide +kernel
theorem dX10_lasts_25 : decode cX10_lasts 25 = .ok (.invokevirtual 131, 3) := by decide +kernel
theorem dX10_lasts_28 : decode cX10_lasts 28 = .ok (.iload_n 2, 1) := by decide +kernel
theorem dX10_lasts_29 : decode cX10_lasts 29 = .ok (.invokevirtual 235, 3) := by decide +kernel
theorem dX10_lasts_32 : decode cX10_lasts 32 = .ok (.goto 9, 3) := by decide +kernel
theorem dX10_lasts_35 : decode cX10_lasts 35 = .ok (.aload_n 0, 1) := by decide +kernel
theorem dX10_lasts_36 : decode cX10_lasts 36 = .ok (.bipush (-6), 2) := by decide +kernel
theorem dX10_lasts_38 : decode cX10_lasts 38 = .ok (.invokevirtual 121, 3) := by decide +kernel
theorem dX10_lasts_41 : decode cX10_lasts 41 = .ok (.ireturn, 1) := by decide +kernel
theorem dX10_loudOf_0 : decode cX10_loudOf 0 = .ok (.aload_n 0, 1) := by decide +kernel
theorem dX10_loudOf_1 : decode cX10_loudOf 1 = .ok (.getfield 35, 3) := by decide +kernel
theorem dX10_loudOf_4 : decode cX10_loudOf 4 = .ok (.iload_n 1, 1) := by decide +kernel
theorem dX10_loudOf_5 : decode cX10_loudOf 5 = .ok (.iaload, 1) := by decide +kernel
theorem dX10_loudOf_6 : decode cX10_loudOf 6 = .ok (.iconst 3, 1) := by decide +kernel
theorem dX10_loudOf_7 : decode cX10_loudOf 7 = .ok (.if_icmp .ne 7, 3) := by decide +kernel
theorem dX10_loudOf_10 : decode cX10_loudOf 10 = .ok (.iconst 0, 1) := by decide +kernel
theorem dX10_loudOf_11 : decode cX10_loudOf 11 = .ok (.goto 35, 3) := by decide +kernel
theorem dX10_loudOf_14 : decode cX10_loudOf 14 = .ok (.aload_n 0, 1) := by decide +kernel
theorem dX10_loudOf_15 : decode cX10_loudOf 15 = .ok (.getfield 35, 3) := by decide +kernel
theorem dX10_loudOf_18 : decode cX10_loudOf 18 = .ok (.iload_n 1, 1) := by decide +kernel
theorem dX10_loudOf_19 : decode cX10_loudOf 19 = .ok (.iaload, 1) := by decide +kernel
theorem dX10_loudOf_20 : decode cX10_loudOf 20 = .ok (.iconst 4, 1) := by decide +kernel
theorem dX10_loudOf_21 : decode cX10_loudOf 21 = .ok (.if_icmp .ne 8, 3) := by decide +kernel
theorem dX10_loudOf_24 : decode cX10_loudOf 24 = .ok (.bipush 15, 2) := by decide +kernel
theorem dX10_loudOf_26 : decode cX10_loudOf 26 = .ok (.goto 20, 3) := by decide +kernel
theorem dX10_loudOf_29 : decode cX10_loudOf 29 = .ok (.aload_n 0, 1) := by decide +kernel
theorem dX10_loudOf_30 : decode cX10_loudOf 30 = .ok (.getfield 35, 3) := by decide +kernel
theorem dX10_loudOf_33 : decode cX10_loudOf 33 = .ok (.iload_n 1, 1) := by decide +kernel
theorem dX10_loudOf_34 : decode cX10_loudOf 34 = .ok (.iaload, 1) := by decide +kernel
theorem dX10_loudOf_35 : decode cX10_loudOf 35 = .ok (.iconst 5, 1) := by decide +kernel
theorem dX10_loudOf_36 : decode cX10_loudOf 36 = .ok (.if_icmp .ne 8, 3) := by decide +kernel
theorem dX10_loudOf_39 : decode cX10_loudOf 39 = .ok (.bipush 8, 2) := by decide +kernel
theorem dX10_loudOf_41 : decode cX10_loudOf 41 = .ok (.goto 5, 3) := by decide +kernel
theorem dX10_loudOf_44 : decode cX10_loudOf 44 = .ok (.bipush 10, 2) := by decide +kernel
theorem dX10_loudOf_46 : decode cX10_loudOf 46 = .ok (.istore_n 3, 1) := by decide +kernel
theorem dX10_loudOf_47 : decode cX10_loudOf 47 = .ok (.iload_n 3, 1) := by decide +kernel
theorem dX10_loudOf_48 : decode cX10_loudOf 48 = .ok (.iload_n 2, 1) := by decide +kernel
theorem dX10_loudOf_49 : decode cX10_loudOf 49 = .ok (.iconst 5, 1) := by decide +kernel
theorem dX10_loudOf_50 : decode cX10_loudOf 50 = .ok (.idiv, 1) := by decide +kernel
theorem dX10_loudOf_51 : decode cX10_loudOf 51 = .ok (.isub, 1) := by decide +kernel
theorem dX10_loudOf_52 : decode cX10_loudOf 52 = .ok (.istore_n 3, 1) := by decide +kernel
theorem dX10_loudOf_53 : decode cX10_loudOf 53 = .ok (.iload_n 3, 1) := by decide +kernel
theorem dX10_loudOf_54 : decode cX10_loudOf 54 = .ok (.ifCond .ge 7, 3) := by decide +kernel
theorem dX10_loudOf_57 : decode cX10_loudOf 57 = .ok (.iconst 0, 1) := by decide +kernel
theorem dX10_loudOf_58 : decode cX10_loudOf 58 = .ok (.goto 4, 3) := by decide +kernel
theorem dX10_loudOf_61 : decode cX10_loudOf 61 = .ok (.iload_n 3, 1) := by decide +kernel
theorem dX10_loudOf_62 : decode cX10_loudOf 62 = .ok (.ireturn, 1) := by decide +kernel
theorem dX10_loud_0 : decode cX10_loud 0 = .ok (.aload_n 0, 1) := by decide +kernel
theorem dX10_loud_1 : decode cX10_loud 1 = .ok (.iload_n 1, 1) := by decide +kernel
theorem dX10_loud_2 : decode cX10_loud 2 = .ok (.invokevirtual 125, 3) := by decide +kernel
theorem dX10_loud_5 : decode cX10_loud 5 = .ok (.ifCond .ne 9, 3) := by decide +kernel
theorem dX10_loud_8 : decode cX10_loud 8 = .ok (.aload_n 0, 1) := by decide +kernel
theorem dX10_loud_9 : decode cX10_loud 9 = .ok (.iconst (-1), 1) := by decide +kernel
theorem dX10_loud_10 : decode cX10_loud 10 = .ok (.invokevirtual 121, 3) := by decide +kernel
theorem dX10_loud_13 : decode cX10_loud 13 = .ok (.ireturn, 1) := by decide +kernel
theorem dX10_loud_14 : decode cX10_loud 14 = .ok (.iload_n 2, 1) := by decide +kernel
theorem dX10_loud_15 : decode cX10_loud 15 = .ok (.ifCond .lt 18, 3) := by decide +kernel
theorem dX10_loud_18 : decode cX10_loud 18 = .ok (.iload_n 2, 1) := by decide +kernel
theorem dX10_loud_19 : decode cX10_loud 19 = .ok (.bipush 50, 2) := by decide +kernel
theorem dX10_loud_21 : decode cX10_loud 21 = .ok (.if_icmp .gt 12, 3) := by decide +kernel
theorem dX10_loud_24 : decode cX10_loud 24 = .ok (.aload_n 0, 1) := by decide +kernel
theorem dX10_loud_25 : decode cX10_loud 25 = .ok (.iload_n 1, 1) := by decide +kernel
theorem dX10_loud_26 : decode cX10_loud 26 = .ok (.iload_n 2, 1) := by decide +kernel
theorem dX10_loud_27 : decode cX10_loud 27 = .ok (.invokevirtual 238, 3) := by decide +kernel
theorem dX10_loud_30 : decode cX10_loud 30 = .ok (.goto 9, 3) := by decide +kernel
theorem dX10_loud_33 : decode cX10_loud 33 = .ok (.aload_n 0, 1) := by decide +kernel
theorem dX10_loud_34 : decode cX10_loud 34 = .ok (.bipush (-6), 2) := by decide +kernel
theorem dX10_loud_36 : decode cX10_loud 36 = .ok (.invokevirtual 121, 3) := by decide +kernel
theorem dX10_loud_39 : decode cX10_loud 39 = .ok (.ireturn, 1) := by decide +kernel
theorem dX10_offOf_0 : decode cX10_offOf 0 = .ok (.iload_n 2, 1) := by decide +kernel
theorem dX10_offOf_1 : decode cX10_offOf 1 = .ok (.ifCond .ne 15, 3) := by decide +kernel
theorem dX10_offOf_4 : decode cX10_offOf 4 = .ok (.iload_n 1, 1) := by decide +kernel
theorem dX10_offOf_5 : decode cX10_offOf 5 = .ok (.ifCond .ne 7, 3) := by decide +kernel
theorem dX10_offOf_8 : decode cX10_offOf 8 = .ok (.iconst 0, 1) := by decide +kernel
theorem dX10_offOf_9 : decode cX10_offOf 9 = .ok (.goto 6, 3) := by decide +kernel
theorem dX10_offOf_12 : decode cX10_offOf 12 = .ok (.sipush 999, 3) := by decide +kernel
theorem dX10_offOf_15 : decode cX10_offOf 15 = .ok (.ireturn, 1) := by decide +kernel
theorem dX10_offOf_16 : decode cX10_offOf 16 = .ok (.iload_n 1, 1) := by decide +kernel
theorem dX10_offOf_17 : decode cX10_offOf 17 = .ok (.iload_n 2, 1) := by decide +kernel
theorem dX10_offOf_18 : decode cX10_offOf 18 = .ok (.if_icmp .le 9, 3) := by decide +kernel
theorem dX10_offOf_21 : decode cX10_offOf 21 = .ok (.iload_n 1, 1) := by decide +kernel
theorem dX10_offOf_22 : decode cX10_offOf 22 = .ok (.iload_n 2, 1) := by decide +kernel
theorem dX10_offOf_23 : decode cX10_offOf 23 = .ok (.isub, 1) := by decide +kernel
theorem dX10_offOf_24 : decode cX10_offOf 24 = .ok (.goto 6, 3) := by decide +kernel
theorem dX10_offOf_27 : decode cX10_offOf 27 = .ok (.iload_n 2, 1) := by decide +kernel
theorem dX10_offOf_28 : decode cX10_offOf 28 = .ok (.iload_n 1, 1) := by decide +kernel
theorem dX10_offOf_29 : decode cX10_offOf 29 = .ok (.isub, 1) := by decide +kernel
theorem dX10_offOf_30 : decode cX10_offOf 30 = .ok (.sipush 1000, 3) := by decide +kernel
theorem dX10_offOf_33 : decode cX10_offOf 33 = .ok (.imul, 1) := by decide +kernel
theorem dX10_offOf_34 : decode cX10_offOf 34 = .ok (.iload_n 2, 1) := by decide +kernel
theorem dX10_offOf_35 : decode cX10_offOf 35 = .ok (.idiv, 1) := by decide +kernel
theorem dX10_offOf_36 : decode cX10_offOf 36 = .ok (.istore_n 3, 1) := by decide +kernel
theorem dX10_offOf_37 : decode cX10_offOf 37 = .ok (.iload_n 3, 1) := by decide +kernel
theorem dX10_offOf_38 : decode cX10_offOf 38 = .ok (.sipush 999, 3) := by decide +kernel
theorem dX10_offOf_41 : decode cX10_offOf 41 = .ok (.if_icmp .le 9, 3) := by decide +kernel
theorem dX10_offOf_44 : decode cX10_offOf 44 = .ok (.sipush 999, 3) := by decide +kernel
theorem dX10_offOf_47 : decode cX10_offOf 47 = .ok (.goto 4, 3) := by decide +kernel
theorem dX10_offOf_50 : decode cX10_offOf 50 = .ok (.iload_n 3, 1) := by decide +kernel
theorem dX10_offOf_51 : decode cX10_offOf 51 = .ok (.ireturn, 1) := by decide +kernel
theorem dX10_off_0 : decode cX10_off 0 = .ok (.iload_n 1, 1) := by decide +kernel
theorem dX10_off_1 : decode cX10_off 1 = .ok (.ifCond .lt 28, 3) := by decide +kernel
theorem dX10_off_4 : decode cX10_off 4 = .ok (.iload_n 1, 1) := by decide +kernel
theorem dX10_off_5 : decode cX10_off 5 = .ok (.ldc 241, 2) := by decide +kernel
theorem dX10_off_7 : decode cX10_off 7 = .ok (.if_icmp .gt 22, 3) := by decide +kernel
theorem dX10_off_10 : decode cX10_off 10 = .ok (.iload_n 2, 1) := by decide +kernel
theorem dX10_off_11 : decode cX10_off 11 = .ok (.ifCond .lt 18, 3) := by decide +kernel
theorem dX10_off_14 : decode cX10_off 14 = .ok (.iload_n 2, 1) := by decide +kernel
theorem dX10_off_15 : decode cX10_off 15 = .ok (.ldc 241, 2) := by decide +kernel
theorem dX10_off_17 : decode cX10_off 17 = .ok (.if_icmp .gt 12, 3) := by decide +kernel
theorem dX10_off_20 : decode cX10_off 20 = .ok (.aload_n 0, 1) := by decide +kernel
theorem dX10_off_21 : decode cX10_off 21 = .ok (.iload_n 1, 1) := by decide +kernel
theorem dX10_off_22 : decode cX10_off 22 = .ok (.iload_n 2, 1) := by decide +kernel
theorem dX10_off_23 : decode cX10_off 23 = .ok (.invokevirtual 242, 3) := by decide +kernel
theorem dX10_off_26 : decode cX10_off 26 = .ok (.goto 9, 3) := by decide +kernel
theorem dX10_off_29 : decode cX10_off 29 = .ok (.aload_n 0, 1) := by decide +kernel
theorem dX10_off_30 : decode cX10_off 30 = .ok (.bipush (-6), 2) := by decide +kernel
theorem dX10_off_32 : decode cX10_off 32 = .ok (.invokevirtual 121, 3) := by decide +kernel
theorem dX10_off_35 : decode cX10_off 35 = .ok (.ireturn, 1) := by decide +kernel
theorem dX10_noteBy_0 : decode cX10_noteBy 0 = .ok (.iload_n 3, 1) := by decide +kernel
theorem dX10_noteBy_1 : decode cX10_noteBy 1 = .ok (.aload_n 0, 1) := by decide +kernel
theorem dX10_noteBy_2 : decode cX10_noteBy 2 = .ok (.getfield 108, 3) := by decide +kernel
theorem dX10_noteBy_5 : decode cX10_noteBy 5 = .ok (.if_icmp .ge 32, 3) := by decide +kernel
theorem dX10_noteBy_8 : decode cX10_noteBy 8 = .ok (.aload_n 0, 1) := by decide +kernel
theorem dX10_noteBy_9 : decode cX10_noteBy 9 = .ok (.aload_n 0, 1) := by decide +kernel
theorem dX10_noteBy_10 : decode cX10_noteBy 10 = .ok (.iload_n 3, 1) := by decide +kernel
theorem dX10_noteBy_11 : decode cX10_noteBy 11 = .ok (.aload_n 0, 1) := by decide +kernel
theorem dX10_noteBy_12 : decode cX10_noteBy 12 = .ok (.getfield 47, 3) := by decide +kernel
theorem dX10_noteBy_15 : decode cX10_noteBy 15 = .ok (.iload_n 1, 1) := by decide +kernel
theorem dX10_noteBy_16 : decode cX10_noteBy 16 = .ok (.iaload, 1) := by decide +kernel
theorem dX10_noteBy_17 : decode cX10_noteBy 17 = .ok (.invokevirtual 232, 3) := by decide +kernel
theorem dX10_noteBy_20 : decode cX10_noteBy 20 = .ok (.aload_n 0, 1) := by decide +kernel
theorem dX10_noteBy_21 : decode cX10_noteBy 21 = .ok (.getfield 59, 3) := by decide +kernel
theorem dX10_noteBy_24 : decode cX10_noteBy 24 = .ok (.bipush 12, 2) := by decide +kernel
theorem dX10_noteBy_26 : decode cX10_noteBy 26 = .ok (.iload_n 2, 1) := by decide +kernel
theorem dX10_noteBy_27 : decode cX10_noteBy 27 = .ok (.imul, 1) := by decide +kernel
theorem dX10_noteBy_28 : decode cX10_noteBy 28 = .ok (.iload_n 3, 1) := by decide +kernel
theorem dX10_noteBy_29 : decode cX10_noteBy 29 = .ok (.iadd, 1) := by decide +kernel
theorem dX10_noteBy_30 : decode cX10_noteBy 30 = .ok (.iaload, 1) := by decide +kernel
theorem dX10_noteBy_31 : decode cX10_noteBy 31 = .ok (.invokevirtual 242, 3) := by decide +kernel
theorem dX10_noteBy_34 : decode cX10_noteBy 34 = .ok (.goto 6, 3) := by decide +kernel
theorem dX10_noteBy_37 : decode cX10_noteBy 37 = .ok (.sipush 999, 3) := by decide +kernel
theorem dX10_noteBy_40 : decode cX10_noteBy 40 = .ok (.ireturn, 1) := by decide +kernel
theorem dX10_note_0 : decode cX10_note 0 = .ok (.aload_n 0, 1) := by decide +kernel
theorem dX10_note_1 : decode cX10_note 1 = .ok (.iload_n 1, 1) := by decide +kernel
theorem dX10_note_2 : decode cX10_note 2 = .ok (.invokevirtual 165, 3) := by decide +kernel
theorem dX10_note_5 : decode cX10_note 5 = .ok (.ifCond .eq 25, 3) := by decide +kernel
theorem dX10_note_8 : decode cX10_note 8 = .ok (.aload_n 0, 1) := by decide +kernel
theorem dX10_note_9 : decode cX10_note 9 = .ok (.iload_n 2, 1) := by decide +kernel
theorem dX10_note_10 : decode cX10_note 10 = .ok (.invokevirtual 168, 3) := by decide +kernel
theorem dX10_note_13 : decode cX10_note 13 = .ok (.ifCond .eq 17, 3) := by decide +kernel
theorem dX10_note_16 : decode cX10_note 16 = .ok (.iload_n 3, 1) := by decide +kernel
theorem dX10_note_17 : decode cX10_note 17 = .ok (.ifCond .lt 13, 3) := by decide +kernel
theorem dX10_note_20 : decode cX10_note 20 = .ok (.iload_n 3, 1) := by decide +kernel
theorem dX10_note_21 : decode cX10_note 21 = .ok (.aload_n 0, 1) := by decide +kernel
theorem dX10_note_22 : decode cX10_note 22 = .ok (.getfield 56, 3) := by decide +kernel
theorem dX10_note_25 : decode cX10_note 25 = .ok (.iload_n 2, 1) := by decide +kernel
theorem dX10_note_26 : decode cX10_note 26 = .ok (.iaload, 1) := by decide +kernel
theorem dX10_note_27 : decode cX10_note 27 = .ok (.if_icmp .lt 9, 3) := by decide +kernel
theorem dX10_note_30 : decode cX10_note 30 = .ok (.aload_n 0, 1) := by decide +kernel
theorem dX10_note_31 : decode cX10_note 31 = .ok (.iconst (-1), 1) := by decide +kernel
theorem dX10_note_32 : decode cX10_note 32 = .ok (.invokevirtual 121, 3) := by decide +kernel
theorem dX10_note_35 : decode cX10_note 35 = .ok (.ireturn, 1) := by decide +kernel
theorem dX10_note_36 : decode cX10_note 36 = .ok (.aload_n 0, 1) := by decide +kernel
theorem dX10_note_37 : decode cX10_note 37 = .ok (.iload_n 1, 1) := by decide +kernel
theorem dX10_note_38 : decode cX10_note 38 = .ok (.iload_n 2, 1) := by decide +kernel
theorem dX10_note_39 : decode cX10_note 39 = .ok (.iload_n 3, 1) := by decide +kernel
theorem dX10_note_40 : decode cX10_note 40 = .ok (.invokevirtual 245, 3) := by decide +kernel
theorem dX10_note_43 : decode cX10_note 43 = .ok (.ireturn, 1) := by decide +kernel
theorem dX10_worstOf_0 : decode cX10_worstOf 0 = .ok (.iconst 0, 1) := by decide +kernel
theorem dX10_worstOf_1 : decode cX10_worstOf 1 = .ok (.istore_n 3, 1) := by decide +kernel
theorem dX10_worstOf_2 : decode cX10_worstOf 2 = .ok (.iconst 0, 1) := by decide +kernel
theorem dX10_worstOf_3 : decode cX10_worstOf 3 = .ok (.istore 4, 2) := by decide +kernel
theorem dX10_worstOf_5 : decode cX10_worstOf 5 = .ok (.iload 4, 2) := by decide +kernel
theorem dX10_worstOf_7 : decode cX10_worstOf 7 = .ok (.aload_n 0, 1) := by decide +kernel
theorem dX10_worstOf_8 : decode cX10_worstOf 8 = .ok (.getfield 56, 3) := by decide +kernel
theorem dX10_worstOf_11 : decode cX10_worstOf 11 = .ok (.iload_n 2, 1) := by decide +kernel
theorem dX10_worstOf_12 : decode cX10_worstOf 12 = .ok (.iaload, 1) := by decide +kernel
theorem dX10_worstOf_13 : decode cX10_worstOf 13 = .ok (.if_icmp .ge 32, 3) := by decide +kernel
theorem dX10_worstOf_16 : decode cX10_worstOf 16 = .ok (.aload_n 0, 1) := by decide +kernel
theorem dX10_worstOf_17 : decode cX10_worstOf 17 = .ok (.iload_n 1, 1) := by decide +kernel
theorem dX10_worstOf_18 : decode cX10_worstOf 18 = .ok (.iload_n 2, 1) := by decide +kernel
theorem dX10_worstOf_19 : decode cX10_worstOf 19 = .ok (.iload 4, 2) := by decide +kernel
theorem dX10_worstOf_21 : decode cX10_worstOf 21 = .ok (.invokevirtual 245, 3) := by decide +kernel
theorem dX10_worstOf_24 : decode cX10_worstOf 24 = .ok (.istore 5, 2) := by decide +kernel
theorem dX10_worstOf_26 : decode cX10_worstOf 26 = .ok (.iload 5, 2) := by decide +kernel
theorem dX10_worstOf_28 : decode cX10_worstOf 28 = .ok (.iload_n 3, 1) := by decide +kernel
theorem dX10_worstOf_29 : decode cX10_worstOf 29 = .ok (.if_icmp .le 8, 3) := by decide +kernel
theorem dX10_worstOf_32 : decode cX10_worstOf 32 = .ok (.iload 5, 2) := by decide +kernel
theorem dX10_worstOf_34 : decode cX10_worstOf 34 = .ok (.goto 4, 3) := by decide +kernel
theorem dX10_worstOf_37 : decode cX10_worstOf 37 = .ok (.iload_n 3, 1) := by decide +kernel
theorem dX10_worstOf_38 : decode cX10_worstOf 38 = .ok (.istore_n 3, 1) := by decide +kernel
theorem dX10_worstOf_39 : decode cX10_worstOf 39 = .ok (.iinc 4 1, 3) := by decide +kernel
theorem dX10_worstOf_42 : decode cX10_worstOf 42 = .ok (.goto (-37), 3) := by decide +kernel
theorem dX10_worstOf_45 : decode cX10_worstOf 45 = .ok (.iload_n 3, 1) := by decide +kernel
theorem dX10_worstOf_46 : decode cX10_worstOf 46 = .ok (.ireturn, 1) := by decide +kernel
theorem dX10_lateOf_0 : decode cX10_lateOf 0 = .ok (.iconst 0, 1) := by decide +kernel
theorem dX10_lateOf_1 : decode cX10_lateOf 1 = .ok (.istore_n 3, 1) := by decide +kernel
theorem dX10_lateOf_2 : decode cX10_lateOf 2 = .ok (.iconst 0, 1) := by decide +kernel
theorem dX10_lateOf_3 : decode cX10_lateOf 3 = .ok (.istore 4, 2) := by decide +kernel
theorem dX10_lateOf_5 : decode cX10_lateOf 5 = .ok (.iconst 0, 1) := by decide +kernel
theorem dX10_lateOf_6 : decode cX10_lateOf 6 = .ok (.istore 5, 2) := by decide +kernel
theorem dX10_lateOf_8 : decode cX10_lateOf 8 = .ok (.iload 5, 2) := by decide +kernel
theorem dX10_lateOf_10 : decode cX10_lateOf 10 = .ok (.aload_n 0, 1) := by decide +kernel
theorem dX10_lateOf_11 : decode cX10_lateOf 11 = .ok (.getfield 56, 3) := by decide +kernel
theorem dX10_lateOf_14 : decode cX10_lateOf 14 = .ok (.iload_n 2, 1) := by decide +kernel
theorem dX10_lateOf_15 : decode cX10_lateOf 15 = .ok (.iaload, 1) := by decide +kernel
theorem dX10_lateOf_16 : decode cX10_lateOf 16 = .ok (.if_icmp .ge 84, 3) := by decide +kernel
theorem dX10_lateOf_19 : decode cX10_lateOf 19 = .ok (.iload 4, 2) := by decide +kernel
theorem dX10_lateOf_21 : decode cX10_lateOf 21 = .ok (.aload_n 0, 1) := by decide +kernel
theorem dX10_lateOf_22 : decode cX10_lateOf 22 = .ok (.iload_n 2, 1) := by decide +kernel
theorem dX10_lateOf_23 : decode cX10_lateOf 23 = .ok (.iload 5, 2) := by decide +kernel
theorem dX10_lateOf_25 : decode cX10_lateOf 25 = .ok (.invokevirtual 171, 3) := by decide +kernel
theorem dX10_lateOf_28 : decode cX10_lateOf 28 = .ok (.aload_n 0, 1) := by decide +kernel
theorem dX10_lateOf_29 : decode cX10_lateOf 29 = .ok (.getfield 19, 3) := by decide +kernel
theorem dX10_lateOf_32 : decode cX10_lateOf 32 = .ok (.imul, 1) := by decide +kernel
theorem dX10_lateOf_33 : decode cX10_lateOf 33 = .ok (.isub, 1) := by decide +kernel
theorem dX10_lateOf_34 : decode cX10_lateOf 34 = .ok (.istore 6, 2) := by decide +kernel
theorem dX10_lateOf_36 : decode cX10_lateOf 36 = .ok (.iload 6, 2) := by decide +kernel
theorem dX10_lateOf_38 : decode cX10_lateOf 38 = .ok (.ifCond .ge 9, 3) := by decide +kernel
theorem dX10_lateOf_41 : decode cX10_lateOf 41 = .ok (.iload 6, 2) := by decide +kernel
theorem dX10_lateOf_43 : decode cX10_lateOf 43 = .ok (.ineg, 1) := by decide +kernel
theorem dX10_lateOf_44 : decode cX10_lateOf 44 = .ok (.goto 5, 3) := by decide +kernel
theorem dX10_lateOf_47 : decode cX10_lateOf 47 = .ok (.iload 6, 2) := by decide +kernel
theorem dX10_lateOf_49 : decode cX10_lateOf 49 = .ok (.istore 6, 2) := by decide +kernel
theorem dX10_lateOf_51 : decode cX10_lateOf 51 = .ok (.iload 6, 2) := by decide +kernel
theorem dX10_lateOf_53 : decode cX10_lateOf 53 = .ok (.iload_n 3, 1) := by decide +kernel
theorem dX10_lateOf_54 : decode cX10_lateOf 54 = .ok (.if_icmp .le 8, 3) := by decide +kernel
theorem dX10_lateOf_57 : decode cX10_lateOf 57 = .ok (.iload 6, 2) := by decide +kernel
theorem dX10_lateOf_59 : decode cX10_lateOf 59 = .ok (.goto 4, 3) := by decide +kernel
theorem dX10_lateOf_62 : decode cX10_lateOf 62 = .ok (.iload_n 3, 1) := by decide +kernel
theorem dX10_lateOf_63 : decode cX10_lateOf 63 = .ok (.istore_n 3, 1) := by decide +kernel
theorem dX10_lateOf_64 : decode cX10_lateOf 64 = .ok (.iload 5, 2) := by decide +kernel
theorem dX10_lateOf_66 : decode cX10_lateOf 66 = .ok (.aload_n 0, 1) := by decide +kernel
theorem dX10_lateOf_67 : decode cX10_lateOf 67 = .ok (.getfield 108, 3) := by decide +kernel
theorem dX10_lateOf_70 : decode cX10_lateOf 70 = .ok (.if_icmp .ge 24, 3) := by decide +kernel
theorem dX10_lateOf_73 : decode cX10_lateOf 73 = .ok (.iload 4, 2) := by decide +kernel
theorem dX10_lateOf_75 : decode cX10_lateOf 75 = .ok (.aload_n 0, 1) := by decide +kernel
theorem dX10_lateOf_76 : decode cX10_lateOf 76 = .ok (.aload_n 0, 1) := by decide +kernel
theorem dX10_lateOf_77 : decode cX10_lateOf 77 = .ok (.iload 5, 2) := by decide +kernel
theorem dX10_lateOf_79 : decode cX10_lateOf 79 = .ok (.invokevirtual 131, 3) := by decide +kernel
theorem dX10_lateOf_82 : decode cX10_lateOf 82 = .ok (.aload_n 0, 1) := by decide +kernel
theorem dX10_lateOf_83 : decode cX10_lateOf 83 = .ok (.getfield 47, 3) := by decide +kernel
theorem dX10_lateOf_86 : decode cX10_lateOf 86 = .ok (.iload_n 1, 1) := by decide +kernel
theorem dX10_lateOf_87 : decode cX10_lateOf 87 = .ok (.iaload, 1) := by decide +kernel
theorem dX10_lateOf_88 : decode cX10_lateOf 88 = .ok (.invokevirtual 235, 3) := by decide +kernel
theorem dX10_lateOf_91 : decode cX10_lateOf 91 = .ok (.iadd, 1) := by decide +kernel
theorem dX10_lateOf_92 : decode cX10_lateOf 92 = .ok (.istore 4, 2) := by decide +kernel
theorem dX10_lateOf_94 : decode cX10_lateOf 94 = .ok (.iinc 5 1, 3) := by decide +kernel
theorem dX10_lateOf_97 : decode cX10_lateOf 97 = .ok (.goto (-89), 3) := by decide +kernel
theorem dX10_lateOf_100 : decode cX10_lateOf 100 = .ok (.iload_n 3, 1) := by decide +kernel
theorem dX10_lateOf_101 : decode cX10_lateOf 101 = .ok (.ireturn, 1) := by decide +kernel
theorem dX10_hears_0 : decode cX10_hears 0 = .ok (.aload_n 0, 1) := by decide +kernel
theorem dX10_hears_1 : decode cX10_hears 1 = .ok (.iload_n 1, 1) := by decide +kernel
theorem dX10_hears_2 : decode cX10_hears 2 = .ok (.invokevirtual 165, 3) := by decide +kernel
theorem dX10_hears_5 : decode cX10_hears 5 = .ok (.ifCond .eq 11, 3) := by decide +kernel
theorem dX10_hears_8 : decode cX10_hears 8 = .ok (.aload_n 0, 1) := by decide +kernel
theorem dX10_hears_9 : decode cX10_hears 9 = .ok (.iload_n 2, 1) := by decide +kernel
theorem dX10_hears_10 : decode cX10_hears 10 = .ok (.invokevirtual 168, 3) := by decide +kernel
theorem dX10_hears_13 : decode cX10_hears 13 = .ok (.ifCond .ne 9, 3) := by decide +kernel
theorem dX10_hears_16 : decode cX10_hears 16 = .ok (.aload_n 0, 1) := by decide +kernel
theorem dX10_hears_17 : decode cX10_hears 17 = .ok (.iconst (-1), 1) := by decide +kernel
theorem dX10_hears_18 : decode cX10_hears 18 = .ok (.invokevirtual 121, 3) := by decide +kernel
theorem dX10_hears_21 : decode cX10_hears 21 = .ok (.ireturn, 1) := by decide +kernel
theorem dX10_hears_22 : decode cX10_hears 22 = .ok (.iload_n 3, 1) := by decide +kernel
theorem dX10_hears_23 : decode cX10_hears 23 = .ok (.ifCond .lt 8, 3) := by decide +kernel
theorem dX10_hears_26 : decode cX10_hears 26 = .ok (.iload_n 3, 1) := by decide +kernel
theorem dX10_hears_27 : decode cX10_hears 27 = .ok (.iconst 2, 1) := by decide +kernel
theorem dX10_hears_28 : decode cX10_hears 28 = .ok (.if_icmp .le 10, 3) := by decide +kernel
theorem dX10_hears_31 : decode cX10_hears 31 = .ok (.aload_n 0, 1) := by decide +kernel
theorem dX10_hears_32 : decode cX10_hears 32 = .ok (.bipush (-5), 2) := by decide +kernel
theorem dX10_hears_34 : decode cX10_hears 34 = .ok (.invokevirtual 121, 3) := by decide +kernel
theorem dX10_hears_37 : decode cX10_hears 37 = .ok (.ireturn, 1) := by decide +kernel
theorem dX10_hears_38 : decode cX10_hears 38 = .ok (.iload_n 3, 1) := by decide +kernel
theorem dX10_hears_39 : decode cX10_hears 39 = .ok (.ifCond .ne 12, 3) := by decide +kernel
theorem dX10_hears_42 : decode cX10_hears 42 = .ok (.aload_n 0, 1) := by decide +kernel
theorem dX10_hears_43 : decode cX10_hears 43 = .ok (.iload_n 1, 1) := by decide +kernel
theorem dX10_hears_44 : decode cX10_hears 44 = .ok (.iload_n 2, 1) := by decide +kernel
theorem dX10_hears_45 : decode cX10_hears 45 = .ok (.invokevirtual 248, 3) := by decide +kernel
theorem dX10_hears_48 : decode cX10_hears 48 = .ok (.goto 35, 3) := by decide +kernel
theorem dX10_hears_51 : decode cX10_hears 51 = .ok (.iload_n 3, 1) := by decide +kernel
theorem dX10_hears_52 : decode cX10_hears 52 = .ok (.iconst 1, 1) := by decide +kernel
theorem dX10_hears_53 : decode cX10_hears 53 = .ok (.if_icmp .ne 12, 3) := by decide +kernel
theorem dX10_hears_56 : decode cX10_hears 56 = .ok (.aload_n 0, 1) := by decide +kernel
theorem dX10_hears_57 : decode cX10_hears 57 = .ok (.iload_n 1, 1) := by decide +kernel
theorem dX10_hears_58 : decode cX10_hears 58 = .ok (.iload_n 2, 1) := by decide +kernel
theorem dX10_hears_59 : decode cX10_hears 59 = .ok (.invokevirtual 251, 3) := by decide +kernel
theorem dX10_hears_62 : decode cX10_hears 62 = .ok (.goto 21, 3) := by decide +kernel
theorem dX10_hears_65 : decode cX10_hears 65 = .ok (.aload_n 0, 1) := by decide +kernel
theorem dX10_hears_66 : decode cX10_hears 66 = .ok (.iload_n 1, 1) := by decide +kernel
theorem dX10_hears_67 : decode cX10_hears 67 = .ok (.iload_n 2, 1) := by decide +kernel
theorem dX10_hears_68 : decode cX10_hears 68 = .ok (.invokevirtual 248, 3) := by decide +kernel
theorem dX10_hears_71 : decode cX10_hears 71 = .ok (.aload_n 0, 1) := by decide +kernel
theorem dX10_hears_72 : decode cX10_hears 72 = .ok (.getfield 16, 3) := by decide +kernel
theorem dX10_hears_75 : decode cX10_hears 75 = .ok (.if_icmp .gt 7, 3) := by decide +kernel
theorem dX10_hears_78 : decode cX10_hears 78 = .ok (.iconst 1, 1) := by decide +kernel
theorem dX10_hears_79 : decode cX10_hears 79 = .ok (.goto 4, 3) := by decide +kernel
theorem dX10_hears_82 : decode cX10_hears 82 = .ok (.iconst 0, 1) := by decide +kernel
theorem dX10_hears_83 : decode cX10_hears 83 = .ok (.ireturn, 1) := by decide +kernel
theorem dX10_wrongOf_0 : decode cX10_wrongOf 0 = .ok (.aload_n 0, 1) := by decide +kernel
theorem dX10_wrongOf_1 : decode cX10_wrongOf 1 = .ok (.iconst 0, 1) := by decide +kernel
theorem dX10_wrongOf_2 : decode cX10_wrongOf 2 = .ok (.putfield 254, 3) := by decide +kernel
theorem dX10_wrongOf_5 : decode cX10_wrongOf 5 = .ok (.aload_n 0, 1) := by decide +kernel
theorem dX10_wrongOf_6 : decode cX10_wrongOf 6 = .ok (.getfield 254, 3) := by decide +kernel
theorem dX10_wrongOf_9 : decode cX10_wrongOf 9 = .ok (.aload_n 0, 1) := by decide +kernel
theorem dX10_wrongOf_10 : decode cX10_wrongOf 10 = .ok (.getfield 108, 3) := by decide +kernel
theorem dX10_wrongOf_13 : decode cX10_wrongOf 13 = .ok (.if_icmp .ge 94, 3) := by decide +kernel
theorem dX10_wrongOf_16 : decode cX10_wrongOf 16 = .ok (.aload_n 0, 1) := by decide +kernel
theorem dX10_wrongOf_17 : decode cX10_wrongOf 17 = .ok (.getfield 35, 3) := by decide +kernel
theorem dX10_wrongOf_20 : decode cX10_wrongOf 20 = .ok (.aload_n 0, 1) := by decide +kernel
theorem dX10_wrongOf_21 : decode cX10_wrongOf 21 = .ok (.getfield 254, 3) := by decide +kernel
theorem dX10_wrongOf_24 : decode cX10_wrongOf 24 = .ok (.iaload, 1) := by decide +kernel
theorem dX10_wrongOf_25 : decode cX10_wrongOf 25 = .ok (.istore_n 1, 1) := by decide +kernel
theorem dX10_wrongOf_26 : decode cX10_wrongOf 26 = .ok (.iload_n 1, 1) := by decide +kernel
theorem dX10_wrongOf_27 : decode cX10_wrongOf 27 = .ok (.iconst 3, 1) := by decide +kernel
theorem dX10_wrongOf_28 : decode cX10_wrongOf 28 = .ok (.if_icmp .eq 66, 3) := by decide +kernel
theorem dX10_wrongOf_31 : decode cX10_wrongOf 31 = .ok (.iload_n 1, 1) := by decide +kernel
theorem dX10_wrongOf_32 : decode cX10_wrongOf 32 = .ok (.bipush 6, 2) := by decide +kernel
theorem dX10_wrongOf_34 : decode cX10_wrongOf 34 = .ok (.if_icmp .ne 6, 3) := by decide +kernel
theorem dX10_wrongOf_37 : decode cX10_wrongOf 37 = .ok (.goto 57, 3) := by decide +kernel
theorem dX10_wrongOf_40 : decode cX10_wrongOf 40 = .ok (.aload_n 0, 1) := by decide +kernel
theorem dX10_wrongOf_41 : decode cX10_wrongOf 41 = .ok (.getfield 38, 3) := by decide +kernel
theorem dX10_wrongOf_44 : decode cX10_wrongOf 44 = .ok (.aload_n 0, 1) := by decide +kernel
theorem dX10_wrongOf_45 : decode cX10_wrongOf 45 = .ok (.getfield 254, 3) := by decide +kernel
theorem dX10_wrongOf_48 : decode cX10_wrongOf 48 = .ok (.iaload, 1) := by decide +kernel
theorem dX10_wrongOf_49 : decode cX10_wrongOf 49 = .ok (.aload_n 0, 1) := by decide +kernel
theorem dX10_wrongOf_50 : decode cX10_wrongOf 50 = .ok (.getfield 13, 3) := by decide +kernel
theorem dX10_wrongOf_53 : decode cX10_wrongOf 53 = .ok (.if_icmp .lt 39, 3) := by decide +kernel
theorem dX10_wrongOf_56 : decode cX10_wrongOf 56 = .ok (.aload_n 0, 1) := by decide +kernel
theorem dX10_wrongOf_57 : decode cX10_wrongOf 57 = .ok (.iload_n 1, 1) := by decide +kernel
theorem dX10_wrongOf_58 : decode cX10_wrongOf 58 = .ok (.invokevirtual 152, 3) := by decide +kernel
theorem dX10_wrongOf_61 : decode cX10_wrongOf 61 = .ok (.ifCond .eq 33, 3) := by decide +kernel
theorem dX10_wrongOf_64 : decode cX10_wrongOf 64 = .ok (.aload_n 0, 1) := by decide +kernel
theorem dX10_wrongOf_65 : decode cX10_wrongOf 65 = .ok (.getfield 41, 3) := by decide +kernel
theorem dX10_wrongOf_68 : decode cX10_wrongOf 68 = .ok (.aload_n 0, 1) := by decide +kernel
theorem dX10_wrongOf_69 : decode cX10_wrongOf 69 = .ok (.getfield 254, 3) := by decide +kernel
theorem dX10_wrongOf_72 : decode cX10_wrongOf 72 = .ok (.iaload, 1) := by decide +kernel
theorem dX10_wrongOf_73 : decode cX10_wrongOf 73 = .ok (.ifCond .le 21, 3) := by decide +kernel
theorem dX10_wrongOf_76 : decode cX10_wrongOf 76 = .ok (.aload_n 0, 1) := by decide +kernel
theorem dX10_wrongOf_77 : decode cX10_wrongOf 77 = .ok (.getfield 41, 3) := by decide +kernel
theorem dX10_wrongOf_80 : decode cX10_wrongOf 80 = .ok (.aload_n 0, 1) := by decide +kernel
theorem dX10_wrongOf_81 : decode cX10_wrongOf 81 = .ok (.getfield 254, 3) := by decide +kernel
theorem dX10_wrongOf_84 : decode cX10_wrongOf 84 = .ok (.iaload, 1) := by decide +kernel
theorem dX10_wrongOf_85 : decode cX10_wrongOf 85 = .ok (.aload_n 0, 1) := by decide +kernel
theorem dX10_wrongOf_86 : decode cX10_wrongOf 86 = .ok (.getfield 13, 3) := by decide +kernel
theorem dX10_wrongOf_89 : decode cX10_wrongOf 89 = .ok (.if_icmp .ge 5, 3) := by decide +kernel
theorem dX10_wrongOf_92 : decode cX10_wrongOf 92 = .ok (.iconst 1, 1) := by decide +kernel
theorem dX10_wrongOf_93 : decode cX10_wrongOf 93 = .ok (.ireturn, 1) := by decide +kernel
theorem dX10_wrongOf_94 : decode cX10_wrongOf 94 = .ok (.aload_n 0, 1) := by decide +kernel
theorem dX10_wrongOf_95 : decode cX10_wrongOf 95 = .ok (.dup, 1) := by decide +kernel
theorem dX10_wrongOf_96 : decode cX10_wrongOf 96 = .ok (.getfield 254, 3) := by decide +kernel
theorem dX10_wrongOf_99 : decode cX10_wrongOf 99 = .ok (.iconst 1, 1) := by decide +kernel
theorem dX10_wrongOf_100 : decode cX10_wrongOf 100 = .ok (.iadd, 1) := by decide +kernel
theorem dX10_wrongOf_101 : decode cX10_wrongOf 101 = .ok (.putfield 254, 3) := by decide +kernel
theorem dX10_wrongOf_104 : decode cX10_wrongOf 104 = .ok (.goto (-99), 3) := by decide +kernel
theorem dX10_wrongOf_107 : decode cX10_wrongOf 107 = .ok (.iconst 0, 1) := by decide +kernel
theorem dX10_wrongOf_108 : decode cX10_wrongOf 108 = .ok (.istore_n 1, 1) := by decide +kernel
theorem dX10_wrongOf_109 : decode cX10_wrongOf 109 = .ok (.aload_n 0, 1) := by decide +kernel
theorem dX10_wrongOf_110 : decode cX10_wrongOf 110 = .ok (.iconst 0, 1) := by decide +kernel
theorem dX10_wrongOf_111 : decode cX10_wrongOf 111 = .ok (.putfield 254, 3) := by decide +kernel
theorem dX10_wrongOf_114 : decode cX10_wrongOf 114 = .ok (.aload_n 0, 1) := by decide +kernel
theorem dX10_wrongOf_115 : decode cX10_wrongOf 115 = .ok (.getfield 254, 3) := by decide +kernel
theorem dX10_wrongOf_118 : decode cX10_wrongOf 118 = .ok (.aload_n 0, 1) := by decide +kernel
theorem dX10_wrongOf_119 : decode cX10_wrongOf 119 = .ok (.getfield 108, 3) := by decide +kernel
theorem dX10_wrongOf_122 : decode cX10_wrongOf 122 = .ok (.if_icmp .ge 37, 3) := by decide +kernel
theorem dX10_wrongOf_125 : decode cX10_wrongOf 125 = .ok (.iload_n 1, 1) := by decide +kernel
theorem dX10_wrongOf_126 : decode cX10_wrongOf 126 = .ok (.aload_n 0, 1) := by decide +kernel
theorem dX10_wrongOf_127 : decode cX10_wrongOf 127 = .ok (.aload_n 0, 1) := by decide +kernel
theorem dX10_wrongOf_128 : decode cX10_wrongOf 128 = .ok (.getfield 254, 3) := by decide +kernel
theorem dX10_wrongOf_131 : decode cX10_wrongOf 131 = .ok (.invokevirtual 131, 3) := by decide +kernel
theorem dX10_wrongOf_134 : decode cX10_wrongOf 134 = .ok (.iadd, 1) := by decide +kernel
theorem dX10_wrongOf_135 : decode cX10_wrongOf 135 = .ok (.istore_n 1, 1) := by decide +kernel
theorem dX10_wrongOf_136 : decode cX10_wrongOf 136 = .ok (.iload_n 1, 1) := by decide +kernel
theorem dX10_wrongOf_137 : decode cX10_wrongOf 137 = .ok (.aload_n 0, 1) := by decide +kernel
theorem dX10_wrongOf_138 : decode cX10_wrongOf 138 = .ok (.getfield 7, 3) := by decide +kernel
theorem dX10_wrongOf_141 : decode cX10_wrongOf 141 = .ok (.if_icmp .le 5, 3) := by decide +kernel
theorem dX10_wrongOf_144 : decode cX10_wrongOf 144 = .ok (.iconst 2, 1) := by decide +kernel
theorem dX10_wrongOf_145 : decode cX10_wrongOf 145 = .ok (.ireturn, 1) := by decide +kernel
theorem dX10_wrongOf_146 : decode cX10_wrongOf 146 = .ok (.aload_n 0, 1) := by decide +kernel
theorem dX10_wrongOf_147 : decode cX10_wrongOf 147 = .ok (.dup, 1) := by decide +kernel
theorem dX10_wrongOf_148 : decode cX10_wrongOf 148 = .ok (.getfield 254, 3) := by decide +kernel
theorem dX10_wrongOf_151 : decode cX10_wrongOf 151 = .ok (.iconst 1, 1) := by decide +kernel
theorem dX10_wrongOf_152 : decode cX10_wrongOf 152 = .ok (.iadd, 1) := by decide +kernel
theorem dX10_wrongOf_153 : decode cX10_wrongOf 153 = .ok (.putfield 254, 3) := by decide +kernel
theorem dX10_wrongOf_156 : decode cX10_wrongOf 156 = .ok (.goto (-42), 3) := by decide +kernel
theorem dX10_wrongOf_159 : decode cX10_wrongOf 159 = .ok (.aload_n 0, 1) := by decide +kernel
theorem dX10_wrongOf_160 : decode cX10_wrongOf 160 = .ok (.iconst (-1), 1) := by decide +kernel
theorem dX10_wrongOf_161 : decode cX10_wrongOf 161 = .ok (.putfield 254, 3) := by decide +kernel
theorem dX10_wrongOf_164 : decode cX10_wrongOf 164 = .ok (.iconst 0, 1) := by decide +kernel
theorem dX10_wrongOf_165 : decode cX10_wrongOf 165 = .ok (.ireturn, 1) := by decide +kernel
theorem dX10_wrong__0 : decode cX10_wrong_ 0 = .ok (.aload_n 0, 1) := by decide +kernel
theorem dX10_wrong__1 : decode cX10_wrong_ 1 = .ok (.invokevirtual 257, 3) := by decide +kernel
theorem dX10_wrong__4 : decode cX10_wrong_ 4 = .ok (.ireturn, 1) := by decide +kernel
theorem dX10_judge_0 : decode cX10_judge 0 = .ok (.aload_n 0, 1) := by decide +kernel
theorem dX10_judge_1 : decode cX10_judge 1 = .ok (.invokevirtual 257, 3) := by decide +kernel
theorem dX10_judge_4 : decode cX10_judge 4 = .ok (.pop, 1) := by decide +kernel
theorem dX10_judge_5 : decode cX10_judge 5 = .ok (.aload_n 0, 1) := by decide +kernel
theorem dX10_judge_6 : decode cX10_judge 6 = .ok (.getfield 254, 3) := by decide +kernel
theorem dX10_judge_9 : decode cX10_judge 9 = .ok (.ireturn, 1) := by decide +kernel
theorem dX10_meet_0 : decode cX10_meet 0 = .ok (.iload_n 1, 1) := by decide +kernel
theorem dX10_meet_1 : decode cX10_meet 1 = .ok (.ifCond .lt 10, 3) := by decide +kernel
theorem dX10_meet_4 : decode cX10_meet 4 = .ok (.iload_n 1, 1) := by decide +kernel
theorem dX10_meet_5 : decode cX10_meet 5 = .ok (.sipush 999, 3) := by decide +kernel
theorem dX10_meet_8 : decode cX10_meet 8 = .ok (.if_icmp .le 10, 3) := by decide +kernel
theorem dX10_meet_11 : decode cX10_meet 11 = .ok (.aload_n 0, 1) := by decide +kernel
theorem dX10_meet_12 : decode cX10_meet 12 = .ok (.bipush (-6), 2) := by decide +kernel
theorem dX10_meet_14 : decode cX10_meet 14 = .ok (.invokevirtual 121, 3) := by decide +kernel
theorem dX10_meet_17 : decode cX10_meet 17 = .ok (.ireturn, 1) := by decide +kernel
theorem dX10_meet_18 : decode cX10_meet 18 = .ok (.iconst 0, 1) := by decide +kernel
theorem dX10_meet_19 : decode cX10_meet 19 = .ok (.istore_n 2, 1) := by decide +kernel
theorem dX10_meet_20 : decode cX10_meet 20 = .ok (.iconst 0, 1) := by decide +kernel
theorem dX10_meet_21 : decode cX10_meet 21 = .ok (.istore_n 3, 1) := by decide +kernel
theorem dX10_meet_22 : decode cX10_meet 22 = .ok (.iload_n 3, 1) := by decide +kernel
theorem dX10_meet_23 : decode cX10_meet 23 = .ok (.aload_n 0, 1) := by decide +kernel
theorem dX10_meet_24 : decode cX10_meet 24 = .ok (.getfield 108, 3) := by decide +kernel
theorem dX10_meet_27 : decode cX10_meet 27 = .ok (.if_icmp .ge 69, 3) := by decide +kernel
theorem dX10_meet_30 : decode cX10_meet 30 = .ok (.aload_n 0, 1) := by decide +kernel
theorem dX10_meet_31 : decode cX10_meet 31 = .ok (.aload_n 0, 1) := by decide +kernel
theorem dX10_meet_32 : decode cX10_meet 32 = .ok (.getfield 35, 3) := by decide +kernel
theorem dX10_meet_35 : decode cX10_meet 35 = .ok (.iload_n 3, 1) := by decide +kernel
theorem dX10_meet_36 : decode cX10_meet 36 = .ok (.iaload, 1) := by decide +kernel
theorem dX10_meet_37 : decode cX10_meet 37 = .ok (.invokevirtual 152, 3) := by decide +kernel
theorem dX10_meet_40 : decode cX10_meet 40 = .ok (.ifCond .eq 19, 3) := by decide +kernel
theorem dX10_meet_43 : decode cX10_meet 43 = .ok (.aload_n 0, 1) := by decide +kernel
theorem dX10_meet_44 : decode cX10_meet 44 = .ok (.getfield 38, 3) := by decide +kernel
theorem dX10_meet_47 : decode cX10_meet 47 = .ok (.iload_n 3, 1) := by decide +kernel
theorem dX10_meet_48 : decode cX10_meet 48 = .ok (.iaload, 1) := by decide +kernel
theorem dX10_meet_49 : decode cX10_meet 49 = .ok (.aload_n 0, 1) := by decide +kernel
theorem dX10_meet_50 : decode cX10_meet 50 = .ok (.getfield 41, 3) := by decide +kernel
theorem dX10_meet_53 : decode cX10_meet 53 = .ok (.iload_n 3, 1) := by decide +kernel
theorem dX10_meet_54 : decode cX10_meet 54 = .ok (.iaload, 1) := by decide +kernel
theorem dX10_meet_55 : decode cX10_meet 55 = .ok (.iadd, 1) := by decide +kernel
theorem dX10_meet_56 : decode cX10_meet 56 = .ok (.goto 9, 3) := by decide +kernel
theorem dX10_meet_59 : decode cX10_meet 59 = .ok (.aload_n 0, 1) := by decide +kernel
theorem dX10_meet_60 : decode cX10_meet 60 = .ok (.getfield 38, 3) := by decide +kernel
theorem dX10_meet_63 : decode cX10_meet 63 = .ok (.iload_n 3, 1) := by decide +kernel
theorem dX10_meet_64 : decode cX10_meet 64 = .ok (.iaload, 1) := by decide +kernel
theorem dX10_meet_65 : decode cX10_meet 65 = .ok (.istore 4, 2) := by decide +kernel
theorem dX10_meet_67 : decode cX10_meet 67 = .ok (.aload_n 0, 1) := by decide +kernel
theorem dX10_meet_68 : decode cX10_meet 68 = .ok (.getfield 35, 3) := by decide +kernel
theorem dX10_meet_71 : decode cX10_meet 71 = .ok (.iload_n 3, 1) := by decide +kernel
theorem dX10_meet_72 : decode cX10_meet 72 = .ok (.iaload, 1) := by decide +kernel
theorem dX10_meet_73 : decode cX10_meet 73 = .ok (.iconst 3, 1) := by decide +kernel
theorem dX10_meet_74 : decode cX10_meet 74 = .ok (.if_icmp .eq 16, 3) := by decide +kernel
theorem dX10_meet_77 : decode cX10_meet 77 = .ok (.iload_n 1, 1) := by decide +kernel
theorem dX10_meet_78 : decode cX10_meet 78 = .ok (.iload 4, 2) := by decide +kernel
theorem dX10_meet_80 : decode cX10_meet 80 = .ok (.irem, 1) := by decide +kernel
theorem dX10_meet_81 : decode cX10_meet 81 = .ok (.ifCond .ne 9, 3) := by decide +kernel
theorem dX10_meet_84 : decode cX10_meet 84 = .ok (.iload_n 2, 1) := by decide +kernel
theorem dX10_meet_85 : decode cX10_meet 85 = .ok (.iconst 1, 1) := by decide +kernel
theorem dX10_meet_86 : decode cX10_meet 86 = .ok (.iload_n 3, 1) := by decide +kernel
theorem dX10_meet_87 : decode cX10_meet 87 = .ok (.ishl, 1) := by decide +kernel
theorem dX10_meet_88 : decode cX10_meet 88 = .ok (.ior, 1) := by decide +kernel
theorem dX10_meet_89 : decode cX10_meet 89 = .ok (.istore_n 2, 1) := by decide +kernel
theorem dX10_meet_90 : decode cX10_meet 90 = .ok (.iinc 3 1, 3) := by decide +kernel
theorem dX10_meet_93 : decode cX10_meet 93 = .ok (.goto (-71), 3) := by decide +kernel
theorem dX10_meet_96 : decode cX10_meet 96 = .ok (.iload_n 2, 1) := by decide +kernel
theorem dX10_meet_97 : decode cX10_meet 97 = .ok (.ireturn, 1) := by decide +kernel
theorem dX10_cuts_0 : decode cX10_cuts 0 = .ok (.lconst 0, 1) := by decide +kernel
theorem dX10_cuts_1 : decode cX10_cuts 1 = .ok (.lstore_n 3, 1) := by decide +kernel
theorem dX10_cuts_2 : decode cX10_cuts 2 = .ok (.iconst 0, 1) := by decide +kernel
theorem dX10_cuts_3 : decode cX10_cuts 3 = .ok (.istore 5, 2) := by decide +kernel
theorem dX10_cuts_5 : decode cX10_cuts 5 = .ok (.iload 5, 2) := by decide +kernel
theorem dX10_cuts_7 : decode cX10_cuts 7 = .ok (.aload_n 0, 1) := by decide +kernel
theorem dX10_cuts_8 : decode cX10_cuts 8 = .ok (.getfield 56, 3) := by decide +kernel
theorem dX10_cuts_11 : decode cX10_cuts 11 = .ok (.iload_n 1, 1) := by decide +kernel
theorem dX10_cuts_12 : decode cX10_cuts 12 = .ok (.iaload, 1) := by decide +kernel
theorem dX10_cuts_13 : decode cX10_cuts 13 = .ok (.if_icmp .ge 237, 3) := by decide +kernel
theorem dX10_cuts_16 : decode cX10_cuts 16 = .ok (.aload_n 0, 1) := by decide +kernel
theorem dX10_cuts_17 : decode cX10_cuts 17 = .ok (.getfield 59, 3) := by decide +kernel
theorem dX10_cuts_20 : decode cX10_cuts 20 = .ok (.bipush 12, 2) := by decide +kernel
theorem dX10_cuts_22 : decode cX10_cuts 22 = .ok (.iload_n 1, 1) := by decide +kernel
theorem dX10_cuts_23 : decode cX10_cuts 23 = .ok (.imul, 1) := by decide +kernel
theorem dX10_cuts_24 : decode cX10_cuts 24 = .ok (.iload 5, 2) := by decide +kernel
theorem dX10_cuts_26 : decode cX10_cuts 26 = .ok (.iadd, 1) := by decide +kernel
theorem dX10_cuts_27 : decode cX10_cuts 27 = .ok (.iaload, 1) := by decide +kernel
theorem dX10_cuts_28 : decode cX10_cuts 28 = .ok (.istore 6, 2) := by decide +kernel
theorem dX10_cuts_30 : decode cX10_cuts 30 = .ok (.bipush 10, 2) := by decide +kernel
theorem dX10_cuts_32 : decode cX10_cuts 32 = .ok (.istore 7, 2) := by decide +kernel
theorem dX10_cuts_34 : decode cX10_cuts 34 = .ok (.iconst 0, 1) := by decide +kernel
theorem dX10_cuts_35 : decode cX10_cuts 35 = .ok (.istore 8, 2) := by decide +kernel
theorem dX10_cuts_37 : decode cX10_cuts 37 = .ok (.iload 6, 2) := by decide +kernel
theorem dX10_cuts_39 : decode cX10_cuts 39 = .ok (.ifCond .le 64, 3) := by decide +kernel
theorem dX10_cuts_42 : decode cX10_cuts 42 = .ok (.iconst (-1), 1) := by decide +kernel
theorem dX10_cuts_43 : decode cX10_cuts 43 = .ok (.istore 7, 2) := by decide +kernel
theorem dX10_cuts_45 : decode cX10_cuts 45 = .ok (.aload_n 0, 1) := by decide +kernel
theorem dX10_cuts_46 : decode cX10_cuts 46 = .ok (.getfield 13, 3) := by decide +kernel
theorem dX10_cuts_49 : decode cX10_cuts 49 = .ok (.istore 9, 2) := by decide +kernel
theorem dX10_cuts_51 : decode cX10_cuts 51 = .ok (.iload 9, 2) := by decide +kernel
theorem dX10_cuts_53 : decode cX10_cuts 53 = .ok (.bipush 60, 2) := by decide +kernel
theorem dX10_cuts_55 : decode cX10_cuts 55 = .ok (.if_icmp .gt 48, 3) := by decide +kernel
theorem dX10_cuts_58 : decode cX10_cuts 58 = .ok (.aload_n 0, 1) := by decide +kernel
theorem dX10_cuts_59 : decode cX10_cuts 59 = .ok (.aload_n 0, 1) := by decide +kernel
theorem dX10_cuts_60 : decode cX10_cuts 60 = .ok (.iload 9, 2) := by decide +kernel
theorem dX10_cuts_62 : decode cX10_cuts 62 = .ok (.iload_n 2, 1) := by decide +kernel
theorem dX10_cuts_63 : decode cX10_cuts 63 = .ok (.invokevirtual 229, 3) := by decide +kernel
theorem dX10_cuts_66 : decode cX10_cuts 66 = .ok (.iload 6, 2) := by decide +kernel
theorem dX10_cuts_68 : decode cX10_cuts 68 = .ok (.invokevirtual 242, 3) := by decide +kernel
theorem dX10_cuts_71 : decode cX10_cuts 71 = .ok (.istore 10, 2) := by decide +kernel
theorem dX10_cuts_73 : decode cX10_cuts 73 = .ok (.iload 7, 2) := by decide +kernel
theorem dX10_cuts_75 : decode cX10_cuts 75 = .ok (.iconst (-1), 1) := by decide +kernel
theorem dX10_cuts_76 : decode cX10_cuts 76 = .ok (.if_icmp .eq 13, 3) := by decide +kernel
theorem dX10_cuts_79 : decode cX10_cuts 79 = .ok (.iload 10, 2) := by decide +kernel
theorem dX10_cuts_81 : decode cX10_cuts 81 = .ok (.iload 8, 2) := by decide +kernel
theorem dX10_cuts_83 : decode cX10_cuts 83 = .ok (.if_icmp .lt 6, 3) := by decide +kernel
theorem dX10_cuts_86 : decode cX10_cuts 86 = .ok (.goto 11, 3) := by decide +kernel
theorem dX10_cuts_89 : decode cX10_cuts 89 = .ok (.iload 9, 2) := by decide +kernel
theorem dX10_cuts_91 : decode cX10_cuts 91 = .ok (.istore 7, 2) := by decide +kernel
theorem dX10_cuts_93 : decode cX10_cuts 93 = .ok (.iload 10, 2) := by decide +kernel
theorem dX10_cuts_95 : decode cX10_cuts 95 = .ok (.istore 8, 2) := by decide +kernel
theorem dX10_cuts_97 : decode cX10_cuts 97 = .ok (.iinc 9 1, 3) := by decide +kernel
theorem dX10_cuts_100 : decode cX10_cuts 100 = .ok (.goto (-49), 3) := by decide +kernel
theorem dX10_cuts_103 : decode cX10_cuts 103 = .ok (.aload_n 0, 1) := by decide +kernel
theorem dX10_cuts_104 : decode cX10_cuts 104 = .ok (.iload_n 1, 1) := by decide +kernel
theorem dX10_cuts_105 : decode cX10_cuts 105 = .ok (.iload 5, 2) := by decide +kernel
theorem dX10_cuts_107 : decode cX10_cuts 107 = .ok (.iconst 1, 1) := by decide +kernel
theorem dX10_cuts_108 : decode cX10_cuts 108 = .ok (.iadd, 1) := by decide +kernel
theorem dX10_cuts_109 : decode cX10_cuts 109 = .ok (.invokevirtual 171, 3) := by decide +kernel
theorem dX10_cuts_112 : decode cX10_cuts 112 = .ok (.i2l, 1) := by decide +kernel
theorem dX10_cuts_113 : decode cX10_cuts 113 = .ok (.aload_n 0, 1) := by decide +kernel
theorem dX10_cuts_114 : decode cX10_cuts 114 = .ok (.getfield 19, 3) := by decide +kernel
theorem dX10_cuts_117 : decode cX10_cuts 117 = .ok (.i2l, 1) := by decide +kernel
theorem dX10_cuts_118 : decode cX10_cuts 118 = .ok (.lmul, 1) := by decide +kernel
theorem dX10_cuts_119 : decode cX10_cuts 119 = .ok (.ldc2_w 260, 3) := by decide +kernel
theorem dX10_cuts_122 : decode cX10_cuts 122 = .ok (.lmul, 1) := by decide +kernel
theorem dX10_cuts_123 : decode cX10_cuts 123 = .ok (.iload_n 2, 1) := by decide +kernel
theorem dX10_cuts_124 : decode cX10_cuts 124 = .ok (.i2l, 1) := by decide +kernel
theorem dX10_cuts_125 : decode cX10_cuts 125 = .ok (.lmul, 1) := by decide +kernel
theorem dX10_cuts_126 : decode cX10_cuts 126 = .ok (.ldc2_w 262, 3) := by decide +kernel
theorem dX10_cuts_129 : decode cX10_cuts 129 = .ok (.ldiv, 1) := by decide +kernel
theorem dX10_cuts_130 : decode cX10_cuts 130 = .ok (.lstore 9, 2) := by decide +kernel
theorem dX10_cuts_132 : decode cX10_cuts 132 = .ok (.lconst 0, 1) := by decide +kernel
theorem dX10_cuts_133 : decode cX10_cuts 133 = .ok (.lstore 11, 2) := by decide +kernel
theorem dX10_cuts_135 : decode cX10_cuts 135 = .ok (.iconst 0, 1) := by decide +kernel
theorem dX10_cuts_136 : decode cX10_cuts 136 = .ok (.istore 13, 2) := by decide +kernel
theorem dX10_cuts_138 : decode cX10_cuts 138 = .ok (.iconst 1, 1) := by decide +kernel
theorem dX10_cuts_139 : decode cX10_cuts 139 = .ok (.istore 14, 2) := by decide +kernel
theorem dX10_cuts_141 : decode cX10_cuts 141 = .ok (.iload 14, 2) := by decide +kernel
theorem dX10_cuts_143 : decode cX10_cuts 143 = .ok (.bipush 60, 2) := by decide +kernel
theorem dX10_cuts_145 : decode cX10_cuts 145 = .ok (.if_icmp .gt 63, 3) := by decide +kernel
theorem dX10_cuts_148 : decode cX10_cuts 148 = .ok (.lload_n 3, 1) := by decide +kernel
theorem dX10_cuts_149 : decode cX10_cuts 149 = .ok (.iload 14, 2) := by decide +kernel
theorem dX10_cuts_151 : decode cX10_cuts 151 = .ok (.iload 7, 2) := by decide +kernel
theorem dX10_cuts_153 : decode cX10_cuts 153 = .ok (.imul, 1) := by decide +kernel
theorem dX10_cuts_154 : decode cX10_cuts 154 = .ok (.i2l, 1) := by decide +kernel
theorem dX10_cuts_155 : decode cX10_cuts 155 = .ok (.ladd, 1) := by decide +kernel
theorem dX10_cuts_156 : decode cX10_cuts 156 = .ok (.lload 9, 2) := by decide +kernel
theorem dX10_cuts_158 : decode cX10_cuts 158 = .ok (.lsub, 1) := by decide +kernel
theorem dX10_cuts_159 : decode cX10_cuts 159 = .ok (.lstore 15, 2) := by decide +kernel
theorem dX10_cuts_161 : decode cX10_cuts 161 = .ok (.lload 15, 2) := by decide +kernel
theorem dX10_cuts_163 : decode cX10_cuts 163 = .ok (.lconst 0, 1) := by decide +kernel
theorem dX10_cuts_164 : decode cX10_cuts 164 = .ok (.lcmp, 1) := by decide +kernel
theorem dX10_cuts_165 : decode cX10_cuts 165 = .ok (.ifCond .ge 9, 3) := by decide +kernel
theorem dX10_cuts_168 : decode cX10_cuts 168 = .ok (.lload 15, 2) := by decide +kernel
theorem dX10_cuts_170 : decode cX10_cuts 170 = .ok (.lneg, 1) := by decide +kernel
theorem dX10_cuts_171 : decode cX10_cuts 171 = .ok (.goto 5, 3) := by decide +kernel
theorem dX10_cuts_174 : decode cX10_cuts 174 = .ok (.lload 15, 2) := by decide +kernel
theorem dX10_cuts_176 : decode cX10_cuts 176 = .ok (.lstore 15, 2) := by decide +kernel
theorem dX10_cuts_178 : decode cX10_cuts 178 = .ok (.iload 13, 2) := by decide +kernel
theorem dX10_cuts_180 : decode cX10_cuts 180 = .ok (.ifCond .le 14, 3) := by decide +kernel
theorem dX10_cuts_183 : decode cX10_cuts 183 = .ok (.lload 15, 2) := by decide +kernel
theorem dX10_cuts_185 : decode cX10_cuts 185 = .ok (.lload 11, 2) := by decide +kernel
theorem dX10_cuts_187 : decode cX10_cuts 187 = .ok (.lcmp, 1) := by decide +kernel
theorem dX10_cuts_188 : decode cX10_cuts 188 = .ok (.ifCond .lt 6, 3) := by decide +kernel
theorem dX10_cuts_191 : decode cX10_cuts 191 = .ok (.goto 11, 3) := by decide +kernel
theorem dX10_cuts_194 : decode cX10_cuts 194 = .ok (.iload 14, 2) := by decide +kernel
theorem dX10_cuts_196 : decode cX10_cuts 196 = .ok (.istore 13, 2) := by decide +kernel
theorem dX10_cuts_198 : decode cX10_cuts 198 = .ok (.lload 15, 2) := by decide +kernel
theorem dX10_cuts_200 : decode cX10_cuts 200 = .ok (.lstore 11, 2) := by decide +kernel
theorem dX10_cuts_202 : decode cX10_cuts 202 = .ok (.iinc 14 1, 3) := by decide +kernel
theorem dX10_cuts_205 : decode cX10_cuts 205 = .ok (.goto (-64), 3) := by decide +kernel
theorem dX10_cuts_208 : decode cX10_cuts 208 = .ok (.aload_n 0, 1) := by decide +kernel
theorem dX10_cuts_209 : decode cX10_cuts 209 = .ok (.getfield 96, 3) := by decide +kernel
theorem dX10_cuts_212 : decode cX10_cuts 212 = .ok (.iload 5, 2) := by decide +kernel
theorem dX10_cuts_214 : decode cX10_cuts 214 = .ok (.iload 7, 2) := by decide +kernel
theorem dX10_cuts_216 : decode cX10_cuts 216 = .ok (.iastore, 1) := by decide +kernel
theorem dX10_cuts_217 : decode cX10_cuts 217 = .ok (.aload_n 0, 1) := by decide +kernel
theorem dX10_cuts_218 : decode cX10_cuts 218 = .ok (.getfield 99, 3) := by decide +kernel
theorem dX10_cuts_221 : decode cX10_cuts 221 = .ok (.iload 5, 2) := by decide +kernel
theorem dX10_cuts_223 : decode cX10_cuts 223 = .ok (.iload 13, 2) := by decide +kernel
theorem dX10_cuts_225 : decode cX10_cuts 225 = .ok (.iastore, 1) := by decide +kernel
theorem dX10_cuts_226 : decode cX10_cuts 226 = .ok (.aload_n 0, 1) := by decide +kernel
theorem dX10_cuts_227 : decode cX10_cuts 227 = .ok (.getfield 102, 3) := by decide +kernel
theorem dX10_cuts_230 : decode cX10_cuts 230 = .ok (.iload 5, 2) := by decide +kernel
theorem dX10_cuts_232 : decode cX10_cuts 232 = .ok (.iload 8, 2) := by decide +kernel
theorem dX10_cuts_234 : decode cX10_cuts 234 = .ok (.iastore, 1) := by decide +kernel
theorem dX10_cuts_235 : decode cX10_cuts 235 = .ok (.lload_n 3, 1) := by decide +kernel
theorem dX10_cuts_236 : decode cX10_cuts 236 = .ok (.iload 13, 2) := by decide +kernel
theorem dX10_cuts_238 : decode cX10_cuts 238 = .ok (.iload 7, 2) := by decide +kernel
theorem dX10_cuts_240 : decode cX10_cuts 240 = .ok (.imul, 1) := by decide +kernel
theorem dX10_cuts_241 : decode cX10_cuts 241 = .ok (.i2l, 1) := by decide +kernel
theorem dX10_cuts_242 : decode cX10_cuts 242 = .ok (.ladd, 1) := by decide +kernel
theorem dX10_cuts_243 : decode cX10_cuts 243 = .ok (.lstore_n 3, 1) := by decide +kernel
theorem dX10_cuts_244 : decode cX10_cuts 244 = .ok (.iinc 5 1, 3) := by decide +kernel
theorem dX10_cuts_247 : decode cX10_cuts 247 = .ok (.goto (-242), 3) := by decide +kernel
theorem dX10_cuts_250 : decode cX10_cuts 250 = .ok (.return_, 1) := by decide +kernel
theorem dX10_cut_0 : decode cX10_cut 0 = .ok (.aload_n 0, 1) := by decide +kernel
theorem dX10_cut_1 : decode cX10_cut 1 = .ok (.iload_n 1, 1) := by decide +kernel
theorem dX10_cut_2 : decode cX10_cut 2 = .ok (.invokevirtual 168, 3) := by decide +kernel
theorem dX10_cut_5 : decode cX10_cut 5 = .ok (.ifCond .eq 17, 3) := by decide +kernel
theorem dX10_cut_8 : decode cX10_cut 8 = .ok (.iload_n 2, 1) := by decide +kernel
theorem dX10_cut_9 : decode cX10_cut 9 = .ok (.ifCond .lt 13, 3) := by decide +kernel
theorem dX10_cut_12 : decode cX10_cut 12 = .ok (.iload_n 2, 1) := by decide +kernel
theorem dX10_cut_13 : decode cX10_cut 13 = .ok (.aload_n 0, 1) := by decide +kernel
theorem dX10_cut_14 : decode cX10_cut 14 = .ok (.getfield 56, 3) := by decide +kernel
theorem dX10_cut_17 : decode cX10_cut 17 = .ok (.iload_n 1, 1) := by decide +kernel
theorem dX10_cut_18 : decode cX10_cut 18 = .ok (.iaload, 1) := by decide +kernel
theorem dX10_cut_19 : decode cX10_cut 19 = .ok (.if_icmp .lt 9, 3) := by decide +kernel
theorem dX10_cut_22 : decode cX10_cut 22 = .ok (.aload_n 0, 1) := by decide +kernel
theorem dX10_cut_23 : decode cX10_cut 23 = .ok (.iconst (-1), 1) := by decide +kernel
theorem dX10_cut_24 : decode cX10_cut 24 = .ok (.invokevirtual 121, 3) := by decide +kernel
theorem dX10_cut_27 : decode cX10_cut 27 = .ok (.ireturn, 1) := by decide +kernel
theorem dX10_cut_28 : decode cX10_cut 28 = .ok (.iload 4, 2) := by decide +kernel
theorem dX10_cut_30 : decode cX10_cut 30 = .ok (.ifCond .lt 9, 3) := by decide +kernel
theorem dX10_cut_33 : decode cX10_cut 33 = .ok (.iload 4, 2) := by decide +kernel
theorem dX10_cut_35 : decode cX10_cut 35 = .ok (.iconst 2, 1) := by decide +kernel
theorem dX10_cut_36 : decode cX10_cut 36 = .ok (.if_icmp .le 10, 3) := by decide +kernel
theorem dX10_cut_39 : decode cX10_cut 39 = .ok (.aload_n 0, 1) := by decide +kernel
theorem dX10_cut_40 : decode cX10_cut 40 = .ok (.bipush (-5), 2) := by decide +kernel
theorem dX10_cut_42 : decode cX10_cut 42 = .ok (.invokevirtual 121, 3) := by decide +kernel
theorem dX10_cut_45 : decode cX10_cut 45 = .ok (.ireturn, 1) := by decide +kernel
theorem dX10_cut_46 : decode cX10_cut 46 = .ok (.aload_n 0, 1) := by decide +kernel
theorem dX10_cut_47 : decode cX10_cut 47 = .ok (.iload_n 3, 1) := by decide +kernel
theorem dX10_cut_48 : decode cX10_cut 48 = .ok (.invokevirtual 155, 3) := by decide +kernel
theorem dX10_cut_51 : decode cX10_cut 51 = .ok (.ifCond .ne 10, 3) := by decide +kernel
theorem dX10_cut_54 : decode cX10_cut 54 = .ok (.aload_n 0, 1) := by decide +kernel
theorem dX10_cut_55 : decode cX10_cut 55 = .ok (.bipush (-6), 2) := by decide +kernel
theorem dX10_cut_57 : decode cX10_cut 57 = .ok (.invokevirtual 121, 3) := by decide +kernel
theorem dX10_cut_60 : decode cX10_cut 60 = .ok (.ireturn, 1) := by decide +kernel
theorem dX10_cut_61 : decode cX10_cut 61 = .ok (.aload_n 0, 1) := by decide +kernel
theorem dX10_cut_62 : decode cX10_cut 62 = .ok (.iload_n 1, 1) := by decide +kernel
theorem dX10_cut_63 : decode cX10_cut 63 = .ok (.iload_n 3, 1) := by decide +kernel
theorem dX10_cut_64 : decode cX10_cut 64 = .ok (.invokevirtual 264, 3) := by decide +kernel
theorem dX10_cut_67 : decode cX10_cut 67 = .ok (.iload 4, 2) := by decide +kernel
theorem dX10_cut_69 : decode cX10_cut 69 = .ok (.ifCond .ne 12, 3) := by decide +kernel
theorem dX10_cut_72 : decode cX10_cut 72 = .ok (.aload_n 0, 1) := by decide +kernel
theorem dX10_cut_73 : decode cX10_cut 73 = .ok (.getfield 96, 3) := by decide +kernel
theorem dX10_cut_76 : decode cX10_cut 76 = .ok (.iload_n 2, 1) := by decide +kernel
theorem dX10_cut_77 : decode cX10_cut 77 = .ok (.iaload, 1) := by decide +kernel
theorem dX10_cut_78 : decode cX10_cut 78 = .ok (.goto 24, 3) := by decide +kernel
theorem dX10_cut_81 : decode cX10_cut 81 = .ok (.iload 4, 2) := by decide +kernel
theorem dX10_cut_83 : decode cX10_cut 83 = .ok (.iconst 1, 1) := by decide +kernel
theorem dX10_cut_84 : decode cX10_cut 84 = .ok (.if_icmp .ne 12, 3) := by decide +kernel
theorem dX10_cut_87 : decode cX10_cut 87 = .ok (.aload_n 0, 1) := by decide +kernel
theorem dX10_cut_88 : decode cX10_cut 88 = .ok (.getfield 99, 3) := by decide +kernel
theorem dX10_cut_91 : decode cX10_cut 91 = .ok (.iload_n 2, 1) := by decide +kernel
theorem dX10_cut_92 : decode cX10_cut 92 = .ok (.iaload, 1) := by decide +kernel
theorem dX10_cut_93 : decode cX10_cut 93 = .ok (.goto 9, 3) := by decide +kernel
theorem dX10_cut_96 : decode cX10_cut 96 = .ok (.aload_n 0, 1) := by decide +kernel
theorem dX10_cut_97 : decode cX10_cut 97 = .ok (.getfield 102, 3) := by decide +kernel
theorem dX10_cut_100 : decode cX10_cut 100 = .ok (.iload_n 2, 1) := by decide +kernel
theorem dX10_cut_101 : decode cX10_cut 101 = .ok (.iaload, 1) := by decide +kernel
theorem dX10_cut_102 : decode cX10_cut 102 = .ok (.ireturn, 1) := by decide +kernel
theorem dX10_lay_0 : decode cX10_lay 0 = .ok (.aload_n 0, 1) := by decide +kernel
theorem dX10_lay_1 : decode cX10_lay 1 = .ok (.iload_n 1, 1) := by decide +kernel
theorem dX10_lay_2 : decode cX10_lay 2 = .ok (.invokevirtual 168, 3) := by decide +kernel
theorem dX10_lay_5 : decode cX10_lay 5 = .ok (.ifCond .ne 9, 3) := by decide +kernel
theorem dX10_lay_8 : decode cX10_lay 8 = .ok (.aload_n 0, 1) := by decide +kernel
theorem dX10_lay_9 : decode cX10_lay 9 = .ok (.iconst (-1), 1) := by decide +kernel
theorem dX10_lay_10 : decode cX10_lay 10 = .ok (.invokevirtual 121, 3) := by decide +kernel
theorem dX10_lay_13 : decode cX10_lay 13 = .ok (.ireturn, 1) := by decide +kernel
theorem dX10_lay_14 : decode cX10_lay 14 = .ok (.aload_n 0, 1) := by decide +kernel
theorem dX10_lay_15 : decode cX10_lay 15 = .ok (.iload_n 2, 1) := by decide +kernel
theorem dX10_lay_16 : decode cX10_lay 16 = .ok (.invokevirtual 155, 3) := by decide +kernel
theorem dX10_lay_19 : decode cX10_lay 19 = .ok (.ifCond .ne 10, 3) := by decide +kernel
theorem dX10_lay_22 : decode cX10_lay 22 = .ok (.aload_n 0, 1) := by decide +kernel
theorem dX10_lay_23 : decode cX10_lay 23 = .ok (.bipush (-6), 2) := by decide +kernel
theorem dX10_lay_25 : decode cX10_lay 25 = .ok (.invokevirtual 121, 3) := by decide +kernel
theorem dX10_lay_28 : decode cX10_lay 28 = .ok (.ireturn, 1) := by decide +kernel
theorem dX10_lay_29 : decode cX10_lay 29 = .ok (.aload_n 0, 1) := by decide +kernel
theorem dX10_lay_30 : decode cX10_lay 30 = .ok (.iload_n 1, 1) := by decide +kernel
theorem dX10_lay_31 : decode cX10_lay 31 = .ok (.iload_n 2, 1) := by decide +kernel
theorem dX10_lay_32 : decode cX10_lay 32 = .ok (.invokevirtual 264, 3) := by decide +kernel
theorem dX10_lay_35 : decode cX10_lay 35 = .ok (.aload_n 0, 1) := by decide +kernel
theorem dX10_lay_36 : decode cX10_lay 36 = .ok (.iconst 0, 1) := by decide +kernel
theorem dX10_lay_37 : decode cX10_lay 37 = .ok (.putfield 108, 3) := by decide +kernel
theorem dX10_lay_40 : decode cX10_lay 40 = .ok (.iconst 0, 1) := by decide +kernel
theorem dX10_lay_41 : decode cX10_lay 41 = .ok (.istore_n 3, 1) := by decide +kernel
theorem dX10_lay_42 : decode cX10_lay 42 = .ok (.iconst 0, 1) := by decide +kernel
theorem dX10_lay_43 : decode cX10_lay 43 = .ok (.istore 4, 2) := by decide +kernel
theorem dX10_lay_45 : decode cX10_lay 45 = .ok (.iload 4, 2) := by decide +kernel
theorem dX10_lay_47 : decode cX10_lay 47 = .ok (.aload_n 0, 1) := by decide +kernel
theorem dX10_lay_48 : decode cX10_lay 48 = .ok (.getfield 56, 3) := by decide +kernel
theorem dX10_lay_51 : decode cX10_lay 51 = .ok (.iload_n 1, 1) := by decide +kernel
theorem dX10_lay_52 : decode cX10_lay 52 = .ok (.iaload, 1) := by decide +kernel
theorem dX10_lay_53 : decode cX10_lay 53 = .ok (.if_icmp .ge 57, 3) := by decide +kernel
theorem dX10_lay_56 : decode cX10_lay 56 = .ok (.aload_n 0, 1) := by decide +kernel
theorem dX10_lay_57 : decode cX10_lay 57 = .ok (.aload_n 0, 1) := by decide +kernel
theorem dX10_lay_58 : decode cX10_lay 58 = .ok (.getfield 59, 3) := by decide +kernel
theorem dX10_lay_61 : decode cX10_lay 61 = .ok (.bipush 12, 2) := by decide +kernel
theorem dX10_lay_63 : decode cX10_lay 63 = .ok (.iload_n 1, 1) := by decide +kernel
theorem dX10_lay_64 : decode cX10_lay 64 = .ok (.imul, 1) := by decide +kernel
theorem dX10_lay_65 : decode cX10_lay 65 = .ok (.iload 4, 2) := by decide +kernel
theorem dX10_lay_67 : decode cX10_lay 67 = .ok (.iadd, 1) := by decide +kernel
theorem dX10_lay_68 : decode cX10_lay 68 = .ok (.iaload, 1) := by decide +kernel
theorem dX10_lay_69 : decode cX10_lay 69 = .ok (.ifCond .ne 7, 3) := by decide +kernel
theorem dX10_lay_72 : decode cX10_lay 72 = .ok (.iconst 3, 1) := by decide +kernel
theorem dX10_lay_73 : decode cX10_lay 73 = .ok (.goto 4, 3) := by decide +kernel
theorem dX10_lay_76 : decode cX10_lay 76 = .ok (.iconst 1, 1) := by decide +kernel
theorem dX10_lay_77 : decode cX10_lay 77 = .ok (.aload_n 0, 1) := by decide +kernel
theorem dX10_lay_78 : decode cX10_lay 78 = .ok (.getfield 96, 3) := by decide +kernel
theorem dX10_lay_81 : decode cX10_lay 81 = .ok (.iload 4, 2) := by decide +kernel
theorem dX10_lay_83 : decode cX10_lay 83 = .ok (.iaload, 1) := by decide +kernel
theorem dX10_lay_84 : decode cX10_lay 84 = .ok (.iconst 0, 1) := by decide +kernel
theorem dX10_lay_85 : decode cX10_lay 85 = .ok (.aload_n 0, 1) := by decide +kernel
theorem dX10_lay_86 : decode cX10_lay 86 = .ok (.getfield 99, 3) := by decide +kernel
theorem dX10_lay_89 : decode cX10_lay 89 = .ok (.iload 4, 2) := by decide +kernel
theorem dX10_lay_91 : decode cX10_lay 91 = .ok (.iaload, 1) := by decide +kernel
theorem dX10_lay_92 : decode cX10_lay 92 = .ok (.invokevirtual 138, 3) := by decide +kernel
theorem dX10_lay_95 : decode cX10_lay 95 = .ok (.iload_n 3, 1) := by decide +kernel
theorem dX10_lay_96 : decode cX10_lay 96 = .ok (.aload_n 0, 1) := by decide +kernel
theorem dX10_lay_97 : decode cX10_lay 97 = .ok (.iload 4, 2) := by decide +kernel
theorem dX10_lay_99 : decode cX10_lay 99 = .ok (.invokevirtual 131, 3) := by decide +kernel
theorem dX10_lay_102 : decode cX10_lay 102 = .ok (.iadd, 1) := by decide +kernel
theorem dX10_lay_103 : decode cX10_lay 103 = .ok (.istore_n 3, 1) := by decide +kernel
theorem dX10_lay_104 : decode cX10_lay 104 = .ok (.iinc 4 1, 3) := by decide +kernel
theorem dX10_lay_107 : decode cX10_lay 107 = .ok (.goto (-62), 3) := by decide +kernel
theorem dX10_lay_110 : decode cX10_lay 110 = .ok (.aload_n 0, 1) := by decide +kernel
theorem dX10_lay_111 : decode cX10_lay 111 = .ok (.invokevirtual 149, 3) := by decide +kernel
theorem dX10_lay_114 : decode cX10_lay 114 = .ok (.iload_n 3, 1) := by decide +kernel
theorem dX10_lay_115 : decode cX10_lay 115 = .ok (.ireturn, 1) := by decide +kernel
theorem dX10_isFit_0 : decode cX10_isFit 0 = .ok (.aload_n 0, 1) := by decide +kernel
theorem dX10_isFit_1 : decode cX10_isFit 1 = .ok (.iload_n 1, 1) := by decide +kernel
theorem dX10_isFit_2 : decode cX10_isFit 2 = .ok (.iload_n 2, 1) := by decide +kernel
theorem dX10_isFit_3 : decode cX10_isFit 3 = .ok (.invokevirtual 264, 3) := by decide +kernel
theorem dX10_isFit_6 : decode cX10_isFit 6 = .ok (.iconst 0, 1) := by decide +kernel
theorem dX10_isFit_7 : decode cX10_isFit 7 = .ok (.istore_n 3, 1) := by decide +kernel
theorem dX10_isFit_8 : decode cX10_isFit 8 = .ok (.iconst 0, 1) := by decide +kernel
theorem dX10_isFit_9 : decode cX10_isFit 9 = .ok (.istore 4, 2) := by decide +kernel
theorem dX10_isFit_11 : decode cX10_isFit 11 = .ok (.iload 4, 2) := by decide +kernel
theorem dX10_isFit_13 : decode cX10_isFit 13 = .ok (.aload_n 0, 1) := by decide +kernel
theorem dX10_isFit_14 : decode cX10_isFit 14 = .ok (.getfield 56, 3) := by decide +kernel
theorem dX10_isFit_17 : decode cX10_isFit 17 = .ok (.iload_n 1, 1) := by decide +kernel
theorem dX10_isFit_18 : decode cX10_isFit 18 = .ok (.iaload, 1) := by decide +kernel
theorem dX10_isFit_19 : decode cX10_isFit 19 = .ok (.if_icmp .ge 43, 3) := by decide +kernel
theorem dX10_isFit_22 : decode cX10_isFit 22 = .ok (.aload_n 0, 1) := by decide +kernel
theorem dX10_isFit_23 : decode cX10_isFit 23 = .ok (.getfield 102, 3) := by decide +kernel
theorem dX10_isFit_26 : decode cX10_isFit 26 = .ok (.iload 4, 2) := by decide +kernel
theorem dX10_isFit_28 : decode cX10_isFit 28 = .ok (.iaload, 1) := by decide +kernel
theorem dX10_isFit_29 : decode cX10_isFit 29 = .ok (.aload_n 0, 1) := by decide +kernel
theorem dX10_isFit_30 : decode cX10_isFit 30 = .ok (.getfield 16, 3) := by decide +kernel
theorem dX10_isFit_33 : decode cX10_isFit 33 = .ok (.if_icmp .le 5, 3) := by decide +kernel
theorem dX10_isFit_36 : decode cX10_isFit 36 = .ok (.iconst 0, 1) := by decide +kernel
theorem dX10_isFit_37 : decode cX10_isFit 37 = .ok (.ireturn, 1) := by decide +kernel
theorem dX10_isFit_38 : decode cX10_isFit 38 = .ok (.iload_n 3, 1) := by decide +kernel
theorem dX10_isFit_39 : decode cX10_isFit 39 = .ok (.aload_n 0, 1) := by decide +kernel
theorem dX10_isFit_40 : decode cX10_isFit 40 = .ok (.getfield 96, 3) := by decide +kernel
theorem dX10_isFit_43 : decode cX10_isFit 43 = .ok (.iload 4, 2) := by decide +kernel
theorem dX10_isFit_45 : decode cX10_isFit 45 = .ok (.iaload, 1) := by decide +kernel
theorem dX10_isFit_46 : decode cX10_isFit 46 = .ok (.aload_n 0, 1) := by decide +kernel
theorem dX10_isFit_47 : decode cX10_isFit 47 = .ok (.getfield 99, 3) := by decide +kernel
theorem dX10_isFit_50 : decode cX10_isFit 50 = .ok (.iload 4, 2) := by decide +kernel
theorem dX10_isFit_52 : decode cX10_isFit 52 = .ok (.iaload, 1) := by decide +kernel
theorem dX10_isFit_53 : decode cX10_isFit 53 = .ok (.imul, 1) := by decide +kernel
theorem dX10_isFit_54 : decode cX10_isFit 54 = .ok (.iadd, 1) := by decide +kernel
theorem dX10_isFit_55 : decode cX10_isFit 55 = .ok (.istore_n 3, 1) := by decide +kernel
theorem dX10_isFit_56 : decode cX10_isFit 56 = .ok (.iinc 4 1, 3) := by decide +kernel
theorem dX10_isFit_59 : decode cX10_isFit 59 = .ok (.goto (-48), 3) := by decide +kernel
theorem dX10_isFit_62 : decode cX10_isFit 62 = .ok (.iload_n 3, 1) := by decide +kernel
theorem dX10_isFit_63 : decode cX10_isFit 63 = .ok (.aload_n 0, 1) := by decide +kernel
theorem dX10_isFit_64 : decode cX10_isFit 64 = .ok (.getfield 7, 3) := by decide +kernel
theorem dX10_isFit_67 : decode cX10_isFit 67 = .ok (.if_icmp .gt 7, 3) := by decide +kernel
theorem dX10_isFit_70 : decode cX10_isFit 70 = .ok (.iconst 1, 1) := by decide +kernel
theorem dX10_isFit_71 : decode cX10_isFit 71 = .ok (.goto 4, 3) := by decide +kernel
theorem dX10_isFit_74 : decode cX10_isFit 74 = .ok (.iconst 0, 1) := by decide +kernel
theorem dX10_isFit_75 : decode cX10_isFit 75 = .ok (.ireturn, 1) := by decide +kernel
theorem dX10_fits_0 : decode cX10_fits 0 = .ok (.aload_n 0, 1) := by decide +kernel
theorem dX10_fits_1 : decode cX10_fits 1 = .ok (.iload_n 1, 1) := by decide +kernel
theorem dX10_fits_2 : decode cX10_fits 2 = .ok (.invokevirtual 168, 3) := by decide +kernel
theorem dX10_fits_5 : decode cX10_fits 5 = .ok (.ifCond .ne 9, 3) := by decide +kernel
theorem dX10_fits_8 : decode cX10_fits 8 = .ok (.aload_n 0, 1) := by decide +kernel
theorem dX10_fits_9 : decode cX10_fits 9 = .ok (.iconst (-1), 1) := by decide +kernel
theorem dX10_fits_10 : decode cX10_fits 10 = .ok (.invokevirtual 121, 3) := by decide +kernel
theorem dX10_fits_13 : decode cX10_fits 13 = .ok (.ireturn, 1) := by decide +kernel
theorem dX10_fits_14 : decode cX10_fits 14 = .ok (.aload_n 0, 1) := by decide +kernel
theorem dX10_fits_15 : decode cX10_fits 15 = .ok (.iload_n 2, 1) := by decide +kernel
theorem dX10_fits_16 : decode cX10_fits 16 = .ok (.invokevirtual 155, 3) := by decide +kernel
theorem dX10_fits_19 : decode cX10_fits 19 = .ok (.ifCond .eq 20, 3) := by decide +kernel
theorem dX10_fits_22 : decode cX10_fits 22 = .ok (.aload_n 0, 1) := by decide +kernel
theorem dX10_fits_23 : decode cX10_fits 23 = .ok (.iload_n 1, 1) := by decide +kernel
theorem dX10_fits_24 : decode cX10_fits 24 = .ok (.iload_n 2, 1) := by decide +kernel
theorem dX10_fits_25 : decode cX10_fits 25 = .ok (.invokevirtual 268, 3) := by decide +kernel
theorem dX10_fits_28 : decode cX10_fits 28 = .ok (.ifCond .eq 7, 3) := by decide +kernel
theorem dX10_fits_31 : decode cX10_fits 31 = .ok (.iconst 1, 1) := by decide +kernel
theorem dX10_fits_32 : decode cX10_fits 32 = .ok (.goto 13, 3) := by decide +kernel
theorem dX10_fits_35 : decode cX10_fits 35 = .ok (.iconst 0, 1) := by decide +kernel
theorem dX10_fits_36 : decode cX10_fits 36 = .ok (.goto 9, 3) := by decide +kernel
theorem dX10_fits_39 : decode cX10_fits 39 = .ok (.aload_n 0, 1) := by decide +kernel
theorem dX10_fits_40 : decode cX10_fits 40 = .ok (.bipush (-6), 2) := by decide +kernel
theorem dX10_fits_42 : decode cX10_fits 42 = .ok (.invokevirtual 121, 3) := by decide +kernel
theorem dX10_fits_45 : decode cX10_fits 45 = .ok (.ireturn, 1) := by decide +kernel
theorem dX10_can_0 : decode cX10_can 0 = .ok (.aload_n 0, 1) := by decide +kernel
theorem dX10_can_1 : decode cX10_can 1 = .ok (.iload_n 1, 1) := by decide +kernel
theorem dX10_can_2 : decode cX10_can 2 = .ok (.invokevirtual 155, 3) := by decide +kernel
theorem dX10_can_5 : decode cX10_can 5 = .ok (.ifCond .ne 10, 3) := by decide +kernel
theorem dX10_can_8 : decode cX10_can 8 = .ok (.aload_n 0, 1) := by decide +kernel
theorem dX10_can_9 : decode cX10_can 9 = .ok (.bipush (-6), 2) := by decide +kernel
theorem dX10_can_11 : decode cX10_can 11 = .ok (.invokevirtual 121, 3) := by decide +kernel
theorem dX10_can_14 : decode cX10_can 14 = .ok (.ireturn, 1) := by decide +kernel
theorem dX10_can_15 : decode cX10_can 15 = .ok (.iconst 0, 1) := by decide +kernel
theorem dX10_can_16 : decode cX10_can 16 = .ok (.istore_n 2, 1) := by decide +kernel
theorem dX10_can_17 : decode cX10_can 17 = .ok (.iconst 0, 1) := by decide +kernel
theorem dX10_can_18 : decode cX10_can 18 = .ok (.istore_n 3, 1) := by decide +kernel
theorem dX10_can_19 : decode cX10_can 19 = .ok (.iload_n 3, 1) := by decide +kernel
theorem dX10_can_20 : decode cX10_can 20 = .ok (.aload_n 0, 1) := by decide +kernel
theorem dX10_can_21 : decode cX10_can 21 = .ok (.getfield 114, 3) := by decide +kernel
theorem dX10_can_24 : decode cX10_can 24 = .ok (.if_icmp .ge 24, 3) := by decide +kernel
theorem dX10_can_27 : decode cX10_can 27 = .ok (.aload_n 0, 1) := by decide +kernel
theorem dX10_can_28 : decode cX10_can 28 = .ok (.iload_n 3, 1) := by decide +kernel
theorem dX10_can_29 : decode cX10_can 29 = .ok (.iload_n 1, 1) := by decide +kernel
theorem dX10_can_30 : decode cX10_can 30 = .ok (.invokevirtual 268, 3) := by decide +kernel
theorem dX10_can_33 : decode cX10_can 33 = .ok (.ifCond .eq 9, 3) := by decide +kernel
theorem dX10_can_36 : decode cX10_can 36 = .ok (.iload_n 2, 1) := by decide +kernel
theorem dX10_can_37 : decode cX10_can 37 = .ok (.iconst 1, 1) := by decide +kernel
theorem dX10_can_38 : decode cX10_can 38 = .ok (.iload_n 3, 1) := by decide +kernel
theorem dX10_can_39 : decode cX10_can 39 = .ok (.ishl, 1) := by decide +kernel
theorem dX10_can_40 : decode cX10_can 40 = .ok (.ior, 1) := by decide +kernel
theorem dX10_can_41 : decode cX10_can 41 = .ok (.istore_n 2, 1) := by decide +kernel
theorem dX10_can_42 : decode cX10_can 42 = .ok (.iinc 3 1, 3) := by decide +kernel
theorem dX10_can_45 : decode cX10_can 45 = .ok (.goto (-26), 3) := by decide +kernel
theorem dX10_can_48 : decode cX10_can 48 = .ok (.iload_n 2, 1) := by decide +kernel
theorem dX10_can_49 : decode cX10_can 49 = .ok (.ireturn, 1) := by decide +kernel
theorem dX10_servedBy_0 : decode cX10_servedBy 0 = .ok (.aload_n 0, 1) := by decide +kernel
theorem dX10_servedBy_1 : decode cX10_servedBy 1 = .ok (.iload_n 1, 1) := by decide +kernel
theorem dX10_servedBy_2 : decode cX10_servedBy 2 = .ok (.iload_n 2, 1) := by decide +kernel
theorem dX10_servedBy_3 : decode cX10_servedBy 3 = .ok (.invokevirtual 264, 3) := by decide +kernel
theorem dX10_servedBy_6 : decode cX10_servedBy 6 = .ok (.iconst 0, 1) := by decide +kernel
theorem dX10_servedBy_7 : decode cX10_servedBy 7 = .ok (.istore_n 3, 1) := by decide +kernel
theorem dX10_servedBy_8 : decode cX10_servedBy 8 = .ok (.iconst 0, 1) := by decide +kernel
theorem dX10_servedBy_9 : decode cX10_servedBy 9 = .ok (.istore 4, 2) := by decide +kernel
theorem dX10_servedBy_11 : decode cX10_servedBy 11 = .ok (.iload 4, 2) := by decide +kernel
theorem dX10_servedBy_13 : decode cX10_servedBy 13 = .ok (.aload_n 0, 1) := by decide +kernel
theorem dX10_servedBy_14 : decode cX10_servedBy 14 = .ok (.getfield 111, 3) := by decide +kernel
theorem dX10_servedBy_17 : decode cX10_servedBy 17 = .ok (.if_icmp .ge 113, 3) := by decide +kernel
theorem dX10_servedBy_20 : decode cX10_servedBy 20 = .ok (.iconst 1, 1) := by decide +kernel
theorem dX10_servedBy_21 : decode cX10_servedBy 21 = .ok (.istore 5, 2) := by decide +kernel
theorem dX10_servedBy_23 : decode cX10_servedBy 23 = .ok (.iconst 0, 1) := by decide +kernel
theorem dX10_servedBy_24 : decode cX10_servedBy 24 = .ok (.istore 6, 2) := by decide +kernel
theorem dX10_servedBy_26 : decode cX10_servedBy 26 = .ok (.iload 6, 2) := by decide +kernel
theorem dX10_servedBy_28 : decode cX10_servedBy 28 = .ok (.aload_n 0, 1) := by decide +kernel
theorem dX10_servedBy_29 : decode cX10_servedBy 29 = .ok (.getfield 56, 3) := by decide +kernel
theorem dX10_servedBy_32 : decode cX10_servedBy 32 = .ok (.iload_n 1, 1) := by decide +kernel
theorem dX10_servedBy_33 : decode cX10_servedBy 33 = .ok (.iaload, 1) := by decide +kernel
theorem dX10_servedBy_34 : decode cX10_servedBy 34 = .ok (.if_icmp .ge 75, 3) := by decide +kernel
theorem dX10_servedBy_37 : decode cX10_servedBy 37 = .ok (.iload 5, 2) := by decide +kernel
theorem dX10_servedBy_39 : decode cX10_servedBy 39 = .ok (.ifCond .eq 70, 3) := by decide +kernel
theorem dX10_servedBy_42 : decode cX10_servedBy 42 = .ok (.aload_n 0, 1) := by decide +kernel
theorem dX10_servedBy_43 : decode cX10_servedBy 43 = .ok (.getfield 59, 3) := by decide +kernel
theorem dX10_servedBy_46 : decode cX10_servedBy 46 = .ok (.bipush 12, 2) := by decide +kernel
theorem dX10_servedBy_48 : decode cX10_servedBy 48 = .ok (.iload_n 1, 1) := by decide +kernel
theorem dX10_servedBy_49 : decode cX10_servedBy 49 = .ok (.imul, 1) := by decide +kernel
theorem dX10_servedBy_50 : decode cX10_servedBy 50 = .ok (.iload 6, 2) := by decide +kernel
theorem dX10_servedBy_52 : decode cX10_servedBy 52 = .ok (.iadd, 1) := by decide +kernel
theorem dX10_servedBy_53 : decode cX10_servedBy 53 = .ok (.iaload, 1) := by decide +kernel
theorem dX10_servedBy_54 : decode cX10_servedBy 54 = .ok (.istore 7, 2) := by decide +kernel
theorem dX10_servedBy_56 : decode cX10_servedBy 56 = .ok (.aload_n 0, 1) := by decide +kernel
theorem dX10_servedBy_57 : decode cX10_servedBy 57 = .ok (.iload 7, 2) := by decide +kernel
theorem dX10_servedBy_59 : decode cX10_servedBy 59 = .ok (.ifCond .ne 7, 3) := by decide +kernel
theorem dX10_servedBy_62 : decode cX10_servedBy 62 = .ok (.iconst 0, 1) := by decide +kernel
theorem dX10_servedBy_63 : decode cX10_servedBy 63 = .ok (.goto 21, 3) := by decide +kernel
theorem dX10_servedBy_66 : decode cX10_servedBy 66 = .ok (.aload_n 0, 1) := by decide +kernel
theorem dX10_servedBy_67 : decode cX10_servedBy 67 = .ok (.aload_n 0, 1) := by decide +kernel
theorem dX10_servedBy_68 : decode cX10_servedBy 68 = .ok (.getfield 96, 3) := by decide +kernel
theorem dX10_servedBy_71 : decode cX10_servedBy 71 = .ok (.iload 6, 2) := by decide +kernel
theorem dX10_servedBy_73 : decode cX10_servedBy 73 = .ok (.iaload, 1) := by decide +kernel
theorem dX10_servedBy_74 : decode cX10_servedBy 74 = .ok (.aload_n 0, 1) := by decide +kernel
theorem dX10_servedBy_75 : decode cX10_servedBy 75 = .ok (.getfield 47, 3) := by decide +kernel
theorem dX10_servedBy_78 : decode cX10_servedBy 78 = .ok (.iload 4, 2) := by decide +kernel
theorem dX10_servedBy_80 : decode cX10_servedBy 80 = .ok (.iaload, 1) := by decide +kernel
theorem dX10_servedBy_81 : decode cX10_servedBy 81 = .ok (.invokevirtual 229, 3) := by decide +kernel
theorem dX10_servedBy_84 : decode cX10_servedBy 84 = .ok (.iload 7, 2) := by decide +kernel
theorem dX10_servedBy_86 : decode cX10_servedBy 86 = .ok (.invokevirtual 242, 3) := by decide +kernel
theorem dX10_servedBy_89 : decode cX10_servedBy 89 = .ok (.aload_n 0, 1) := by decide +kernel
theorem dX10_servedBy_90 : decode cX10_servedBy 90 = .ok (.getfield 16, 3) := by decide +kernel
theorem dX10_servedBy_93 : decode cX10_servedBy 93 = .ok (.if_icmp .gt 7, 3) := by decide +kernel
theorem dX10_servedBy_96 : decode cX10_servedBy 96 = .ok (.iconst 1, 1) := by decide +kernel
theorem dX10_servedBy_97 : decode cX10_servedBy 97 = .ok (.goto 4, 3) := by decide +kernel
theorem dX10_servedBy_100 : decode cX10_servedBy 100 = .ok (.iconst 0, 1) := by decide +kernel
theorem dX10_servedBy_101 : decode cX10_servedBy 101 = .ok (.istore 5, 2) := by decide +kernel
theorem dX10_servedBy_103 : decode cX10_servedBy 103 = .ok (.iinc 6 1, 3) := by decide +kernel
theorem dX10_servedBy_106 : decode cX10_servedBy 106 = .ok (.goto (-80), 3) := by decide +kernel
theorem dX10_servedBy_109 : decode cX10_servedBy 109 = .ok (.iload 5, 2) := by decide +kernel
theorem dX10_servedBy_111 : decode cX10_servedBy 111 = .ok (.ifCond .eq 13, 3) := by decide +kernel
theorem dX10_servedBy_114 : decode cX10_servedBy 114 = .ok (.iload_n 3, 1) := by decide +kernel
theorem dX10_servedBy_115 : decode cX10_servedBy 115 = .ok (.aload_n 0, 1) := by decide +kernel
theorem dX10_servedBy_116 : decode cX10_servedBy 116 = .ok (.getfield 53, 3) := by decide +kernel
theorem dX10_servedBy_119 : decode cX10_servedBy 119 = .ok (.iload 4, 2) := by decide +kernel
theorem dX10_servedBy_121 : decode cX10_servedBy 121 = .ok (.iaload, 1) := by decide +kernel
theorem dX10_servedBy_122 : decode cX10_servedBy 122 = .ok (.iadd, 1) := by decide +kernel
theorem dX10_servedBy_123 : decode cX10_servedBy 123 = .ok (.istore_n 3, 1) := by decide +kernel
theorem dX10_servedBy_124 : decode cX10_servedBy 124 = .ok (.iinc 4 1, 3) := by decide +kernel
theorem dX10_servedBy_127 : decode cX10_servedBy 127 = .ok (.goto (-116), 3) := by decide +kernel
theorem dX10_servedBy_130 : decode cX10_servedBy 130 = .ok (.iload_n 3, 1) := by decide +kernel
theorem dX10_servedBy_131 : decode cX10_servedBy 131 = .ok (.ireturn, 1) := by decide +kernel
theorem dX10_served_0 : decode cX10_served 0 = .ok (.aload_n 0, 1) := by decide +kernel
theorem dX10_served_1 : decode cX10_served 1 = .ok (.iload_n 1, 1) := by decide +kernel
theorem dX10_served_2 : decode cX10_served 2 = .ok (.invokevirtual 168, 3) := by decide +kernel
theorem dX10_served_5 : decode cX10_served 5 = .ok (.ifCond .ne 9, 3) := by decide +kernel
theorem dX10_served_8 : decode cX10_served 8 = .ok (.aload_n 0, 1) := by decide +kernel
theorem dX10_served_9 : decode cX10_served 9 = .ok (.iconst (-1), 1) := by decide +kernel
theorem dX10_served_10 : decode cX10_served 10 = .ok (.invokevirtual 121, 3) := by decide +kernel
theorem dX10_served_13 : decode cX10_served 13 = .ok (.ireturn, 1) := by decide +kernel
theorem dX10_served_14 : decode cX10_served 14 = .ok (.aload_n 0, 1) := by decide +kernel
theorem dX10_served_15 : decode cX10_served 15 = .ok (.iload_n 2, 1) := by decide +kernel
theorem dX10_served_16 : decode cX10_served 16 = .ok (.invokevirtual 155, 3) := by decide +kernel
theorem dX10_served_19 : decode cX10_served 19 = .ok (.ifCond .eq 12, 3) := by decide +kernel
theorem dX10_served_22 : decode cX10_served 22 = .ok (.aload_n 0, 1) := by decide +kernel
theorem dX10_served_23 : decode cX10_served 23 = .ok (.iload_n 1, 1) := by decide +kernel
theorem dX10_served_24 : decode cX10_served 24 = .ok (.iload_n 2, 1) := by decide +kernel
theorem dX10_served_25 : decode cX10_served 25 = .ok (.invokevirtual 271, 3) := by decide +kernel
theorem dX10_served_28 : decode cX10_served 28 = .ok (.goto 9, 3) := by decide +kernel
theorem dX10_served_31 : decode cX10_served 31 = .ok (.aload_n 0, 1) := by decide +kernel
theorem dX10_served_32 : decode cX10_served 32 = .ok (.bipush (-6), 2) := by decide +kernel
theorem dX10_served_34 : decode cX10_served 34 = .ok (.invokevirtual 121, 3) := by decide +kernel
theorem dX10_served_37 : decode cX10_served 37 = .ok (.ireturn, 1) := by decide +kernel
theorem dX10_best_0 : decode cX10_best 0 = .ok (.aload_n 0, 1) := by decide +kernel
theorem dX10_best_1 : decode cX10_best 1 = .ok (.iload_n 1, 1) := by decide +kernel
theorem dX10_best_2 : decode cX10_best 2 = .ok (.invokevirtual 168, 3) := by decide +kernel
theorem dX10_best_5 : decode cX10_best 5 = .ok (.ifCond .ne 9, 3) := by decide +kernel
theorem dX10_best_8 : decode cX10_best 8 = .ok (.aload_n 0, 1) := by decide +kernel
theorem dX10_best_9 : decode cX10_best 9 = .ok (.iconst (-1), 1) := by decide +kernel
theorem dX10_best_10 : decode cX10_best 10 = .ok (.invokevirtual 121, 3) := by decide +kernel
theorem dX10_best_13 : decode cX10_best 13 = .ok (.ireturn, 1) := by decide +kernel
theorem dX10_best_14 : decode cX10_best 14 = .ok (.iconst 1, 1) := by decide +kernel
theorem dX10_best_15 : decode cX10_best 15 = .ok (.istore_n 2, 1) := by decide +kernel
theorem dX10_best_16 : decode cX10_best 16 = .ok (.aload_n 0, 1) := by decide +kernel
theorem dX10_best_17 : decode cX10_best 17 = .ok (.iload_n 1, 1) := by decide +kernel
theorem dX10_best_18 : decode cX10_best 18 = .ok (.iconst 1, 1) := by decide +kernel
theorem dX10_best_19 : decode cX10_best 19 = .ok (.invokevirtual 271, 3) := by decide +kernel
theorem dX10_best_22 : decode cX10_best 22 = .ok (.istore_n 3, 1) := by decide +kernel
theorem dX10_best_23 : decode cX10_best 23 = .ok (.iconst 2, 1) := by decide +kernel
theorem dX10_best_24 : decode cX10_best 24 = .ok (.istore 4, 2) := by decide +kernel
theorem dX10_best_26 : decode cX10_best 26 = .ok (.iload 4, 2) := by decide +kernel
theorem dX10_best_28 : decode cX10_best 28 = .ok (.bipush 100, 2) := by decide +kernel
theorem dX10_best_30 : decode cX10_best 30 = .ok (.if_icmp .ge 33, 3) := by decide +kernel
theorem dX10_best_33 : decode cX10_best 33 = .ok (.aload_n 0, 1) := by decide +kernel
theorem dX10_best_34 : decode cX10_best 34 = .ok (.iload_n 1, 1) := by decide +kernel
theorem dX10_best_35 : decode cX10_best 35 = .ok (.iload 4, 2) := by decide +kernel
theorem dX10_best_37 : decode cX10_best 37 = .ok (.invokevirtual 271, 3) := by decide +kernel
theorem dX10_best_40 : decode cX10_best 40 = .ok (.istore 5, 2) := by decide +kernel
theorem dX10_best_42 : decode cX10_best 42 = .ok (.iload 5, 2) := by decide +kernel
theorem dX10_best_44 : decode cX10_best 44 = .ok (.iload_n 3, 1) := by decide +kernel
theorem dX10_best_45 : decode cX10_best 45 = .ok (.if_icmp .gt 6, 3) := by decide +kernel
theorem dX10_best_48 : decode cX10_best 48 = .ok (.goto 9, 3) := by decide +kernel
theorem dX10_best_51 : decode cX10_best 51 = .ok (.iload 4, 2) := by decide +kernel
theorem dX10_best_53 : decode cX10_best 53 = .ok (.istore_n 2, 1) := by decide +kernel
theorem dX10_best_54 : decode cX10_best 54 = .ok (.iload 5, 2) := by decide +kernel
theorem dX10_best_56 : decode cX10_best 56 = .ok (.istore_n 3, 1) := by decide +kernel
theorem dX10_best_57 : decode cX10_best 57 = .ok (.iinc 4 1, 3) := by decide +kernel
theorem dX10_best_60 : decode cX10_best 60 = .ok (.goto (-34), 3) := by decide +kernel
theorem dX10_best_63 : decode cX10_best 63 = .ok (.iload_n 2, 1) := by decide +kernel
theorem dX10_best_64 : decode cX10_best 64 = .ok (.ireturn, 1) := by decide +kernel
theorem dX10_two_0 : decode cX10_two 0 = .ok (.aload_n 0, 1) := by decide +kernel
theorem dX10_two_1 : decode cX10_two 1 = .ok (.iload_n 1, 1) := by decide +kernel
theorem dX10_two_2 : decode cX10_two 2 = .ok (.invokevirtual 168, 3) := by decide +kernel
theorem dX10_two_5 : decode cX10_two 5 = .ok (.ifCond .eq 11, 3) := by decide +kernel
theorem dX10_two_8 : decode cX10_two 8 = .ok (.aload_n 0, 1) := by decide +kernel
theorem dX10_two_9 : decode cX10_two 9 = .ok (.iload_n 3, 1) := by decide +kernel
theorem dX10_two_10 : decode cX10_two 10 = .ok (.invokevirtual 168, 3) := by decide +kernel
theorem dX10_two_13 : decode cX10_two 13 = .ok (.ifCond .ne 9, 3) := by decide +kernel
theorem dX10_two_16 : decode cX10_two 16 = .ok (.aload_n 0, 1) := by decide +kernel
theorem dX10_two_17 : decode cX10_two 17 = .ok (.iconst (-1), 1) := by decide +kernel
theorem dX10_two_18 : decode cX10_two 18 = .ok (.invokevirtual 121, 3) := by decide +kernel
theorem dX10_two_21 : decode cX10_two 21 = .ok (.ireturn, 1) := by decide +kernel
theorem dX10_two_22 : decode cX10_two 22 = .ok (.aload_n 0, 1) := by decide +kernel
theorem dX10_two_23 : decode cX10_two 23 = .ok (.iload_n 2, 1) := by decide +kernel
theorem dX10_two_24 : decode cX10_two 24 = .ok (.invokevirtual 155, 3) := by decide +kernel
theorem dX10_two_27 : decode cX10_two 27 = .ok (.ifCond .eq 27, 3) := by decide +kernel
theorem dX10_two_30 : decode cX10_two 30 = .ok (.aload_n 0, 1) := by decide +kernel
theorem dX10_two_31 : decode cX10_two 31 = .ok (.iload 4, 2) := by decide +kernel
theorem dX10_two_33 : decode cX10_two 33 = .ok (.invokevirtual 155, 3) := by decide +kernel
theorem dX10_two_36 : decode cX10_two 36 = .ok (.ifCond .eq 18, 3) := by decide +kernel
theorem dX10_two_39 : decode cX10_two 39 = .ok (.aload_n 0, 1) := by decide +kernel
theorem dX10_two_40 : decode cX10_two 40 = .ok (.getfield 56, 3) := by decide +kernel
theorem dX10_two_43 : decode cX10_two 43 = .ok (.iload_n 1, 1) := by decide +kernel
theorem dX10_two_44 : decode cX10_two 44 = .ok (.iaload, 1) := by decide +kernel
theorem dX10_two_45 : decode cX10_two 45 = .ok (.aload_n 0, 1) := by decide +kernel
theorem dX10_two_46 : decode cX10_two 46 = .ok (.getfield 56, 3) := by decide +kernel
theorem dX10_two_49 : decode cX10_two 49 = .ok (.iload_n 3, 1) := by decide +kernel
theorem dX10_two_50 : decode cX10_two 50 = .ok (.iaload, 1) := by decide +kernel
theorem dX10_two_51 : decode cX10_two 51 = .ok (.if_icmp .eq 10, 3) := by decide +kernel
theorem dX10_two_54 : decode cX10_two 54 = .ok (.aload_n 0, 1) := by decide +kernel
theorem dX10_two_55 : decode cX10_two 55 = .ok (.bipush (-6), 2) := by decide +kernel
theorem dX10_two_57 : decode cX10_two 57 = .ok (.invokevirtual 121, 3) := by decide +kernel
theorem dX10_two_60 : decode cX10_two 60 = .ok (.ireturn, 1) := by decide +kernel
theorem dX10_two_61 : decode cX10_two 61 = .ok (.iconst 0, 1) := by decide +kernel
theorem dX10_two_62 : decode cX10_two 62 = .ok (.istore 5, 2) := by decide +kernel
theorem dX10_two_64 : decode cX10_two 64 = .ok (.iconst 0, 1) := by decide +kernel
theorem dX10_two_65 : decode cX10_two 65 = .ok (.istore 6, 2) := by decide +kernel
theorem dX10_two_67 : decode cX10_two 67 = .ok (.iload 6, 2) := by decide +kernel
theorem dX10_two_69 : decode cX10_two 69 = .ok (.aload_n 0, 1) := by decide +kernel
theorem dX10_two_70 : decode cX10_two 70 = .ok (.getfield 56, 3) := by decide +kernel
theorem dX10_two_73 : decode cX10_two 73 = .ok (.iload_n 1, 1) := by decide +kernel
theorem dX10_two_74 : decode cX10_two 74 = .ok (.iaload, 1) := by decide +kernel
theorem dX10_two_75 : decode cX10_two 75 = .ok (.if_icmp .ge 144, 3) := by decide +kernel
theorem dX10_two_78 : decode cX10_two 78 = .ok (.aload_n 0, 1) := by decide +kernel
theorem dX10_two_79 : decode cX10_two 79 = .ok (.getfield 59, 3) := by decide +kernel
theorem dX10_two_82 : decode cX10_two 82 = .ok (.bipush 12, 2) := by decide +kernel
theorem dX10_two_84 : decode cX10_two 84 = .ok (.iload_n 1, 1) := by decide +kernel
theorem dX10_two_85 : decode cX10_two 85 = .ok (.imul, 1) := by decide +kernel
theorem dX10_two_86 : decode cX10_two 86 = .ok (.iload 6, 2) := by decide +kernel
theorem dX10_two_88 : decode cX10_two 88 = .ok (.iadd, 1) := by decide +kernel
theorem dX10_two_89 : decode cX10_two 89 = .ok (.iaload, 1) := by decide +kernel
theorem dX10_two_90 : decode cX10_two 90 = .ok (.istore 7, 2) := by decide +kernel
theorem dX10_two_92 : decode cX10_two 92 = .ok (.aload_n 0, 1) := by decide +kernel
theorem dX10_two_93 : decode cX10_two 93 = .ok (.getfield 59, 3) := by decide +kernel
theorem dX10_two_96 : decode cX10_two 96 = .ok (.bipush 12, 2) := by decide +kernel
theorem dX10_two_98 : decode cX10_two 98 = .ok (.iload_n 3, 1) := by decide +kernel
theorem dX10_two_99 : decode cX10_two 99 = .ok (.imul, 1) := by decide +kernel
theorem dX10_two_100 : decode cX10_two 100 = .ok (.iload 6, 2) := by decide +kernel
theorem dX10_two_102 : decode cX10_two 102 = .ok (.iadd, 1) := by decide +kernel
theorem dX10_two_103 : decode cX10_two 103 = .ok (.iaload, 1) := by decide +kernel
theorem dX10_two_104 : decode cX10_two 104 = .ok (.istore 8, 2) := by decide +kernel
theorem dX10_two_106 : decode cX10_two 106 = .ok (.iload 7, 2) := by decide +kernel
theorem dX10_two_108 : decode cX10_two 108 = .ok (.ifCond .ne 12, 3) := by decide +kernel
theorem dX10_two_111 : decode cX10_two 111 = .ok (.iload 8, 2) := by decide +kernel
theorem dX10_two_113 : decode cX10_two 113 = .ok (.ifCond .ne 7, 3) := by decide +kernel
theorem dX10_two_116 : decode cX10_two 116 = .ok (.iconst 1, 1) := by decide +kernel
theorem dX10_two_117 : decode cX10_two 117 = .ok (.goto 4, 3) := by decide +kernel
theorem dX10_two_120 : decode cX10_two 120 = .ok (.iconst 0, 1) := by decide +kernel
theorem dX10_two_121 : decode cX10_two 121 = .ok (.istore 9, 2) := by decide +kernel
theorem dX10_two_123 : decode cX10_two 123 = .ok (.aload_n 0, 1) := by decide +kernel
theorem dX10_two_124 : decode cX10_two 124 = .ok (.getfield 13, 3) := by decide +kernel
theorem dX10_two_127 : decode cX10_two 127 = .ok (.istore 10, 2) := by decide +kernel
theorem dX10_two_129 : decode cX10_two 129 = .ok (.iload 10, 2) := by decide +kernel
theorem dX10_two_131 : decode cX10_two 131 = .ok (.bipush 60, 2) := by decide +kernel
theorem dX10_two_133 : decode cX10_two 133 = .ok (.if_icmp .gt 72, 3) := by decide +kernel
theorem dX10_two_136 : decode cX10_two 136 = .ok (.iload 9, 2) := by decide +kernel
theorem dX10_two_138 : decode cX10_two 138 = .ok (.ifCond .ne 67, 3) := by decide +kernel
theorem dX10_two_141 : decode cX10_two 141 = .ok (.iload 7, 2) := by decide +kernel
theorem dX10_two_143 : decode cX10_two 143 = .ok (.ifCond .le 62, 3) := by decide +kernel
theorem dX10_two_146 : decode cX10_two 146 = .ok (.iload 8, 2) := by decide +kernel
theorem dX10_two_148 : decode cX10_two 148 = .ok (.ifCond .le 57, 3) := by decide +kernel
theorem dX10_two_151 : decode cX10_two 151 = .ok (.aload_n 0, 1) := by decide +kernel
theorem dX10_two_152 : decode cX10_two 152 = .ok (.aload_n 0, 1) := by decide +kernel
theorem dX10_two_153 : decode cX10_two 153 = .ok (.iload 10, 2) := by decide +kernel
theorem dX10_two_155 : decode cX10_two 155 = .ok (.iload_n 2, 1) := by decide +kernel
theorem dX10_two_156 : decode cX10_two 156 = .ok (.invokevirtual 229, 3) := by decide +kernel
theorem dX10_two_159 : decode cX10_two 159 = .ok (.iload 7, 2) := by decide +kernel
theorem dX10_two_161 : decode cX10_two 161 = .ok (.invokevirtual 242, 3) := by decide +kernel
theorem dX10_two_164 : decode cX10_two 164 = .ok (.aload_n 0, 1) := by decide +kernel
theorem dX10_two_165 : decode cX10_two 165 = .ok (.getfield 16, 3) := by decide +kernel
theorem dX10_two_168 : decode cX10_two 168 = .ok (.if_icmp .gt 28, 3) := by decide +kernel
theorem dX10_two_171 : decode cX10_two 171 = .ok (.aload_n 0, 1) := by decide +kernel
theorem dX10_two_172 : decode cX10_two 172 = .ok (.aload_n 0, 1) := by decide +kernel
theorem dX10_two_173 : decode cX10_two 173 = .ok (.iload 10, 2) := by decide +kernel
theorem dX10_two_175 : decode cX10_two 175 = .ok (.iload 4, 2) := by decide +kernel
theorem dX10_two_177 : decode cX10_two 177 = .ok (.invokevirtual 229, 3) := by decide +kernel
theorem dX10_two_180 : decode cX10_two 180 = .ok (.iload 8, 2) := by decide +kernel
theorem dX10_two_182 : decode cX10_two 182 = .ok (.invokevirtual 242, 3) := by decide +kernel
theorem dX10_two_185 : decode cX10_two 185 = .ok (.aload_n 0, 1) := by decide +kernel
theorem dX10_two_186 : decode cX10_two 186 = .ok (.getfield 16, 3) := by decide +kernel
theorem dX10_two_189 : decode cX10_two 189 = .ok (.if_icmp .gt 7, 3) := by decide +kernel
theorem dX10_two_192 : decode cX10_two 192 = .ok (.iconst 1, 1) := by decide +kernel
theorem dX10_two_193 : decode cX10_two 193 = .ok (.goto 4, 3) := by decide +kernel
theorem dX10_two_196 : decode cX10_two 196 = .ok (.iconst 0, 1) := by decide +kernel
theorem dX10_two_197 : decode cX10_two 197 = .ok (.istore 9, 2) := by decide +kernel
theorem dX10_two_199 : decode cX10_two 199 = .ok (.iinc 10 1, 3) := by decide +kernel
theorem dX10_two_202 : decode cX10_two 202 = .ok (.goto (-73), 3) := by decide +kernel
theorem dX10_two_205 : decode cX10_two 205 = .ok (.iload 9, 2) := by decide +kernel
theorem dX10_two_207 : decode cX10_two 207 = .ok (.ifCond .eq 6, 3) := by decide +kernel
theorem dX10_two_210 : decode cX10_two 210 = .ok (.iinc 5 1, 3) := by decide +kernel
theorem dX10_two_213 : decode cX10_two 213 = .ok (.iinc 6 1, 3) := by decide +kernel
theorem dX10_two_216 : decode cX10_two 216 = .ok (.goto (-149), 3) := by decide +kernel
theorem dX10_two_219 : decode cX10_two 219 = .ok (.iload 5, 2) := by decide +kernel
theorem dX10_two_221 : decode cX10_two 221 = .ok (.ireturn, 1) := by decide +kernel
theorem dX10_brief_0 : decode cX10_brief 0 = .ok (.aload_n 0, 1) := by decide +kernel
theorem dX10_brief_1 : decode cX10_brief 1 = .ok (.iload_n 1, 1) := by decide +kernel
theorem dX10_brief_2 : decode cX10_brief 2 = .ok (.invokevirtual 168, 3) := by decide +kernel
theorem dX10_brief_5 : decode cX10_brief 5 = .ok (.ifCond .ne 9, 3) := by decide +kernel
theorem dX10_brief_8 : decode cX10_brief 8 = .ok (.aload_n 0, 1) := by decide +kernel
theorem dX10_brief_9 : decode cX10_brief 9 = .ok (.iconst (-1), 1) := by decide +kernel
theorem dX10_brief_10 : decode cX10_brief 10 = .ok (.invokevirtual 121, 3) := by decide +kernel
theorem dX10_brief_13 : decode cX10_brief 13 = .ok (.ireturn, 1) := by decide +kernel
theorem dX10_brief_14 : decode cX10_brief 14 = .ok (.aload_n 0, 1) := by decide +kernel
theorem dX10_brief_15 : decode cX10_brief 15 = .ok (.iload_n 2, 1) := by decide +kernel
theorem dX10_brief_16 : decode cX10_brief 16 = .ok (.invokevirtual 155, 3) := by decide +kernel
theorem dX10_brief_19 : decode cX10_brief 19 = .ok (.ifCond .ne 10, 3) := by decide +kernel
theorem dX10_brief_22 : decode cX10_brief 22 = .ok (.aload_n 0, 1) := by decide +kernel
theorem dX10_brief_23 : decode cX10_brief 23 = .ok (.bipush (-6), 2) := by decide +kernel
theorem dX10_brief_25 : decode cX10_brief 25 = .ok (.invokevirtual 121, 3) := by decide +kernel
theorem dX10_brief_28 : decode cX10_brief 28 = .ok (.ireturn, 1) := by decide +kernel
theorem dX10_brief_29 : decode cX10_brief 29 = .ok (.aload_n 0, 1) := by decide +kernel
theorem dX10_brief_30 : decode cX10_brief 30 = .ok (.iload_n 1, 1) := by decide +kernel
theorem dX10_brief_31 : decode cX10_brief 31 = .ok (.iload_n 2, 1) := by decide +kernel
theorem dX10_brief_32 : decode cX10_brief 32 = .ok (.invokevirtual 264, 3) := by decide +kernel
theorem dX10_brief_35 : decode cX10_brief 35 = .ok (.lconst 0, 1) := by decide +kernel
theorem dX10_brief_36 : decode cX10_brief 36 = .ok (.lstore_n 3, 1) := by decide +kernel
theorem dX10_brief_37 : decode cX10_brief 37 = .ok (.iconst 0, 1) := by decide +kernel
theorem dX10_brief_38 : decode cX10_brief 38 = .ok (.istore 5, 2) := by decide +kernel
theorem dX10_brief_40 : decode cX10_brief 40 = .ok (.iload 5, 2) := by decide +kernel
theorem dX10_brief_42 : decode cX10_brief 42 = .ok (.aload_n 0, 1) := by decide +kernel
theorem dX10_brief_43 : decode cX10_brief 43 = .ok (.getfield 56, 3) := by decide +kernel
theorem dX10_brief_46 : decode cX10_brief 46 = .ok (.iload_n 1, 1) := by decide +kernel
theorem dX10_brief_47 : decode cX10_brief 47 = .ok (.iaload, 1) := by decide +kernel
theorem dX10_brief_48 : decode cX10_brief 48 = .ok (.if_icmp .ge 80, 3) := by decide +kernel
theorem dX10_brief_51 : decode cX10_brief 51 = .ok (.aload_n 0, 1) := by decide +kernel
theorem dX10_brief_52 : decode cX10_brief 52 = .ok (.getfield 62, 3) := by decide +kernel
theorem dX10_brief_55 : decode cX10_brief 55 = .ok (.bipush 12, 2) := by decide +kernel
theorem dX10_brief_57 : decode cX10_brief 57 = .ok (.iload_n 1, 1) := by decide +kernel
theorem dX10_brief_58 : decode cX10_brief 58 = .ok (.imul, 1) := by decide +kernel
theorem dX10_brief_59 : decode cX10_brief 59 = .ok (.iload 5, 2) := by decide +kernel
theorem dX10_brief_61 : decode cX10_brief 61 = .ok (.iadd, 1) := by decide +kernel
theorem dX10_brief_62 : decode cX10_brief 62 = .ok (.iaload, 1) := by decide +kernel
theorem dX10_brief_63 : decode cX10_brief 63 = .ok (.aload_n 0, 1) := by decide +kernel
theorem dX10_brief_64 : decode cX10_brief 64 = .ok (.getfield 19, 3) := by decide +kernel
theorem dX10_brief_67 : decode cX10_brief 67 = .ok (.imul, 1) := by decide +kernel
theorem dX10_brief_68 : decode cX10_brief 68 = .ok (.iconst 1, 1) := by decide +kernel
theorem dX10_brief_69 : decode cX10_brief 69 = .ok (.iadd, 1) := by decide +kernel
theorem dX10_brief_70 : decode cX10_brief 70 = .ok (.iconst 2, 1) := by decide +kernel
theorem dX10_brief_71 : decode cX10_brief 71 = .ok (.idiv, 1) := by decide +kernel
theorem dX10_brief_72 : decode cX10_brief 72 = .ok (.istore 6, 2) := by decide +kernel
theorem dX10_brief_74 : decode cX10_brief 74 = .ok (.ldc2_w 262, 3) := by decide +kernel
theorem dX10_brief_77 : decode cX10_brief 77 = .ok (.aload_n 0, 1) := by decide +kernel
theorem dX10_brief_78 : decode cX10_brief 78 = .ok (.getfield 96, 3) := by decide +kernel
theorem dX10_brief_81 : decode cX10_brief 81 = .ok (.iload 5, 2) := by decide +kernel
theorem dX10_brief_83 : decode cX10_brief 83 = .ok (.iaload, 1) := by decide +kernel
theorem dX10_brief_84 : decode cX10_brief 84 = .ok (.i2l, 1) := by decide +kernel
theorem dX10_brief_85 : decode cX10_brief 85 = .ok (.lmul, 1) := by decide +kernel
theorem dX10_brief_86 : decode cX10_brief 86 = .ok (.lstore 7, 2) := by decide +kernel
theorem dX10_brief_88 : decode cX10_brief 88 = .ok (.iload 6, 2) := by decide +kernel
theorem dX10_brief_90 : decode cX10_brief 90 = .ok (.i2l, 1) := by decide +kernel
theorem dX10_brief_91 : decode cX10_brief 91 = .ok (.ldc2_w 260, 3) := by decide +kernel
theorem dX10_brief_94 : decode cX10_brief 94 = .ok (.lmul, 1) := by decide +kernel
theorem dX10_brief_95 : decode cX10_brief 95 = .ok (.iload_n 2, 1) := by decide +kernel
theorem dX10_brief_96 : decode cX10_brief 96 = .ok (.i2l, 1) := by decide +kernel
theorem dX10_brief_97 : decode cX10_brief 97 = .ok (.lmul, 1) := by decide +kernel
theorem dX10_brief_98 : decode cX10_brief 98 = .ok (.lload 7, 2) := by decide +kernel
theorem dX10_brief_100 : decode cX10_brief 100 = .ok (.ladd, 1) := by decide +kernel
theorem dX10_brief_101 : decode cX10_brief 101 = .ok (.lconst 1, 1) := by decide +kernel
theorem dX10_brief_102 : decode cX10_brief 102 = .ok (.lsub, 1) := by decide +kernel
theorem dX10_brief_103 : decode cX10_brief 103 = .ok (.lload 7, 2) := by decide +kernel
theorem dX10_brief_105 : decode cX10_brief 105 = .ok (.ldiv, 1) := by decide +kernel
theorem dX10_brief_106 : decode cX10_brief 106 = .ok (.lstore 9, 2) := by decide +kernel
theorem dX10_brief_108 : decode cX10_brief 108 = .ok (.lload_n 3, 1) := by decide +kernel
theorem dX10_brief_109 : decode cX10_brief 109 = .ok (.lload 9, 2) := by decide +kernel
theorem dX10_brief_111 : decode cX10_brief 111 = .ok (.aload_n 0, 1) := by decide +kernel
theorem dX10_brief_112 : decode cX10_brief 112 = .ok (.getfield 96, 3) := by decide +kernel
theorem dX10_brief_115 : decode cX10_brief 115 = .ok (.iload 5, 2) := by decide +kernel
theorem dX10_brief_117 : decode cX10_brief 117 = .ok (.iaload, 1) := by decide +kernel
theorem dX10_brief_118 : decode cX10_brief 118 = .ok (.i2l, 1) := by decide +kernel
theorem dX10_brief_119 : decode cX10_brief 119 = .ok (.lmul, 1) := by decide +kernel
theorem dX10_brief_120 : decode cX10_brief 120 = .ok (.ladd, 1) := by decide +kernel
theorem dX10_brief_121 : decode cX10_brief 121 = .ok (.lstore_n 3, 1) := by decide +kernel
theorem dX10_brief_122 : decode cX10_brief 122 = .ok (.iinc 5 1, 3) := by decide +kernel
theorem dX10_brief_125 : decode cX10_brief 125 = .ok (.goto (-85), 3) := by decide +kernel
theorem dX10_brief_128 : decode cX10_brief 128 = .ok (.lload_n 3, 1) := by decide +kernel
theorem dX10_brief_129 : decode cX10_brief 129 = .ok (.l2i, 1) := by decide +kernel
theorem dX10_brief_130 : decode cX10_brief 130 = .ok (.ireturn, 1) := by decide +kernel
theorem dX10_scale_0 : decode cX10_scale 0 = .ok (.aload_n 0, 1) := by decide +kernel
theorem dX10_scale_1 : decode cX10_scale 1 = .ok (.iload_n 1, 1) := by decide +kernel
theorem dX10_scale_2 : decode cX10_scale 2 = .ok (.invokevirtual 125, 3) := by decide +kernel
theorem dX10_scale_5 : decode cX10_scale 5 = .ok (.ifCond .ne 9, 3) := by decide +kernel
theorem dX10_scale_8 : decode cX10_scale 8 = .ok (.aload_n 0, 1) := by decide +kernel
theorem dX10_scale_9 : decode cX10_scale 9 = .ok (.iconst (-1), 1) := by decide +kernel
theorem dX10_scale_10 : decode cX10_scale 10 = .ok (.invokevirtual 274, 3) := by decide +kernel
theorem dX10_scale_13 : decode cX10_scale 13 = .ok (.ireturn, 1) := by decide +kernel
theorem dX10_scale_14 : decode cX10_scale 14 = .ok (.aload_n 0, 1) := by decide +kernel
theorem dX10_scale_15 : decode cX10_scale 15 = .ok (.iload_n 2, 1) := by decide +kernel
theorem dX10_scale_16 : decode cX10_scale 16 = .ok (.invokevirtual 155, 3) := by decide +kernel
theorem dX10_scale_19 : decode cX10_scale 19 = .ok (.ifCond .eq 15, 3) := by decide +kernel
theorem dX10_scale_22 : decode cX10_scale 22 = .ok (.iload_n 3, 1) := by decide +kernel
theorem dX10_scale_23 : decode cX10_scale 23 = .ok (.iconst 1, 1) := by decide +kernel
theorem dX10_scale_24 : decode cX10_scale 24 = .ok (.if_icmp .lt 10, 3) := by decide +kernel
theorem dX10_scale_27 : decode cX10_scale 27 = .ok (.iload_n 3, 1) := by decide +kernel
theorem dX10_scale_28 : decode cX10_scale 28 = .ok (.sipush 9999, 3) := by decide +kernel
theorem dX10_scale_31 : decode cX10_scale 31 = .ok (.if_icmp .le 10, 3) := by decide +kernel
theorem dX10_scale_34 : decode cX10_scale 34 = .ok (.aload_n 0, 1) := by decide +kernel
theorem dX10_scale_35 : decode cX10_scale 35 = .ok (.bipush (-6), 2) := by decide +kernel
theorem dX10_scale_37 : decode cX10_scale 37 = .ok (.invokevirtual 274, 3) := by decide +kernel
theorem dX10_scale_40 : decode cX10_scale 40 = .ok (.ireturn, 1) := by decide +kernel
theorem dX10_scale_41 : decode cX10_scale 41 = .ok (.aload_n 0, 1) := by decide +kernel
theorem dX10_scale_42 : decode cX10_scale 42 = .ok (.iload_n 1, 1) := by decide +kernel
theorem dX10_scale_43 : decode cX10_scale 43 = .ok (.iload_n 2, 1) := by decide +kernel
theorem dX10_scale_44 : decode cX10_scale 44 = .ok (.invokevirtual 232, 3) := by decide +kernel
theorem dX10_scale_47 : decode cX10_scale 47 = .ok (.sipush 1000, 3) := by decide +kernel
theorem dX10_scale_50 : decode cX10_scale 50 = .ok (.imul, 1) := by decide +kernel
theorem dX10_scale_51 : decode cX10_scale 51 = .ok (.iload_n 3, 1) := by decide +kernel
theorem dX10_scale_52 : decode cX10_scale 52 = .ok (.idiv, 1) := by decide +kernel
theorem dX10_scale_53 : decode cX10_scale 53 = .ok (.istore 4, 2) := by decide +kernel
theorem dX10_scale_55 : decode cX10_scale 55 = .ok (.iconst (-1), 1) := by decide +kernel
theorem dX10_scale_56 : decode cX10_scale 56 = .ok (.istore 5, 2) := by decide +kernel
theorem dX10_scale_58 : decode cX10_scale 58 = .ok (.iconst 0, 1) := by decide +kernel
theorem dX10_scale_59 : decode cX10_scale 59 = .ok (.istore 6, 2) := by decide +kernel
theorem dX10_scale_61 : decode cX10_scale 61 = .ok (.iload 4, 2) := by decide +kernel
theorem dX10_scale_63 : decode cX10_scale 63 = .ok (.ifCond .ne 5, 3) := by decide +kernel
theorem dX10_scale_66 : decode cX10_scale 66 = .ok (.iconst (-1), 1) := by decide +kernel
theorem dX10_scale_67 : decode cX10_scale 67 = .ok (.ireturn, 1) := by decide +kernel
theorem dX10_scale_68 : decode cX10_scale 68 = .ok (.iload 4, 2) := by decide +kernel
theorem dX10_scale_70 : decode cX10_scale 70 = .ok (.sipush 1999, 3) := by decide +kernel
theorem dX10_scale_73 : decode cX10_scale 73 = .ok (.if_icmp .le 12, 3) := by decide +kernel
theorem dX10_scale_76 : decode cX10_scale 76 = .ok (.iload 4, 2) := by decide +kernel
theorem dX10_scale_78 : decode cX10_scale 78 = .ok (.iconst 2, 1) := by decide +kernel
theorem dX10_scale_79 : decode cX10_scale 79 = .ok (.idiv, 1) := by decide +kernel
theorem dX10_scale_80 : decode cX10_scale 80 = .ok (.istore 4, 2) := by decide +kernel
theorem dX10_scale_82 : decode cX10_scale 82 = .ok (.goto (-14), 3) := by decide +kernel
theorem dX10_scale_85 : decode cX10_scale 85 = .ok (.iload 4, 2) := by decide +kernel
theorem dX10_scale_87 : decode cX10_scale 87 = .ok (.sipush 1000, 3) := by decide +kernel
theorem dX10_scale_90 : decode cX10_scale 90 = .ok (.if_icmp .ge 12, 3) := by decide +kernel
theorem dX10_scale_93 : decode cX10_scale 93 = .ok (.iload 4, 2) := by decide +kernel
theorem dX10_scale_95 : decode cX10_scale 95 = .ok (.iconst 2, 1) := by decide +kernel
theorem dX10_scale_96 : decode cX10_scale 96 = .ok (.imul, 1) := by decide +kernel
theorem dX10_scale_97 : decode cX10_scale 97 = .ok (.istore 4, 2) := by decide +kernel
theorem dX10_scale_99 : decode cX10_scale 99 = .ok (.goto (-14), 3) := by decide +kernel
theorem dX10_scale_102 : decode cX10_scale 102 = .ok (.iconst 0, 1) := by decide +kernel
theorem dX10_scale_103 : decode cX10_scale 103 = .ok (.istore 7, 2) := by decide +kernel
theorem dX10_scale_105 : decode cX10_scale 105 = .ok (.iload 7, 2) := by decide +kernel
theorem dX10_scale_107 : decode cX10_scale 107 = .ok (.bipush 12, 2) := by decide +kernel
theorem dX10_scale_109 : decode cX10_scale 109 = .ok (.if_icmp .ge 60, 3) := by decide +kernel
theorem dX10_scale_112 : decode cX10_scale 112 = .ok (.aload_n 0, 1) := by decide +kernel
theorem dX10_scale_113 : decode cX10_scale 113 = .ok (.getfield 32, 3) := by decide +kernel
theorem dX10_scale_116 : decode cX10_scale 116 = .ok (.iload 7, 2) := by decide +kernel
theorem dX10_scale_118 : decode cX10_scale 118 = .ok (.iaload, 1) := by decide +kernel
theorem dX10_scale_119 : decode cX10_scale 119 = .ok (.iload 4, 2) := by decide +kernel
theorem dX10_scale_121 : decode cX10_scale 121 = .ok (.isub, 1) := by decide +kernel
theorem dX10_scale_122 : decode cX10_scale 122 = .ok (.istore 8, 2) := by decide +kernel
theorem dX10_scale_124 : decode cX10_scale 124 = .ok (.iload 8, 2) := by decide +kernel
theorem dX10_scale_126 : decode cX10_scale 126 = .ok (.ifCond .ge 9, 3) := by decide +kernel
theorem dX10_scale_129 : decode cX10_scale 129 = .ok (.iload 8, 2) := by decide +kernel
theorem dX10_scale_131 : decode cX10_scale 131 = .ok (.ineg, 1) := by decide +kernel
theorem dX10_scale_132 : decode cX10_scale 132 = .ok (.goto 5, 3) := by decide +kernel
theorem dX10_scale_135 : decode cX10_scale 135 = .ok (.iload 8, 2) := by decide +kernel
theorem dX10_scale_137 : decode cX10_scale 137 = .ok (.istore 8, 2) := by decide +kernel
theorem dX10_scale_139 : decode cX10_scale 139 = .ok (.iload 5, 2) := by decide +kernel
theorem dX10_scale_141 : decode cX10_scale 141 = .ok (.iconst (-1), 1) := by decide +kernel
theorem dX10_scale_142 : decode cX10_scale 142 = .ok (.if_icmp .eq 13, 3) := by decide +kernel
theorem dX10_scale_145 : decode cX10_scale 145 = .ok (.iload 8, 2) := by decide +kernel
theorem dX10_scale_147 : decode cX10_scale 147 = .ok (.iload 6, 2) := by decide +kernel
theorem dX10_scale_149 : decode cX10_scale 149 = .ok (.if_icmp .lt 6, 3) := by decide +kernel
theorem dX10_scale_152 : decode cX10_scale 152 = .ok (.goto 11, 3) := by decide +kernel
theorem dX10_scale_155 : decode cX10_scale 155 = .ok (.iload 7, 2) := by decide +kernel
theorem dX10_scale_157 : decode cX10_scale 157 = .ok (.istore 5, 2) := by decide +kernel
theorem dX10_scale_159 : decode cX10_scale 159 = .ok (.iload 8, 2) := by decide +kernel
theorem dX10_scale_161 : decode cX10_scale 161 = .ok (.istore 6, 2) := by decide +kernel
theorem dX10_scale_163 : decode cX10_scale 163 = .ok (.iinc 7 1, 3) := by decide +kernel
theorem dX10_scale_166 : decode cX10_scale 166 = .ok (.goto (-61), 3) := by decide +kernel
theorem dX10_scale_169 : decode cX10_scale 169 = .ok (.iload 5, 2) := by decide +kernel
theorem dX10_scale_171 : decode cX10_scale 171 = .ok (.ireturn, 1) := by decide +kernel
theorem dX10_read_0 : decode cX10_read 0 = .ok (.aload_n 0, 1) := by decide +kernel
theorem dX10_read_1 : decode cX10_read 1 = .ok (.iload_n 1, 1) := by decide +kernel
theorem dX10_read_2 : decode cX10_read 2 = .ok (.invokevirtual 165, 3) := by decide +kernel
theorem dX10_read_5 : decode cX10_read 5 = .ok (.ifCond .ne 9, 3) := by decide +kernel
theorem dX10_read_8 : decode cX10_read 8 = .ok (.aload_n 0, 1) := by decide +kernel
theorem dX10_read_9 : decode cX10_read 9 = .ok (.iconst (-1), 1) := by decide +kernel
theorem dX10_read_10 : decode cX10_read 10 = .ok (.invokevirtual 121, 3) := by decide +kernel
theorem dX10_read_13 : decode cX10_read 13 = .ok (.ireturn, 1) := by decide +kernel
theorem dX10_read_14 : decode cX10_read 14 = .ok (.aload_n 0, 1) := by decide +kernel
theorem dX10_read_15 : decode cX10_read 15 = .ok (.getfield 114, 3) := by decide +kernel
theorem dX10_read_18 : decode cX10_read 18 = .ok (.ifCond .ne 10, 3) := by decide +kernel
theorem dX10_read_21 : decode cX10_read 21 = .ok (.aload_n 0, 1) := by decide +kernel
theorem dX10_read_22 : decode cX10_read 22 = .ok (.bipush (-5), 2) := by decide +kernel
theorem dX10_read_24 : decode cX10_read 24 = .ok (.invokevirtual 121, 3) := by decide +kernel
theorem dX10_read_27 : decode cX10_read 27 = .ok (.ireturn, 1) := by decide +kernel
theorem dX10_read_28 : decode cX10_read 28 = .ok (.iconst 0, 1) := by decide +kernel
theorem dX10_read_29 : decode cX10_read 29 = .ok (.istore_n 2, 1) := by decide +kernel
theorem dX10_read_30 : decode cX10_read 30 = .ok (.aload_n 0, 1) := by decide +kernel
theorem dX10_read_31 : decode cX10_read 31 = .ok (.iload_n 1, 1) := by decide +kernel
theorem dX10_read_32 : decode cX10_read 32 = .ok (.iconst 0, 1) := by decide +kernel
theorem dX10_read_33 : decode cX10_read 33 = .ok (.invokevirtual 248, 3) := by decide +kernel
theorem dX10_read_36 : decode cX10_read 36 = .ok (.istore_n 3, 1) := by decide +kernel
theorem dX10_read_37 : decode cX10_read 37 = .ok (.iconst 1, 1) := by decide +kernel
theorem dX10_read_38 : decode cX10_read 38 = .ok (.istore 4, 2) := by decide +kernel
theorem dX10_read_40 : decode cX10_read 40 = .ok (.iload 4, 2) := by decide +kernel
theorem dX10_read_42 : decode cX10_read 42 = .ok (.aload_n 0, 1) := by decide +kernel
theorem dX10_read_43 : decode cX10_read 43 = .ok (.getfield 114, 3) := by decide +kernel
theorem dX10_read_46 : decode cX10_read 46 = .ok (.if_icmp .ge 33, 3) := by decide +kernel
theorem dX10_read_49 : decode cX10_read 49 = .ok (.aload_n 0, 1) := by decide +kernel
theorem dX10_read_50 : decode cX10_read 50 = .ok (.iload_n 1, 1) := by decide +kernel
theorem dX10_read_51 : decode cX10_read 51 = .ok (.iload 4, 2) := by decide +kernel
theorem dX10_read_53 : decode cX10_read 53 = .ok (.invokevirtual 248, 3) := by decide +kernel
theorem dX10_read_56 : decode cX10_read 56 = .ok (.istore 5, 2) := by decide +kernel
theorem dX10_read_58 : decode cX10_read 58 = .ok (.iload 5, 2) := by decide +kernel
theorem dX10_read_60 : decode cX10_read 60 = .ok (.iload_n 3, 1) := by decide +kernel
theorem dX10_read_61 : decode cX10_read 61 = .ok (.if_icmp .lt 6, 3) := by decide +kernel
theorem dX10_read_64 : decode cX10_read 64 = .ok (.goto 9, 3) := by decide +kernel
theorem dX10_read_67 : decode cX10_read 67 = .ok (.iload 4, 2) := by decide +kernel
theorem dX10_read_69 : decode cX10_read 69 = .ok (.istore_n 2, 1) := by decide +kernel
theorem dX10_read_70 : decode cX10_read 70 = .ok (.iload 5, 2) := by decide +kernel
theorem dX10_read_72 : decode cX10_read 72 = .ok (.istore_n 3, 1) := by decide +kernel
theorem dX10_read_73 : decode cX10_read 73 = .ok (.iinc 4 1, 3) := by decide +kernel
theorem dX10_read_76 : decode cX10_read 76 = .ok (.goto (-36), 3) := by decide +kernel
theorem dX10_read_79 : decode cX10_read 79 = .ok (.iload_n 2, 1) := by decide +kernel
theorem dX10_read_80 : decode cX10_read 80 = .ok (.ireturn, 1) := by decide +kernel
theorem dX10_mirror_0 : decode cX10_mirror 0 = .ok (.iconst 0, 1) := by decide +kernel
theorem dX10_mirror_1 : decode cX10_mirror 1 = .ok (.istore_n 1, 1) := by decide +kernel
theorem dX10_mirror_2 : decode cX10_mirror 2 = .ok (.iconst 0, 1) := by decide +kernel
theorem dX10_mirror_3 : decode cX10_mirror 3 = .ok (.istore_n 2, 1) := by decide +kernel
theorem dX10_mirror_4 : decode cX10_mirror 4 = .ok (.iload_n 2, 1) := by decide +kernel
theorem dX10_mirror_5 : decode cX10_mirror 5 = .ok (.aload_n 0, 1) := by decide +kernel
theorem dX10_mirror_6 : decode cX10_mirror 6 = .ok (.getfield 108, 3) := by decide +kernel
theorem dX10_mirror_9 : decode cX10_mirror 9 = .ok (.iconst 2, 1) := by decide +kernel
theorem dX10_mirror_10 : decode cX10_mirror 10 = .ok (.idiv, 1) := by decide +kernel
theorem dX10_mirror_11 : decode cX10_mirror 11 = .ok (.if_icmp .ge 36, 3) := by decide +kernel
theorem dX10_mirror_14 : decode cX10_mirror 14 = .ok (.aload_n 0, 1) := by decide +kernel
theorem dX10_mirror_15 : decode cX10_mirror 15 = .ok (.iload_n 2, 1) := by decide +kernel
theorem dX10_mirror_16 : decode cX10_mirror 16 = .ok (.bipush 10, 2) := by decide +kernel
theorem dX10_mirror_18 : decode cX10_mirror 18 = .ok (.invokevirtual 232, 3) := by decide +kernel
theorem dX10_mirror_21 : decode cX10_mirror 21 = .ok (.aload_n 0, 1) := by decide +kernel
theorem dX10_mirror_22 : decode cX10_mirror 22 = .ok (.aload_n 0, 1) := by decide +kernel
theorem dX10_mirror_23 : decode cX10_mirror 23 = .ok (.getfield 108, 3) := by decide +kernel
theorem dX10_mirror_26 : decode cX10_mirror 26 = .ok (.iconst 1, 1) := by decide +kernel
theorem dX10_mirror_27 : decode cX10_mirror 27 = .ok (.isub, 1) := by decide +kernel
theorem dX10_mirror_28 : decode cX10_mirror 28 = .ok (.iload_n 2, 1) := by decide +kernel
theorem dX10_mirror_29 : decode cX10_mirror 29 = .ok (.isub, 1) := by decide +kernel
theorem dX10_mirror_30 : decode cX10_mirror 30 = .ok (.bipush 10, 2) := by decide +kernel
theorem dX10_mirror_32 : decode cX10_mirror 32 = .ok (.invokevirtual 232, 3) := by decide +kernel
theorem dX10_mirror_35 : decode cX10_mirror 35 = .ok (.if_icmp .eq 6, 3) := by decide +kernel
theorem dX10_mirror_38 : decode cX10_mirror 38 = .ok (.iinc 1 1, 3) := by decide +kernel
theorem dX10_mirror_41 : decode cX10_mirror 41 = .ok (.iinc 2 1, 3) := by decide +kernel
theorem dX10_mirror_44 : decode cX10_mirror 44 = .ok (.goto (-40), 3) := by decide +kernel
theorem dX10_mirror_47 : decode cX10_mirror 47 = .ok (.iload_n 1, 1) := by decide +kernel
theorem dX10_mirror_48 : decode cX10_mirror 48 = .ok (.ireturn, 1) := by decide +kernel
theorem dX10_warns_0 : decode cX10_warns 0 = .ok (.iload_n 1, 1) := by decide +kernel
theorem dX10_warns_1 : decode cX10_warns 1 = .ok (.ifCond .lt 9, 3) := by decide +kernel
theorem dX10_warns_4 : decode cX10_warns 4 = .ok (.iload_n 1, 1) := by decide +kernel
theorem dX10_warns_5 : decode cX10_warns 5 = .ok (.ldc 241, 2) := by decide +kernel
theorem dX10_warns_7 : decode cX10_warns 7 = .ok (.if_icmp .le 10, 3) := by decide +kernel
theorem dX10_warns_10 : decode cX10_warns 10 = .ok (.aload_n 0, 1) := by decide +kernel
theorem dX10_warns_11 : decode cX10_warns 11 = .ok (.bipush (-6), 2) := by decide +kernel
theorem dX10_warns_13 : decode cX10_warns 13 = .ok (.invokevirtual 274, 3) := by decide +kernel
theorem dX10_warns_16 : decode cX10_warns 16 = .ok (.ireturn, 1) := by decide +kernel
theorem dX10_warns_17 : decode cX10_warns 17 = .ok (.iconst 1, 1) := by decide +kernel
theorem dX10_warns_18 : decode cX10_warns 18 = .ok (.istore_n 2, 1) := by decide +kernel
theorem dX10_warns_19 : decode cX10_warns 19 = .ok (.iload_n 2, 1) := by decide +kernel
theorem dX10_warns_20 : decode cX10_warns 20 = .ok (.bipush 100, 2) := by decide +kernel
theorem dX10_warns_22 : decode cX10_warns 22 = .ok (.if_icmp .ge 37, 3) := by decide +kernel
theorem dX10_warns_25 : decode cX10_warns 25 = .ok (.iconst 0, 1) := by decide +kernel
theorem dX10_warns_26 : decode cX10_warns 26 = .ok (.istore_n 3, 1) := by decide +kernel
theorem dX10_warns_27 : decode cX10_warns 27 = .ok (.iload_n 3, 1) := by decide +kernel
theorem dX10_warns_28 : decode cX10_warns 28 = .ok (.aload_n 0, 1) := by decide +kernel
theorem dX10_warns_29 : decode cX10_warns 29 = .ok (.getfield 108, 3) := by decide +kernel
theorem dX10_warns_32 : decode cX10_warns 32 = .ok (.if_icmp .ge 21, 3) := by decide +kernel
theorem dX10_warns_35 : decode cX10_warns 35 = .ok (.aload_n 0, 1) := by decide +kernel
theorem dX10_warns_36 : decode cX10_warns 36 = .ok (.iload_n 3, 1) := by decide +kernel
theorem dX10_warns_37 : decode cX10_warns 37 = .ok (.iload_n 2, 1) := by decide +kernel
theorem dX10_warns_38 : decode cX10_warns 38 = .ok (.invokevirtual 232, 3) := by decide +kernel
theorem dX10_warns_41 : decode cX10_warns 41 = .ok (.iload_n 1, 1) := by decide +kernel
theorem dX10_warns_42 : decode cX10_warns 42 = .ok (.if_icmp .lt 5, 3) := by decide +kernel
theorem dX10_warns_45 : decode cX10_warns 45 = .ok (.iload_n 2, 1) := by decide +kernel
theorem dX10_warns_46 : decode cX10_warns 46 = .ok (.ireturn, 1) := by decide +kernel
theorem dX10_warns_47 : decode cX10_warns 47 = .ok (.iinc 3 1, 3) := by decide +kernel
theorem dX10_warns_50 : decode cX10_warns 50 = .ok (.goto (-23), 3) := by decide +kernel
theorem dX10_warns_53 : decode cX10_warns 53 = .ok (.iinc 2 1, 3) := by decide +kernel
theorem dX10_warns_56 : decode cX10_warns 56 = .ok (.goto (-37), 3) := by decide +kernel
theorem dX10_warns_59 : decode cX10_warns 59 = .ok (.iconst (-1), 1) := by decide +kernel
theorem dX10_warns_60 : decode cX10_warns 60 = .ok (.ireturn, 1) := by decide +kernel
theorem dX10_worn_0 : decode cX10_worn 0 = .ok (.iconst 0, 1) := by decide +kernel
theorem dX10_worn_1 : decode cX10_worn 1 = .ok (.istore_n 1, 1) := by decide +kernel
theorem dX10_worn_2 : decode cX10_worn 2 = .ok (.iload_n 1, 1) := by decide +kernel
theorem dX10_worn_3 : decode cX10_worn 3 = .ok (.bipush 50, 2) := by decide +kernel
theorem dX10_worn_5 : decode cX10_worn 5 = .ok (.if_icmp .gt 52, 3) := by decide +kernel
theorem dX10_worn_8 : decode cX10_worn 8 = .ok (.iconst 0, 1) := by decide +kernel
theorem dX10_worn_9 : decode cX10_worn 9 = .ok (.istore_n 2, 1) := by decide +kernel
theorem dX10_worn_10 : decode cX10_worn 10 = .ok (.iconst 0, 1) := by decide +kernel
theorem dX10_worn_11 : decode cX10_worn 11 = .ok (.istore_n 3, 1) := by decide +kernel
theorem dX10_worn_12 : decode cX10_worn 12 = .ok (.iload_n 3, 1) := by decide +kernel
theorem dX10_worn_13 : decode cX10_worn 13 = .ok (.aload_n 0, 1) := by decide +kernel
theorem dX10_worn_14 : decode cX10_worn 14 = .ok (.getfield 108, 3) := by decide +kernel
theorem dX10_worn_17 : decode cX10_worn 17 = .ok (.if_icmp .ge 28, 3) := by decide +kernel
theorem dX10_worn_20 : decode cX10_worn 20 = .ok (.iload_n 2, 1) := by decide +kernel
theorem dX10_worn_21 : decode cX10_worn 21 = .ok (.ifCond .ne 12, 3) := by decide +kernel
theorem dX10_worn_24 : decode cX10_worn 24 = .ok (.aload_n 0, 1) := by decide +kernel
theorem dX10_worn_25 : decode cX10_worn 25 = .ok (.iload_n 3, 1) := by decide +kernel
theorem dX10_worn_26 : decode cX10_worn 26 = .ok (.iload_n 1, 1) := by decide +kernel
theorem dX10_worn_27 : decode cX10_worn 27 = .ok (.invokevirtual 238, 3) := by decide +kernel
theorem dX10_worn_30 : decode cX10_worn 30 = .ok (.ifCond .le 7, 3) := by decide +kernel
theorem dX10_worn_33 : decode cX10_worn 33 = .ok (.iconst 1, 1) := by decide +kernel
theorem dX10_worn_34 : decode cX10_worn 34 = .ok (.goto 4, 3) := by decide +kernel
theorem dX10_worn_37 : decode cX10_worn 37 = .ok (.iconst 0, 1) := by decide +kernel
theorem dX10_worn_38 : decode cX10_worn 38 = .ok (.istore_n 2, 1) := by decide +kernel
theorem dX10_worn_39 : decode cX10_worn 39 = .ok (.iinc 3 1, 3) := by decide +kernel
theorem dX10_worn_42 : decode cX10_worn 42 = .ok (.goto (-30), 3) := by decide +kernel
theorem dX10_worn_45 : decode cX10_worn 45 = .ok (.iload_n 2, 1) := by decide +kernel
theorem dX10_worn_46 : decode cX10_worn 46 = .ok (.ifCond .ne 5, 3) := by decide +kernel
theorem dX10_worn_49 : decode cX10_worn 49 = .ok (.iload_n 1, 1) := by decide +kernel
theorem dX10_worn_50 : decode cX10_worn 50 = .ok (.ireturn, 1) := by decide +kernel
theorem dX10_worn_51 : decode cX10_worn 51 = .ok (.iinc 1 1, 3) := by decide +kernel
theorem dX10_worn_54 : decode cX10_worn 54 = .ok (.goto (-52), 3) := by decide +kernel
theorem dX10_worn_57 : decode cX10_worn 57 = .ok (.iconst (-1), 1) := by decide +kernel
theorem dX10_worn_58 : decode cX10_worn 58 = .ok (.ireturn, 1) := by decide +kernel
theorem dX10_draw_0 : decode cX10_draw 0 = .ok (.aload_n 0, 1) := by decide +kernel
theorem dX10_draw_1 : decode cX10_draw 1 = .ok (.aload_n 0, 1) := by decide +kernel
theorem dX10_draw_2 : decode cX10_draw 2 = .ok (.getfield 22, 3) := by decide +kernel
theorem dX10_draw_5 : decode cX10_draw 5 = .ok (.ldc_w 277, 3) := by decide +kernel
theorem dX10_draw_8 : decode cX10_draw 8 = .ok (.imul, 1) := by decide +kernel
theorem dX10_draw_9 : decode cX10_draw 9 = .ok (.sipush 12345, 3) := by decide +kernel
theorem dX10_draw_12 : decode cX10_draw 12 = .ok (.iadd, 1) := by decide +kernel
theorem dX10_draw_13 : decode cX10_draw 13 = .ok (.putfield 22, 3) := by decide +kernel
theorem dX10_draw_16 : decode cX10_draw 16 = .ok (.aload_n 0, 1) := by decide +kernel
theorem dX10_draw_17 : decode cX10_draw 17 = .ok (.getfield 22, 3) := by decide +kernel
theorem dX10_draw_20 : decode cX10_draw 20 = .ok (.bipush 16, 2) := by decide +kernel
theorem dX10_draw_22 : decode cX10_draw 22 = .ok (.iushr, 1) := by decide +kernel
theorem dX10_draw_23 : decode cX10_draw 23 = .ok (.iload_n 1, 1) := by decide +kernel
theorem dX10_draw_24 : decode cX10_draw 24 = .ok (.irem, 1) := by decide +kernel
theorem dX10_draw_25 : decode cX10_draw 25 = .ok (.ireturn, 1) := by decide +kernel
theorem dX10_day_0 : decode cX10_day 0 = .ok (.aload_n 0, 1) := by decide +kernel
theorem dX10_day_1 : decode cX10_day 1 = .ok (.iload_n 1, 1) := by decide +kernel
theorem dX10_day_2 : decode cX10_day 2 = .ok (.invokevirtual 168, 3) := by decide +kernel
theorem dX10_day_5 : decode cX10_day 5 = .ok (.ifCond .ne 9, 3) := by decide +kernel
theorem dX10_day_8 : decode cX10_day 8 = .ok (.aload_n 0, 1) := by decide +kernel
theorem dX10_day_9 : decode cX10_day 9 = .ok (.iconst (-1), 1) := by decide +kernel
theorem dX10_day_10 : decode cX10_day 10 = .ok (.invokevirtual 121, 3) := by decide +kernel
theorem dX10_day_13 : decode cX10_day 13 = .ok (.ireturn, 1) := by decide +kernel
theorem dX10_day_14 : decode cX10_day 14 = .ok (.iload_n 2, 1) := by decide +kernel
theorem dX10_day_15 : decode cX10_day 15 = .ok (.iconst 1, 1) := by decide +kernel
theorem dX10_day_16 : decode cX10_day 16 = .ok (.if_icmp .lt 10, 3) := by decide +kernel
theorem dX10_day_19 : decode cX10_day 19 = .ok (.iload_n 2, 1) := by decide +kernel
theorem dX10_day_20 : decode cX10_day 20 = .ok (.sipush 200, 3) := by decide +kernel
theorem dX10_day_23 : decode cX10_day 23 = .ok (.if_icmp .le 10, 3) := by decide +kernel
theorem dX10_day_26 : decode cX10_day 26 = .ok (.aload_n 0, 1) := by decide +kernel
theorem dX10_day_27 : decode cX10_day 27 = .ok (.bipush (-6), 2) := by decide +kernel
theorem dX10_day_29 : decode cX10_day 29 = .ok (.invokevirtual 121, 3) := by decide +kernel
theorem dX10_day_32 : decode cX10_day 32 = .ok (.ireturn, 1) := by decide +kernel
theorem dX10_day_33 : decode cX10_day 33 = .ok (.iconst 0, 1) := by decide +kernel
theorem dX10_day_34 : decode cX10_day 34 = .ok (.istore_n 3, 1) := by decide +kernel
theorem dX10_day_35 : decode cX10_day 35 = .ok (.iconst 0, 1) := by decide +kernel
theorem dX10_day_36 : decode cX10_day 36 = .ok (.istore 4, 2) := by decide +kernel
theorem dX10_day_38 : decode cX10_day 38 = .ok (.iload 4, 2) := by decide +kernel
theorem dX10_day_40 : decode cX10_day 40 = .ok (.iload_n 2, 1) := by decide +kernel
theorem dX10_day_41 : decode cX10_day 41 = .ok (.if_icmp .ge 85, 3) := by decide +kernel
theorem dX10_day_44 : decode cX10_day 44 = .ok (.aload_n 0, 1) := by decide +kernel
theorem dX10_day_45 : decode cX10_day 45 = .ok (.bipush 100, 2) := by decide +kernel
theorem dX10_day_47 : decode cX10_day 47 = .ok (.invokevirtual 278, 3) := by decide +kernel
theorem dX10_day_50 : decode cX10_day 50 = .ok (.istore 5, 2) := by decide +kernel
theorem dX10_day_52 : decode cX10_day 52 = .ok (.iconst 0, 1) := by decide +kernel
theorem dX10_day_53 : decode cX10_day 53 = .ok (.istore 6, 2) := by decide +kernel
theorem dX10_day_55 : decode cX10_day 55 = .ok (.iload 6, 2) := by decide +kernel
theorem dX10_day_57 : decode cX10_day 57 = .ok (.aload_n 0, 1) := by decide +kernel
theorem dX10_day_58 : decode cX10_day 58 = .ok (.getfield 111, 3) := by decide +kernel
theorem dX10_day_61 : decode cX10_day 61 = .ok (.if_icmp .ge 33, 3) := by decide +kernel
theorem dX10_day_64 : decode cX10_day 64 = .ok (.iload 5, 2) := by decide +kernel
theorem dX10_day_66 : decode cX10_day 66 = .ok (.aload_n 0, 1) := by decide +kernel
theorem dX10_day_67 : decode cX10_day 67 = .ok (.getfield 53, 3) := by decide +kernel
theorem dX10_day_70 : decode cX10_day 70 = .ok (.iload 6, 2) := by decide +kernel
theorem dX10_day_72 : decode cX10_day 72 = .ok (.iaload, 1) := by decide +kernel
theorem dX10_day_73 : decode cX10_day 73 = .ok (.if_icmp .lt 21, 3) := by decide +kernel
theorem dX10_day_76 : decode cX10_day 76 = .ok (.iload 5, 2) := by decide +kernel
theorem dX10_day_78 : decode cX10_day 78 = .ok (.aload_n 0, 1) := by decide +kernel
theorem dX10_day_79 : decode cX10_day 79 = .ok (.getfield 53, 3) := by decide +kernel
theorem dX10_day_82 : decode cX10_day 82 = .ok (.iload 6, 2) := by decide +kernel
theorem dX10_day_84 : decode cX10_day 84 = .ok (.iaload, 1) := by decide +kernel
theorem dX10_day_85 : decode cX10_day 85 = .ok (.isub, 1) := by decide +kernel
theorem dX10_day_86 : decode cX10_day 86 = .ok (.istore 5, 2) := by decide +kernel
theorem dX10_day_88 : decode cX10_day 88 = .ok (.iinc 6 1, 3) := by decide +kernel
theorem dX10_day_91 : decode cX10_day 91 = .ok (.goto (-36), 3) := by decide +kernel
theorem dX10_day_94 : decode cX10_day 94 = .ok (.iload 6, 2) := by decide +kernel
theorem dX10_day_96 : decode cX10_day 96 = .ok (.aload_n 0, 1) := by decide +kernel
theorem dX10_day_97 : decode cX10_day 97 = .ok (.getfield 111, 3) := by decide +kernel
theorem dX10_day_100 : decode cX10_day 100 = .ok (.if_icmp .ge 20, 3) := by decide +kernel
theorem dX10_day_103 : decode cX10_day 103 = .ok (.aload_n 0, 1) := by decide +kernel
theorem dX10_day_104 : decode cX10_day 104 = .ok (.iload 6, 2) := by decide +kernel
theorem dX10_day_106 : decode cX10_day 106 = .ok (.iload_n 1, 1) := by decide +kernel
theorem dX10_day_107 : decode cX10_day 107 = .ok (.invokevirtual 248, 3) := by decide +kernel
theorem dX10_day_110 : decode cX10_day 110 = .ok (.aload_n 0, 1) := by decide +kernel
theorem dX10_day_111 : decode cX10_day 111 = .ok (.getfield 16, 3) := by decide +kernel
theorem dX10_day_114 : decode cX10_day 114 = .ok (.if_icmp .gt 6, 3) := by decide +kernel
theorem dX10_day_117 : decode cX10_day 117 = .ok (.iinc 3 1, 3) := by decide +kernel
theorem dX10_day_120 : decode cX10_day 120 = .ok (.iinc 4 1, 3) := by decide +kernel
theorem dX10_day_123 : decode cX10_day 123 = .ok (.goto (-85), 3) := by decide +kernel
theorem dX10_day_126 : decode cX10_day 126 = .ok (.iload_n 3, 1) := by decide +kernel
theorem dX10_day_127 : decode cX10_day 127 = .ok (.ireturn, 1) := by decide +kernel
theorem dX10_seed_0 : decode cX10_seed 0 = .ok (.aload_n 0, 1) := by decide +kernel
theorem dX10_seed_1 : decode cX10_seed 1 = .ok (.getfield 22, 3) := by decide +kernel
theorem dX10_seed_4 : decode cX10_seed 4 = .ok (.istore_n 2, 1) := by decide +kernel
theorem dX10_seed_5 : decode cX10_seed 5 = .ok (.aload_n 0, 1) := by decide +kernel
theorem dX10_seed_6 : decode cX10_seed 6 = .ok (.iload_n 1, 1) := by decide +kernel
theorem dX10_seed_7 : decode cX10_seed 7 = .ok (.putfield 22, 3) := by decide +kernel
theorem dX10_seed_10 : decode cX10_seed 10 = .ok (.iload_n 2, 1) := by decide +kernel
theorem dX10_seed_11 : decode cX10_seed 11 = .ok (.ireturn, 1) := by decide +kernel
theorem dX10_body_0 : decode cX10_body 0 = .ok (.aload_n 0, 1) := by decide +kernel
theorem dX10_body_1 : decode cX10_body 1 = .ok (.getfield 281, 3) := by decide +kernel
theorem dX10_body_4 : decode cX10_body 4 = .ok (.bipush 20, 2) := by decide +kernel
theorem dX10_body_6 : decode cX10_body 6 = .ok (.if_icmp .ge 13, 3) := by decide +kernel
theorem dX10_body_9 : decode cX10_body 9 = .ok (.aload_n 0, 1) := by decide +kernel
theorem dX10_body_10 : decode cX10_body 10 = .ok (.getfield 105, 3) := by decide +kernel
theorem dX10_body_13 : decode cX10_body 13 = .ok (.aload_n 0, 1) := by decide +kernel
theorem dX10_body_14 : decode cX10_body 14 = .ok (.getfield 281, 3) := by decide +kernel
theorem dX10_body_17 : decode cX10_body 17 = .ok (.iload_n 1, 1) := by decide +kernel
theorem dX10_body_18 : decode cX10_body 18 = .ok (.iastore, 1) := by decide +kernel
theorem dX10_body_19 : decode cX10_body 19 = .ok (.aload_n 0, 1) := by decide +kernel
theorem dX10_body_20 : decode cX10_body 20 = .ok (.dup, 1) := by decide +kernel
theorem dX10_body_21 : decode cX10_body 21 = .ok (.getfield 281, 3) := by decide +kernel
theorem dX10_body_24 : decode cX10_body 24 = .ok (.iconst 1, 1) := by decide +kernel
theorem dX10_body_25 : decode cX10_body 25 = .ok (.iadd, 1) := by decide +kernel
theorem dX10_body_26 : decode cX10_body 26 = .ok (.putfield 281, 3) := by decide +kernel
theorem dX10_body_29 : decode cX10_body 29 = .ok (.return_, 1) := by decide +kernel
theorem dX10_humming_0 : decode cX10_humming 0 = .ok (.aload_n 0, 1) := by decide +kernel
theorem dX10_humming_1 : decode cX10_humming 1 = .ok (.getfield 35, 3) := by decide +kernel
theorem dX10_humming_4 : decode cX10_humming 4 = .ok (.iload_n 1, 1) := by decide +kernel
theorem dX10_humming_5 : decode cX10_humming 5 = .ok (.iaload, 1) := by decide +kernel
theorem dX10_humming_6 : decode cX10_humming 6 = .ok (.istore_n 3, 1) := by decide +kernel
theorem dX10_humming_7 : decode cX10_humming 7 = .ok (.iload_n 3, 1) := by decide +kernel
theorem dX10_humming_8 : decode cX10_humming 8 = .ok (.iconst 5, 1) := by decide +kernel
theorem dX10_humming_9 : decode cX10_humming 9 = .ok (.if_icmp .ne 9, 3) := by decide +kernel
theorem dX10_humming_12 : decode cX10_humming 12 = .ok (.aload_n 0, 1) := by decide +kernel
theorem dX10_humming_13 : decode cX10_humming 13 = .ok (.bipush 41, 2) := by decide +kernel
theorem dX10_humming_15 : decode cX10_humming 15 = .ok (.invokevirtual 284, 3) := by decide +kernel
theorem dX10_humming_18 : decode cX10_humming 18 = .ok (.aload_n 0, 1) := by decide +kernel
theorem dX10_humming_19 : decode cX10_humming 19 = .ok (.iload_n 3, 1) := by decide +kernel
theorem dX10_humming_20 : decode cX10_humming 20 = .ok (.invokevirtual 128, 3) := by decide +kernel
theorem dX10_humming_23 : decode cX10_humming 23 = .ok (.ifCond .eq 9, 3) := by decide +kernel
theorem dX10_humming_26 : decode cX10_humming 26 = .ok (.aload_n 0, 1) := by decide +kernel
theorem dX10_humming_27 : decode cX10_humming 27 = .ok (.bipush 20, 2) := by decide +kernel
theorem dX10_humming_29 : decode cX10_humming 29 = .ok (.invokevirtual 284, 3) := by decide +kernel
theorem dX10_humming_32 : decode cX10_humming 32 = .ok (.iload_n 3, 1) := by decide +kernel
theorem dX10_humming_33 : decode cX10_humming 33 = .ok (.bipush 6, 2) := by decide +kernel
theorem dX10_humming_35 : decode cX10_humming 35 = .ok (.if_icmp .ne 9, 3) := by decide +kernel
theorem dX10_humming_38 : decode cX10_humming 38 = .ok (.aload_n 0, 1) := by decide +kernel
theorem dX10_humming_39 : decode cX10_humming 39 = .ok (.bipush 70, 2) := by decide +kernel
theorem dX10_humming_41 : decode cX10_humming 41 = .ok (.invokevirtual 284, 3) := by decide +kernel
theorem dX10_humming_44 : decode cX10_humming 44 = .ok (.aload_n 0, 1) := by decide +kernel
theorem dX10_humming_45 : decode cX10_humming 45 = .ok (.bipush 10, 2) := by decide +kernel
theorem dX10_humming_47 : decode cX10_humming 47 = .ok (.invokevirtual 284, 3) := by decide +kernel
theorem dX10_humming_50 : decode cX10_humming 50 = .ok (.iload_n 2, 1) := by decide +kernel
theorem dX10_humming_51 : decode cX10_humming 51 = .ok (.iload_n 1, 1) := by decide +kernel
theorem dX10_humming_52 : decode cX10_humming 52 = .ok (.iadd, 1) := by decide +kernel
theorem dX10_humming_53 : decode cX10_humming 53 = .ok (.istore 4, 2) := by decide +kernel
theorem dX10_humming_55 : decode cX10_humming 55 = .ok (.aload_n 0, 1) := by decide +kernel
theorem dX10_humming_56 : decode cX10_humming 56 = .ok (.iload_n 3, 1) := by decide +kernel
theorem dX10_humming_57 : decode cX10_humming 57 = .ok (.invokevirtual 128, 3) := by decide +kernel
theorem dX10_humming_60 : decode cX10_humming 60 = .ok (.ifCond .eq 14, 3) := by decide +kernel
theorem dX10_humming_63 : decode cX10_humming 63 = .ok (.iload 4, 2) := by decide +kernel
theorem dX10_humming_65 : decode cX10_humming 65 = .ok (.aload_n 0, 1) := by decide +kernel
theorem dX10_humming_66 : decode cX10_humming 66 = .ok (.getfield 38, 3) := by decide +kernel
theorem dX10_humming_69 : decode cX10_humming 69 = .ok (.iload_n 1, 1) := by decide +kernel
theorem dX10_humming_70 : decode cX10_humming 70 = .ok (.iaload, 1) := by decide +kernel
theorem dX10_humming_71 : decode cX10_humming 71 = .ok (.iadd, 1) := by decide +kernel
theorem dX10_humming_72 : decode cX10_humming 72 = .ok (.istore 4, 2) := by decide +kernel
theorem dX10_humming_74 : decode cX10_humming 74 = .ok (.iload_n 3, 1) := by decide +kernel
theorem dX10_humming_75 : decode cX10_humming 75 = .ok (.iconst 5, 1) := by decide +kernel
theorem dX10_humming_76 : decode cX10_humming 76 = .ok (.if_icmp .ne 10, 3) := by decide +kernel
theorem dX10_humming_79 : decode cX10_humming 79 = .ok (.iload 4, 2) := by decide +kernel
theorem dX10_humming_81 : decode cX10_humming 81 = .ok (.iload_n 1, 1) := by decide +kernel
theorem dX10_humming_82 : decode cX10_humming 82 = .ok (.isub, 1) := by decide +kernel
theorem dX10_humming_83 : decode cX10_humming 83 = .ok (.goto 18, 3) := by decide +kernel
theorem dX10_humming_86 : decode cX10_humming 86 = .ok (.iload_n 3, 1) := by decide +kernel
theorem dX10_humming_87 : decode cX10_humming 87 = .ok (.bipush 6, 2) := by decide +kernel
theorem dX10_humming_89 : decode cX10_humming 89 = .ok (.if_icmp .ne 10, 3) := by decide +kernel
theorem dX10_humming_92 : decode cX10_humming 92 = .ok (.iload 4, 2) := by decide +kernel
theorem dX10_humming_94 : decode cX10_humming 94 = .ok (.iconst 2, 1) := by decide +kernel
theorem dX10_humming_95 : decode cX10_humming 95 = .ok (.imul, 1) := by decide +kernel
theorem dX10_humming_96 : decode cX10_humming 96 = .ok (.goto 5, 3) := by decide +kernel
theorem dX10_humming_99 : decode cX10_humming 99 = .ok (.iload 4, 2) := by decide +kernel
theorem dX10_humming_101 : decode cX10_humming 101 = .ok (.ireturn, 1) := by decide +kernel
theorem dX10_lasting_0 : decode cX10_lasting 0 = .ok (.aload_n 0, 1) := by decide +kernel
theorem dX10_lasting_1 : decode cX10_lasting 1 = .ok (.getfield 35, 3) := by decide +kernel
theorem dX10_lasting_4 : decode cX10_lasting 4 = .ok (.iload_n 1, 1) := by decide +kernel
theorem dX10_lasting_5 : decode cX10_lasting 5 = .ok (.iaload, 1) := by decide +kernel
theorem dX10_lasting_6 : decode cX10_lasting 6 = .ok (.istore_n 3, 1) := by decide +kernel
theorem dX10_lasting_7 : decode cX10_lasting 7 = .ok (.iload_n 2, 1) := by decide +kernel
theorem dX10_lasting_8 : decode cX10_lasting 8 = .ok (.istore 4, 2) := by decide +kernel
theorem dX10_lasting_10 : decode cX10_lasting 10 = .ok (.iload_n 3, 1) := by decide +kernel
theorem dX10_lasting_11 : decode cX10_lasting 11 = .ok (.iconst 5, 1) := by decide +kernel
theorem dX10_lasting_12 : decode cX10_lasting 12 = .ok (.if_icmp .ne 14, 3) := by decide +kernel
theorem dX10_lasting_15 : decode cX10_lasting 15 = .ok (.aload_n 0, 1) := by decide +kernel
theorem dX10_lasting_16 : decode cX10_lasting 16 = .ok (.bipush 40, 2) := by decide +kernel
theorem dX10_lasting_18 : decode cX10_lasting 18 = .ok (.invokevirtual 284, 3) := by decide +kernel
theorem dX10_lasting_21 : decode cX10_lasting 21 = .ok (.iload_n 2, 1) := by decide +kernel
theorem dX10_lasting_22 : decode cX10_lasting 22 = .ok (.iconst 1, 1) := by decide +kernel
theorem dX10_lasting_23 : decode cX10_lasting 23 = .ok (.iadd, 1) := by decide +kernel
theorem dX10_lasting_24 : decode cX10_lasting 24 = .ok (.istore 4, 2) := by decide +kernel
theorem dX10_lasting_26 : decode cX10_lasting 26 = .ok (.aload_n 0, 1) := by decide +kernel
theorem dX10_lasting_27 : decode cX10_lasting 27 = .ok (.iload_n 3, 1) := by decide +kernel
theorem dX10_lasting_28 : decode cX10_lasting 28 = .ok (.invokevirtual 152, 3) := by decide +kernel
theorem dX10_lasting_31 : decode cX10_lasting 31 = .ok (.ifCond .eq 9, 3) := by decide +kernel
theorem dX10_lasting_34 : decode cX10_lasting 34 = .ok (.aload_n 0, 1) := by decide +kernel
theorem dX10_lasting_35 : decode cX10_lasting 35 = .ok (.bipush 30, 2) := by decide +kernel
theorem dX10_lasting_37 : decode cX10_lasting 37 = .ok (.invokevirtual 284, 3) := by decide +kernel
theorem dX10_lasting_40 : decode cX10_lasting 40 = .ok (.aload_n 0, 1) := by decide +kernel
theorem dX10_lasting_41 : decode cX10_lasting 41 = .ok (.bipush 11, 2) := by decide +kernel
theorem dX10_lasting_43 : decode cX10_lasting 43 = .ok (.invokevirtual 284, 3) := by decide +kernel
theorem dX10_lasting_46 : decode cX10_lasting 46 = .ok (.aload_n 0, 1) := by decide +kernel
theorem dX10_lasting_47 : decode cX10_lasting 47 = .ok (.iload_n 1, 1) := by decide +kernel
theorem dX10_lasting_48 : decode cX10_lasting 48 = .ok (.iload 4, 2) := by decide +kernel
theorem dX10_lasting_50 : decode cX10_lasting 50 = .ok (.invokevirtual 288, 3) := by decide +kernel
theorem dX10_lasting_53 : decode cX10_lasting 53 = .ok (.iconst 2, 1) := by decide +kernel
theorem dX10_lasting_54 : decode cX10_lasting 54 = .ok (.imul, 1) := by decide +kernel
theorem dX10_lasting_55 : decode cX10_lasting 55 = .ok (.istore 5, 2) := by decide +kernel
theorem dX10_lasting_57 : decode cX10_lasting 57 = .ok (.aload_n 0, 1) := by decide +kernel
theorem dX10_lasting_58 : decode cX10_lasting 58 = .ok (.iload_n 3, 1) := by decide +kernel
theorem dX10_lasting_59 : decode cX10_lasting 59 = .ok (.invokevirtual 152, 3) := by decide +kernel
theorem dX10_lasting_62 : decode cX10_lasting 62 = .ok (.ifCond .eq 10, 3) := by decide +kernel
theorem dX10_lasting_65 : decode cX10_lasting 65 = .ok (.iload 5, 2) := by decide +kernel
theorem dX10_lasting_67 : decode cX10_lasting 67 = .ok (.iconst 3, 1) := by decide +kernel
theorem dX10_lasting_68 : decode cX10_lasting 68 = .ok (.imul, 1) := by decide +kernel
theorem dX10_lasting_69 : decode cX10_lasting 69 = .ok (.goto 5, 3) := by decide +kernel
theorem dX10_lasting_72 : decode cX10_lasting 72 = .ok (.iload 5, 2) := by decide +kernel
theorem dX10_lasting_74 : decode cX10_lasting 74 = .ok (.ireturn, 1) := by decide +kernel
theorem dX10_wearing_0 : decode cX10_wearing 0 = .ok (.aload_n 0, 1) := by decide +kernel
theorem dX10_wearing_1 : decode cX10_wearing 1 = .ok (.getfield 35, 3) := by decide +kernel
theorem dX10_wearing_4 : decode cX10_wearing 4 = .ok (.iload_n 1, 1) := by decide +kernel
theorem dX10_wearing_5 : decode cX10_wearing 5 = .ok (.iaload, 1) := by decide +kernel
theorem dX10_wearing_6 : decode cX10_wearing 6 = .ok (.istore_n 3, 1) := by decide +kernel
theorem dX10_wearing_7 : decode cX10_wearing 7 = .ok (.iload_n 2, 1) := by decide +kernel
theorem dX10_wearing_8 : decode cX10_wearing 8 = .ok (.istore 4, 2) := by decide +kernel
theorem dX10_wearing_10 : decode cX10_wearing 10 = .ok (.iload_n 3, 1) := by decide +kernel
theorem dX10_wearing_11 : decode cX10_wearing 11 = .ok (.iconst 4, 1) := by decide +kernel
theorem dX10_wearing_12 : decode cX10_wearing 12 = .ok (.if_icmp .ne 9, 3) := by decide +kernel
theorem dX10_wearing_15 : decode cX10_wearing 15 = .ok (.aload_n 0, 1) := by decide +kernel
theorem dX10_wearing_16 : decode cX10_wearing 16 = .ok (.bipush 50, 2) := by decide +kernel
theorem dX10_wearing_18 : decode cX10_wearing 18 = .ok (.invokevirtual 284, 3) := by decide +kernel
theorem dX10_wearing_21 : decode cX10_wearing 21 = .ok (.iload_n 3, 1) := by decide +kernel
theorem dX10_wearing_22 : decode cX10_wearing 22 = .ok (.iconst 3, 1) := by decide +kernel
theorem dX10_wearing_23 : decode cX10_wearing 23 = .ok (.if_icmp .ne 9, 3) := by decide +kernel
theorem dX10_wearing_26 : decode cX10_wearing 26 = .ok (.aload_n 0, 1) := by decide +kernel
theorem dX10_wearing_27 : decode cX10_wearing 27 = .ok (.bipush 60, 2) := by decide +kernel
theorem dX10_wearing_29 : decode cX10_wearing 29 = .ok (.invokevirtual 284, 3) := by decide +kernel
theorem dX10_wearing_32 : decode cX10_wearing 32 = .ok (.iload_n 3, 1) := by decide +kernel
theorem dX10_wearing_33 : decode cX10_wearing 33 = .ok (.bipush 6, 2) := by decide +kernel
theorem dX10_wearing_35 : decode cX10_wearing 35 = .ok (.if_icmp .ne 19, 3) := by decide +kernel
theorem dX10_wearing_38 : decode cX10_wearing 38 = .ok (.aload_n 0, 1) := by decide +kernel
theorem dX10_wearing_39 : decode cX10_wearing 39 = .ok (.bipush 71, 2) := by decide +kernel
theorem dX10_wearing_41 : decode cX10_wearing 41 = .ok (.invokevirtual 284, 3) := by decide +kernel
theorem dX10_wearing_44 : decode cX10_wearing 44 = .ok (.iload_n 2, 1) := by decide +kernel
theorem dX10_wearing_45 : decode cX10_wearing 45 = .ok (.aload_n 0, 1) := by decide +kernel
theorem dX10_wearing_46 : decode cX10_wearing 46 = .ok (.getfield 38, 3) := by decide +kernel
theorem dX10_wearing_49 : decode cX10_wearing 49 = .ok (.iload_n 1, 1) := by decide +kernel
theorem dX10_wearing_50 : decode cX10_wearing 50 = .ok (.iaload, 1) := by decide +kernel
theorem dX10_wearing_51 : decode cX10_wearing 51 = .ok (.isub, 1) := by decide +kernel
theorem dX10_wearing_52 : decode cX10_wearing 52 = .ok (.istore 4, 2) := by decide +kernel
theorem dX10_wearing_54 : decode cX10_wearing 54 = .ok (.aload_n 0, 1) := by decide +kernel
theorem dX10_wearing_55 : decode cX10_wearing 55 = .ok (.bipush 12, 2) := by decide +kernel
theorem dX10_wearing_57 : decode cX10_wearing 57 = .ok (.invokevirtual 284, 3) := by decide +kernel
theorem dX10_wearing_60 : decode cX10_wearing 60 = .ok (.aload_n 0, 1) := by decide +kernel
theorem dX10_wearing_61 : decode cX10_wearing 61 = .ok (.iload_n 1, 1) := by decide +kernel
theorem dX10_wearing_62 : decode cX10_wearing 62 = .ok (.iload 4, 2) := by decide +kernel
theorem dX10_wearing_64 : decode cX10_wearing 64 = .ok (.invokevirtual 291, 3) := by decide +kernel
theorem dX10_wearing_67 : decode cX10_wearing 67 = .ok (.istore 5, 2) := by decide +kernel
theorem dX10_wearing_69 : decode cX10_wearing 69 = .ok (.iload 5, 2) := by decide +kernel
theorem dX10_wearing_71 : decode cX10_wearing 71 = .ok (.aload_n 0, 1) := by decide +kernel
theorem dX10_wearing_72 : decode cX10_wearing 72 = .ok (.iload_n 1, 1) := by decide +kernel
theorem dX10_wearing_73 : decode cX10_wearing 73 = .ok (.iload 4, 2) := by decide +kernel
theorem dX10_wearing_75 : decode cX10_wearing 75 = .ok (.aload_n 0, 1) := by decide +kernel
theorem dX10_wearing_76 : decode cX10_wearing 76 = .ok (.getfield 38, 3) := by decide +kernel
theorem dX10_wearing_79 : decode cX10_wearing 79 = .ok (.iload_n 1, 1) := by decide +kernel
theorem dX10_wearing_80 : decode cX10_wearing 80 = .ok (.iaload, 1) := by decide +kernel
theorem dX10_wearing_81 : decode cX10_wearing 81 = .ok (.isub, 1) := by decide +kernel
theorem dX10_wearing_82 : decode cX10_wearing 82 = .ok (.invokevirtual 288, 3) := by decide +kernel
theorem dX10_wearing_85 : decode cX10_wearing 85 = .ok (.ixor, 1) := by decide +kernel
theorem dX10_wearing_86 : decode cX10_wearing 86 = .ok (.istore 5, 2) := by decide +kernel
theorem dX10_wearing_88 : decode cX10_wearing 88 = .ok (.iload_n 3, 1) := by decide +kernel
theorem dX10_wearing_89 : decode cX10_wearing 89 = .ok (.iconst 4, 1) := by decide +kernel
theorem dX10_wearing_90 : decode cX10_wearing 90 = .ok (.if_icmp .ne 9, 3) := by decide +kernel
theorem dX10_wearing_93 : decode cX10_wearing 93 = .ok (.iload 5, 2) := by decide +kernel
theorem dX10_wearing_95 : decode cX10_wearing 95 = .ok (.ineg, 1) := by decide +kernel
theorem dX10_wearing_96 : decode cX10_wearing 96 = .ok (.goto 17, 3) := by decide +kernel
theorem dX10_wearing_99 : decode cX10_wearing 99 = .ok (.iload_n 3, 1) := by decide +kernel
theorem dX10_wearing_100 : decode cX10_wearing 100 = .ok (.iconst 3, 1) := by decide +kernel
theorem dX10_wearing_101 : decode cX10_wearing 101 = .ok (.if_icmp .ne 10, 3) := by decide +kernel
theorem dX10_wearing_104 : decode cX10_wearing 104 = .ok (.iload 5, 2) := by decide +kernel
theorem dX10_wearing_106 : decode cX10_wearing 106 = .ok (.iconst 5, 1) := by decide +kernel
theorem dX10_wearing_107 : decode cX10_wearing 107 = .ok (.ixor, 1) := by decide +kernel
theorem dX10_wearing_108 : decode cX10_wearing 108 = .ok (.goto 5, 3) := by decide +kernel
theorem dX10_wearing_111 : decode cX10_wearing 111 = .ok (.iload 5, 2) := by decide +kernel
theorem dX10_wearing_113 : decode cX10_wearing 113 = .ok (.ireturn, 1) := by decide +kernel
theorem dX10_act_0 : decode cX10_act 0 = .ok (.aload_n 0, 1) := by decide +kernel
theorem dX10_act_1 : decode cX10_act 1 = .ok (.iconst 0, 1) := by decide +kernel
theorem dX10_act_2 : decode cX10_act 2 = .ok (.putfield 281, 3) := by decide +kernel
theorem dX10_act_5 : decode cX10_act 5 = .ok (.aload_n 0, 1) := by decide +kernel
theorem dX10_act_6 : decode cX10_act 6 = .ok (.iload_n 1, 1) := by decide +kernel
theorem dX10_act_7 : decode cX10_act 7 = .ok (.invokevirtual 125, 3) := by decide +kernel
theorem dX10_act_10 : decode cX10_act 10 = .ok (.ifCond .eq 12, 3) := by decide +kernel
theorem dX10_act_13 : decode cX10_act 13 = .ok (.iload_n 2, 1) := by decide +kernel
theorem dX10_act_14 : decode cX10_act 14 = .ok (.ifCond .lt 8, 3) := by decide +kernel
theorem dX10_act_17 : decode cX10_act 17 = .ok (.iload_n 2, 1) := by decide +kernel
theorem dX10_act_18 : decode cX10_act 18 = .ok (.iconst 2, 1) := by decide +kernel
theorem dX10_act_19 : decode cX10_act 19 = .ok (.if_icmp .le 5, 3) := by decide +kernel
theorem dX10_act_22 : decode cX10_act 22 = .ok (.iconst 0, 1) := by decide +kernel
theorem dX10_act_23 : decode cX10_act 23 = .ok (.ireturn, 1) := by decide +kernel
theorem dX10_act_24 : decode cX10_act 24 = .ok (.iload_n 2, 1) := by decide +kernel
theorem dX10_act_25 : decode cX10_act 25 = .ok (.ifCond .ne 12, 3) := by decide +kernel
theorem dX10_act_28 : decode cX10_act 28 = .ok (.aload_n 0, 1) := by decide +kernel
theorem dX10_act_29 : decode cX10_act 29 = .ok (.iload_n 1, 1) := by decide +kernel
theorem dX10_act_30 : decode cX10_act 30 = .ok (.iload_n 3, 1) := by decide +kernel
theorem dX10_act_31 : decode cX10_act 31 = .ok (.invokevirtual 288, 3) := by decide +kernel
theorem dX10_act_34 : decode cX10_act 34 = .ok (.goto 23, 3) := by decide +kernel
theorem dX10_act_37 : decode cX10_act 37 = .ok (.iload_n 2, 1) := by decide +kernel
theorem dX10_act_38 : decode cX10_act 38 = .ok (.iconst 1, 1) := by decide +kernel
theorem dX10_act_39 : decode cX10_act 39 = .ok (.if_icmp .ne 12, 3) := by decide +kernel
theorem dX10_act_42 : decode cX10_act 42 = .ok (.aload_n 0, 1) := by decide +kernel
theorem dX10_act_43 : decode cX10_act 43 = .ok (.iload_n 1, 1) := by decide +kernel
theorem dX10_act_44 : decode cX10_act 44 = .ok (.iload_n 3, 1) := by decide +kernel
theorem dX10_act_45 : decode cX10_act 45 = .ok (.invokevirtual 291, 3) := by decide +kernel
theorem dX10_act_48 : decode cX10_act 48 = .ok (.goto 9, 3) := by decide +kernel
theorem dX10_act_51 : decode cX10_act 51 = .ok (.aload_n 0, 1) := by decide +kernel
theorem dX10_act_52 : decode cX10_act 52 = .ok (.iload_n 1, 1) := by decide +kernel
theorem dX10_act_53 : decode cX10_act 53 = .ok (.iload_n 3, 1) := by decide +kernel
theorem dX10_act_54 : decode cX10_act 54 = .ok (.invokevirtual 294, 3) := by decide +kernel
theorem dX10_act_57 : decode cX10_act 57 = .ok (.ireturn, 1) := by decide +kernel
theorem dX10_trace_0 : decode cX10_trace 0 = .ok (.iload_n 1, 1) := by decide +kernel
theorem dX10_trace_1 : decode cX10_trace 1 = .ok (.ifCond .lt 26, 3) := by decide +kernel
theorem dX10_trace_4 : decode cX10_trace 4 = .ok (.iload_n 1, 1) := by decide +kernel
theorem dX10_trace_5 : decode cX10_trace 5 = .ok (.bipush 20, 2) := by decide +kernel
theorem dX10_trace_7 : decode cX10_trace 7 = .ok (.if_icmp .ge 20, 3) := by decide +kernel
theorem dX10_trace_10 : decode cX10_trace 10 = .ok (.iload_n 1, 1) := by decide +kernel
theorem dX10_trace_11 : decode cX10_trace 11 = .ok (.aload_n 0, 1) := by decide +kernel
theorem dX10_trace_12 : decode cX10_trace 12 = .ok (.getfield 281, 3) := by decide +kernel
theorem dX10_trace_15 : decode cX10_trace 15 = .ok (.if_icmp .ge 12, 3) := by decide +kernel
theorem dX10_trace_18 : decode cX10_trace 18 = .ok (.aload_n 0, 1) := by decide +kernel
theorem dX10_trace_19 : decode cX10_trace 19 = .ok (.getfield 105, 3) := by decide +kernel
theorem dX10_trace_22 : decode cX10_trace 22 = .ok (.iload_n 1, 1) := by decide +kernel
theorem dX10_trace_23 : decode cX10_trace 23 = .ok (.iaload, 1) := by decide +kernel
theorem dX10_trace_24 : decode cX10_trace 24 = .ok (.goto 4, 3) := by decide +kernel
theorem dX10_trace_27 : decode cX10_trace 27 = .ok (.iconst (-1), 1) := by decide +kernel
theorem dX10_trace_28 : decode cX10_trace 28 = .ok (.ireturn, 1) := by decide +kernel
theorem dX10_image_0 : decode cX10_image 0 = .ok (.aload_n 0, 1) := by decide +kernel
theorem dX10_image_1 : decode cX10_image 1 = .ok (.iconst 1, 1) := by decide +kernel
theorem dX10_image_2 : decode cX10_image 2 = .ok (.putfield 297, 3) := by decide +kernel
theorem dX10_image_5 : decode cX10_image 5 = .ok (.aload_n 0, 1) := by decide +kernel
theorem dX10_image_6 : decode cX10_image 6 = .ok (.aload_n 0, 1) := by decide +kernel
theorem dX10_image_7 : decode cX10_image 7 = .ok (.getfield 93, 3) := by decide +kernel
theorem dX10_image_10 : decode cX10_image 10 = .ok (.iconst 0, 1) := by decide +kernel
theorem dX10_image_11 : decode cX10_image 11 = .ok (.invokevirtual 222, 3) := by decide +kernel
theorem dX10_image_14 : decode cX10_image 14 = .ok (.aload_n 0, 1) := by decide +kernel
theorem dX10_image_15 : decode cX10_image 15 = .ok (.getfield 108, 3) := by decide +kernel
theorem dX10_image_18 : decode cX10_image 18 = .ok (.ireturn, 1) := by decide +kernel
theorem dX10_restore_0 : decode cX10_restore 0 = .ok (.aload_n 0, 1) := by decide +kernel
theorem dX10_restore_1 : decode cX10_restore 1 = .ok (.getfield 297, 3) := by decide +kernel
theorem dX10_restore_4 : decode cX10_restore 4 = .ok (.ifCond .ne 10, 3) := by decide +kernel
theorem dX10_restore_7 : decode cX10_restore 7 = .ok (.aload_n 0, 1) := by decide +kernel
theorem dX10_restore_8 : decode cX10_restore 8 = .ok (.bipush (-6), 2) := by decide +kernel
theorem dX10_restore_10 : decode cX10_restore 10 = .ok (.invokevirtual 121, 3) := by decide +kernel
theorem dX10_restore_13 : decode cX10_restore 13 = .ok (.ireturn, 1) := by decide +kernel
theorem dX10_restore_14 : decode cX10_restore 14 = .ok (.aload_n 0, 1) := by decide +kernel
theorem dX10_restore_15 : decode cX10_restore 15 = .ok (.aload_n 0, 1) := by decide +kernel
theorem dX10_restore_16 : decode cX10_restore 16 = .ok (.getfield 93, 3) := by decide +kernel
theorem dX10_restore_19 : decode cX10_restore 19 = .ok (.iconst 1, 1) := by decide +kernel
theorem dX10_restore_20 : decode cX10_restore 20 = .ok (.invokevirtual 222, 3) := by decide +kernel
theorem dX10_restore_23 : decode cX10_restore 23 = .ok (.aload_n 0, 1) := by decide +kernel
theorem dX10_restore_24 : decode cX10_restore 24 = .ok (.invokevirtual 149, 3) := by decide +kernel
theorem dX10_restore_27 : decode cX10_restore 27 = .ok (.aload_n 0, 1) := by decide +kernel
theorem dX10_restore_28 : decode cX10_restore 28 = .ok (.getfield 108, 3) := by decide +kernel
theorem dX10_restore_31 : decode cX10_restore 31 = .ok (.ireturn, 1) := by decide +kernel
theorem dX10_status_0 : decode cX10_status 0 = .ok (.iload_n 1, 1) := by decide +kernel
theorem dX10_status_1 : decode cX10_status 1 = .ok (.bipush 11, 2) := by decide +kernel
theorem dX10_status_3 : decode cX10_status 3 = .ok (.if_icmp .lt 19, 3) := by decide +kernel
theorem dX10_status_6 : decode cX10_status 6 = .ok (.iload_n 1, 1) := by decide +kernel
theorem dX10_status_7 : decode cX10_status 7 = .ok (.bipush 17, 2) := by decide +kernel
theorem dX10_status_9 : decode cX10_status 9 = .ok (.if_icmp .gt 13, 3) := by decide +kernel
theorem dX10_status_12 : decode cX10_status 12 = .ok (.aload_n 0, 1) := by decide +kernel
theorem dX10_status_13 : decode cX10_status 13 = .ok (.getfield 28, 3) := by decide +kernel
theorem dX10_status_16 : decode cX10_status 16 = .ok (.iload_n 1, 1) := by decide +kernel
theorem dX10_status_17 : decode cX10_status 17 = .ok (.bipush 10, 2) := by decide +kernel
theorem dX10_status_19 : decode cX10_status 19 = .ok (.isub, 1) := by decide +kernel
theorem dX10_status_20 : decode cX10_status 20 = .ok (.iaload, 1) := by decide +kernel
theorem dX10_status_21 : decode cX10_status 21 = .ok (.ireturn, 1) := by decide +kernel
theorem dX10_status_22 : decode cX10_status 22 = .ok (.iconst 0, 1) := by decide +kernel
theorem dX10_status_23 : decode cX10_status 23 = .ok (.istore_n 2, 1) := by decide +kernel
theorem dX10_status_24 : decode cX10_status 24 = .ok (.iload_n 1, 1) := by decide +kernel
theorem dX10_status_25 : decode cX10_status 25 = .ok (.tableswitch 99 0 6 #[43, 48, 53, 58, 84, 89, 94], 43) := by decide +kernel
theorem dX10_status_68 : decode cX10_status 68 = .ok (.aload_n 0, 1) := by decide +kernel
theorem dX10_status_69 : decode cX10_status 69 = .ok (.getfield 108, 3) := by decide +kernel
theorem dX10_status_72 : decode cX10_status 72 = .ok (.ireturn, 1) := by decide +kernel
theorem dX10_status_73 : decode cX10_status 73 = .ok (.aload_n 0, 1) := by decide +kernel
theorem dX10_status_74 : decode cX10_status 74 = .ok (.getfield 111, 3) := by decide +kernel
theorem dX10_status_77 : decode cX10_status 77 = .ok (.ireturn, 1) := by decide +kernel
theorem dX10_status_78 : decode cX10_status 78 = .ok (.aload_n 0, 1) := by decide +kernel
theorem dX10_status_79 : decode cX10_status 79 = .ok (.getfield 114, 3) := by decide +kernel
theorem dX10_status_82 : decode cX10_status 82 = .ok (.ireturn, 1) := by decide +kernel
theorem dX10_status_83 : decode cX10_status 83 = .ok (.iconst 0, 1) := by decide +kernel
theorem dX10_status_84 : decode cX10_status 84 = .ok (.istore_n 3, 1) := by decide +kernel
theorem dX10_status_85 : decode cX10_status 85 = .ok (.iload_n 3, 1) := by decide +kernel
theorem dX10_status_86 : decode cX10_status 86 = .ok (.aload_n 0, 1) := by decide +kernel
theorem dX10_status_87 : decode cX10_status 87 = .ok (.getfield 108, 3) := by decide +kernel
theorem dX10_status_90 : decode cX10_status 90 = .ok (.if_icmp .ge 17, 3) := by decide +kernel
theorem dX10_status_93 : decode cX10_status 93 = .ok (.iload_n 2, 1) := by decide +kernel
theorem dX10_status_94 : decode cX10_status 94 = .ok (.aload_n 0, 1) := by decide +kernel
theorem dX10_status_95 : decode cX10_status 95 = .ok (.iload_n 3, 1) := by decide +kernel
theorem dX10_status_96 : decode cX10_status 96 = .ok (.invokevirtual 131, 3) := by decide +kernel
theorem dX10_status_99 : decode cX10_status 99 = .ok (.iadd, 1) := by decide +kernel
theorem dX10_status_100 : decode cX10_status 100 = .ok (.istore_n 2, 1) := by decide +kernel
theorem dX10_status_101 : decode cX10_status 101 = .ok (.iinc 3 1, 3) := by decide +kernel
theorem dX10_status_104 : decode cX10_status 104 = .ok (.goto (-19), 3) := by decide +kernel
theorem dX10_status_107 : decode cX10_status 107 = .ok (.iload_n 2, 1) := by decide +kernel
theorem dX10_status_108 : decode cX10_status 108 = .ok (.ireturn, 1) := by decide +kernel
theorem dX10_status_109 : decode cX10_status 109 = .ok (.aload_n 0, 1) := by decide +kernel
theorem dX10_status_110 : decode cX10_status 110 = .ok (.invokevirtual 158, 3) := by decide +kernel
theorem dX10_status_113 : decode cX10_status 113 = .ok (.ireturn, 1) := by decide +kernel
theorem dX10_status_114 : decode cX10_status 114 = .ok (.aload_n 0, 1) := by decide +kernel
theorem dX10_status_115 : decode cX10_status 115 = .ok (.getfield 22, 3) := by decide +kernel
theorem dX10_status_118 : decode cX10_status 118 = .ok (.ireturn, 1) := by decide +kernel
theorem dX10_status_119 : decode cX10_status 119 = .ok (.aload_n 0, 1) := by decide +kernel
theorem dX10_status_120 : decode cX10_status 120 = .ok (.getfield 281, 3) := by decide +kernel
theorem dX10_status_123 : decode cX10_status 123 = .ok (.ireturn, 1) := by decide +kernel
theorem dX10_status_124 : decode cX10_status 124 = .ok (.iconst (-1), 1) := by decide +kernel
theorem dX10_status_125 : decode cX10_status 125 = .ok (.ireturn, 1) := by decide +kernel
theorem dJ9_abs_0f7a4_0 : decode cJ9_abs_0f7a4 0 = .ok (.iload_n 0, 1) := by decide +kernel
theorem dJ9_abs_0f7a4_1 : decode cJ9_abs_0f7a4 1 = .ok (.ifCond .ge 8, 3) := by decide +kernel
theorem dJ9_abs_0f7a4_4 : decode cJ9_abs_0f7a4 4 = .ok (.iload_n 0, 1) := by decide +kernel
theorem dJ9_abs_0f7a4_5 : decode cJ9_abs_0f7a4 5 = .ok (.ineg, 1) := by decide +kernel
theorem dJ9_abs_0f7a4_6 : decode cJ9_abs_0f7a4 6 = .ok (.goto 4, 3) := by decide +kernel
theorem dJ9_abs_0f7a4_9 : decode cJ9_abs_0f7a4 9 = .ok (.iload_n 0, 1) := by decide +kernel
theorem dJ9_abs_0f7a4_10 : decode cJ9_abs_0f7a4 10 = .ok (.ireturn, 1) := by decide +kernel
theorem dJ9_max_7cf53_0 : decode cJ9_max_7cf53 0 = .ok (.iload_n 0, 1) := by decide +kernel
theorem dJ9_max_7cf53_1 : decode cJ9_max_7cf53 1 = .ok (.iload_n 1, 1) := by decide +kernel
theorem dJ9_max_7cf53_2 : decode cJ9_max_7cf53 2 = .ok (.if_icmp .lt 7, 3) := by decide +kernel
theorem dJ9_max_7cf53_5 : decode cJ9_max_7cf53 5 = .ok (.iload_n 0, 1) := by decide +kernel
theorem dJ9_max_7cf53_6 : decode cJ9_max_7cf53 6 = .ok (.goto 4, 3) := by decide +kernel
theorem dJ9_max_7cf53_9 : decode cJ9_max_7cf53 9 = .ok (.iload_n 1, 1) := by decide +kernel
theorem dJ9_max_7cf53_10 : decode cJ9_max_7cf53 10 = .ok (.ireturn, 1) := by decide +kernel
theorem dJ9_min_7cf53_0 : decode cJ9_min_7cf53 0 = .ok (.iload_n 0, 1) := by decide +kernel
theorem dJ9_min_7cf53_1 : decode cJ9_min_7cf53 1 = .ok (.iload_n 1, 1) := by decide +kernel
theorem dJ9_min_7cf53_2 : decode cJ9_min_7cf53 2 = .ok (.if_icmp .gt 7, 3) := by decide +kernel
theorem dJ9_min_7cf53_5 : decode cJ9_min_7cf53 5 = .ok (.iload_n 0, 1) := by decide +kernel
theorem dJ9_min_7cf53_6 : decode cJ9_min_7cf53 6 = .ok (.goto 4, 3) := by decide +kernel
theorem dJ9_min_7cf53_9 : decode cJ9_min_7cf53 9 = .ok (.iload_n 1, 1) := by decide +kernel
theorem dJ9_min_7cf53_10 : decode cJ9_min_7cf53 10 = .ok (.ireturn, 1) := by decide +kernel
theorem dJ0_length_8abf5_0 : decode cJ0_length_8abf5 0 = .ok (.aload_n 0, 1) := by decide +kernel
theorem dJ0_length_8abf5_1 : decode cJ0_length_8abf5 1 = .ok (.getfield 9, 3) := by decide +kernel
theorem dJ0_length_8abf5_4 : decode cJ0_length_8abf5 4 = .ok (.arraylength, 1) := by decide +kernel
theorem dJ0_length_8abf5_5 : decode cJ0_length_8abf5 5 = .ok (.aload_n 0, 1) := by decide +kernel
theorem dJ0_length_8abf5_6 : decode cJ0_length_8abf5 6 = .ok (.invokevirtual 335, 3) := by decide +kernel
theorem dJ0_length_8abf5_9 : decode cJ0_length_8abf5 9 = .ok (.ishr, 1) := by decide +kernel
theorem dJ0_length_8abf5_10 : decode cJ0_length_8abf5 10 = .ok (.ireturn, 1) := by decide +kernel
theorem dJ0_charAt_5068e_0 : decode cJ0_charAt_5068e 0 = .ok (.aload_n 0, 1) := by decide +kernel
theorem dJ0_charAt_5068e_1 : decode cJ0_charAt_5068e 1 = .ok (.invokevirtual 492, 3) := by decide +kernel
theorem dJ0_charAt_5068e_4 : decode cJ0_charAt_5068e 4 = .ok (.ifCond .eq 12, 3) := by decide +kernel
theorem dJ0_charAt_5068e_7 : decode cJ0_charAt_5068e 7 = .ok (.aload_n 0, 1) := by decide +kernel
theorem dJ0_charAt_5068e_8 : decode cJ0_charAt_5068e 8 = .ok (.getfield 9, 3) := by decide +kernel
theorem dJ0_charAt_5068e_11 : decode cJ0_charAt_5068e 11 = .ok (.iload_n 1, 1) := by decide +kernel
theorem dJ0_charAt_5068e_12 : decode cJ0_charAt_5068e 12 = .ok (.invokestatic 495, 3) := by decide +kernel
theorem dJ0_charAt_5068e_15 : decode cJ0_charAt_5068e 15 = .ok (.ireturn, 1) := by decide +kernel
theorem dJ0_charAt_5068e_16 : decode cJ0_charAt_5068e 16 = .ok (.aload_n 0, 1) := by decide +kernel
theorem dJ0_charAt_5068e_17 : decode cJ0_charAt_5068e 17 = .ok (.getfield 9, 3) := by decide +kernel
theorem dJ0_charAt_5068e_20 : decode cJ0_charAt_5068e 20 = .ok (.iload_n 1, 1) := by decide +kernel
theorem dJ0_charAt_5068e_21 : decode cJ0_charAt_5068e 21 = .ok (.invokestatic 498, 3) := by decide +kernel
theorem dJ0_charAt_5068e_24 : decode cJ0_charAt_5068e 24 = .ok (.ireturn, 1) := by decide +kernel
theorem dJ0_coder_7d493_0 : decode cJ0_coder_7d493 0 = .ok (.getstatic 38, 3) := by decide +kernel
theorem dJ0_coder_7d493_3 : decode cJ0_coder_7d493 3 = .ok (.ifCond .eq 10, 3) := by decide +kernel
theorem dJ0_coder_7d493_6 : decode cJ0_coder_7d493 6 = .ok (.aload_n 0, 1) := by decide +kernel
theorem dJ0_coder_7d493_7 : decode cJ0_coder_7d493 7 = .ok (.getfield 15, 3) := by decide +kernel
theorem dJ0_coder_7d493_10 : decode cJ0_coder_7d493 10 = .ok (.goto 4, 3) := by decide +kernel
theorem dJ0_coder_7d493_13 : decode cJ0_coder_7d493 13 = .ok (.iconst 1, 1) := by decide +kernel
theorem dJ0_coder_7d493_14 : decode cJ0_coder_7d493 14 = .ok (.ireturn, 1) := by decide +kernel
theorem dJ0_isLatin1_aae02_0 : decode cJ0_isLatin1_aae02 0 = .ok (.getstatic 38, 3) := by decide +kernel
theorem dJ0_isLatin1_aae02_3 : decode cJ0_isLatin1_aae02 3 = .ok (.ifCond .eq 14, 3) := by decide +kernel
theorem dJ0_isLatin1_aae02_6 : decode cJ0_isLatin1_aae02 6 = .ok (.aload_n 0, 1) := by decide +kernel
theorem dJ0_isLatin1_aae02_7 : decode cJ0_isLatin1_aae02 7 = .ok (.getfield 15, 3) := by decide +kernel
theorem dJ0_isLatin1_aae02_10 : decode cJ0_isLatin1_aae02 10 = .ok (.ifCond .ne 7, 3) := by decide +kernel
theorem dJ0_isLatin1_aae02_13 : decode cJ0_isLatin1_aae02 13 = .ok (.iconst 1, 1) := by decide +kernel
theorem dJ0_isLatin1_aae02_14 : decode cJ0_isLatin1_aae02 14 = .ok (.goto 4, 3) := by decide +kernel
theorem dJ0_isLatin1_aae02_17 : decode cJ0_isLatin1_aae02 17 = .ok (.iconst 0, 1) := by decide +kernel
theorem dJ0_isLatin1_aae02_18 : decode cJ0_isLatin1_aae02 18 = .ok (.ireturn, 1) := by decide +kernel
theorem dJ0_checkIndex_df160_0 : decode cJ0_checkIndex_df160 0 = .ok (.iload_n 0, 1) := by decide +kernel
theorem dJ0_checkIndex_df160_1 : decode cJ0_checkIndex_df160 1 = .ok (.iload_n 1, 1) := by decide +kernel
theorem dJ0_checkIndex_df160_2 : decode cJ0_checkIndex_df160 2 = .ok (.getstatic 1053, 3) := by decide +kernel
theorem dJ0_checkIndex_df160_5 : decode cJ0_checkIndex_df160 5 = .ok (.invokestatic 1059, 3) := by decide +kernel
theorem dJ0_checkIndex_df160_8 : decode cJ0_checkIndex_df160 8 = .ok (.pop, 1) := by decide +kernel
theorem dJ0_checkIndex_df160_9 : decode cJ0_checkIndex_df160 9 = .ok (.return_, 1) := by decide +kernel
theorem dJ1_charAt_3b067_0 : decode cJ1_charAt_3b067 0 = .ok (.iload_n 1, 1) := by decide +kernel
theorem dJ1_charAt_3b067_1 : decode cJ1_charAt_3b067 1 = .ok (.aload_n 0, 1) := by decide +kernel
theorem dJ1_charAt_3b067_2 : decode cJ1_charAt_3b067 2 = .ok (.arraylength, 1) := by decide +kernel
theorem dJ1_charAt_3b067_3 : decode cJ1_charAt_3b067 3 = .ok (.invokestatic 9, 3) := by decide +kernel
theorem dJ1_charAt_3b067_6 : decode cJ1_charAt_3b067 6 = .ok (.aload_n 0, 1) := by decide +kernel
theorem dJ1_charAt_3b067_7 : decode cJ1_charAt_3b067 7 = .ok (.iload_n 1, 1) := by decide +kernel
theorem dJ1_charAt_3b067_8 : decode cJ1_charAt_3b067 8 = .ok (.baload, 1) := by decide +kernel
theorem dJ1_charAt_3b067_9 : decode cJ1_charAt_3b067 9 = .ok (.sipush 255, 3) := by decide +kernel
theorem dJ1_charAt_3b067_12 : decode cJ1_charAt_3b067 12 = .ok (.iand, 1) := by decide +kernel
theorem dJ1_charAt_3b067_13 : decode cJ1_charAt_3b067 13 = .ok (.i2c, 1) := by decide +kernel
theorem dJ1_charAt_3b067_14 : decode cJ1_charAt_3b067 14 = .ok (.ireturn, 1) := by decide +kernel
theorem dJ2_getChar_3b067_0 : decode cJ2_getChar_3b067 0 = .ok (.getstatic 44, 3) := by decide +kernel
theorem dJ2_getChar_3b067_3 : decode cJ2_getChar_3b067 3 = .ok (.ifCond .ne 25, 3) := by decide +kernel
theorem dJ2_getChar_3b067_6 : decode cJ2_getChar_3b067 6 = .ok (.iload_n 1, 1) := by decide +kernel
theorem dJ2_getChar_3b067_7 : decode cJ2_getChar_3b067 7 = .ok (.ifCond .lt 11, 3) := by decide +kernel
theorem dJ2_getChar_3b067_10 : decode cJ2_getChar_3b067 10 = .ok (.iload_n 1, 1) := by decide +kernel
theorem dJ2_getChar_3b067_11 : decode cJ2_getChar_3b067 11 = .ok (.aload_n 0, 1) := by decide +kernel
theorem dJ2_getChar_3b067_12 : decode cJ2_getChar_3b067 12 = .ok (.invokestatic 48, 3) := by decide +kernel
theorem dJ2_getChar_3b067_15 : decode cJ2_getChar_3b067 15 = .ok (.if_icmp .lt 13, 3) := by decide +kernel
theorem dJ2_getChar_3b067_18 : decode cJ2_getChar_3b067 18 = .ok (.new 52, 3) := by decide +kernel
theorem dJ2_getChar_3b067_21 : decode cJ2_getChar_3b067 21 = .ok (.dup, 1) := by decide +kernel
theorem dJ2_getChar_3b067_22 : decode cJ2_getChar_3b067 22 = .ok (.ldc 54, 2) := by decide +kernel
theorem dJ2_getChar_3b067_24 : decode cJ2_getChar_3b067 24 = .ok (.invokespecial 56, 3) := by decide +kernel
theorem dJ2_getChar_3b067_27 : decode cJ2_getChar_3b067 27 = .ok (.athrow, 1) := by decide +kernel
theorem dJ2_getChar_3b067_28 : decode cJ2_getChar_3b067 28 = .ok (.iload_n 1, 1) := by decide +kernel
theorem dJ2_getChar_3b067_29 : decode cJ2_getChar_3b067 29 = .ok (.iconst 1, 1) := by decide +kernel
theorem dJ2_getChar_3b067_30 : decode cJ2_getChar_3b067 30 = .ok (.ishl, 1) := by decide +kernel
theorem dJ2_getChar_3b067_31 : decode cJ2_getChar_3b067 31 = .ok (.istore_n 1, 1) := by decide +kernel
theorem dJ2_getChar_3b067_32 : decode cJ2_getChar_3b067 32 = .ok (.aload_n 0, 1) := by decide +kernel
theorem dJ2_getChar_3b067_33 : decode cJ2_getChar_3b067 33 = .ok (.iload_n 1, 1) := by decide +kernel
theorem dJ2_getChar_3b067_34 : decode cJ2_getChar_3b067 34 = .ok (.iinc 1 1, 3) := by decide +kernel
theorem dJ2_getChar_3b067_37 : decode cJ2_getChar_3b067 37 = .ok (.baload, 1) := by decide +kernel
theorem dJ2_getChar_3b067_38 : decode cJ2_getChar_3b067 38 = .ok (.sipush 255, 3) := by decide +kernel
theorem dJ2_getChar_3b067_41 : decode cJ2_getChar_3b067 41 = .ok (.iand, 1) := by decide +kernel
theorem dJ2_getChar_3b067_42 : decode cJ2_getChar_3b067 42 = .ok (.getstatic 59, 3) := by decide +kernel
theorem dJ2_getChar_3b067_45 : decode cJ2_getChar_3b067 45 = .ok (.ishl, 1) := by decide +kernel
theorem dJ2_getChar_3b067_46 : decode cJ2_getChar_3b067 46 = .ok (.aload_n 0, 1) := by decide +kernel
theorem dJ2_getChar_3b067_47 : decode cJ2_getChar_3b067 47 = .ok (.iload_n 1, 1) := by decide +kernel
theorem dJ2_getChar_3b067_48 : decode cJ2_getChar_3b067 48 = .ok (.baload, 1) := by decide +kernel
theorem dJ2_getChar_3b067_49 : decode cJ2_getChar_3b067 49 = .ok (.sipush 255, 3) := by decide +kernel
theorem dJ2_getChar_3b067_52 : decode cJ2_getChar_3b067 52 = .ok (.iand, 1) := by decide +kernel
theorem dJ2_getChar_3b067_53 : decode cJ2_getChar_3b067 53 = .ok (.getstatic 63, 3) := by decide +kernel
theorem dJ2_getChar_3b067_56 : decode cJ2_getChar_3b067 56 = .ok (.ishl, 1) := by decide +kernel
theorem dJ2_getChar_3b067_57 : decode cJ2_getChar_3b067 57 = .ok (.ior, 1) := by decide +kernel
theorem dJ2_getChar_3b067_58 : decode cJ2_getChar_3b067 58 = .ok (.i2c, 1) := by decide +kernel
theorem dJ2_getChar_3b067_59 : decode cJ2_getChar_3b067 59 = .ok (.ireturn, 1) := by decide +kernel
theorem dJ2_length_9d52b_0 : decode cJ2_length_9d52b 0 = .ok (.aload_n 0, 1) := by decide +kernel
theorem dJ2_length_9d52b_1 : decode cJ2_length_9d52b 1 = .ok (.arraylength, 1) := by decide +kernel
theorem dJ2_length_9d52b_2 : decode cJ2_length_9d52b 2 = .ok (.iconst 1, 1) := by decide +kernel
theorem dJ2_length_9d52b_3 : decode cJ2_length_9d52b 3 = .ok (.ishr, 1) := by decide +kernel
theorem dJ2_length_9d52b_4 : decode cJ2_length_9d52b 4 = .ok (.ireturn, 1) := by decide +kernel
theorem dJ2_charAt_3b067_0 : decode cJ2_charAt_3b067 0 = .ok (.iload_n 1, 1) := by decide +kernel
theorem dJ2_charAt_3b067_1 : decode cJ2_charAt_3b067 1 = .ok (.aload_n 0, 1) := by decide +kernel
theorem dJ2_charAt_3b067_2 : decode cJ2_charAt_3b067 2 = .ok (.invokestatic 67, 3) := by decide +kernel
theorem dJ2_charAt_3b067_5 : decode cJ2_charAt_3b067 5 = .ok (.aload_n 0, 1) := by decide +kernel
theorem dJ2_charAt_3b067_6 : decode cJ2_charAt_3b067 6 = .ok (.iload_n 1, 1) := by decide +kernel
theorem dJ2_charAt_3b067_7 : decode cJ2_charAt_3b067 7 = .ok (.invokestatic 71, 3) := by decide +kernel
theorem dJ2_charAt_3b067_10 : decode cJ2_charAt_3b067 10 = .ok (.ireturn, 1) := by decide +kernel
theorem dJ2_checkIndex_2214a_0 : decode cJ2_checkIndex_2214a 0 = .ok (.iload_n 0, 1) := by decide +kernel
theorem dJ2_checkIndex_2214a_1 : decode cJ2_checkIndex_2214a 1 = .ok (.aload_n 1, 1) := by decide +kernel
theorem dJ2_checkIndex_2214a_2 : decode cJ2_checkIndex_2214a 2 = .ok (.invokestatic 48, 3) := by decide +kernel
theorem dJ2_checkIndex_2214a_5 : decode cJ2_checkIndex_2214a 5 = .ok (.invokestatic 414, 3) := by decide +kernel
theorem dJ2_checkIndex_2214a_8 : decode cJ2_checkIndex_2214a 8 = .ok (.return_, 1) := by decide +kernel
theorem dJ7_fill_d0a16_0 : decode cJ7_fill_d0a16 0 = .ok (.iconst 0, 1) := by decide +kernel
theorem dJ7_fill_d0a16_1 : decode cJ7_fill_d0a16 1 = .ok (.istore_n 3, 1) := by decide +kernel
theorem dJ7_fill_d0a16_2 : decode cJ7_fill_d0a16 2 = .ok (.aload_n 0, 1) := by decide +kernel
theorem dJ7_fill_d0a16_3 : decode cJ7_fill_d0a16 3 = .ok (.arraylength, 1) := by decide +kernel
theorem dJ7_fill_d0a16_4 : decode cJ7_fill_d0a16 4 = .ok (.istore 4, 2) := by decide +kernel
theorem dJ7_fill_d0a16_6 : decode cJ7_fill_d0a16 6 = .ok (.iload_n 3, 1) := by decide +kernel
theorem dJ7_fill_d0a16_7 : decode cJ7_fill_d0a16 7 = .ok (.iload 4, 2) := by decide +kernel
theorem dJ7_fill_d0a16_9 : decode cJ7_fill_d0a16 9 = .ok (.if_icmp .ge 13, 3) := by decide +kernel
theorem dJ7_fill_d0a16_12 : decode cJ7_fill_d0a16 12 = .ok (.aload_n 0, 1) := by decide +kernel
theorem dJ7_fill_d0a16_13 : decode cJ7_fill_d0a16 13 = .ok (.iload_n 3, 1) := by decide +kernel
theorem dJ7_fill_d0a16_14 : decode cJ7_fill_d0a16 14 = .ok (.lload_n 1, 1) := by decide +kernel
theorem dJ7_fill_d0a16_15 : decode cJ7_fill_d0a16 15 = .ok (.lastore, 1) := by decide +kernel
theorem dJ7_fill_d0a16_16 : decode cJ7_fill_d0a16 16 = .ok (.iinc 3 1, 3) := by decide +kernel
theorem dJ7_fill_d0a16_19 : decode cJ7_fill_d0a16 19 = .ok (.goto (-13), 3) := by decide +kernel
theorem dJ7_fill_d0a16_22 : decode cJ7_fill_d0a16 22 = .ok (.return_, 1) := by decide +kernel
theorem dJ3_checkIndex_8e157_0 : decode cJ3_checkIndex_8e157 0 = .ok (.iload_n 0, 1) := by decide +kernel
theorem dJ3_checkIndex_8e157_1 : decode cJ3_checkIndex_8e157 1 = .ok (.ifCond .lt 8, 3) := by decide +kernel
theorem dJ3_checkIndex_8e157_4 : decode cJ3_checkIndex_8e157 4 = .ok (.iload_n 0, 1) := by decide +kernel
theorem dJ3_checkIndex_8e157_5 : decode cJ3_checkIndex_8e157 5 = .ok (.iload_n 1, 1) := by decide +kernel
theorem dJ3_checkIndex_8e157_6 : decode cJ3_checkIndex_8e157 6 = .ok (.if_icmp .lt 10, 3) := by decide +kernel
theorem dJ3_checkIndex_8e157_9 : decode cJ3_checkIndex_8e157 9 = .ok (.aload_n 2, 1) := by decide +kernel
theorem dJ3_checkIndex_8e157_10 : decode cJ3_checkIndex_8e157 10 = .ok (.iload_n 0, 1) := by decide +kernel
theorem dJ3_checkIndex_8e157_11 : decode cJ3_checkIndex_8e157 11 = .ok (.iload_n 1, 1) := by decide +kernel
theorem dJ3_checkIndex_8e157_12 : decode cJ3_checkIndex_8e157 12 = .ok (.invokestatic 95, 3) := by decide +kernel
theorem dJ3_checkIndex_8e157_15 : decode cJ3_checkIndex_8e157 15 = .ok (.athrow, 1) := by decide +kernel
theorem dJ3_checkIndex_8e157_16 : decode cJ3_checkIndex_8e157 16 = .ok (.iload_n 0, 1) := by decide +kernel
theorem dJ3_checkIndex_8e157_17 : decode cJ3_checkIndex_8e157 17 = .ok (.ireturn, 1) := by decide +kernel
theorem dL_law_0 : decode cL_law 0 = .ok (.new 7, 3) := by decide +kernel
theorem dL_law_3 : decode cL_law 3 = .ok (.dup, 1) := by decide +kernel
theorem dL_law_4 : decode cL_law 4 = .ok (.invokespecial 9, 3) := by decide +kernel
theorem dL_law_7 : decode cL_law 7 = .ok (.astore_n 1, 1) := by decide +kernel
theorem dL_law_8 : decode cL_law 8 = .ok (.new 10, 3) := by decide +kernel
theorem dL_law_11 : decode cL_law 11 = .ok (.dup, 1) := by decide +kernel
theorem dL_law_12 : decode cL_law 12 = .ok (.invokespecial 12, 3) := by decide +kernel
theorem dL_law_15 : decode cL_law 15 = .ok (.astore_n 2, 1) := by decide +kernel
theorem dL_law_16 : decode cL_law 16 = .ok (.iconst 0, 1) := by decide +kernel
theorem dL_law_17 : decode cL_law 17 = .ok (.istore_n 3, 1) := by decide +kernel
theorem dL_law_18 : decode cL_law 18 = .ok (.iload_n 3, 1) := by decide +kernel
theorem dL_law_19 : decode cL_law 19 = .ok (.aload_n 0, 1) := by decide +kernel
theorem dL_law_20 : decode cL_law 20 = .ok (.arraylength, 1) := by decide +kernel
theorem dL_law_21 : decode cL_law 21 = .ok (.bipush 6, 2) := by decide +kernel
theorem dL_law_23 : decode cL_law 23 = .ok (.isub, 1) := by decide +kernel
theorem dL_law_24 : decode cL_law 24 = .ok (.if_icmp .gt 1730, 3) := by decide +kernel
theorem dL_law_27 : decode cL_law 27 = .ok (.aload_n 0, 1) := by decide +kernel
theorem dL_law_28 : decode cL_law 28 = .ok (.iload_n 3, 1) := by decide +kernel
theorem dL_law_29 : decode cL_law 29 = .ok (.iaload, 1) := by decide +kernel
theorem dL_law_30 : decode cL_law 30 = .ok (.bipush 63, 2) := by decide +kernel
theorem dL_law_32 : decode cL_law 32 = .ok (.iand, 1) := by decide +kernel
theorem dL_law_33 : decode cL_law 33 = .ok (.tableswitch 1715 0 46 #[203, 246, 319, 382, 416, 449, 472, 505, 558, 601, 624, 657, 700, 733, 766, 809, 842, 865, 878, 911, 944, 977, 1010, 1053, 1096, 1109, 1122, 1145, 1198, 1231, 1264, 1287, 1320, 1343, 1396, 1429, 1472, 1495, 1508, 1531, 1544, 1577, 1600, 1643, 1666, 1679, 1692], 203) := by decide +kernel
theorem dL_law_236 : decode cL_law 236 = .ok (.aload_n 1, 1) := by decide +kernel
theorem dL_law_237 : decode cL_law 237 = .ok (.aload_n 0, 1) := by decide +kernel
theorem dL_law_238 : decode cL_law 238 = .ok (.iload_n 3, 1) := by decide +kernel
theorem dL_law_239 : decode cL_law 239 = .ok (.iconst 1, 1) := by decide +kernel
theorem dL_law_240 : decode cL_law 240 = .ok (.iadd, 1) := by decide +kernel
theorem dL_law_241 : decode cL_law 241 = .ok (.iaload, 1) := by decide +kernel
theorem dL_law_242 : decode cL_law 242 = .ok (.aload_n 0, 1) := by decide +kernel
theorem dL_law_243 : decode cL_law 243 = .ok (.iload_n 3, 1) := by decide +kernel
theorem dL_law_244 : decode cL_law 244 = .ok (.iconst 2, 1) := by decide +kernel
theorem dL_law_245 : decode cL_law 245 = .ok (.iadd, 1) := by decide +kernel
theorem dL_law_246 : decode cL_law 246 = .ok (.iaload, 1) := by decide +kernel
theorem dL_law_247 : decode cL_law 247 = .ok (.aload_n 0, 1) := by decide +kernel
theorem dL_law_248 : decode cL_law 248 = .ok (.iload_n 3, 1) := by decide +kernel
theorem dL_law_249 : decode cL_law 249 = .ok (.iconst 3, 1) := by decide +kernel
theorem dL_law_250 : decode cL_law 250 = .ok (.iadd, 1) := by decide +kernel
theorem dL_law_251 : decode cL_law 251 = .ok (.iaload, 1) := by decide +kernel
theorem dL_law_252 : decode cL_law 252 = .ok (.invokevirtual 13, 3) := by decide +kernel
theorem dL_law_255 : decode cL_law 255 = .ok (.aload_n 2, 1) := by decide +kernel
theorem dL_law_256 : decode cL_law 256 = .ok (.aload_n 0, 1) := by decide +kernel
theorem dL_law_257 : decode cL_law 257 = .ok (.iload_n 3, 1) := by decide +kernel
theorem dL_law_258 : decode cL_law 258 = .ok (.iconst 1, 1) := by decide +kernel
theorem dL_law_259 : decode cL_law 259 = .ok (.iadd, 1) := by decide +kernel
theorem dL_law_260 : decode cL_law 260 = .ok (.iaload, 1) := by decide +kernel
theorem dL_law_261 : decode cL_law 261 = .ok (.aload_n 0, 1) := by decide +kernel
theorem dL_law_262 : decode cL_law 262 = .ok (.iload_n 3, 1) := by decide +kernel
theorem dL_law_263 : decode cL_law 263 = .ok (.iconst 2, 1) := by decide +kernel
theorem dL_law_264 : decode cL_law 264 = .ok (.iadd, 1) := by decide +kernel
theorem dL_law_265 : decode cL_law 265 = .ok (.iaload, 1) := by decide +kernel
theorem dL_law_266 : decode cL_law 266 = .ok (.aload_n 0, 1) := by decide +kernel
theorem dL_law_267 : decode cL_law 267 = .ok (.iload_n 3, 1) := by decide +kernel
theorem dL_law_268 : decode cL_law 268 = .ok (.iconst 3, 1) := by decide +kernel
theorem dL_law_269 : decode cL_law 269 = .ok (.iadd, 1) := by decide +kernel
theorem dL_law_270 : decode cL_law 270 = .ok (.iaload, 1) := by decide +kernel
theorem dL_law_271 : decode cL_law 271 = .ok (.invokevirtual 17, 3) := by decide +kernel
theorem dL_law_274 : decode cL_law 274 = .ok (.if_icmp .eq 1474, 3) := by decide +kernel
theorem dL_law_277 : decode cL_law 277 = .ok (.iconst 0, 1) := by decide +kernel
theorem dL_law_278 : decode cL_law 278 = .ok (.ireturn, 1) := by decide +kernel
theorem dL_law_279 : decode cL_law 279 = .ok (.aload_n 1, 1) := by decide +kernel
theorem dL_law_280 : decode cL_law 280 = .ok (.aload_n 0, 1) := by decide +kernel
theorem dL_law_281 : decode cL_law 281 = .ok (.iload_n 3, 1) := by decide +kernel
theorem dL_law_282 : decode cL_law 282 = .ok (.iconst 1, 1) := by decide +kernel
theorem dL_law_283 : decode cL_law 283 = .ok (.iadd, 1) := by decide +kernel
theorem dL_law_284 : decode cL_law 284 = .ok (.iaload, 1) := by decide +kernel
theorem dL_law_285 : decode cL_law 285 = .ok (.aload_n 0, 1) := by decide +kernel
theorem dL_law_286 : decode cL_law 286 = .ok (.iload_n 3, 1) := by decide +kernel
theorem dL_law_287 : decode cL_law 287 = .ok (.iconst 2, 1) := by decide +kernel
theorem dL_law_288 : decode cL_law 288 = .ok (.iadd, 1) := by decide +kernel
theorem dL_law_289 : decode cL_law 289 = .ok (.iaload, 1) := by decide +kernel
theorem dL_law_290 : decode cL_law 290 = .ok (.aload_n 0, 1) := by decide +kernel
theorem dL_law_291 : decode cL_law 291 = .ok (.iload_n 3, 1) := by decide +kernel
theorem dL_law_292 : decode cL_law 292 = .ok (.iconst 3, 1) := by decide +kernel
theorem dL_law_293 : decode cL_law 293 = .ok (.iadd, 1) := by decide +kernel
theorem dL_law_294 : decode cL_law 294 = .ok (.iaload, 1) := by decide +kernel
theorem dL_law_295 : decode cL_law 295 = .ok (.i2l, 1) := by decide +kernel
theorem dL_law_296 : decode cL_law 296 = .ok (.bipush 32, 2) := by decide +kernel
theorem dL_law_298 : decode cL_law 298 = .ok (.lshl, 1) := by decide +kernel
theorem dL_law_299 : decode cL_law 299 = .ok (.aload_n 0, 1) := by decide +kernel
theorem dL_law_300 : decode cL_law 300 = .ok (.iload_n 3, 1) := by decide +kernel
theorem dL_law_301 : decode cL_law 301 = .ok (.iconst 4, 1) := by decide +kernel
theorem dL_law_302 : decode cL_law 302 = .ok (.iadd, 1) := by decide +kernel
theorem dL_law_303 : decode cL_law 303 = .ok (.iaload, 1) := by decide +kernel
theorem dL_law_304 : decode cL_law 304 = .ok (.i2l, 1) := by decide +kernel
theorem dL_law_305 : decode cL_law 305 = .ok (.ldc2_w 18, 3) := by decide +kernel
theorem dL_law_308 : decode cL_law 308 = .ok (.land, 1) := by decide +kernel
theorem dL_law_309 : decode cL_law 309 = .ok (.lor, 1) := by decide +kernel
theorem dL_law_310 : decode cL_law 310 = .ok (.invokevirtual 20, 3) := by decide +kernel
theorem dL_law_313 : decode cL_law 313 = .ok (.aload_n 2, 1) := by decide +kernel
theorem dL_law_314 : decode cL_law 314 = .ok (.aload_n 0, 1) := by decide +kernel
theorem dL_law_315 : decode cL_law 315 = .ok (.iload_n 3, 1) := by decide +kernel
theorem dL_law_316 : decode cL_law 316 = .ok (.iconst 1, 1) := by decide +kernel
theorem dL_law_317 : decode cL_law 317 = .ok (.iadd, 1) := by decide +kernel
theorem dL_law_318 : decode cL_law 318 = .ok (.iaload, 1) := by decide +kernel
theorem dL_law_319 : decode cL_law 319 = .ok (.aload_n 0, 1) := by decide +kernel
theorem dL_law_320 : decode cL_law 320 = .ok (.iload_n 3, 1) := by decide +kernel
theorem dL_law_321 : decode cL_law 321 = .ok (.iconst 2, 1) := by decide +kernel
theorem dL_law_322 : decode cL_law 322 = .ok (.iadd, 1) := by decide +kernel
theorem dL_law_323 : decode cL_law 323 = .ok (.iaload, 1) := by decide +kernel
theorem dL_law_324 : decode cL_law 324 = .ok (.aload_n 0, 1) := by decide +kernel
theorem dL_law_325 : decode cL_law 325 = .ok (.iload_n 3, 1) := by decide +kernel
theorem dL_law_326 : decode cL_law 326 = .ok (.iconst 3, 1) := by decide +kernel
theorem dL_law_327 : decode cL_law 327 = .ok (.iadd, 1) := by decide +kernel
theorem dL_law_328 : decode cL_law 328 = .ok (.iaload, 1) := by decide +kernel
theorem dL_law_329 : decode cL_law 329 = .ok (.i2l, 1) := by decide +kernel
theorem dL_law_330 : decode cL_law 330 = .ok (.bipush 32, 2) := by decide +kernel
theorem dL_law_332 : decode cL_law 332 = .ok (.lshl, 1) := by decide +kernel
theorem dL_law_333 : decode cL_law 333 = .ok (.aload_n 0, 1) := by decide +kernel
theorem dL_law_334 : decode cL_law 334 = .ok (.iload_n 3, 1) := by decide +kernel
theorem dL_law_335 : decode cL_law 335 = .ok (.iconst 4, 1) := by decide +kernel
theorem dL_law_336 : decode cL_law 336 = .ok (.iadd, 1) := by decide +kernel
theorem dL_law_337 : decode cL_law 337 = .ok (.iaload, 1) := by decide +kernel
theorem dL_law_338 : decode cL_law 338 = .ok (.i2l, 1) := by decide +kernel
theorem dL_law_339 : decode cL_law 339 = .ok (.ldc2_w 18, 3) := by decide +kernel
theorem dL_law_342 : decode cL_law 342 = .ok (.land, 1) := by decide +kernel
theorem dL_law_343 : decode cL_law 343 = .ok (.lor, 1) := by decide +kernel
theorem dL_law_344 : decode cL_law 344 = .ok (.invokevirtual 24, 3) := by decide +kernel
theorem dL_law_347 : decode cL_law 347 = .ok (.if_icmp .eq 1401, 3) := by decide +kernel
theorem dL_law_350 : decode cL_law 350 = .ok (.iconst 0, 1) := by decide +kernel
theorem dL_law_351 : decode cL_law 351 = .ok (.ireturn, 1) := by decide +kernel
theorem dL_law_352 : decode cL_law 352 = .ok (.aload_n 1, 1) := by decide +kernel
theorem dL_law_353 : decode cL_law 353 = .ok (.aload_n 0, 1) := by decide +kernel
theorem dL_law_354 : decode cL_law 354 = .ok (.iload_n 3, 1) := by decide +kernel
theorem dL_law_355 : decode cL_law 355 = .ok (.iconst 1, 1) := by decide +kernel
theorem dL_law_356 : decode cL_law 356 = .ok (.iadd, 1) := by decide +kernel
theorem dL_law_357 : decode cL_law 357 = .ok (.iaload, 1) := by decide +kernel
theorem dL_law_358 : decode cL_law 358 = .ok (.aload_n 0, 1) := by decide +kernel
theorem dL_law_359 : decode cL_law 359 = .ok (.iload_n 3, 1) := by decide +kernel
theorem dL_law_360 : decode cL_law 360 = .ok (.iconst 2, 1) := by decide +kernel
theorem dL_law_361 : decode cL_law 361 = .ok (.iadd, 1) := by decide +kernel
theorem dL_law_362 : decode cL_law 362 = .ok (.iaload, 1) := by decide +kernel
theorem dL_law_363 : decode cL_law 363 = .ok (.aload_n 0, 1) := by decide +kernel
theorem dL_law_364 : decode cL_law 364 = .ok (.iload_n 3, 1) := by decide +kernel
theorem dL_law_365 : decode cL_law 365 = .ok (.iconst 3, 1) := by decide +kernel
theorem dL_law_366 : decode cL_law 366 = .ok (.iadd, 1) := by decide +kernel
theorem dL_law_367 : decode cL_law 367 = .ok (.iaload, 1) := by decide +kernel
theorem dL_law_368 : decode cL_law 368 = .ok (.aload_n 0, 1) := by decide +kernel
theorem dL_law_369 : decode cL_law 369 = .ok (.iload_n 3, 1) := by decide +kernel
theorem dL_law_370 : decode cL_law 370 = .ok (.iconst 4, 1) := by decide +kernel
theorem dL_law_371 : decode cL_law 371 = .ok (.iadd, 1) := by decide +kernel
theorem dL_law_372 : decode cL_law 372 = .ok (.iaload, 1) := by decide +kernel
theorem dL_law_373 : decode cL_law 373 = .ok (.aload_n 0, 1) := by decide +kernel
theorem dL_law_374 : decode cL_law 374 = .ok (.iload_n 3, 1) := by decide +kernel
theorem dL_law_375 : decode cL_law 375 = .ok (.iconst 5, 1) := by decide +kernel
theorem dL_law_376 : decode cL_law 376 = .ok (.iadd, 1) := by decide +kernel
theorem dL_law_377 : decode cL_law 377 = .ok (.iaload, 1) := by decide +kernel
theorem dL_law_378 : decode cL_law 378 = .ok (.invokevirtual 25, 3) := by decide +kernel
theorem dL_law_381 : decode cL_law 381 = .ok (.aload_n 2, 1) := by decide +kernel
theorem dL_law_382 : decode cL_law 382 = .ok (.aload_n 0, 1) := by decide +kernel
theorem dL_law_383 : decode cL_law 383 = .ok (.iload_n 3, 1) := by decide +kernel
theorem dL_law_384 : decode cL_law 384 = .ok (.iconst 1, 1) := by decide +kernel
theorem dL_law_385 : decode cL_law 385 = .ok (.iadd, 1) := by decide +kernel
theorem dL_law_386 : decode cL_law 386 = .ok (.iaload, 1) := by decide +kernel
theorem dL_law_387 : decode cL_law 387 = .ok (.aload_n 0, 1) := by decide +kernel
theorem dL_law_388 : decode cL_law 388 = .ok (.iload_n 3, 1) := by decide +kernel
theorem dL_law_389 : decode cL_law 389 = .ok (.iconst 2, 1) := by decide +kernel
theorem dL_law_390 : decode cL_law 390 = .ok (.iadd, 1) := by decide +kernel
theorem dL_law_391 : decode cL_law 391 = .ok (.iaload, 1) := by decide +kernel
theorem dL_law_392 : decode cL_law 392 = .ok (.aload_n 0, 1) := by decide +kernel
theorem dL_law_393 : decode cL_law 393 = .ok (.iload_n 3, 1) := by decide +kernel
theorem dL_law_394 : decode cL_law 394 = .ok (.iconst 3, 1) := by decide +kernel
theorem dL_law_395 : decode cL_law 395 = .ok (.iadd, 1) := by decide +kernel
theorem dL_law_396 : decode cL_law 396 = .ok (.iaload, 1) := by decide +kernel
theorem dL_law_397 : decode cL_law 397 = .ok (.aload_n 0, 1) := by decide +kernel
theorem dL_law_398 : decode cL_law 398 = .ok (.iload_n 3, 1) := by decide +kernel
theorem dL_law_399 : decode cL_law 399 = .ok (.iconst 4, 1) := by decide +kernel
theorem dL_law_400 : decode cL_law 400 = .ok (.iadd, 1) := by decide +kernel
theorem dL_law_401 : decode cL_law 401 = .ok (.iaload, 1) := by decide +kernel
theorem dL_law_402 : decode cL_law 402 = .ok (.aload_n 0, 1) := by decide +kernel
theorem dL_law_403 : decode cL_law 403 = .ok (.iload_n 3, 1) := by decide +kernel
theorem dL_law_404 : decode cL_law 404 = .ok (.iconst 5, 1) := by decide +kernel
theorem dL_law_405 : decode cL_law 405 = .ok (.iadd, 1) := by decide +kernel
theorem dL_law_406 : decode cL_law 406 = .ok (.iaload, 1) := by decide +kernel
theorem dL_law_407 : decode cL_law 407 = .ok (.invokevirtual 29, 3) := by decide +kernel
theorem dL_law_410 : decode cL_law 410 = .ok (.if_icmp .eq 1338, 3) := by decide +kernel
theorem dL_law_413 : decode cL_law 413 = .ok (.iconst 0, 1) := by decide +kernel
theorem dL_law_414 : decode cL_law 414 = .ok (.ireturn, 1) := by decide +kernel
theorem dL_law_415 : decode cL_law 415 = .ok (.aload_n 1, 1) := by decide +kernel
theorem dL_law_416 : decode cL_law 416 = .ok (.aload_n 0, 1) := by decide +kernel
theorem dL_law_417 : decode cL_law 417 = .ok (.iload_n 3, 1) := by decide +kernel
theorem dL_law_418 : decode cL_law 418 = .ok (.iconst 1, 1) := by decide +kernel
theorem dL_law_419 : decode cL_law 419 = .ok (.iadd, 1) := by decide +kernel
theorem dL_law_420 : decode cL_law 420 = .ok (.iaload, 1) := by decide +kernel
theorem dL_law_421 : decode cL_law 421 = .ok (.aload_n 0, 1) := by decide +kernel
theorem dL_law_422 : decode cL_law 422 = .ok (.iload_n 3, 1) := by decide +kernel
theorem dL_law_423 : decode cL_law 423 = .ok (.iconst 2, 1) := by decide +kernel
theorem dL_law_424 : decode cL_law 424 = .ok (.iadd, 1) := by decide +kernel
theorem dL_law_425 : decode cL_law 425 = .ok (.iaload, 1) := by decide +kernel
theorem dL_law_426 : decode cL_law 426 = .ok (.invokevirtual 30, 3) := by decide +kernel
theorem dL_law_429 : decode cL_law 429 = .ok (.aload_n 2, 1) := by decide +kernel
theorem dL_law_430 : decode cL_law 430 = .ok (.aload_n 0, 1) := by decide +kernel
theorem dL_law_431 : decode cL_law 431 = .ok (.iload_n 3, 1) := by decide +kernel
theorem dL_law_432 : decode cL_law 432 = .ok (.iconst 1, 1) := by decide +kernel
theorem dL_law_433 : decode cL_law 433 = .ok (.iadd, 1) := by decide +kernel
theorem dL_law_434 : decode cL_law 434 = .ok (.iaload, 1) := by decide +kernel
theorem dL_law_435 : decode cL_law 435 = .ok (.aload_n 0, 1) := by decide +kernel
theorem dL_law_436 : decode cL_law 436 = .ok (.iload_n 3, 1) := by decide +kernel
theorem dL_law_437 : decode cL_law 437 = .ok (.iconst 2, 1) := by decide +kernel
theorem dL_law_438 : decode cL_law 438 = .ok (.iadd, 1) := by decide +kernel
theorem dL_law_439 : decode cL_law 439 = .ok (.iaload, 1) := by decide +kernel
theorem dL_law_440 : decode cL_law 440 = .ok (.invokevirtual 34, 3) := by decide +kernel
theorem dL_law_443 : decode cL_law 443 = .ok (.lcmp, 1) := by decide +kernel
theorem dL_law_444 : decode cL_law 444 = .ok (.ifCond .eq 1304, 3) := by decide +kernel
theorem dL_law_447 : decode cL_law 447 = .ok (.iconst 0, 1) := by decide +kernel
theorem dL_law_448 : decode cL_law 448 = .ok (.ireturn, 1) := by decide +kernel
theorem dL_law_449 : decode cL_law 449 = .ok (.aload_n 1, 1) := by decide +kernel
theorem dL_law_450 : decode cL_law 450 = .ok (.aload_n 0, 1) := by decide +kernel
theorem dL_law_451 : decode cL_law 451 = .ok (.iload_n 3, 1) := by decide +kernel
theorem dL_law_452 : decode cL_law 452 = .ok (.iconst 1, 1) := by decide +kernel
theorem dL_law_453 : decode cL_law 453 = .ok (.iadd, 1) := by decide +kernel
theorem dL_law_454 : decode cL_law 454 = .ok (.iaload, 1) := by decide +kernel
theorem dL_law_455 : decode cL_law 455 = .ok (.aload_n 0, 1) := by decide +kernel
theorem dL_law_456 : decode cL_law 456 = .ok (.iload_n 3, 1) := by decide +kernel
theorem dL_law_457 : decode cL_law 457 = .ok (.iconst 2, 1) := by decide +kernel
theorem dL_law_458 : decode cL_law 458 = .ok (.iadd, 1) := by decide +kernel
theorem dL_law_459 : decode cL_law 459 = .ok (.iaload, 1) := by decide +kernel
theorem dL_law_460 : decode cL_law 460 = .ok (.invokevirtual 35, 3) := by decide +kernel
theorem dL_law_463 : decode cL_law 463 = .ok (.aload_n 2, 1) := by decide +kernel
theorem dL_law_464 : decode cL_law 464 = .ok (.aload_n 0, 1) := by decide +kernel
theorem dL_law_465 : decode cL_law 465 = .ok (.iload_n 3, 1) := by decide +kernel
theorem dL_law_466 : decode cL_law 466 = .ok (.iconst 1, 1) := by decide +kernel
theorem dL_law_467 : decode cL_law 467 = .ok (.iadd, 1) := by decide +kernel
theorem dL_law_468 : decode cL_law 468 = .ok (.iaload, 1) := by decide +kernel
theorem dL_law_469 : decode cL_law 469 = .ok (.aload_n 0, 1) := by decide +kernel
theorem dL_law_470 : decode cL_law 470 = .ok (.iload_n 3, 1) := by decide +kernel
theorem dL_law_471 : decode cL_law 471 = .ok (.iconst 2, 1) := by decide +kernel
theorem dL_law_472 : decode cL_law 472 = .ok (.iadd, 1) := by decide +kernel
theorem dL_law_473 : decode cL_law 473 = .ok (.iaload, 1) := by decide +kernel
theorem dL_law_474 : decode cL_law 474 = .ok (.invokevirtual 39, 3) := by decide +kernel
theorem dL_law_477 : decode cL_law 477 = .ok (.if_icmp .eq 1271, 3) := by decide +kernel
theorem dL_law_480 : decode cL_law 480 = .ok (.iconst 0, 1) := by decide +kernel
theorem dL_law_481 : decode cL_law 481 = .ok (.ireturn, 1) := by decide +kernel
theorem dL_law_482 : decode cL_law 482 = .ok (.aload_n 1, 1) := by decide +kernel
theorem dL_law_483 : decode cL_law 483 = .ok (.aload_n 0, 1) := by decide +kernel
theorem dL_law_484 : decode cL_law 484 = .ok (.iload_n 3, 1) := by decide +kernel
theorem dL_law_485 : decode cL_law 485 = .ok (.iconst 1, 1) := by decide +kernel
theorem dL_law_486 : decode cL_law 486 = .ok (.iadd, 1) := by decide +kernel
theorem dL_law_487 : decode cL_law 487 = .ok (.iaload, 1) := by decide +kernel
theorem dL_law_488 : decode cL_law 488 = .ok (.invokevirtual 40, 3) := by decide +kernel
theorem dL_law_491 : decode cL_law 491 = .ok (.aload_n 2, 1) := by decide +kernel
theorem dL_law_492 : decode cL_law 492 = .ok (.aload_n 0, 1) := by decide +kernel
theorem dL_law_493 : decode cL_law 493 = .ok (.iload_n 3, 1) := by decide +kernel
theorem dL_law_494 : decode cL_law 494 = .ok (.iconst 1, 1) := by decide +kernel
theorem dL_law_495 : decode cL_law 495 = .ok (.iadd, 1) := by decide +kernel
theorem dL_law_496 : decode cL_law 496 = .ok (.iaload, 1) := by decide +kernel
theorem dL_law_497 : decode cL_law 497 = .ok (.invokevirtual 44, 3) := by decide +kernel
theorem dL_law_500 : decode cL_law 500 = .ok (.if_icmp .eq 1248, 3) := by decide +kernel
theorem dL_law_503 : decode cL_law 503 = .ok (.iconst 0, 1) := by decide +kernel
theorem dL_law_504 : decode cL_law 504 = .ok (.ireturn, 1) := by decide +kernel
theorem dL_law_505 : decode cL_law 505 = .ok (.aload_n 1, 1) := by decide +kernel
theorem dL_law_506 : decode cL_law 506 = .ok (.aload_n 0, 1) := by decide +kernel
theorem dL_law_507 : decode cL_law 507 = .ok (.iload_n 3, 1) := by decide +kernel
theorem dL_law_508 : decode cL_law 508 = .ok (.iconst 1, 1) := by decide +kernel
theorem dL_law_509 : decode cL_law 509 = .ok (.iadd, 1) := by decide +kernel
theorem dL_law_510 : decode cL_law 510 = .ok (.iaload, 1) := by decide +kernel
theorem dL_law_511 : decode cL_law 511 = .ok (.aload_n 0, 1) := by decide +kernel
theorem dL_law_512 : decode cL_law 512 = .ok (.iload_n 3, 1) := by decide +kernel
theorem dL_law_513 : decode cL_law 513 = .ok (.iconst 2, 1) := by decide +kernel
theorem dL_law_514 : decode cL_law 514 = .ok (.iadd, 1) := by decide +kernel
theorem dL_law_515 : decode cL_law 515 = .ok (.iaload, 1) := by decide +kernel
theorem dL_law_516 : decode cL_law 516 = .ok (.invokevirtual 45, 3) := by decide +kernel
theorem dL_law_519 : decode cL_law 519 = .ok (.aload_n 2, 1) := by decide +kernel
theorem dL_law_520 : decode cL_law 520 = .ok (.aload_n 0, 1) := by decide +kernel
theorem dL_law_521 : decode cL_law 521 = .ok (.iload_n 3, 1) := by decide +kernel
theorem dL_law_522 : decode cL_law 522 = .ok (.iconst 1, 1) := by decide +kernel
theorem dL_law_523 : decode cL_law 523 = .ok (.iadd, 1) := by decide +kernel
theorem dL_law_524 : decode cL_law 524 = .ok (.iaload, 1) := by decide +kernel
theorem dL_law_525 : decode cL_law 525 = .ok (.aload_n 0, 1) := by decide +kernel
theorem dL_law_526 : decode cL_law 526 = .ok (.iload_n 3, 1) := by decide +kernel
theorem dL_law_527 : decode cL_law 527 = .ok (.iconst 2, 1) := by decide +kernel
theorem dL_law_528 : decode cL_law 528 = .ok (.iadd, 1) := by decide +kernel
theorem dL_law_529 : decode cL_law 529 = .ok (.iaload, 1) := by decide +kernel
theorem dL_law_530 : decode cL_law 530 = .ok (.invokevirtual 48, 3) := by decide +kernel
theorem dL_law_533 : decode cL_law 533 = .ok (.if_icmp .eq 1215, 3) := by decide +kernel
theorem dL_law_536 : decode cL_law 536 = .ok (.iconst 0, 1) := by decide +kernel
theorem dL_law_537 : decode cL_law 537 = .ok (.ireturn, 1) := by decide +kernel
theorem dL_law_538 : decode cL_law 538 = .ok (.aload_n 1, 1) := by decide +kernel
theorem dL_law_539 : decode cL_law 539 = .ok (.aload_n 0, 1) := by decide +kernel
theorem dL_law_540 : decode cL_law 540 = .ok (.iload_n 3, 1) := by decide +kernel
theorem dL_law_541 : decode cL_law 541 = .ok (.iconst 1, 1) := by decide +kernel
theorem dL_law_542 : decode cL_law 542 = .ok (.iadd, 1) := by decide +kernel
theorem dL_law_543 : decode cL_law 543 = .ok (.iaload, 1) := by decide +kernel
theorem dL_law_544 : decode cL_law 544 = .ok (.aload_n 0, 1) := by decide +kernel
theorem dL_law_545 : decode cL_law 545 = .ok (.iload_n 3, 1) := by decide +kernel
theorem dL_law_546 : decode cL_law 546 = .ok (.iconst 2, 1) := by decide +kernel
theorem dL_law_547 : decode cL_law 547 = .ok (.iadd, 1) := by decide +kernel
theorem dL_law_548 : decode cL_law 548 = .ok (.iaload, 1) := by decide +kernel
theorem dL_law_549 : decode cL_law 549 = .ok (.aload_n 0, 1) := by decide +kernel
theorem dL_law_550 : decode cL_law 550 = .ok (.iload_n 3, 1) := by decide +kernel
theorem dL_law_551 : decode cL_law 551 = .ok (.iconst 3, 1) := by decide +kernel
theorem dL_law_552 : decode cL_law 552 = .ok (.iadd, 1) := by decide +kernel
theorem dL_law_553 : decode cL_law 553 = .ok (.iaload, 1) := by decide +kernel
theorem dL_law_554 : decode cL_law 554 = .ok (.aload_n 0, 1) := by decide +kernel
theorem dL_law_555 : decode cL_law 555 = .ok (.iload_n 3, 1) := by decide +kernel
theorem dL_law_556 : decode cL_law 556 = .ok (.iconst 4, 1) := by decide +kernel
theorem dL_law_557 : decode cL_law 557 = .ok (.iadd, 1) := by decide +kernel
theorem dL_law_558 : decode cL_law 558 = .ok (.iaload, 1) := by decide +kernel
theorem dL_law_559 : decode cL_law 559 = .ok (.invokevirtual 49, 3) := by decide +kernel
theorem dL_law_562 : decode cL_law 562 = .ok (.aload_n 2, 1) := by decide +kernel
theorem dL_law_563 : decode cL_law 563 = .ok (.aload_n 0, 1) := by decide +kernel
theorem dL_law_564 : decode cL_law 564 = .ok (.iload_n 3, 1) := by decide +kernel
theorem dL_law_565 : decode cL_law 565 = .ok (.iconst 1, 1) := by decide +kernel
theorem dL_law_566 : decode cL_law 566 = .ok (.iadd, 1) := by decide +kernel
theorem dL_law_567 : decode cL_law 567 = .ok (.iaload, 1) := by decide +kernel
theorem dL_law_568 : decode cL_law 568 = .ok (.aload_n 0, 1) := by decide +kernel
theorem dL_law_569 : decode cL_law 569 = .ok (.iload_n 3, 1) := by decide +kernel
theorem dL_law_570 : decode cL_law 570 = .ok (.iconst 2, 1) := by decide +kernel
theorem dL_law_571 : decode cL_law 571 = .ok (.iadd, 1) := by decide +kernel
theorem dL_law_572 : decode cL_law 572 = .ok (.iaload, 1) := by decide +kernel
theorem dL_law_573 : decode cL_law 573 = .ok (.aload_n 0, 1) := by decide +kernel
theorem dL_law_574 : decode cL_law 574 = .ok (.iload_n 3, 1) := by decide +kernel
theorem dL_law_575 : decode cL_law 575 = .ok (.iconst 3, 1) := by decide +kernel
theorem dL_law_576 : decode cL_law 576 = .ok (.iadd, 1) := by decide +kernel
theorem dL_law_577 : decode cL_law 577 = .ok (.iaload, 1) := by decide +kernel
theorem dL_law_578 : decode cL_law 578 = .ok (.aload_n 0, 1) := by decide +kernel
theorem dL_law_579 : decode cL_law 579 = .ok (.iload_n 3, 1) := by decide +kernel
theorem dL_law_580 : decode cL_law 580 = .ok (.iconst 4, 1) := by decide +kernel
theorem dL_law_581 : decode cL_law 581 = .ok (.iadd, 1) := by decide +kernel
theorem dL_law_582 : decode cL_law 582 = .ok (.iaload, 1) := by decide +kernel
theorem dL_law_583 : decode cL_law 583 = .ok (.invokevirtual 53, 3) := by decide +kernel
theorem dL_law_586 : decode cL_law 586 = .ok (.if_icmp .eq 1162, 3) := by decide +kernel
theorem dL_law_589 : decode cL_law 589 = .ok (.iconst 0, 1) := by decide +kernel
theorem dL_law_590 : decode cL_law 590 = .ok (.ireturn, 1) := by decide +kernel
theorem dL_law_591 : decode cL_law 591 = .ok (.aload_n 1, 1) := by decide +kernel
theorem dL_law_592 : decode cL_law 592 = .ok (.aload_n 0, 1) := by decide +kernel
theorem dL_law_593 : decode cL_law 593 = .ok (.iload_n 3, 1) := by decide +kernel
theorem dL_law_594 : decode cL_law 594 = .ok (.iconst 1, 1) := by decide +kernel
theorem dL_law_595 : decode cL_law 595 = .ok (.iadd, 1) := by decide +kernel
theorem dL_law_596 : decode cL_law 596 = .ok (.iaload, 1) := by decide +kernel
theorem dL_law_597 : decode cL_law 597 = .ok (.aload_n 0, 1) := by decide +kernel
theorem dL_law_598 : decode cL_law 598 = .ok (.iload_n 3, 1) := by decide +kernel
theorem dL_law_599 : decode cL_law 599 = .ok (.iconst 2, 1) := by decide +kernel
theorem dL_law_600 : decode cL_law 600 = .ok (.iadd, 1) := by decide +kernel
theorem dL_law_601 : decode cL_law 601 = .ok (.iaload, 1) := by decide +kernel
theorem dL_law_602 : decode cL_law 602 = .ok (.aload_n 0, 1) := by decide +kernel
theorem dL_law_603 : decode cL_law 603 = .ok (.iload_n 3, 1) := by decide +kernel
theorem dL_law_604 : decode cL_law 604 = .ok (.iconst 3, 1) := by decide +kernel
theorem dL_law_605 : decode cL_law 605 = .ok (.iadd, 1) := by decide +kernel
theorem dL_law_606 : decode cL_law 606 = .ok (.iaload, 1) := by decide +kernel
theorem dL_law_607 : decode cL_law 607 = .ok (.invokevirtual 54, 3) := by decide +kernel
theorem dL_law_610 : decode cL_law 610 = .ok (.aload_n 2, 1) := by decide +kernel
theorem dL_law_611 : decode cL_law 611 = .ok (.aload_n 0, 1) := by decide +kernel
theorem dL_law_612 : decode cL_law 612 = .ok (.iload_n 3, 1) := by decide +kernel
theorem dL_law_613 : decode cL_law 613 = .ok (.iconst 1, 1) := by decide +kernel
theorem dL_law_614 : decode cL_law 614 = .ok (.iadd, 1) := by decide +kernel
theorem dL_law_615 : decode cL_law 615 = .ok (.iaload, 1) := by decide +kernel
theorem dL_law_616 : decode cL_law 616 = .ok (.aload_n 0, 1) := by decide +kernel
theorem dL_law_617 : decode cL_law 617 = .ok (.iload_n 3, 1) := by decide +kernel
theorem dL_law_618 : decode cL_law 618 = .ok (.iconst 2, 1) := by decide +kernel
theorem dL_law_619 : decode cL_law 619 = .ok (.iadd, 1) := by decide +kernel
theorem dL_law_620 : decode cL_law 620 = .ok (.iaload, 1) := by decide +kernel
theorem dL_law_621 : decode cL_law 621 = .ok (.aload_n 0, 1) := by decide +kernel
theorem dL_law_622 : decode cL_law 622 = .ok (.iload_n 3, 1) := by decide +kernel
theorem dL_law_623 : decode cL_law 623 = .ok (.iconst 3, 1) := by decide +kernel
theorem dL_law_624 : decode cL_law 624 = .ok (.iadd, 1) := by decide +kernel
theorem dL_law_625 : decode cL_law 625 = .ok (.iaload, 1) := by decide +kernel
theorem dL_law_626 : decode cL_law 626 = .ok (.invokevirtual 57, 3) := by decide +kernel
theorem dL_law_629 : decode cL_law 629 = .ok (.if_icmp .eq 1119, 3) := by decide +kernel
theorem dL_law_632 : decode cL_law 632 = .ok (.iconst 0, 1) := by decide +kernel
theorem dL_law_633 : decode cL_law 633 = .ok (.ireturn, 1) := by decide +kernel
theorem dL_law_634 : decode cL_law 634 = .ok (.aload_n 1, 1) := by decide +kernel
theorem dL_law_635 : decode cL_law 635 = .ok (.aload_n 0, 1) := by decide +kernel
theorem dL_law_636 : decode cL_law 636 = .ok (.iload_n 3, 1) := by decide +kernel
theorem dL_law_637 : decode cL_law 637 = .ok (.iconst 1, 1) := by decide +kernel
theorem dL_law_638 : decode cL_law 638 = .ok (.iadd, 1) := by decide +kernel
theorem dL_law_639 : decode cL_law 639 = .ok (.iaload, 1) := by decide +kernel
theorem dL_law_640 : decode cL_law 640 = .ok (.invokevirtual 58, 3) := by decide +kernel
theorem dL_law_643 : decode cL_law 643 = .ok (.aload_n 2, 1) := by decide +kernel
theorem dL_law_644 : decode cL_law 644 = .ok (.aload_n 0, 1) := by decide +kernel
theorem dL_law_645 : decode cL_law 645 = .ok (.iload_n 3, 1) := by decide +kernel
theorem dL_law_646 : decode cL_law 646 = .ok (.iconst 1, 1) := by decide +kernel
theorem dL_law_647 : decode cL_law 647 = .ok (.iadd, 1) := by decide +kernel
theorem dL_law_648 : decode cL_law 648 = .ok (.iaload, 1) := by decide +kernel
theorem dL_law_649 : decode cL_law 649 = .ok (.invokevirtual 61, 3) := by decide +kernel
theorem dL_law_652 : decode cL_law 652 = .ok (.if_icmp .eq 1096, 3) := by decide +kernel
theorem dL_law_655 : decode cL_law 655 = .ok (.iconst 0, 1) := by decide +kernel
theorem dL_law_656 : decode cL_law 656 = .ok (.ireturn, 1) := by decide +kernel
theorem dL_law_657 : decode cL_law 657 = .ok (.aload_n 1, 1) := by decide +kernel
theorem dL_law_658 : decode cL_law 658 = .ok (.aload_n 0, 1) := by decide +kernel
theorem dL_law_659 : decode cL_law 659 = .ok (.iload_n 3, 1) := by decide +kernel
theorem dL_law_660 : decode cL_law 660 = .ok (.iconst 1, 1) := by decide +kernel
theorem dL_law_661 : decode cL_law 661 = .ok (.iadd, 1) := by decide +kernel
theorem dL_law_662 : decode cL_law 662 = .ok (.iaload, 1) := by decide +kernel
theorem dL_law_663 : decode cL_law 663 = .ok (.aload_n 0, 1) := by decide +kernel
theorem dL_law_664 : decode cL_law 664 = .ok (.iload_n 3, 1) := by decide +kernel
theorem dL_law_665 : decode cL_law 665 = .ok (.iconst 2, 1) := by decide +kernel
theorem dL_law_666 : decode cL_law 666 = .ok (.iadd, 1) := by decide +kernel
theorem dL_law_667 : decode cL_law 667 = .ok (.iaload, 1) := by decide +kernel
theorem dL_law_668 : decode cL_law 668 = .ok (.invokevirtual 62, 3) := by decide +kernel
theorem dL_law_671 : decode cL_law 671 = .ok (.aload_n 2, 1) := by decide +kernel
theorem dL_law_672 : decode cL_law 672 = .ok (.aload_n 0, 1) := by decide +kernel
theorem dL_law_673 : decode cL_law 673 = .ok (.iload_n 3, 1) := by decide +kernel
theorem dL_law_674 : decode cL_law 674 = .ok (.iconst 1, 1) := by decide +kernel
theorem dL_law_675 : decode cL_law 675 = .ok (.iadd, 1) := by decide +kernel
theorem dL_law_676 : decode cL_law 676 = .ok (.iaload, 1) := by decide +kernel
theorem dL_law_677 : decode cL_law 677 = .ok (.aload_n 0, 1) := by decide +kernel
theorem dL_law_678 : decode cL_law 678 = .ok (.iload_n 3, 1) := by decide +kernel
theorem dL_law_679 : decode cL_law 679 = .ok (.iconst 2, 1) := by decide +kernel
theorem dL_law_680 : decode cL_law 680 = .ok (.iadd, 1) := by decide +kernel
theorem dL_law_681 : decode cL_law 681 = .ok (.iaload, 1) := by decide +kernel
theorem dL_law_682 : decode cL_law 682 = .ok (.invokevirtual 65, 3) := by decide +kernel
theorem dL_law_685 : decode cL_law 685 = .ok (.if_icmp .eq 1063, 3) := by decide +kernel
theorem dL_law_688 : decode cL_law 688 = .ok (.iconst 0, 1) := by decide +kernel
theorem dL_law_689 : decode cL_law 689 = .ok (.ireturn, 1) := by decide +kernel
theorem dL_law_690 : decode cL_law 690 = .ok (.aload_n 1, 1) := by decide +kernel
theorem dL_law_691 : decode cL_law 691 = .ok (.aload_n 0, 1) := by decide +kernel
theorem dL_law_692 : decode cL_law 692 = .ok (.iload_n 3, 1) := by decide +kernel
theorem dL_law_693 : decode cL_law 693 = .ok (.iconst 1, 1) := by decide +kernel
theorem dL_law_694 : decode cL_law 694 = .ok (.iadd, 1) := by decide +kernel
theorem dL_law_695 : decode cL_law 695 = .ok (.iaload, 1) := by decide +kernel
theorem dL_law_696 : decode cL_law 696 = .ok (.aload_n 0, 1) := by decide +kernel
theorem dL_law_697 : decode cL_law 697 = .ok (.iload_n 3, 1) := by decide +kernel
theorem dL_law_698 : decode cL_law 698 = .ok (.iconst 2, 1) := by decide +kernel
theorem dL_law_699 : decode cL_law 699 = .ok (.iadd, 1) := by decide +kernel
theorem dL_law_700 : decode cL_law 700 = .ok (.iaload, 1) := by decide +kernel
theorem dL_law_701 : decode cL_law 701 = .ok (.aload_n 0, 1) := by decide +kernel
theorem dL_law_702 : decode cL_law 702 = .ok (.iload_n 3, 1) := by decide +kernel
theorem dL_law_703 : decode cL_law 703 = .ok (.iconst 3, 1) := by decide +kernel
theorem dL_law_704 : decode cL_law 704 = .ok (.iadd, 1) := by decide +kernel
theorem dL_law_705 : decode cL_law 705 = .ok (.iaload, 1) := by decide +kernel
theorem dL_law_706 : decode cL_law 706 = .ok (.invokevirtual 66, 3) := by decide +kernel
theorem dL_law_709 : decode cL_law 709 = .ok (.aload_n 2, 1) := by decide +kernel
theorem dL_law_710 : decode cL_law 710 = .ok (.aload_n 0, 1) := by decide +kernel
theorem dL_law_711 : decode cL_law 711 = .ok (.iload_n 3, 1) := by decide +kernel
theorem dL_law_712 : decode cL_law 712 = .ok (.iconst 1, 1) := by decide +kernel
theorem dL_law_713 : decode cL_law 713 = .ok (.iadd, 1) := by decide +kernel
theorem dL_law_714 : decode cL_law 714 = .ok (.iaload, 1) := by decide +kernel
theorem dL_law_715 : decode cL_law 715 = .ok (.aload_n 0, 1) := by decide +kernel
theorem dL_law_716 : decode cL_law 716 = .ok (.iload_n 3, 1) := by decide +kernel
theorem dL_law_717 : decode cL_law 717 = .ok (.iconst 2, 1) := by decide +kernel
theorem dL_law_718 : decode cL_law 718 = .ok (.iadd, 1) := by decide +kernel
theorem dL_law_719 : decode cL_law 719 = .ok (.iaload, 1) := by decide +kernel
theorem dL_law_720 : decode cL_law 720 = .ok (.aload_n 0, 1) := by decide +kernel
theorem dL_law_721 : decode cL_law 721 = .ok (.iload_n 3, 1) := by decide +kernel
theorem dL_law_722 : decode cL_law 722 = .ok (.iconst 3, 1) := by decide +kernel
theorem dL_law_723 : decode cL_law 723 = .ok (.iadd, 1) := by decide +kernel
theorem dL_law_724 : decode cL_law 724 = .ok (.iaload, 1) := by decide +kernel
theorem dL_law_725 : decode cL_law 725 = .ok (.invokevirtual 69, 3) := by decide +kernel
theorem dL_law_728 : decode cL_law 728 = .ok (.if_icmp .eq 1020, 3) := by decide +kernel
theorem dL_law_731 : decode cL_law 731 = .ok (.iconst 0, 1) := by decide +kernel
theorem dL_law_732 : decode cL_law 732 = .ok (.ireturn, 1) := by decide +kernel
theorem dL_law_733 : decode cL_law 733 = .ok (.aload_n 1, 1) := by decide +kernel
theorem dL_law_734 : decode cL_law 734 = .ok (.aload_n 0, 1) := by decide +kernel
theorem dL_law_735 : decode cL_law 735 = .ok (.iload_n 3, 1) := by decide +kernel
theorem dL_law_736 : decode cL_law 736 = .ok (.iconst 1, 1) := by decide +kernel
theorem dL_law_737 : decode cL_law 737 = .ok (.iadd, 1) := by decide +kernel
theorem dL_law_738 : decode cL_law 738 = .ok (.iaload, 1) := by decide +kernel
theorem dL_law_739 : decode cL_law 739 = .ok (.aload_n 0, 1) := by decide +kernel
theorem dL_law_740 : decode cL_law 740 = .ok (.iload_n 3, 1) := by decide +kernel
theorem dL_law_741 : decode cL_law 741 = .ok (.iconst 2, 1) := by decide +kernel
theorem dL_law_742 : decode cL_law 742 = .ok (.iadd, 1) := by decide +kernel
theorem dL_law_743 : decode cL_law 743 = .ok (.iaload, 1) := by decide +kernel
theorem dL_law_744 : decode cL_law 744 = .ok (.invokevirtual 70, 3) := by decide +kernel
theorem dL_law_747 : decode cL_law 747 = .ok (.aload_n 2, 1) := by decide +kernel
theorem dL_law_748 : decode cL_law 748 = .ok (.aload_n 0, 1) := by decide +kernel
theorem dL_law_749 : decode cL_law 749 = .ok (.iload_n 3, 1) := by decide +kernel
theorem dL_law_750 : decode cL_law 750 = .ok (.iconst 1, 1) := by decide +kernel
theorem dL_law_751 : decode cL_law 751 = .ok (.iadd, 1) := by decide +kernel
theorem dL_law_752 : decode cL_law 752 = .ok (.iaload, 1) := by decide +kernel
theorem dL_law_753 : decode cL_law 753 = .ok (.aload_n 0, 1) := by decide +kernel
theorem dL_law_754 : decode cL_law 754 = .ok (.iload_n 3, 1) := by decide +kernel
theorem dL_law_755 : decode cL_law 755 = .ok (.iconst 2, 1) := by decide +kernel
theorem dL_law_756 : decode cL_law 756 = .ok (.iadd, 1) := by decide +kernel
theorem dL_law_757 : decode cL_law 757 = .ok (.iaload, 1) := by decide +kernel
theorem dL_law_758 : decode cL_law 758 = .ok (.invokevirtual 73, 3) := by decide +kernel
theorem dL_law_761 : decode cL_law 761 = .ok (.if_icmp .eq 987, 3) := by decide +kernel
theorem dL_law_764 : decode cL_law 764 = .ok (.iconst 0, 1) := by decide +kernel
theorem dL_law_765 : decode cL_law 765 = .ok (.ireturn, 1) := by decide +kernel
theorem dL_law_766 : decode cL_law 766 = .ok (.aload_n 1, 1) := by decide +kernel
theorem dL_law_767 : decode cL_law 767 = .ok (.aload_n 0, 1) := by decide +kernel
theorem dL_law_768 : decode cL_law 768 = .ok (.iload_n 3, 1) := by decide +kernel
theorem dL_law_769 : decode cL_law 769 = .ok (.iconst 1, 1) := by decide +kernel
theorem dL_law_770 : decode cL_law 770 = .ok (.iadd, 1) := by decide +kernel
theorem dL_law_771 : decode cL_law 771 = .ok (.iaload, 1) := by decide +kernel
theorem dL_law_772 : decode cL_law 772 = .ok (.aload_n 0, 1) := by decide +kernel
theorem dL_law_773 : decode cL_law 773 = .ok (.iload_n 3, 1) := by decide +kernel
theorem dL_law_774 : decode cL_law 774 = .ok (.iconst 2, 1) := by decide +kernel
theorem dL_law_775 : decode cL_law 775 = .ok (.iadd, 1) := by decide +kernel
theorem dL_law_776 : decode cL_law 776 = .ok (.iaload, 1) := by decide +kernel
theorem dL_law_777 : decode cL_law 777 = .ok (.invokevirtual 74, 3) := by decide +kernel
theorem dL_law_780 : decode cL_law 780 = .ok (.aload_n 2, 1) := by decide +kernel
theorem dL_law_781 : decode cL_law 781 = .ok (.aload_n 0, 1) := by decide +kernel
theorem dL_law_782 : decode cL_law 782 = .ok (.iload_n 3, 1) := by decide +kernel
theorem dL_law_783 : decode cL_law 783 = .ok (.iconst 1, 1) := by decide +kernel
theorem dL_law_784 : decode cL_law 784 = .ok (.iadd, 1) := by decide +kernel
theorem dL_law_785 : decode cL_law 785 = .ok (.iaload, 1) := by decide +kernel
theorem dL_law_786 : decode cL_law 786 = .ok (.aload_n 0, 1) := by decide +kernel
theorem dL_law_787 : decode cL_law 787 = .ok (.iload_n 3, 1) := by decide +kernel
theorem dL_law_788 : decode cL_law 788 = .ok (.iconst 2, 1) := by decide +kernel
theorem dL_law_789 : decode cL_law 789 = .ok (.iadd, 1) := by decide +kernel
theorem dL_law_790 : decode cL_law 790 = .ok (.iaload, 1) := by decide +kernel
theorem dL_law_791 : decode cL_law 791 = .ok (.invokevirtual 77, 3) := by decide +kernel
theorem dL_law_794 : decode cL_law 794 = .ok (.if_icmp .eq 954, 3) := by decide +kernel
theorem dL_law_797 : decode cL_law 797 = .ok (.iconst 0, 1) := by decide +kernel
theorem dL_law_798 : decode cL_law 798 = .ok (.ireturn, 1) := by decide +kernel
theorem dL_law_799 : decode cL_law 799 = .ok (.aload_n 1, 1) := by decide +kernel
theorem dL_law_800 : decode cL_law 800 = .ok (.aload_n 0, 1) := by decide +kernel
theorem dL_law_801 : decode cL_law 801 = .ok (.iload_n 3, 1) := by decide +kernel
theorem dL_law_802 : decode cL_law 802 = .ok (.iconst 1, 1) := by decide +kernel
theorem dL_law_803 : decode cL_law 803 = .ok (.iadd, 1) := by decide +kernel
theorem dL_law_804 : decode cL_law 804 = .ok (.iaload, 1) := by decide +kernel
theorem dL_law_805 : decode cL_law 805 = .ok (.aload_n 0, 1) := by decide +kernel
theorem dL_law_806 : decode cL_law 806 = .ok (.iload_n 3, 1) := by decide +kernel
theorem dL_law_807 : decode cL_law 807 = .ok (.iconst 2, 1) := by decide +kernel
theorem dL_law_808 : decode cL_law 808 = .ok (.iadd, 1) := by decide +kernel
theorem dL_law_809 : decode cL_law 809 = .ok (.iaload, 1) := by decide +kernel
theorem dL_law_810 : decode cL_law 810 = .ok (.aload_n 0, 1) := by decide +kernel
theorem dL_law_811 : decode cL_law 811 = .ok (.iload_n 3, 1) := by decide +kernel
theorem dL_law_812 : decode cL_law 812 = .ok (.iconst 3, 1) := by decide +kernel
theorem dL_law_813 : decode cL_law 813 = .ok (.iadd, 1) := by decide +kernel
theorem dL_law_814 : decode cL_law 814 = .ok (.iaload, 1) := by decide +kernel
theorem dL_law_815 : decode cL_law 815 = .ok (.invokevirtual 78, 3) := by decide +kernel
theorem dL_law_818 : decode cL_law 818 = .ok (.aload_n 2, 1) := by decide +kernel
theorem dL_law_819 : decode cL_law 819 = .ok (.aload_n 0, 1) := by decide +kernel
theorem dL_law_820 : decode cL_law 820 = .ok (.iload_n 3, 1) := by decide +kernel
theorem dL_law_821 : decode cL_law 821 = .ok (.iconst 1, 1) := by decide +kernel
theorem dL_law_822 : decode cL_law 822 = .ok (.iadd, 1) := by decide +kernel
theorem dL_law_823 : decode cL_law 823 = .ok (.iaload, 1) := by decide +kernel
theorem dL_law_824 : decode cL_law 824 = .ok (.aload_n 0, 1) := by decide +kernel
theorem dL_law_825 : decode cL_law 825 = .ok (.iload_n 3, 1) := by decide +kernel
theorem dL_law_826 : decode cL_law 826 = .ok (.iconst 2, 1) := by decide +kernel
theorem dL_law_827 : decode cL_law 827 = .ok (.iadd, 1) := by decide +kernel
theorem dL_law_828 : decode cL_law 828 = .ok (.iaload, 1) := by decide +kernel
theorem dL_law_829 : decode cL_law 829 = .ok (.aload_n 0, 1) := by decide +kernel
theorem dL_law_830 : decode cL_law 830 = .ok (.iload_n 3, 1) := by decide +kernel
theorem dL_law_831 : decode cL_law 831 = .ok (.iconst 3, 1) := by decide +kernel
theorem dL_law_832 : decode cL_law 832 = .ok (.iadd, 1) := by decide +kernel
theorem dL_law_833 : decode cL_law 833 = .ok (.iaload, 1) := by decide +kernel
theorem dL_law_834 : decode cL_law 834 = .ok (.invokevirtual 81, 3) := by decide +kernel
theorem dL_law_837 : decode cL_law 837 = .ok (.if_icmp .eq 911, 3) := by decide +kernel
theorem dL_law_840 : decode cL_law 840 = .ok (.iconst 0, 1) := by decide +kernel
theorem dL_law_841 : decode cL_law 841 = .ok (.ireturn, 1) := by decide +kernel
theorem dL_law_842 : decode cL_law 842 = .ok (.aload_n 1, 1) := by decide +kernel
theorem dL_law_843 : decode cL_law 843 = .ok (.aload_n 0, 1) := by decide +kernel
theorem dL_law_844 : decode cL_law 844 = .ok (.iload_n 3, 1) := by decide +kernel
theorem dL_law_845 : decode cL_law 845 = .ok (.iconst 1, 1) := by decide +kernel
theorem dL_law_846 : decode cL_law 846 = .ok (.iadd, 1) := by decide +kernel
theorem dL_law_847 : decode cL_law 847 = .ok (.iaload, 1) := by decide +kernel
theorem dL_law_848 : decode cL_law 848 = .ok (.aload_n 0, 1) := by decide +kernel
theorem dL_law_849 : decode cL_law 849 = .ok (.iload_n 3, 1) := by decide +kernel
theorem dL_law_850 : decode cL_law 850 = .ok (.iconst 2, 1) := by decide +kernel
theorem dL_law_851 : decode cL_law 851 = .ok (.iadd, 1) := by decide +kernel
theorem dL_law_852 : decode cL_law 852 = .ok (.iaload, 1) := by decide +kernel
theorem dL_law_853 : decode cL_law 853 = .ok (.invokevirtual 82, 3) := by decide +kernel
theorem dL_law_856 : decode cL_law 856 = .ok (.aload_n 2, 1) := by decide +kernel
theorem dL_law_857 : decode cL_law 857 = .ok (.aload_n 0, 1) := by decide +kernel
theorem dL_law_858 : decode cL_law 858 = .ok (.iload_n 3, 1) := by decide +kernel
theorem dL_law_859 : decode cL_law 859 = .ok (.iconst 1, 1) := by decide +kernel
theorem dL_law_860 : decode cL_law 860 = .ok (.iadd, 1) := by decide +kernel
theorem dL_law_861 : decode cL_law 861 = .ok (.iaload, 1) := by decide +kernel
theorem dL_law_862 : decode cL_law 862 = .ok (.aload_n 0, 1) := by decide +kernel
theorem dL_law_863 : decode cL_law 863 = .ok (.iload_n 3, 1) := by decide +kernel
theorem dL_law_864 : decode cL_law 864 = .ok (.iconst 2, 1) := by decide +kernel
theorem dL_law_865 : decode cL_law 865 = .ok (.iadd, 1) := by decide +kernel
theorem dL_law_866 : decode cL_law 866 = .ok (.iaload, 1) := by decide +kernel
theorem dL_law_867 : decode cL_law 867 = .ok (.invokevirtual 85, 3) := by decide +kernel
theorem dL_law_870 : decode cL_law 870 = .ok (.if_icmp .eq 878, 3) := by decide +kernel
theorem dL_law_873 : decode cL_law 873 = .ok (.iconst 0, 1) := by decide +kernel
theorem dL_law_874 : decode cL_law 874 = .ok (.ireturn, 1) := by decide +kernel
theorem dL_law_875 : decode cL_law 875 = .ok (.aload_n 1, 1) := by decide +kernel
theorem dL_law_876 : decode cL_law 876 = .ok (.aload_n 0, 1) := by decide +kernel
theorem dL_law_877 : decode cL_law 877 = .ok (.iload_n 3, 1) := by decide +kernel
theorem dL_law_878 : decode cL_law 878 = .ok (.iconst 1, 1) := by decide +kernel
theorem dL_law_879 : decode cL_law 879 = .ok (.iadd, 1) := by decide +kernel
theorem dL_law_880 : decode cL_law 880 = .ok (.iaload, 1) := by decide +kernel
theorem dL_law_881 : decode cL_law 881 = .ok (.invokevirtual 86, 3) := by decide +kernel
theorem dL_law_884 : decode cL_law 884 = .ok (.aload_n 2, 1) := by decide +kernel
theorem dL_law_885 : decode cL_law 885 = .ok (.aload_n 0, 1) := by decide +kernel
theorem dL_law_886 : decode cL_law 886 = .ok (.iload_n 3, 1) := by decide +kernel
theorem dL_law_887 : decode cL_law 887 = .ok (.iconst 1, 1) := by decide +kernel
theorem dL_law_888 : decode cL_law 888 = .ok (.iadd, 1) := by decide +kernel
theorem dL_law_889 : decode cL_law 889 = .ok (.iaload, 1) := by decide +kernel
theorem dL_law_890 : decode cL_law 890 = .ok (.invokevirtual 89, 3) := by decide +kernel
theorem dL_law_893 : decode cL_law 893 = .ok (.if_icmp .eq 855, 3) := by decide +kernel
theorem dL_law_896 : decode cL_law 896 = .ok (.iconst 0, 1) := by decide +kernel
theorem dL_law_897 : decode cL_law 897 = .ok (.ireturn, 1) := by decide +kernel
theorem dL_law_898 : decode cL_law 898 = .ok (.aload_n 1, 1) := by decide +kernel
theorem dL_law_899 : decode cL_law 899 = .ok (.invokevirtual 90, 3) := by decide +kernel
theorem dL_law_902 : decode cL_law 902 = .ok (.aload_n 2, 1) := by decide +kernel
theorem dL_law_903 : decode cL_law 903 = .ok (.invokevirtual 94, 3) := by decide +kernel
theorem dL_law_906 : decode cL_law 906 = .ok (.if_icmp .eq 842, 3) := by decide +kernel
theorem dL_law_909 : decode cL_law 909 = .ok (.iconst 0, 1) := by decide +kernel
theorem dL_law_910 : decode cL_law 910 = .ok (.ireturn, 1) := by decide +kernel
theorem dL_law_911 : decode cL_law 911 = .ok (.aload_n 1, 1) := by decide +kernel
theorem dL_law_912 : decode cL_law 912 = .ok (.aload_n 0, 1) := by decide +kernel
theorem dL_law_913 : decode cL_law 913 = .ok (.iload_n 3, 1) := by decide +kernel
theorem dL_law_914 : decode cL_law 914 = .ok (.iconst 1, 1) := by decide +kernel
theorem dL_law_915 : decode cL_law 915 = .ok (.iadd, 1) := by decide +kernel
theorem dL_law_916 : decode cL_law 916 = .ok (.iaload, 1) := by decide +kernel
theorem dL_law_917 : decode cL_law 917 = .ok (.aload_n 0, 1) := by decide +kernel
theorem dL_law_918 : decode cL_law 918 = .ok (.iload_n 3, 1) := by decide +kernel
theorem dL_law_919 : decode cL_law 919 = .ok (.iconst 2, 1) := by decide +kernel
theorem dL_law_920 : decode cL_law 920 = .ok (.iadd, 1) := by decide +kernel
theorem dL_law_921 : decode cL_law 921 = .ok (.iaload, 1) := by decide +kernel
theorem dL_law_922 : decode cL_law 922 = .ok (.invokevirtual 95, 3) := by decide +kernel
theorem dL_law_925 : decode cL_law 925 = .ok (.aload_n 2, 1) := by decide +kernel
theorem dL_law_926 : decode cL_law 926 = .ok (.aload_n 0, 1) := by decide +kernel
theorem dL_law_927 : decode cL_law 927 = .ok (.iload_n 3, 1) := by decide +kernel
theorem dL_law_928 : decode cL_law 928 = .ok (.iconst 1, 1) := by decide +kernel
theorem dL_law_929 : decode cL_law 929 = .ok (.iadd, 1) := by decide +kernel
theorem dL_law_930 : decode cL_law 930 = .ok (.iaload, 1) := by decide +kernel
theorem dL_law_931 : decode cL_law 931 = .ok (.aload_n 0, 1) := by decide +kernel
theorem dL_law_932 : decode cL_law 932 = .ok (.iload_n 3, 1) := by decide +kernel
theorem dL_law_933 : decode cL_law 933 = .ok (.iconst 2, 1) := by decide +kernel
theorem dL_law_934 : decode cL_law 934 = .ok (.iadd, 1) := by decide +kernel
theorem dL_law_935 : decode cL_law 935 = .ok (.iaload, 1) := by decide +kernel
theorem dL_law_936 : decode cL_law 936 = .ok (.invokevirtual 98, 3) := by decide +kernel
theorem dL_law_939 : decode cL_law 939 = .ok (.if_icmp .eq 809, 3) := by decide +kernel
theorem dL_law_942 : decode cL_law 942 = .ok (.iconst 0, 1) := by decide +kernel
theorem dL_law_943 : decode cL_law 943 = .ok (.ireturn, 1) := by decide +kernel
theorem dL_law_944 : decode cL_law 944 = .ok (.aload_n 1, 1) := by decide +kernel
theorem dL_law_945 : decode cL_law 945 = .ok (.aload_n 0, 1) := by decide +kernel
theorem dL_law_946 : decode cL_law 946 = .ok (.iload_n 3, 1) := by decide +kernel
theorem dL_law_947 : decode cL_law 947 = .ok (.iconst 1, 1) := by decide +kernel
theorem dL_law_948 : decode cL_law 948 = .ok (.iadd, 1) := by decide +kernel
theorem dL_law_949 : decode cL_law 949 = .ok (.iaload, 1) := by decide +kernel
theorem dL_law_950 : decode cL_law 950 = .ok (.aload_n 0, 1) := by decide +kernel
theorem dL_law_951 : decode cL_law 951 = .ok (.iload_n 3, 1) := by decide +kernel
theorem dL_law_952 : decode cL_law 952 = .ok (.iconst 2, 1) := by decide +kernel
theorem dL_law_953 : decode cL_law 953 = .ok (.iadd, 1) := by decide +kernel
theorem dL_law_954 : decode cL_law 954 = .ok (.iaload, 1) := by decide +kernel
theorem dL_law_955 : decode cL_law 955 = .ok (.invokevirtual 99, 3) := by decide +kernel
theorem dL_law_958 : decode cL_law 958 = .ok (.aload_n 2, 1) := by decide +kernel
theorem dL_law_959 : decode cL_law 959 = .ok (.aload_n 0, 1) := by decide +kernel
theorem dL_law_960 : decode cL_law 960 = .ok (.iload_n 3, 1) := by decide +kernel
theorem dL_law_961 : decode cL_law 961 = .ok (.iconst 1, 1) := by decide +kernel
theorem dL_law_962 : decode cL_law 962 = .ok (.iadd, 1) := by decide +kernel
theorem dL_law_963 : decode cL_law 963 = .ok (.iaload, 1) := by decide +kernel
theorem dL_law_964 : decode cL_law 964 = .ok (.aload_n 0, 1) := by decide +kernel
theorem dL_law_965 : decode cL_law 965 = .ok (.iload_n 3, 1) := by decide +kernel
theorem dL_law_966 : decode cL_law 966 = .ok (.iconst 2, 1) := by decide +kernel
theorem dL_law_967 : decode cL_law 967 = .ok (.iadd, 1) := by decide +kernel
theorem dL_law_968 : decode cL_law 968 = .ok (.iaload, 1) := by decide +kernel
theorem dL_law_969 : decode cL_law 969 = .ok (.invokevirtual 102, 3) := by decide +kernel
theorem dL_law_972 : decode cL_law 972 = .ok (.if_icmp .eq 776, 3) := by decide +kernel
theorem dL_law_975 : decode cL_law 975 = .ok (.iconst 0, 1) := by decide +kernel
theorem dL_law_976 : decode cL_law 976 = .ok (.ireturn, 1) := by decide +kernel
theorem dL_law_977 : decode cL_law 977 = .ok (.aload_n 1, 1) := by decide +kernel
theorem dL_law_978 : decode cL_law 978 = .ok (.aload_n 0, 1) := by decide +kernel
theorem dL_law_979 : decode cL_law 979 = .ok (.iload_n 3, 1) := by decide +kernel
theorem dL_law_980 : decode cL_law 980 = .ok (.iconst 1, 1) := by decide +kernel
theorem dL_law_981 : decode cL_law 981 = .ok (.iadd, 1) := by decide +kernel
theorem dL_law_982 : decode cL_law 982 = .ok (.iaload, 1) := by decide +kernel
theorem dL_law_983 : decode cL_law 983 = .ok (.aload_n 0, 1) := by decide +kernel
theorem dL_law_984 : decode cL_law 984 = .ok (.iload_n 3, 1) := by decide +kernel
theorem dL_law_985 : decode cL_law 985 = .ok (.iconst 2, 1) := by decide +kernel
theorem dL_law_986 : decode cL_law 986 = .ok (.iadd, 1) := by decide +kernel
theorem dL_law_987 : decode cL_law 987 = .ok (.iaload, 1) := by decide +kernel
theorem dL_law_988 : decode cL_law 988 = .ok (.invokevirtual 103, 3) := by decide +kernel
theorem dL_law_991 : decode cL_law 991 = .ok (.aload_n 2, 1) := by decide +kernel
theorem dL_law_992 : decode cL_law 992 = .ok (.aload_n 0, 1) := by decide +kernel
theorem dL_law_993 : decode cL_law 993 = .ok (.iload_n 3, 1) := by decide +kernel
theorem dL_law_994 : decode cL_law 994 = .ok (.iconst 1, 1) := by decide +kernel
theorem dL_law_995 : decode cL_law 995 = .ok (.iadd, 1) := by decide +kernel
theorem dL_law_996 : decode cL_law 996 = .ok (.iaload, 1) := by decide +kernel
theorem dL_law_997 : decode cL_law 997 = .ok (.aload_n 0, 1) := by decide +kernel
theorem dL_law_998 : decode cL_law 998 = .ok (.iload_n 3, 1) := by decide +kernel
theorem dL_law_999 : decode cL_law 999 = .ok (.iconst 2, 1) := by decide +kernel
theorem dL_law_1000 : decode cL_law 1000 = .ok (.iadd, 1) := by decide +kernel
theorem dL_law_1001 : decode cL_law 1001 = .ok (.iaload, 1) := by decide +kernel
theorem dL_law_1002 : decode cL_law 1002 = .ok (.invokevirtual 106, 3) := by decide +kernel
theorem dL_law_1005 : decode cL_law 1005 = .ok (.if_icmp .eq 743, 3) := by decide +kernel
theorem dL_law_1008 : decode cL_law 1008 = .ok (.iconst 0, 1) := by decide +kernel
theorem dL_law_1009 : decode cL_law 1009 = .ok (.ireturn, 1) := by decide +kernel
theorem dL_law_1010 : decode cL_law 1010 = .ok (.aload_n 1, 1) := by decide +kernel
theorem dL_law_1011 : decode cL_law 1011 = .ok (.aload_n 0, 1) := by decide +kernel
theorem dL_law_1012 : decode cL_law 1012 = .ok (.iload_n 3, 1) := by decide +kernel
theorem dL_law_1013 : decode cL_law 1013 = .ok (.iconst 1, 1) := by decide +kernel
theorem dL_law_1014 : decode cL_law 1014 = .ok (.iadd, 1) := by decide +kernel
theorem dL_law_1015 : decode cL_law 1015 = .ok (.iaload, 1) := by decide +kernel
theorem dL_law_1016 : decode cL_law 1016 = .ok (.aload_n 0, 1) := by decide +kernel
theorem dL_law_1017 : decode cL_law 1017 = .ok (.iload_n 3, 1) := by decide +kernel
theorem dL_law_1018 : decode cL_law 1018 = .ok (.iconst 2, 1) := by decide +kernel
theorem dL_law_1019 : decode cL_law 1019 = .ok (.iadd, 1) := by decide +kernel
theorem dL_law_1020 : decode cL_law 1020 = .ok (.iaload, 1) := by decide +kernel
theorem dL_law_1021 : decode cL_law 1021 = .ok (.invokevirtual 107, 3) := by decide +kernel
theorem dL_law_1024 : decode cL_law 1024 = .ok (.aload_n 2, 1) := by decide +kernel
theorem dL_law_1025 : decode cL_law 1025 = .ok (.aload_n 0, 1) := by decide +kernel
theorem dL_law_1026 : decode cL_law 1026 = .ok (.iload_n 3, 1) := by decide +kernel
theorem dL_law_1027 : decode cL_law 1027 = .ok (.iconst 1, 1) := by decide +kernel
theorem dL_law_1028 : decode cL_law 1028 = .ok (.iadd, 1) := by decide +kernel
theorem dL_law_1029 : decode cL_law 1029 = .ok (.iaload, 1) := by decide +kernel
theorem dL_law_1030 : decode cL_law 1030 = .ok (.aload_n 0, 1) := by decide +kernel
theorem dL_law_1031 : decode cL_law 1031 = .ok (.iload_n 3, 1) := by decide +kernel
theorem dL_law_1032 : decode cL_law 1032 = .ok (.iconst 2, 1) := by decide +kernel
theorem dL_law_1033 : decode cL_law 1033 = .ok (.iadd, 1) := by decide +kernel
theorem dL_law_1034 : decode cL_law 1034 = .ok (.iaload, 1) := by decide +kernel
theorem dL_law_1035 : decode cL_law 1035 = .ok (.invokevirtual 110, 3) := by decide +kernel
theorem dL_law_1038 : decode cL_law 1038 = .ok (.if_icmp .eq 710, 3) := by decide +kernel
theorem dL_law_1041 : decode cL_law 1041 = .ok (.iconst 0, 1) := by decide +kernel
theorem dL_law_1042 : decode cL_law 1042 = .ok (.ireturn, 1) := by decide +kernel
theorem dL_law_1043 : decode cL_law 1043 = .ok (.aload_n 1, 1) := by decide +kernel
theorem dL_law_1044 : decode cL_law 1044 = .ok (.aload_n 0, 1) := by decide +kernel
theorem dL_law_1045 : decode cL_law 1045 = .ok (.iload_n 3, 1) := by decide +kernel
theorem dL_law_1046 : decode cL_law 1046 = .ok (.iconst 1, 1) := by decide +kernel
theorem dL_law_1047 : decode cL_law 1047 = .ok (.iadd, 1) := by decide +kernel
theorem dL_law_1048 : decode cL_law 1048 = .ok (.iaload, 1) := by decide +kernel
theorem dL_law_1049 : decode cL_law 1049 = .ok (.aload_n 0, 1) := by decide +kernel
theorem dL_law_1050 : decode cL_law 1050 = .ok (.iload_n 3, 1) := by decide +kernel
theorem dL_law_1051 : decode cL_law 1051 = .ok (.iconst 2, 1) := by decide +kernel
theorem dL_law_1052 : decode cL_law 1052 = .ok (.iadd, 1) := by decide +kernel
theorem dL_law_1053 : decode cL_law 1053 = .ok (.iaload, 1) := by decide +kernel
theorem dL_law_1054 : decode cL_law 1054 = .ok (.aload_n 0, 1) := by decide +kernel
theorem dL_law_1055 : decode cL_law 1055 = .ok (.iload_n 3, 1) := by decide +kernel
theorem dL_law_1056 : decode cL_law 1056 = .ok (.iconst 3, 1) := by decide +kernel
theorem dL_law_1057 : decode cL_law 1057 = .ok (.iadd, 1) := by decide +kernel
theorem dL_law_1058 : decode cL_law 1058 = .ok (.iaload, 1) := by decide +kernel
theorem dL_law_1059 : decode cL_law 1059 = .ok (.invokevirtual 111, 3) := by decide +kernel
theorem dL_law_1062 : decode cL_law 1062 = .ok (.aload_n 2, 1) := by decide +kernel
theorem dL_law_1063 : decode cL_law 1063 = .ok (.aload_n 0, 1) := by decide +kernel
theorem dL_law_1064 : decode cL_law 1064 = .ok (.iload_n 3, 1) := by decide +kernel
theorem dL_law_1065 : decode cL_law 1065 = .ok (.iconst 1, 1) := by decide +kernel
theorem dL_law_1066 : decode cL_law 1066 = .ok (.iadd, 1) := by decide +kernel
theorem dL_law_1067 : decode cL_law 1067 = .ok (.iaload, 1) := by decide +kernel
theorem dL_law_1068 : decode cL_law 1068 = .ok (.aload_n 0, 1) := by decide +kernel
theorem dL_law_1069 : decode cL_law 1069 = .ok (.iload_n 3, 1) := by decide +kernel
theorem dL_law_1070 : decode cL_law 1070 = .ok (.iconst 2, 1) := by decide +kernel
theorem dL_law_1071 : decode cL_law 1071 = .ok (.iadd, 1) := by decide +kernel
theorem dL_law_1072 : decode cL_law 1072 = .ok (.iaload, 1) := by decide +kernel
theorem dL_law_1073 : decode cL_law 1073 = .ok (.aload_n 0, 1) := by decide +kernel
theorem dL_law_1074 : decode cL_law 1074 = .ok (.iload_n 3, 1) := by decide +kernel
theorem dL_law_1075 : decode cL_law 1075 = .ok (.iconst 3, 1) := by decide +kernel
theorem dL_law_1076 : decode cL_law 1076 = .ok (.iadd, 1) := by decide +kernel
theorem dL_law_1077 : decode cL_law 1077 = .ok (.iaload, 1) := by decide +kernel
theorem dL_law_1078 : decode cL_law 1078 = .ok (.invokevirtual 114, 3) := by decide +kernel
theorem dL_law_1081 : decode cL_law 1081 = .ok (.if_icmp .eq 667, 3) := by decide +kernel
theorem dL_law_1084 : decode cL_law 1084 = .ok (.iconst 0, 1) := by decide +kernel
theorem dL_law_1085 : decode cL_law 1085 = .ok (.ireturn, 1) := by decide +kernel
theorem dL_law_1086 : decode cL_law 1086 = .ok (.aload_n 1, 1) := by decide +kernel
theorem dL_law_1087 : decode cL_law 1087 = .ok (.aload_n 0, 1) := by decide +kernel
theorem dL_law_1088 : decode cL_law 1088 = .ok (.iload_n 3, 1) := by decide +kernel
theorem dL_law_1089 : decode cL_law 1089 = .ok (.iconst 1, 1) := by decide +kernel
theorem dL_law_1090 : decode cL_law 1090 = .ok (.iadd, 1) := by decide +kernel
theorem dL_law_1091 : decode cL_law 1091 = .ok (.iaload, 1) := by decide +kernel
theorem dL_law_1092 : decode cL_law 1092 = .ok (.aload_n 0, 1) := by decide +kernel
theorem dL_law_1093 : decode cL_law 1093 = .ok (.iload_n 3, 1) := by decide +kernel
theorem dL_law_1094 : decode cL_law 1094 = .ok (.iconst 2, 1) := by decide +kernel
theorem dL_law_1095 : decode cL_law 1095 = .ok (.iadd, 1) := by decide +kernel
theorem dL_law_1096 : decode cL_law 1096 = .ok (.iaload, 1) := by decide +kernel
theorem dL_law_1097 : decode cL_law 1097 = .ok (.aload_n 0, 1) := by decide +kernel
theorem dL_law_1098 : decode cL_law 1098 = .ok (.iload_n 3, 1) := by decide +kernel
theorem dL_law_1099 : decode cL_law 1099 = .ok (.iconst 3, 1) := by decide +kernel
theorem dL_law_1100 : decode cL_law 1100 = .ok (.iadd, 1) := by decide +kernel
theorem dL_law_1101 : decode cL_law 1101 = .ok (.iaload, 1) := by decide +kernel
theorem dL_law_1102 : decode cL_law 1102 = .ok (.invokevirtual 115, 3) := by decide +kernel
theorem dL_law_1105 : decode cL_law 1105 = .ok (.aload_n 2, 1) := by decide +kernel
theorem dL_law_1106 : decode cL_law 1106 = .ok (.aload_n 0, 1) := by decide +kernel
theorem dL_law_1107 : decode cL_law 1107 = .ok (.iload_n 3, 1) := by decide +kernel
theorem dL_law_1108 : decode cL_law 1108 = .ok (.iconst 1, 1) := by decide +kernel
theorem dL_law_1109 : decode cL_law 1109 = .ok (.iadd, 1) := by decide +kernel
theorem dL_law_1110 : decode cL_law 1110 = .ok (.iaload, 1) := by decide +kernel
theorem dL_law_1111 : decode cL_law 1111 = .ok (.aload_n 0, 1) := by decide +kernel
theorem dL_law_1112 : decode cL_law 1112 = .ok (.iload_n 3, 1) := by decide +kernel
theorem dL_law_1113 : decode cL_law 1113 = .ok (.iconst 2, 1) := by decide +kernel
theorem dL_law_1114 : decode cL_law 1114 = .ok (.iadd, 1) := by decide +kernel
theorem dL_law_1115 : decode cL_law 1115 = .ok (.iaload, 1) := by decide +kernel
theorem dL_law_1116 : decode cL_law 1116 = .ok (.aload_n 0, 1) := by decide +kernel
theorem dL_law_1117 : decode cL_law 1117 = .ok (.iload_n 3, 1) := by decide +kernel
theorem dL_law_1118 : decode cL_law 1118 = .ok (.iconst 3, 1) := by decide +kernel
theorem dL_law_1119 : decode cL_law 1119 = .ok (.iadd, 1) := by decide +kernel
theorem dL_law_1120 : decode cL_law 1120 = .ok (.iaload, 1) := by decide +kernel
theorem dL_law_1121 : decode cL_law 1121 = .ok (.invokevirtual 118, 3) := by decide +kernel
theorem dL_law_1124 : decode cL_law 1124 = .ok (.if_icmp .eq 624, 3) := by decide +kernel
theorem dL_law_1127 : decode cL_law 1127 = .ok (.iconst 0, 1) := by decide +kernel
theorem dL_law_1128 : decode cL_law 1128 = .ok (.ireturn, 1) := by decide +kernel
theorem dL_law_1129 : decode cL_law 1129 = .ok (.aload_n 1, 1) := by decide +kernel
theorem dL_law_1130 : decode cL_law 1130 = .ok (.invokevirtual 119, 3) := by decide +kernel
theorem dL_law_1133 : decode cL_law 1133 = .ok (.aload_n 2, 1) := by decide +kernel
theorem dL_law_1134 : decode cL_law 1134 = .ok (.invokevirtual 122, 3) := by decide +kernel
theorem dL_law_1137 : decode cL_law 1137 = .ok (.if_icmp .eq 611, 3) := by decide +kernel
theorem dL_law_1140 : decode cL_law 1140 = .ok (.iconst 0, 1) := by decide +kernel
theorem dL_law_1141 : decode cL_law 1141 = .ok (.ireturn, 1) := by decide +kernel
theorem dL_law_1142 : decode cL_law 1142 = .ok (.aload_n 1, 1) := by decide +kernel
theorem dL_law_1143 : decode cL_law 1143 = .ok (.invokevirtual 123, 3) := by decide +kernel
theorem dL_law_1146 : decode cL_law 1146 = .ok (.aload_n 2, 1) := by decide +kernel
theorem dL_law_1147 : decode cL_law 1147 = .ok (.invokevirtual 126, 3) := by decide +kernel
theorem dL_law_1150 : decode cL_law 1150 = .ok (.if_icmp .eq 598, 3) := by decide +kernel
theorem dL_law_1153 : decode cL_law 1153 = .ok (.iconst 0, 1) := by decide +kernel
theorem dL_law_1154 : decode cL_law 1154 = .ok (.ireturn, 1) := by decide +kernel
theorem dL_law_1155 : decode cL_law 1155 = .ok (.aload_n 1, 1) := by decide +kernel
theorem dL_law_1156 : decode cL_law 1156 = .ok (.aload_n 0, 1) := by decide +kernel
theorem dL_law_1157 : decode cL_law 1157 = .ok (.iload_n 3, 1) := by decide +kernel
theorem dL_law_1158 : decode cL_law 1158 = .ok (.iconst 1, 1) := by decide +kernel
theorem dL_law_1159 : decode cL_law 1159 = .ok (.iadd, 1) := by decide +kernel
theorem dL_law_1160 : decode cL_law 1160 = .ok (.iaload, 1) := by decide +kernel
theorem dL_law_1161 : decode cL_law 1161 = .ok (.invokevirtual 127, 3) := by decide +kernel
theorem dL_law_1164 : decode cL_law 1164 = .ok (.aload_n 2, 1) := by decide +kernel
theorem dL_law_1165 : decode cL_law 1165 = .ok (.aload_n 0, 1) := by decide +kernel
theorem dL_law_1166 : decode cL_law 1166 = .ok (.iload_n 3, 1) := by decide +kernel
theorem dL_law_1167 : decode cL_law 1167 = .ok (.iconst 1, 1) := by decide +kernel
theorem dL_law_1168 : decode cL_law 1168 = .ok (.iadd, 1) := by decide +kernel
theorem dL_law_1169 : decode cL_law 1169 = .ok (.iaload, 1) := by decide +kernel
theorem dL_law_1170 : decode cL_law 1170 = .ok (.invokevirtual 130, 3) := by decide +kernel
theorem dL_law_1173 : decode cL_law 1173 = .ok (.if_icmp .eq 575, 3) := by decide +kernel
theorem dL_law_1176 : decode cL_law 1176 = .ok (.iconst 0, 1) := by decide +kernel
theorem dL_law_1177 : decode cL_law 1177 = .ok (.ireturn, 1) := by decide +kernel
theorem dL_law_1178 : decode cL_law 1178 = .ok (.aload_n 1, 1) := by decide +kernel
theorem dL_law_1179 : decode cL_law 1179 = .ok (.aload_n 0, 1) := by decide +kernel
theorem dL_law_1180 : decode cL_law 1180 = .ok (.iload_n 3, 1) := by decide +kernel
theorem dL_law_1181 : decode cL_law 1181 = .ok (.iconst 1, 1) := by decide +kernel
theorem dL_law_1182 : decode cL_law 1182 = .ok (.iadd, 1) := by decide +kernel
theorem dL_law_1183 : decode cL_law 1183 = .ok (.iaload, 1) := by decide +kernel
theorem dL_law_1184 : decode cL_law 1184 = .ok (.aload_n 0, 1) := by decide +kernel
theorem dL_law_1185 : decode cL_law 1185 = .ok (.iload_n 3, 1) := by decide +kernel
theorem dL_law_1186 : decode cL_law 1186 = .ok (.iconst 2, 1) := by decide +kernel
theorem dL_law_1187 : decode cL_law 1187 = .ok (.iadd, 1) := by decide +kernel
theorem dL_law_1188 : decode cL_law 1188 = .ok (.iaload, 1) := by decide +kernel
theorem dL_law_1189 : decode cL_law 1189 = .ok (.aload_n 0, 1) := by decide +kernel
theorem dL_law_1190 : decode cL_law 1190 = .ok (.iload_n 3, 1) := by decide +kernel
theorem dL_law_1191 : decode cL_law 1191 = .ok (.iconst 3, 1) := by decide +kernel
theorem dL_law_1192 : decode cL_law 1192 = .ok (.iadd, 1) := by decide +kernel
theorem dL_law_1193 : decode cL_law 1193 = .ok (.iaload, 1) := by decide +kernel
theorem dL_law_1194 : decode cL_law 1194 = .ok (.aload_n 0, 1) := by decide +kernel
theorem dL_law_1195 : decode cL_law 1195 = .ok (.iload_n 3, 1) := by decide +kernel
theorem dL_law_1196 : decode cL_law 1196 = .ok (.iconst 4, 1) := by decide +kernel
theorem dL_law_1197 : decode cL_law 1197 = .ok (.iadd, 1) := by decide +kernel
theorem dL_law_1198 : decode cL_law 1198 = .ok (.iaload, 1) := by decide +kernel
theorem dL_law_1199 : decode cL_law 1199 = .ok (.invokevirtual 131, 3) := by decide +kernel
theorem dL_law_1202 : decode cL_law 1202 = .ok (.aload_n 2, 1) := by decide +kernel
theorem dL_law_1203 : decode cL_law 1203 = .ok (.aload_n 0, 1) := by decide +kernel
theorem dL_law_1204 : decode cL_law 1204 = .ok (.iload_n 3, 1) := by decide +kernel
theorem dL_law_1205 : decode cL_law 1205 = .ok (.iconst 1, 1) := by decide +kernel
theorem dL_law_1206 : decode cL_law 1206 = .ok (.iadd, 1) := by decide +kernel
theorem dL_law_1207 : decode cL_law 1207 = .ok (.iaload, 1) := by decide +kernel
theorem dL_law_1208 : decode cL_law 1208 = .ok (.aload_n 0, 1) := by decide +kernel
theorem dL_law_1209 : decode cL_law 1209 = .ok (.iload_n 3, 1) := by decide +kernel
theorem dL_law_1210 : decode cL_law 1210 = .ok (.iconst 2, 1) := by decide +kernel
theorem dL_law_1211 : decode cL_law 1211 = .ok (.iadd, 1) := by decide +kernel
theorem dL_law_1212 : decode cL_law 1212 = .ok (.iaload, 1) := by decide +kernel
theorem dL_law_1213 : decode cL_law 1213 = .ok (.aload_n 0, 1) := by decide +kernel
theorem dL_law_1214 : decode cL_law 1214 = .ok (.iload_n 3, 1) := by decide +kernel
theorem dL_law_1215 : decode cL_law 1215 = .ok (.iconst 3, 1) := by decide +kernel
theorem dL_law_1216 : decode cL_law 1216 = .ok (.iadd, 1) := by decide +kernel
theorem dL_law_1217 : decode cL_law 1217 = .ok (.iaload, 1) := by decide +kernel
theorem dL_law_1218 : decode cL_law 1218 = .ok (.aload_n 0, 1) := by decide +kernel
theorem dL_law_1219 : decode cL_law 1219 = .ok (.iload_n 3, 1) := by decide +kernel
theorem dL_law_1220 : decode cL_law 1220 = .ok (.iconst 4, 1) := by decide +kernel
theorem dL_law_1221 : decode cL_law 1221 = .ok (.iadd, 1) := by decide +kernel
theorem dL_law_1222 : decode cL_law 1222 = .ok (.iaload, 1) := by decide +kernel
theorem dL_law_1223 : decode cL_law 1223 = .ok (.invokevirtual 134, 3) := by decide +kernel
theorem dL_law_1226 : decode cL_law 1226 = .ok (.if_icmp .eq 522, 3) := by decide +kernel
theorem dL_law_1229 : decode cL_law 1229 = .ok (.iconst 0, 1) := by decide +kernel
theorem dL_law_1230 : decode cL_law 1230 = .ok (.ireturn, 1) := by decide +kernel
theorem dL_law_1231 : decode cL_law 1231 = .ok (.aload_n 1, 1) := by decide +kernel
theorem dL_law_1232 : decode cL_law 1232 = .ok (.aload_n 0, 1) := by decide +kernel
theorem dL_law_1233 : decode cL_law 1233 = .ok (.iload_n 3, 1) := by decide +kernel
theorem dL_law_1234 : decode cL_law 1234 = .ok (.iconst 1, 1) := by decide +kernel
theorem dL_law_1235 : decode cL_law 1235 = .ok (.iadd, 1) := by decide +kernel
theorem dL_law_1236 : decode cL_law 1236 = .ok (.iaload, 1) := by decide +kernel
theorem dL_law_1237 : decode cL_law 1237 = .ok (.aload_n 0, 1) := by decide +kernel
theorem dL_law_1238 : decode cL_law 1238 = .ok (.iload_n 3, 1) := by decide +kernel
theorem dL_law_1239 : decode cL_law 1239 = .ok (.iconst 2, 1) := by decide +kernel
theorem dL_law_1240 : decode cL_law 1240 = .ok (.iadd, 1) := by decide +kernel
theorem dL_law_1241 : decode cL_law 1241 = .ok (.iaload, 1) := by decide +kernel
theorem dL_law_1242 : decode cL_law 1242 = .ok (.invokevirtual 135, 3) := by decide +kernel
theorem dL_law_1245 : decode cL_law 1245 = .ok (.aload_n 2, 1) := by decide +kernel
theorem dL_law_1246 : decode cL_law 1246 = .ok (.aload_n 0, 1) := by decide +kernel
theorem dL_law_1247 : decode cL_law 1247 = .ok (.iload_n 3, 1) := by decide +kernel
theorem dL_law_1248 : decode cL_law 1248 = .ok (.iconst 1, 1) := by decide +kernel
theorem dL_law_1249 : decode cL_law 1249 = .ok (.iadd, 1) := by decide +kernel
theorem dL_law_1250 : decode cL_law 1250 = .ok (.iaload, 1) := by decide +kernel
theorem dL_law_1251 : decode cL_law 1251 = .ok (.aload_n 0, 1) := by decide +kernel
theorem dL_law_1252 : decode cL_law 1252 = .ok (.iload_n 3, 1) := by decide +kernel
theorem dL_law_1253 : decode cL_law 1253 = .ok (.iconst 2, 1) := by decide +kernel
theorem dL_law_1254 : decode cL_law 1254 = .ok (.iadd, 1) := by decide +kernel
theorem dL_law_1255 : decode cL_law 1255 = .ok (.iaload, 1) := by decide +kernel
theorem dL_law_1256 : decode cL_law 1256 = .ok (.invokevirtual 138, 3) := by decide +kernel
theorem dL_law_1259 : decode cL_law 1259 = .ok (.if_icmp .eq 489, 3) := by decide +kernel
theorem dL_law_1262 : decode cL_law 1262 = .ok (.iconst 0, 1) := by decide +kernel
theorem dL_law_1263 : decode cL_law 1263 = .ok (.ireturn, 1) := by decide +kernel
theorem dL_law_1264 : decode cL_law 1264 = .ok (.aload_n 1, 1) := by decide +kernel
theorem dL_law_1265 : decode cL_law 1265 = .ok (.aload_n 0, 1) := by decide +kernel
theorem dL_law_1266 : decode cL_law 1266 = .ok (.iload_n 3, 1) := by decide +kernel
theorem dL_law_1267 : decode cL_law 1267 = .ok (.iconst 1, 1) := by decide +kernel
theorem dL_law_1268 : decode cL_law 1268 = .ok (.iadd, 1) := by decide +kernel
theorem dL_law_1269 : decode cL_law 1269 = .ok (.iaload, 1) := by decide +kernel
theorem dL_law_1270 : decode cL_law 1270 = .ok (.aload_n 0, 1) := by decide +kernel
theorem dL_law_1271 : decode cL_law 1271 = .ok (.iload_n 3, 1) := by decide +kernel
theorem dL_law_1272 : decode cL_law 1272 = .ok (.iconst 2, 1) := by decide +kernel
theorem dL_law_1273 : decode cL_law 1273 = .ok (.iadd, 1) := by decide +kernel
theorem dL_law_1274 : decode cL_law 1274 = .ok (.iaload, 1) := by decide +kernel
theorem dL_law_1275 : decode cL_law 1275 = .ok (.invokevirtual 139, 3) := by decide +kernel
theorem dL_law_1278 : decode cL_law 1278 = .ok (.aload_n 2, 1) := by decide +kernel
theorem dL_law_1279 : decode cL_law 1279 = .ok (.aload_n 0, 1) := by decide +kernel
theorem dL_law_1280 : decode cL_law 1280 = .ok (.iload_n 3, 1) := by decide +kernel
theorem dL_law_1281 : decode cL_law 1281 = .ok (.iconst 1, 1) := by decide +kernel
theorem dL_law_1282 : decode cL_law 1282 = .ok (.iadd, 1) := by decide +kernel
theorem dL_law_1283 : decode cL_law 1283 = .ok (.iaload, 1) := by decide +kernel
theorem dL_law_1284 : decode cL_law 1284 = .ok (.aload_n 0, 1) := by decide +kernel
theorem dL_law_1285 : decode cL_law 1285 = .ok (.iload_n 3, 1) := by decide +kernel
theorem dL_law_1286 : decode cL_law 1286 = .ok (.iconst 2, 1) := by decide +kernel
theorem dL_law_1287 : decode cL_law 1287 = .ok (.iadd, 1) := by decide +kernel
theorem dL_law_1288 : decode cL_law 1288 = .ok (.iaload, 1) := by decide +kernel
theorem dL_law_1289 : decode cL_law 1289 = .ok (.invokevirtual 142, 3) := by decide +kernel
theorem dL_law_1292 : decode cL_law 1292 = .ok (.if_icmp .eq 456, 3) := by decide +kernel
theorem dL_law_1295 : decode cL_law 1295 = .ok (.iconst 0, 1) := by decide +kernel
theorem dL_law_1296 : decode cL_law 1296 = .ok (.ireturn, 1) := by decide +kernel
theorem dL_law_1297 : decode cL_law 1297 = .ok (.aload_n 1, 1) := by decide +kernel
theorem dL_law_1298 : decode cL_law 1298 = .ok (.aload_n 0, 1) := by decide +kernel
theorem dL_law_1299 : decode cL_law 1299 = .ok (.iload_n 3, 1) := by decide +kernel
theorem dL_law_1300 : decode cL_law 1300 = .ok (.iconst 1, 1) := by decide +kernel
theorem dL_law_1301 : decode cL_law 1301 = .ok (.iadd, 1) := by decide +kernel
theorem dL_law_1302 : decode cL_law 1302 = .ok (.iaload, 1) := by decide +kernel
theorem dL_law_1303 : decode cL_law 1303 = .ok (.invokevirtual 143, 3) := by decide +kernel
theorem dL_law_1306 : decode cL_law 1306 = .ok (.aload_n 2, 1) := by decide +kernel
theorem dL_law_1307 : decode cL_law 1307 = .ok (.aload_n 0, 1) := by decide +kernel
theorem dL_law_1308 : decode cL_law 1308 = .ok (.iload_n 3, 1) := by decide +kernel
theorem dL_law_1309 : decode cL_law 1309 = .ok (.iconst 1, 1) := by decide +kernel
theorem dL_law_1310 : decode cL_law 1310 = .ok (.iadd, 1) := by decide +kernel
theorem dL_law_1311 : decode cL_law 1311 = .ok (.iaload, 1) := by decide +kernel
theorem dL_law_1312 : decode cL_law 1312 = .ok (.invokevirtual 146, 3) := by decide +kernel
theorem dL_law_1315 : decode cL_law 1315 = .ok (.if_icmp .eq 433, 3) := by decide +kernel
theorem dL_law_1318 : decode cL_law 1318 = .ok (.iconst 0, 1) := by decide +kernel
theorem dL_law_1319 : decode cL_law 1319 = .ok (.ireturn, 1) := by decide +kernel
theorem dL_law_1320 : decode cL_law 1320 = .ok (.aload_n 1, 1) := by decide +kernel
theorem dL_law_1321 : decode cL_law 1321 = .ok (.aload_n 0, 1) := by decide +kernel
theorem dL_law_1322 : decode cL_law 1322 = .ok (.iload_n 3, 1) := by decide +kernel
theorem dL_law_1323 : decode cL_law 1323 = .ok (.iconst 1, 1) := by decide +kernel
theorem dL_law_1324 : decode cL_law 1324 = .ok (.iadd, 1) := by decide +kernel
theorem dL_law_1325 : decode cL_law 1325 = .ok (.iaload, 1) := by decide +kernel
theorem dL_law_1326 : decode cL_law 1326 = .ok (.aload_n 0, 1) := by decide +kernel
theorem dL_law_1327 : decode cL_law 1327 = .ok (.iload_n 3, 1) := by decide +kernel
theorem dL_law_1328 : decode cL_law 1328 = .ok (.iconst 2, 1) := by decide +kernel
theorem dL_law_1329 : decode cL_law 1329 = .ok (.iadd, 1) := by decide +kernel
theorem dL_law_1330 : decode cL_law 1330 = .ok (.iaload, 1) := by decide +kernel
theorem dL_law_1331 : decode cL_law 1331 = .ok (.invokevirtual 147, 3) := by decide +kernel
theorem dL_law_1334 : decode cL_law 1334 = .ok (.aload_n 2, 1) := by decide +kernel
theorem dL_law_1335 : decode cL_law 1335 = .ok (.aload_n 0, 1) := by decide +kernel
theorem dL_law_1336 : decode cL_law 1336 = .ok (.iload_n 3, 1) := by decide +kernel
theorem dL_law_1337 : decode cL_law 1337 = .ok (.iconst 1, 1) := by decide +kernel
theorem dL_law_1338 : decode cL_law 1338 = .ok (.iadd, 1) := by decide +kernel
theorem dL_law_1339 : decode cL_law 1339 = .ok (.iaload, 1) := by decide +kernel
theorem dL_law_1340 : decode cL_law 1340 = .ok (.aload_n 0, 1) := by decide +kernel
theorem dL_law_1341 : decode cL_law 1341 = .ok (.iload_n 3, 1) := by decide +kernel
theorem dL_law_1342 : decode cL_law 1342 = .ok (.iconst 2, 1) := by decide +kernel
theorem dL_law_1343 : decode cL_law 1343 = .ok (.iadd, 1) := by decide +kernel
theorem dL_law_1344 : decode cL_law 1344 = .ok (.iaload, 1) := by decide +kernel
theorem dL_law_1345 : decode cL_law 1345 = .ok (.invokevirtual 150, 3) := by decide +kernel
theorem dL_law_1348 : decode cL_law 1348 = .ok (.if_icmp .eq 400, 3) := by decide +kernel
theorem dL_law_1351 : decode cL_law 1351 = .ok (.iconst 0, 1) := by decide +kernel
theorem dL_law_1352 : decode cL_law 1352 = .ok (.ireturn, 1) := by decide +kernel
theorem dL_law_1353 : decode cL_law 1353 = .ok (.aload_n 1, 1) := by decide +kernel
theorem dL_law_1354 : decode cL_law 1354 = .ok (.aload_n 0, 1) := by decide +kernel
theorem dL_law_1355 : decode cL_law 1355 = .ok (.iload_n 3, 1) := by decide +kernel
theorem dL_law_1356 : decode cL_law 1356 = .ok (.iconst 1, 1) := by decide +kernel
theorem dL_law_1357 : decode cL_law 1357 = .ok (.iadd, 1) := by decide +kernel
theorem dL_law_1358 : decode cL_law 1358 = .ok (.iaload, 1) := by decide +kernel
theorem dL_law_1359 : decode cL_law 1359 = .ok (.invokevirtual 151, 3) := by decide +kernel
theorem dL_law_1362 : decode cL_law 1362 = .ok (.aload_n 2, 1) := by decide +kernel
theorem dL_law_1363 : decode cL_law 1363 = .ok (.aload_n 0, 1) := by decide +kernel
theorem dL_law_1364 : decode cL_law 1364 = .ok (.iload_n 3, 1) := by decide +kernel
theorem dL_law_1365 : decode cL_law 1365 = .ok (.iconst 1, 1) := by decide +kernel
theorem dL_law_1366 : decode cL_law 1366 = .ok (.iadd, 1) := by decide +kernel
theorem dL_law_1367 : decode cL_law 1367 = .ok (.iaload, 1) := by decide +kernel
theorem dL_law_1368 : decode cL_law 1368 = .ok (.invokevirtual 154, 3) := by decide +kernel
theorem dL_law_1371 : decode cL_law 1371 = .ok (.if_icmp .eq 377, 3) := by decide +kernel
theorem dL_law_1374 : decode cL_law 1374 = .ok (.iconst 0, 1) := by decide +kernel
theorem dL_law_1375 : decode cL_law 1375 = .ok (.ireturn, 1) := by decide +kernel
theorem dL_law_1376 : decode cL_law 1376 = .ok (.aload_n 1, 1) := by decide +kernel
theorem dL_law_1377 : decode cL_law 1377 = .ok (.aload_n 0, 1) := by decide +kernel
theorem dL_law_1378 : decode cL_law 1378 = .ok (.iload_n 3, 1) := by decide +kernel
theorem dL_law_1379 : decode cL_law 1379 = .ok (.iconst 1, 1) := by decide +kernel
theorem dL_law_1380 : decode cL_law 1380 = .ok (.iadd, 1) := by decide +kernel
theorem dL_law_1381 : decode cL_law 1381 = .ok (.iaload, 1) := by decide +kernel
theorem dL_law_1382 : decode cL_law 1382 = .ok (.aload_n 0, 1) := by decide +kernel
theorem dL_law_1383 : decode cL_law 1383 = .ok (.iload_n 3, 1) := by decide +kernel
theorem dL_law_1384 : decode cL_law 1384 = .ok (.iconst 2, 1) := by decide +kernel
theorem dL_law_1385 : decode cL_law 1385 = .ok (.iadd, 1) := by decide +kernel
theorem dL_law_1386 : decode cL_law 1386 = .ok (.iaload, 1) := by decide +kernel
theorem dL_law_1387 : decode cL_law 1387 = .ok (.aload_n 0, 1) := by decide +kernel
theorem dL_law_1388 : decode cL_law 1388 = .ok (.iload_n 3, 1) := by decide +kernel
theorem dL_law_1389 : decode cL_law 1389 = .ok (.iconst 3, 1) := by decide +kernel
theorem dL_law_1390 : decode cL_law 1390 = .ok (.iadd, 1) := by decide +kernel
theorem dL_law_1391 : decode cL_law 1391 = .ok (.iaload, 1) := by decide +kernel
theorem dL_law_1392 : decode cL_law 1392 = .ok (.aload_n 0, 1) := by decide +kernel
theorem dL_law_1393 : decode cL_law 1393 = .ok (.iload_n 3, 1) := by decide +kernel
theorem dL_law_1394 : decode cL_law 1394 = .ok (.iconst 4, 1) := by decide +kernel
theorem dL_law_1395 : decode cL_law 1395 = .ok (.iadd, 1) := by decide +kernel
theorem dL_law_1396 : decode cL_law 1396 = .ok (.iaload, 1) := by decide +kernel
theorem dL_law_1397 : decode cL_law 1397 = .ok (.invokevirtual 155, 3) := by decide +kernel
theorem dL_law_1400 : decode cL_law 1400 = .ok (.aload_n 2, 1) := by decide +kernel
theorem dL_law_1401 : decode cL_law 1401 = .ok (.aload_n 0, 1) := by decide +kernel
theorem dL_law_1402 : decode cL_law 1402 = .ok (.iload_n 3, 1) := by decide +kernel
theorem dL_law_1403 : decode cL_law 1403 = .ok (.iconst 1, 1) := by decide +kernel
theorem dL_law_1404 : decode cL_law 1404 = .ok (.iadd, 1) := by decide +kernel
theorem dL_law_1405 : decode cL_law 1405 = .ok (.iaload, 1) := by decide +kernel
theorem dL_law_1406 : decode cL_law 1406 = .ok (.aload_n 0, 1) := by decide +kernel
theorem dL_law_1407 : decode cL_law 1407 = .ok (.iload_n 3, 1) := by decide +kernel
theorem dL_law_1408 : decode cL_law 1408 = .ok (.iconst 2, 1) := by decide +kernel
theorem dL_law_1409 : decode cL_law 1409 = .ok (.iadd, 1) := by decide +kernel
theorem dL_law_1410 : decode cL_law 1410 = .ok (.iaload, 1) := by decide +kernel
theorem dL_law_1411 : decode cL_law 1411 = .ok (.aload_n 0, 1) := by decide +kernel
theorem dL_law_1412 : decode cL_law 1412 = .ok (.iload_n 3, 1) := by decide +kernel
theorem dL_law_1413 : decode cL_law 1413 = .ok (.iconst 3, 1) := by decide +kernel
theorem dL_law_1414 : decode cL_law 1414 = .ok (.iadd, 1) := by decide +kernel
theorem dL_law_1415 : decode cL_law 1415 = .ok (.iaload, 1) := by decide +kernel
theorem dL_law_1416 : decode cL_law 1416 = .ok (.aload_n 0, 1) := by decide +kernel
theorem dL_law_1417 : decode cL_law 1417 = .ok (.iload_n 3, 1) := by decide +kernel
theorem dL_law_1418 : decode cL_law 1418 = .ok (.iconst 4, 1) := by decide +kernel
theorem dL_law_1419 : decode cL_law 1419 = .ok (.iadd, 1) := by decide +kernel
theorem dL_law_1420 : decode cL_law 1420 = .ok (.iaload, 1) := by decide +kernel
theorem dL_law_1421 : decode cL_law 1421 = .ok (.invokevirtual 158, 3) := by decide +kernel
theorem dL_law_1424 : decode cL_law 1424 = .ok (.if_icmp .eq 324, 3) := by decide +kernel
theorem dL_law_1427 : decode cL_law 1427 = .ok (.iconst 0, 1) := by decide +kernel
theorem dL_law_1428 : decode cL_law 1428 = .ok (.ireturn, 1) := by decide +kernel
theorem dL_law_1429 : decode cL_law 1429 = .ok (.aload_n 1, 1) := by decide +kernel
theorem dL_law_1430 : decode cL_law 1430 = .ok (.aload_n 0, 1) := by decide +kernel
theorem dL_law_1431 : decode cL_law 1431 = .ok (.iload_n 3, 1) := by decide +kernel
theorem dL_law_1432 : decode cL_law 1432 = .ok (.iconst 1, 1) := by decide +kernel
theorem dL_law_1433 : decode cL_law 1433 = .ok (.iadd, 1) := by decide +kernel
theorem dL_law_1434 : decode cL_law 1434 = .ok (.iaload, 1) := by decide +kernel
theorem dL_law_1435 : decode cL_law 1435 = .ok (.aload_n 0, 1) := by decide +kernel
theorem dL_law_1436 : decode cL_law 1436 = .ok (.iload_n 3, 1) := by decide +kernel
theorem dL_law_1437 : decode cL_law 1437 = .ok (.iconst 2, 1) := by decide +kernel
theorem dL_law_1438 : decode cL_law 1438 = .ok (.iadd, 1) := by decide +kernel
theorem dL_law_1439 : decode cL_law 1439 = .ok (.iaload, 1) := by decide +kernel
theorem dL_law_1440 : decode cL_law 1440 = .ok (.invokevirtual 159, 3) := by decide +kernel
theorem dL_law_1443 : decode cL_law 1443 = .ok (.aload_n 2, 1) := by decide +kernel
theorem dL_law_1444 : decode cL_law 1444 = .ok (.aload_n 0, 1) := by decide +kernel
theorem dL_law_1445 : decode cL_law 1445 = .ok (.iload_n 3, 1) := by decide +kernel
theorem dL_law_1446 : decode cL_law 1446 = .ok (.iconst 1, 1) := by decide +kernel
theorem dL_law_1447 : decode cL_law 1447 = .ok (.iadd, 1) := by decide +kernel
theorem dL_law_1448 : decode cL_law 1448 = .ok (.iaload, 1) := by decide +kernel
theorem dL_law_1449 : decode cL_law 1449 = .ok (.aload_n 0, 1) := by decide +kernel
theorem dL_law_1450 : decode cL_law 1450 = .ok (.iload_n 3, 1) := by decide +kernel
theorem dL_law_1451 : decode cL_law 1451 = .ok (.iconst 2, 1) := by decide +kernel
theorem dL_law_1452 : decode cL_law 1452 = .ok (.iadd, 1) := by decide +kernel
theorem dL_law_1453 : decode cL_law 1453 = .ok (.iaload, 1) := by decide +kernel
theorem dL_law_1454 : decode cL_law 1454 = .ok (.invokevirtual 162, 3) := by decide +kernel
theorem dL_law_1457 : decode cL_law 1457 = .ok (.if_icmp .eq 291, 3) := by decide +kernel
theorem dL_law_1460 : decode cL_law 1460 = .ok (.iconst 0, 1) := by decide +kernel
theorem dL_law_1461 : decode cL_law 1461 = .ok (.ireturn, 1) := by decide +kernel
theorem dL_law_1462 : decode cL_law 1462 = .ok (.aload_n 1, 1) := by decide +kernel
theorem dL_law_1463 : decode cL_law 1463 = .ok (.aload_n 0, 1) := by decide +kernel
theorem dL_law_1464 : decode cL_law 1464 = .ok (.iload_n 3, 1) := by decide +kernel
theorem dL_law_1465 : decode cL_law 1465 = .ok (.iconst 1, 1) := by decide +kernel
theorem dL_law_1466 : decode cL_law 1466 = .ok (.iadd, 1) := by decide +kernel
theorem dL_law_1467 : decode cL_law 1467 = .ok (.iaload, 1) := by decide +kernel
theorem dL_law_1468 : decode cL_law 1468 = .ok (.aload_n 0, 1) := by decide +kernel
theorem dL_law_1469 : decode cL_law 1469 = .ok (.iload_n 3, 1) := by decide +kernel
theorem dL_law_1470 : decode cL_law 1470 = .ok (.iconst 2, 1) := by decide +kernel
theorem dL_law_1471 : decode cL_law 1471 = .ok (.iadd, 1) := by decide +kernel
theorem dL_law_1472 : decode cL_law 1472 = .ok (.iaload, 1) := by decide +kernel
theorem dL_law_1473 : decode cL_law 1473 = .ok (.aload_n 0, 1) := by decide +kernel
theorem dL_law_1474 : decode cL_law 1474 = .ok (.iload_n 3, 1) := by decide +kernel
theorem dL_law_1475 : decode cL_law 1475 = .ok (.iconst 3, 1) := by decide +kernel
theorem dL_law_1476 : decode cL_law 1476 = .ok (.iadd, 1) := by decide +kernel
theorem dL_law_1477 : decode cL_law 1477 = .ok (.iaload, 1) := by decide +kernel
theorem dL_law_1478 : decode cL_law 1478 = .ok (.invokevirtual 163, 3) := by decide +kernel
theorem dL_law_1481 : decode cL_law 1481 = .ok (.aload_n 2, 1) := by decide +kernel
theorem dL_law_1482 : decode cL_law 1482 = .ok (.aload_n 0, 1) := by decide +kernel
theorem dL_law_1483 : decode cL_law 1483 = .ok (.iload_n 3, 1) := by decide +kernel
theorem dL_law_1484 : decode cL_law 1484 = .ok (.iconst 1, 1) := by decide +kernel
theorem dL_law_1485 : decode cL_law 1485 = .ok (.iadd, 1) := by decide +kernel
theorem dL_law_1486 : decode cL_law 1486 = .ok (.iaload, 1) := by decide +kernel
theorem dL_law_1487 : decode cL_law 1487 = .ok (.aload_n 0, 1) := by decide +kernel
theorem dL_law_1488 : decode cL_law 1488 = .ok (.iload_n 3, 1) := by decide +kernel
theorem dL_law_1489 : decode cL_law 1489 = .ok (.iconst 2, 1) := by decide +kernel
theorem dL_law_1490 : decode cL_law 1490 = .ok (.iadd, 1) := by decide +kernel
theorem dL_law_1491 : decode cL_law 1491 = .ok (.iaload, 1) := by decide +kernel
theorem dL_law_1492 : decode cL_law 1492 = .ok (.aload_n 0, 1) := by decide +kernel
theorem dL_law_1493 : decode cL_law 1493 = .ok (.iload_n 3, 1) := by decide +kernel
theorem dL_law_1494 : decode cL_law 1494 = .ok (.iconst 3, 1) := by decide +kernel
theorem dL_law_1495 : decode cL_law 1495 = .ok (.iadd, 1) := by decide +kernel
theorem dL_law_1496 : decode cL_law 1496 = .ok (.iaload, 1) := by decide +kernel
theorem dL_law_1497 : decode cL_law 1497 = .ok (.invokevirtual 166, 3) := by decide +kernel
theorem dL_law_1500 : decode cL_law 1500 = .ok (.if_icmp .eq 248, 3) := by decide +kernel
theorem dL_law_1503 : decode cL_law 1503 = .ok (.iconst 0, 1) := by decide +kernel
theorem dL_law_1504 : decode cL_law 1504 = .ok (.ireturn, 1) := by decide +kernel
theorem dL_law_1505 : decode cL_law 1505 = .ok (.aload_n 1, 1) := by decide +kernel
theorem dL_law_1506 : decode cL_law 1506 = .ok (.aload_n 0, 1) := by decide +kernel
theorem dL_law_1507 : decode cL_law 1507 = .ok (.iload_n 3, 1) := by decide +kernel
theorem dL_law_1508 : decode cL_law 1508 = .ok (.iconst 1, 1) := by decide +kernel
theorem dL_law_1509 : decode cL_law 1509 = .ok (.iadd, 1) := by decide +kernel
theorem dL_law_1510 : decode cL_law 1510 = .ok (.iaload, 1) := by decide +kernel
theorem dL_law_1511 : decode cL_law 1511 = .ok (.invokevirtual 167, 3) := by decide +kernel
theorem dL_law_1514 : decode cL_law 1514 = .ok (.aload_n 2, 1) := by decide +kernel
theorem dL_law_1515 : decode cL_law 1515 = .ok (.aload_n 0, 1) := by decide +kernel
theorem dL_law_1516 : decode cL_law 1516 = .ok (.iload_n 3, 1) := by decide +kernel
theorem dL_law_1517 : decode cL_law 1517 = .ok (.iconst 1, 1) := by decide +kernel
theorem dL_law_1518 : decode cL_law 1518 = .ok (.iadd, 1) := by decide +kernel
theorem dL_law_1519 : decode cL_law 1519 = .ok (.iaload, 1) := by decide +kernel
theorem dL_law_1520 : decode cL_law 1520 = .ok (.invokevirtual 170, 3) := by decide +kernel
theorem dL_law_1523 : decode cL_law 1523 = .ok (.if_icmp .eq 225, 3) := by decide +kernel
theorem dL_law_1526 : decode cL_law 1526 = .ok (.iconst 0, 1) := by decide +kernel
theorem dL_law_1527 : decode cL_law 1527 = .ok (.ireturn, 1) := by decide +kernel
theorem dL_law_1528 : decode cL_law 1528 = .ok (.aload_n 1, 1) := by decide +kernel
theorem dL_law_1529 : decode cL_law 1529 = .ok (.invokevirtual 171, 3) := by decide +kernel
theorem dL_law_1532 : decode cL_law 1532 = .ok (.aload_n 2, 1) := by decide +kernel
theorem dL_law_1533 : decode cL_law 1533 = .ok (.invokevirtual 174, 3) := by decide +kernel
theorem dL_law_1536 : decode cL_law 1536 = .ok (.if_icmp .eq 212, 3) := by decide +kernel
theorem dL_law_1539 : decode cL_law 1539 = .ok (.iconst 0, 1) := by decide +kernel
theorem dL_law_1540 : decode cL_law 1540 = .ok (.ireturn, 1) := by decide +kernel
theorem dL_law_1541 : decode cL_law 1541 = .ok (.aload_n 1, 1) := by decide +kernel
theorem dL_law_1542 : decode cL_law 1542 = .ok (.aload_n 0, 1) := by decide +kernel
theorem dL_law_1543 : decode cL_law 1543 = .ok (.iload_n 3, 1) := by decide +kernel
theorem dL_law_1544 : decode cL_law 1544 = .ok (.iconst 1, 1) := by decide +kernel
theorem dL_law_1545 : decode cL_law 1545 = .ok (.iadd, 1) := by decide +kernel
theorem dL_law_1546 : decode cL_law 1546 = .ok (.iaload, 1) := by decide +kernel
theorem dL_law_1547 : decode cL_law 1547 = .ok (.invokevirtual 175, 3) := by decide +kernel
theorem dL_law_1550 : decode cL_law 1550 = .ok (.aload_n 2, 1) := by decide +kernel
theorem dL_law_1551 : decode cL_law 1551 = .ok (.aload_n 0, 1) := by decide +kernel
theorem dL_law_1552 : decode cL_law 1552 = .ok (.iload_n 3, 1) := by decide +kernel
theorem dL_law_1553 : decode cL_law 1553 = .ok (.iconst 1, 1) := by decide +kernel
theorem dL_law_1554 : decode cL_law 1554 = .ok (.iadd, 1) := by decide +kernel
theorem dL_law_1555 : decode cL_law 1555 = .ok (.iaload, 1) := by decide +kernel
theorem dL_law_1556 : decode cL_law 1556 = .ok (.invokevirtual 178, 3) := by decide +kernel
theorem dL_law_1559 : decode cL_law 1559 = .ok (.if_icmp .eq 189, 3) := by decide +kernel
theorem dL_law_1562 : decode cL_law 1562 = .ok (.iconst 0, 1) := by decide +kernel
theorem dL_law_1563 : decode cL_law 1563 = .ok (.ireturn, 1) := by decide +kernel
theorem dL_law_1564 : decode cL_law 1564 = .ok (.aload_n 1, 1) := by decide +kernel
theorem dL_law_1565 : decode cL_law 1565 = .ok (.invokevirtual 179, 3) := by decide +kernel
theorem dL_law_1568 : decode cL_law 1568 = .ok (.aload_n 2, 1) := by decide +kernel
theorem dL_law_1569 : decode cL_law 1569 = .ok (.invokevirtual 182, 3) := by decide +kernel
theorem dL_law_1572 : decode cL_law 1572 = .ok (.if_icmp .eq 176, 3) := by decide +kernel
theorem dL_law_1575 : decode cL_law 1575 = .ok (.iconst 0, 1) := by decide +kernel
theorem dL_law_1576 : decode cL_law 1576 = .ok (.ireturn, 1) := by decide +kernel
theorem dL_law_1577 : decode cL_law 1577 = .ok (.aload_n 1, 1) := by decide +kernel
theorem dL_law_1578 : decode cL_law 1578 = .ok (.aload_n 0, 1) := by decide +kernel
theorem dL_law_1579 : decode cL_law 1579 = .ok (.iload_n 3, 1) := by decide +kernel
theorem dL_law_1580 : decode cL_law 1580 = .ok (.iconst 1, 1) := by decide +kernel
theorem dL_law_1581 : decode cL_law 1581 = .ok (.iadd, 1) := by decide +kernel
theorem dL_law_1582 : decode cL_law 1582 = .ok (.iaload, 1) := by decide +kernel
theorem dL_law_1583 : decode cL_law 1583 = .ok (.aload_n 0, 1) := by decide +kernel
theorem dL_law_1584 : decode cL_law 1584 = .ok (.iload_n 3, 1) := by decide +kernel
theorem dL_law_1585 : decode cL_law 1585 = .ok (.iconst 2, 1) := by decide +kernel
theorem dL_law_1586 : decode cL_law 1586 = .ok (.iadd, 1) := by decide +kernel
theorem dL_law_1587 : decode cL_law 1587 = .ok (.iaload, 1) := by decide +kernel
theorem dL_law_1588 : decode cL_law 1588 = .ok (.invokevirtual 183, 3) := by decide +kernel
theorem dL_law_1591 : decode cL_law 1591 = .ok (.aload_n 2, 1) := by decide +kernel
theorem dL_law_1592 : decode cL_law 1592 = .ok (.aload_n 0, 1) := by decide +kernel
theorem dL_law_1593 : decode cL_law 1593 = .ok (.iload_n 3, 1) := by decide +kernel
theorem dL_law_1594 : decode cL_law 1594 = .ok (.iconst 1, 1) := by decide +kernel
theorem dL_law_1595 : decode cL_law 1595 = .ok (.iadd, 1) := by decide +kernel
theorem dL_law_1596 : decode cL_law 1596 = .ok (.iaload, 1) := by decide +kernel
theorem dL_law_1597 : decode cL_law 1597 = .ok (.aload_n 0, 1) := by decide +kernel
theorem dL_law_1598 : decode cL_law 1598 = .ok (.iload_n 3, 1) := by decide +kernel
theorem dL_law_1599 : decode cL_law 1599 = .ok (.iconst 2, 1) := by decide +kernel
theorem dL_law_1600 : decode cL_law 1600 = .ok (.iadd, 1) := by decide +kernel
theorem dL_law_1601 : decode cL_law 1601 = .ok (.iaload, 1) := by decide +kernel
theorem dL_law_1602 : decode cL_law 1602 = .ok (.invokevirtual 186, 3) := by decide +kernel
theorem dL_law_1605 : decode cL_law 1605 = .ok (.if_icmp .eq 143, 3) := by decide +kernel
theorem dL_law_1608 : decode cL_law 1608 = .ok (.iconst 0, 1) := by decide +kernel
theorem dL_law_1609 : decode cL_law 1609 = .ok (.ireturn, 1) := by decide +kernel
theorem dL_law_1610 : decode cL_law 1610 = .ok (.aload_n 1, 1) := by decide +kernel
theorem dL_law_1611 : decode cL_law 1611 = .ok (.aload_n 0, 1) := by decide +kernel
theorem dL_law_1612 : decode cL_law 1612 = .ok (.iload_n 3, 1) := by decide +kernel
theorem dL_law_1613 : decode cL_law 1613 = .ok (.iconst 1, 1) := by decide +kernel
theorem dL_law_1614 : decode cL_law 1614 = .ok (.iadd, 1) := by decide +kernel
theorem dL_law_1615 : decode cL_law 1615 = .ok (.iaload, 1) := by decide +kernel
theorem dL_law_1616 : decode cL_law 1616 = .ok (.invokevirtual 187, 3) := by decide +kernel
theorem dL_law_1619 : decode cL_law 1619 = .ok (.aload_n 2, 1) := by decide +kernel
theorem dL_law_1620 : decode cL_law 1620 = .ok (.aload_n 0, 1) := by decide +kernel
theorem dL_law_1621 : decode cL_law 1621 = .ok (.iload_n 3, 1) := by decide +kernel
theorem dL_law_1622 : decode cL_law 1622 = .ok (.iconst 1, 1) := by decide +kernel
theorem dL_law_1623 : decode cL_law 1623 = .ok (.iadd, 1) := by decide +kernel
theorem dL_law_1624 : decode cL_law 1624 = .ok (.iaload, 1) := by decide +kernel
theorem dL_law_1625 : decode cL_law 1625 = .ok (.invokevirtual 190, 3) := by decide +kernel
theorem dL_law_1628 : decode cL_law 1628 = .ok (.if_icmp .eq 120, 3) := by decide +kernel
theorem dL_law_1631 : decode cL_law 1631 = .ok (.iconst 0, 1) := by decide +kernel
theorem dL_law_1632 : decode cL_law 1632 = .ok (.ireturn, 1) := by decide +kernel
theorem dL_law_1633 : decode cL_law 1633 = .ok (.aload_n 1, 1) := by decide +kernel
theorem dL_law_1634 : decode cL_law 1634 = .ok (.aload_n 0, 1) := by decide +kernel
theorem dL_law_1635 : decode cL_law 1635 = .ok (.iload_n 3, 1) := by decide +kernel
theorem dL_law_1636 : decode cL_law 1636 = .ok (.iconst 1, 1) := by decide +kernel
theorem dL_law_1637 : decode cL_law 1637 = .ok (.iadd, 1) := by decide +kernel
theorem dL_law_1638 : decode cL_law 1638 = .ok (.iaload, 1) := by decide +kernel
theorem dL_law_1639 : decode cL_law 1639 = .ok (.aload_n 0, 1) := by decide +kernel
theorem dL_law_1640 : decode cL_law 1640 = .ok (.iload_n 3, 1) := by decide +kernel
theorem dL_law_1641 : decode cL_law 1641 = .ok (.iconst 2, 1) := by decide +kernel
theorem dL_law_1642 : decode cL_law 1642 = .ok (.iadd, 1) := by decide +kernel
theorem dL_law_1643 : decode cL_law 1643 = .ok (.iaload, 1) := by decide +kernel
theorem dL_law_1644 : decode cL_law 1644 = .ok (.aload_n 0, 1) := by decide +kernel
theorem dL_law_1645 : decode cL_law 1645 = .ok (.iload_n 3, 1) := by decide +kernel
theorem dL_law_1646 : decode cL_law 1646 = .ok (.iconst 3, 1) := by decide +kernel
theorem dL_law_1647 : decode cL_law 1647 = .ok (.iadd, 1) := by decide +kernel
theorem dL_law_1648 : decode cL_law 1648 = .ok (.iaload, 1) := by decide +kernel
theorem dL_law_1649 : decode cL_law 1649 = .ok (.invokevirtual 191, 3) := by decide +kernel
theorem dL_law_1652 : decode cL_law 1652 = .ok (.aload_n 2, 1) := by decide +kernel
theorem dL_law_1653 : decode cL_law 1653 = .ok (.aload_n 0, 1) := by decide +kernel
theorem dL_law_1654 : decode cL_law 1654 = .ok (.iload_n 3, 1) := by decide +kernel
theorem dL_law_1655 : decode cL_law 1655 = .ok (.iconst 1, 1) := by decide +kernel
theorem dL_law_1656 : decode cL_law 1656 = .ok (.iadd, 1) := by decide +kernel
theorem dL_law_1657 : decode cL_law 1657 = .ok (.iaload, 1) := by decide +kernel
theorem dL_law_1658 : decode cL_law 1658 = .ok (.aload_n 0, 1) := by decide +kernel
theorem dL_law_1659 : decode cL_law 1659 = .ok (.iload_n 3, 1) := by decide +kernel
theorem dL_law_1660 : decode cL_law 1660 = .ok (.iconst 2, 1) := by decide +kernel
theorem dL_law_1661 : decode cL_law 1661 = .ok (.iadd, 1) := by decide +kernel
theorem dL_law_1662 : decode cL_law 1662 = .ok (.iaload, 1) := by decide +kernel
theorem dL_law_1663 : decode cL_law 1663 = .ok (.aload_n 0, 1) := by decide +kernel
theorem dL_law_1664 : decode cL_law 1664 = .ok (.iload_n 3, 1) := by decide +kernel
theorem dL_law_1665 : decode cL_law 1665 = .ok (.iconst 3, 1) := by decide +kernel
theorem dL_law_1666 : decode cL_law 1666 = .ok (.iadd, 1) := by decide +kernel
theorem dL_law_1667 : decode cL_law 1667 = .ok (.iaload, 1) := by decide +kernel
theorem dL_law_1668 : decode cL_law 1668 = .ok (.invokevirtual 194, 3) := by decide +kernel
theorem dL_law_1671 : decode cL_law 1671 = .ok (.if_icmp .eq 77, 3) := by decide +kernel
theorem dL_law_1674 : decode cL_law 1674 = .ok (.iconst 0, 1) := by decide +kernel
theorem dL_law_1675 : decode cL_law 1675 = .ok (.ireturn, 1) := by decide +kernel
theorem dL_law_1676 : decode cL_law 1676 = .ok (.aload_n 1, 1) := by decide +kernel
theorem dL_law_1677 : decode cL_law 1677 = .ok (.aload_n 0, 1) := by decide +kernel
theorem dL_law_1678 : decode cL_law 1678 = .ok (.iload_n 3, 1) := by decide +kernel
theorem dL_law_1679 : decode cL_law 1679 = .ok (.iconst 1, 1) := by decide +kernel
theorem dL_law_1680 : decode cL_law 1680 = .ok (.iadd, 1) := by decide +kernel
theorem dL_law_1681 : decode cL_law 1681 = .ok (.iaload, 1) := by decide +kernel
theorem dL_law_1682 : decode cL_law 1682 = .ok (.invokevirtual 195, 3) := by decide +kernel
theorem dL_law_1685 : decode cL_law 1685 = .ok (.aload_n 2, 1) := by decide +kernel
theorem dL_law_1686 : decode cL_law 1686 = .ok (.aload_n 0, 1) := by decide +kernel
theorem dL_law_1687 : decode cL_law 1687 = .ok (.iload_n 3, 1) := by decide +kernel
theorem dL_law_1688 : decode cL_law 1688 = .ok (.iconst 1, 1) := by decide +kernel
theorem dL_law_1689 : decode cL_law 1689 = .ok (.iadd, 1) := by decide +kernel
theorem dL_law_1690 : decode cL_law 1690 = .ok (.iaload, 1) := by decide +kernel
theorem dL_law_1691 : decode cL_law 1691 = .ok (.invokevirtual 198, 3) := by decide +kernel
theorem dL_law_1694 : decode cL_law 1694 = .ok (.if_icmp .eq 54, 3) := by decide +kernel
theorem dL_law_1697 : decode cL_law 1697 = .ok (.iconst 0, 1) := by decide +kernel
theorem dL_law_1698 : decode cL_law 1698 = .ok (.ireturn, 1) := by decide +kernel
theorem dL_law_1699 : decode cL_law 1699 = .ok (.aload_n 1, 1) := by decide +kernel
theorem dL_law_1700 : decode cL_law 1700 = .ok (.invokevirtual 199, 3) := by decide +kernel
theorem dL_law_1703 : decode cL_law 1703 = .ok (.aload_n 2, 1) := by decide +kernel
theorem dL_law_1704 : decode cL_law 1704 = .ok (.invokevirtual 202, 3) := by decide +kernel
theorem dL_law_1707 : decode cL_law 1707 = .ok (.if_icmp .eq 41, 3) := by decide +kernel
theorem dL_law_1710 : decode cL_law 1710 = .ok (.iconst 0, 1) := by decide +kernel
theorem dL_law_1711 : decode cL_law 1711 = .ok (.ireturn, 1) := by decide +kernel
theorem dL_law_1712 : decode cL_law 1712 = .ok (.aload_n 1, 1) := by decide +kernel
theorem dL_law_1713 : decode cL_law 1713 = .ok (.invokevirtual 203, 3) := by decide +kernel
theorem dL_law_1716 : decode cL_law 1716 = .ok (.aload_n 2, 1) := by decide +kernel
theorem dL_law_1717 : decode cL_law 1717 = .ok (.invokevirtual 206, 3) := by decide +kernel
theorem dL_law_1720 : decode cL_law 1720 = .ok (.if_icmp .eq 28, 3) := by decide +kernel
theorem dL_law_1723 : decode cL_law 1723 = .ok (.iconst 0, 1) := by decide +kernel
theorem dL_law_1724 : decode cL_law 1724 = .ok (.ireturn, 1) := by decide +kernel
theorem dL_law_1725 : decode cL_law 1725 = .ok (.aload_n 1, 1) := by decide +kernel
theorem dL_law_1726 : decode cL_law 1726 = .ok (.aload_n 0, 1) := by decide +kernel
theorem dL_law_1727 : decode cL_law 1727 = .ok (.iload_n 3, 1) := by decide +kernel
theorem dL_law_1728 : decode cL_law 1728 = .ok (.iconst 1, 1) := by decide +kernel
theorem dL_law_1729 : decode cL_law 1729 = .ok (.iadd, 1) := by decide +kernel
theorem dL_law_1730 : decode cL_law 1730 = .ok (.iaload, 1) := by decide +kernel
theorem dL_law_1731 : decode cL_law 1731 = .ok (.invokevirtual 207, 3) := by decide +kernel
theorem dL_law_1734 : decode cL_law 1734 = .ok (.aload_n 2, 1) := by decide +kernel
theorem dL_law_1735 : decode cL_law 1735 = .ok (.aload_n 0, 1) := by decide +kernel
theorem dL_law_1736 : decode cL_law 1736 = .ok (.iload_n 3, 1) := by decide +kernel
theorem dL_law_1737 : decode cL_law 1737 = .ok (.iconst 1, 1) := by decide +kernel
theorem dL_law_1738 : decode cL_law 1738 = .ok (.iadd, 1) := by decide +kernel
theorem dL_law_1739 : decode cL_law 1739 = .ok (.iaload, 1) := by decide +kernel
theorem dL_law_1740 : decode cL_law 1740 = .ok (.invokevirtual 210, 3) := by decide +kernel
theorem dL_law_1743 : decode cL_law 1743 = .ok (.if_icmp .eq 5, 3) := by decide +kernel
theorem dL_law_1746 : decode cL_law 1746 = .ok (.iconst 0, 1) := by decide +kernel
theorem dL_law_1747 : decode cL_law 1747 = .ok (.ireturn, 1) := by decide +kernel
theorem dL_law_1748 : decode cL_law 1748 = .ok (.iinc 3 6, 3) := by decide +kernel
theorem dL_law_1751 : decode cL_law 1751 = .ok (.goto (-1733), 3) := by decide +kernel
theorem dL_law_1754 : decode cL_law 1754 = .ok (.iconst 1, 1) := by decide +kernel
theorem dL_law_1755 : decode cL_law 1755 = .ok (.ireturn, 1) := by decide +kernel
