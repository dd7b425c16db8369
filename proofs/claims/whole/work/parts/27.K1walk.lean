theorem dX11_init_0 : decode cX11_init 0 = .ok (.aload_n 0, 1) := by decide +kernel
theorem dX11_init_1 : decode cX11_init 1 = .ok (.invokespecial 1, 3) := by decide +kernel
theorem dX11_init_4 : decode cX11_init 4 = .ok (.aload_n 0, 1) := by decide +kernel
theorem dX11_init_5 : decode cX11_init 5 = .ok (.iconst 2, 1) := by decide +kernel
theorem dX11_init_6 : decode cX11_init 6 = .ok (.putfield 7, 3) := by decide +kernel
theorem dX11_init_9 : decode cX11_init 9 = .ok (.aload_n 0, 1) := by decide +kernel
theorem dX11_init_10 : decode cX11_init 10 = .ok (.iconst 2, 1) := by decide +kernel
theorem dX11_init_11 : decode cX11_init 11 = .ok (.putfield 13, 3) := by decide +kernel
theorem dX11_init_14 : decode cX11_init 14 = .ok (.aload_n 0, 1) := by decide +kernel
theorem dX11_init_15 : decode cX11_init 15 = .ok (.iconst 4, 1) := by decide +kernel
theorem dX11_init_16 : decode cX11_init 16 = .ok (.putfield 16, 3) := by decide +kernel
theorem dX11_init_19 : decode cX11_init 19 = .ok (.aload_n 0, 1) := by decide +kernel
theorem dX11_init_20 : decode cX11_init 20 = .ok (.iconst 1, 1) := by decide +kernel
theorem dX11_init_21 : decode cX11_init 21 = .ok (.putfield 19, 3) := by decide +kernel
theorem dX11_init_24 : decode cX11_init 24 = .ok (.aload_n 0, 1) := by decide +kernel
theorem dX11_init_25 : decode cX11_init 25 = .ok (.iconst 4, 1) := by decide +kernel
theorem dX11_init_26 : decode cX11_init 26 = .ok (.newarray .int, 2) := by decide +kernel
theorem dX11_init_28 : decode cX11_init 28 = .ok (.dup, 1) := by decide +kernel
theorem dX11_init_29 : decode cX11_init 29 = .ok (.iconst 0, 1) := by decide +kernel
theorem dX11_init_30 : decode cX11_init 30 = .ok (.bipush 8, 2) := by decide +kernel
theorem dX11_init_32 : decode cX11_init 32 = .ok (.iastore, 1) := by decide +kernel
theorem dX11_init_33 : decode cX11_init 33 = .ok (.dup, 1) := by decide +kernel
theorem dX11_init_34 : decode cX11_init 34 = .ok (.iconst 1, 1) := by decide +kernel
theorem dX11_init_35 : decode cX11_init 35 = .ok (.bipush 8, 2) := by decide +kernel
theorem dX11_init_37 : decode cX11_init 37 = .ok (.iastore, 1) := by decide +kernel
theorem dX11_init_38 : decode cX11_init 38 = .ok (.dup, 1) := by decide +kernel
theorem dX11_init_39 : decode cX11_init 39 = .ok (.iconst 2, 1) := by decide +kernel
theorem dX11_init_40 : decode cX11_init 40 = .ok (.bipush 8, 2) := by decide +kernel
theorem dX11_init_42 : decode cX11_init 42 = .ok (.iastore, 1) := by decide +kernel
theorem dX11_init_43 : decode cX11_init 43 = .ok (.dup, 1) := by decide +kernel
theorem dX11_init_44 : decode cX11_init 44 = .ok (.iconst 3, 1) := by decide +kernel
theorem dX11_init_45 : decode cX11_init 45 = .ok (.bipush 8, 2) := by decide +kernel
theorem dX11_init_47 : decode cX11_init 47 = .ok (.iastore, 1) := by decide +kernel
theorem dX11_init_48 : decode cX11_init 48 = .ok (.putfield 22, 3) := by decide +kernel
theorem dX11_init_51 : decode cX11_init 51 = .ok (.aload_n 0, 1) := by decide +kernel
theorem dX11_init_52 : decode cX11_init 52 = .ok (.bipush 8, 2) := by decide +kernel
theorem dX11_init_54 : decode cX11_init 54 = .ok (.newarray .int, 2) := by decide +kernel
theorem dX11_init_56 : decode cX11_init 56 = .ok (.putfield 26, 3) := by decide +kernel
theorem dX11_init_59 : decode cX11_init 59 = .ok (.aload_n 0, 1) := by decide +kernel
theorem dX11_init_60 : decode cX11_init 60 = .ok (.bipush 8, 2) := by decide +kernel
theorem dX11_init_62 : decode cX11_init 62 = .ok (.newarray .int, 2) := by decide +kernel
theorem dX11_init_64 : decode cX11_init 64 = .ok (.putfield 29, 3) := by decide +kernel
theorem dX11_init_67 : decode cX11_init 67 = .ok (.aload_n 0, 1) := by decide +kernel
theorem dX11_init_68 : decode cX11_init 68 = .ok (.bipush 8, 2) := by decide +kernel
theorem dX11_init_70 : decode cX11_init 70 = .ok (.newarray .int, 2) := by decide +kernel
theorem dX11_init_72 : decode cX11_init 72 = .ok (.putfield 32, 3) := by decide +kernel
theorem dX11_init_75 : decode cX11_init 75 = .ok (.aload_n 0, 1) := by decide +kernel
theorem dX11_init_76 : decode cX11_init 76 = .ok (.sipush 8192, 3) := by decide +kernel
theorem dX11_init_79 : decode cX11_init 79 = .ok (.newarray .int, 2) := by decide +kernel
theorem dX11_init_81 : decode cX11_init 81 = .ok (.putfield 35, 3) := by decide +kernel
theorem dX11_init_84 : decode cX11_init 84 = .ok (.aload_n 0, 1) := by decide +kernel
theorem dX11_init_85 : decode cX11_init 85 = .ok (.sipush 8000, 3) := by decide +kernel
theorem dX11_init_88 : decode cX11_init 88 = .ok (.newarray .int, 2) := by decide +kernel
theorem dX11_init_90 : decode cX11_init 90 = .ok (.putfield 38, 3) := by decide +kernel
theorem dX11_init_93 : decode cX11_init 93 = .ok (.aload_n 0, 1) := by decide +kernel
theorem dX11_init_94 : decode cX11_init 94 = .ok (.bipush 8, 2) := by decide +kernel
theorem dX11_init_96 : decode cX11_init 96 = .ok (.newarray .int, 2) := by decide +kernel
theorem dX11_init_98 : decode cX11_init 98 = .ok (.putfield 41, 3) := by decide +kernel
theorem dX11_init_101 : decode cX11_init 101 = .ok (.aload_n 0, 1) := by decide +kernel
theorem dX11_init_102 : decode cX11_init 102 = .ok (.bipush 8, 2) := by decide +kernel
theorem dX11_init_104 : decode cX11_init 104 = .ok (.newarray .int, 2) := by decide +kernel
theorem dX11_init_106 : decode cX11_init 106 = .ok (.putfield 44, 3) := by decide +kernel
theorem dX11_init_109 : decode cX11_init 109 = .ok (.aload_n 0, 1) := by decide +kernel
theorem dX11_init_110 : decode cX11_init 110 = .ok (.bipush 8, 2) := by decide +kernel
theorem dX11_init_112 : decode cX11_init 112 = .ok (.newarray .int, 2) := by decide +kernel
theorem dX11_init_114 : decode cX11_init 114 = .ok (.putfield 47, 3) := by decide +kernel
theorem dX11_init_117 : decode cX11_init 117 = .ok (.aload_n 0, 1) := by decide +kernel
theorem dX11_init_118 : decode cX11_init 118 = .ok (.sipush 500, 3) := by decide +kernel
theorem dX11_init_121 : decode cX11_init 121 = .ok (.newarray .int, 2) := by decide +kernel
theorem dX11_init_123 : decode cX11_init 123 = .ok (.putfield 50, 3) := by decide +kernel
theorem dX11_init_126 : decode cX11_init 126 = .ok (.aload_n 0, 1) := by decide +kernel
theorem dX11_init_127 : decode cX11_init 127 = .ok (.iconst (-1), 1) := by decide +kernel
theorem dX11_init_128 : decode cX11_init 128 = .ok (.putfield 53, 3) := by decide +kernel
theorem dX11_init_131 : decode cX11_init 131 = .ok (.aload_n 0, 1) := by decide +kernel
theorem dX11_init_132 : decode cX11_init 132 = .ok (.bipush 16, 2) := by decide +kernel
theorem dX11_init_134 : decode cX11_init 134 = .ok (.newarray .int, 2) := by decide +kernel
theorem dX11_init_136 : decode cX11_init 136 = .ok (.putfield 56, 3) := by decide +kernel
theorem dX11_init_139 : decode cX11_init 139 = .ok (.aload_n 0, 1) := by decide +kernel
theorem dX11_init_140 : decode cX11_init 140 = .ok (.bipush 16, 2) := by decide +kernel
theorem dX11_init_142 : decode cX11_init 142 = .ok (.newarray .int, 2) := by decide +kernel
theorem dX11_init_144 : decode cX11_init 144 = .ok (.putfield 59, 3) := by decide +kernel
theorem dX11_init_147 : decode cX11_init 147 = .ok (.aload_n 0, 1) := by decide +kernel
theorem dX11_init_148 : decode cX11_init 148 = .ok (.bipush 16, 2) := by decide +kernel
theorem dX11_init_150 : decode cX11_init 150 = .ok (.newarray .int, 2) := by decide +kernel
theorem dX11_init_152 : decode cX11_init 152 = .ok (.putfield 62, 3) := by decide +kernel
theorem dX11_init_155 : decode cX11_init 155 = .ok (.aload_n 0, 1) := by decide +kernel
theorem dX11_init_156 : decode cX11_init 156 = .ok (.sipush 1600, 3) := by decide +kernel
theorem dX11_init_159 : decode cX11_init 159 = .ok (.newarray .int, 2) := by decide +kernel
theorem dX11_init_161 : decode cX11_init 161 = .ok (.putfield 65, 3) := by decide +kernel
theorem dX11_init_164 : decode cX11_init 164 = .ok (.aload_n 0, 1) := by decide +kernel
theorem dX11_init_165 : decode cX11_init 165 = .ok (.sipush 520, 3) := by decide +kernel
theorem dX11_init_168 : decode cX11_init 168 = .ok (.newarray .int, 2) := by decide +kernel
theorem dX11_init_170 : decode cX11_init 170 = .ok (.putfield 68, 3) := by decide +kernel
theorem dX11_init_173 : decode cX11_init 173 = .ok (.aload_n 0, 1) := by decide +kernel
theorem dX11_init_174 : decode cX11_init 174 = .ok (.bipush 9, 2) := by decide +kernel
theorem dX11_init_176 : decode cX11_init 176 = .ok (.newarray .boolean, 2) := by decide +kernel
theorem dX11_init_178 : decode cX11_init 178 = .ok (.putfield 71, 3) := by decide +kernel
theorem dX11_init_181 : decode cX11_init 181 = .ok (.aload_n 0, 1) := by decide +kernel
theorem dX11_init_182 : decode cX11_init 182 = .ok (.bipush 8, 2) := by decide +kernel
theorem dX11_init_184 : decode cX11_init 184 = .ok (.newarray .int, 2) := by decide +kernel
theorem dX11_init_186 : decode cX11_init 186 = .ok (.putfield 75, 3) := by decide +kernel
theorem dX11_init_189 : decode cX11_init 189 = .ok (.aload_n 0, 1) := by decide +kernel
theorem dX11_init_190 : decode cX11_init 190 = .ok (.bipush 8, 2) := by decide +kernel
theorem dX11_init_192 : decode cX11_init 192 = .ok (.newarray .int, 2) := by decide +kernel
theorem dX11_init_194 : decode cX11_init 194 = .ok (.putfield 78, 3) := by decide +kernel
theorem dX11_init_197 : decode cX11_init 197 = .ok (.aload_n 0, 1) := by decide +kernel
theorem dX11_init_198 : decode cX11_init 198 = .ok (.sipush 520, 3) := by decide +kernel
theorem dX11_init_201 : decode cX11_init 201 = .ok (.newarray .int, 2) := by decide +kernel
theorem dX11_init_203 : decode cX11_init 203 = .ok (.putfield 81, 3) := by decide +kernel
theorem dX11_init_206 : decode cX11_init 206 = .ok (.aload_n 0, 1) := by decide +kernel
theorem dX11_init_207 : decode cX11_init 207 = .ok (.sipush 6561, 3) := by decide +kernel
theorem dX11_init_210 : decode cX11_init 210 = .ok (.newarray .int, 2) := by decide +kernel
theorem dX11_init_212 : decode cX11_init 212 = .ok (.putfield 84, 3) := by decide +kernel
theorem dX11_init_215 : decode cX11_init 215 = .ok (.aload_n 0, 1) := by decide +kernel
theorem dX11_init_216 : decode cX11_init 216 = .ok (.sipush 6561, 3) := by decide +kernel
theorem dX11_init_219 : decode cX11_init 219 = .ok (.newarray .int, 2) := by decide +kernel
theorem dX11_init_221 : decode cX11_init 221 = .ok (.putfield 87, 3) := by decide +kernel
theorem dX11_init_224 : decode cX11_init 224 = .ok (.aload_n 0, 1) := by decide +kernel
theorem dX11_init_225 : decode cX11_init 225 = .ok (.ldc 90, 2) := by decide +kernel
theorem dX11_init_227 : decode cX11_init 227 = .ok (.newarray .int, 2) := by decide +kernel
theorem dX11_init_229 : decode cX11_init 229 = .ok (.putfield 91, 3) := by decide +kernel
theorem dX11_init_232 : decode cX11_init 232 = .ok (.aload_n 0, 1) := by decide +kernel
theorem dX11_init_233 : decode cX11_init 233 = .ok (.bipush 8, 2) := by decide +kernel
theorem dX11_init_235 : decode cX11_init 235 = .ok (.newarray .int, 2) := by decide +kernel
theorem dX11_init_237 : decode cX11_init 237 = .ok (.putfield 94, 3) := by decide +kernel
theorem dX11_init_240 : decode cX11_init 240 = .ok (.aload_n 0, 1) := by decide +kernel
theorem dX11_init_241 : decode cX11_init 241 = .ok (.sipush 8192, 3) := by decide +kernel
theorem dX11_init_244 : decode cX11_init 244 = .ok (.newarray .int, 2) := by decide +kernel
theorem dX11_init_246 : decode cX11_init 246 = .ok (.putfield 97, 3) := by decide +kernel
theorem dX11_init_249 : decode cX11_init 249 = .ok (.aload_n 0, 1) := by decide +kernel
theorem dX11_init_250 : decode cX11_init 250 = .ok (.ldc 90, 2) := by decide +kernel
theorem dX11_init_252 : decode cX11_init 252 = .ok (.newarray .int, 2) := by decide +kernel
theorem dX11_init_254 : decode cX11_init 254 = .ok (.putfield 100, 3) := by decide +kernel
theorem dX11_init_257 : decode cX11_init 257 = .ok (.aload_n 0, 1) := by decide +kernel
theorem dX11_init_258 : decode cX11_init 258 = .ok (.sipush 8192, 3) := by decide +kernel
theorem dX11_init_261 : decode cX11_init 261 = .ok (.newarray .int, 2) := by decide +kernel
theorem dX11_init_263 : decode cX11_init 263 = .ok (.putfield 103, 3) := by decide +kernel
theorem dX11_init_266 : decode cX11_init 266 = .ok (.aload_n 0, 1) := by decide +kernel
theorem dX11_init_267 : decode cX11_init 267 = .ok (.sipush 8192, 3) := by decide +kernel
theorem dX11_init_270 : decode cX11_init 270 = .ok (.newarray .int, 2) := by decide +kernel
theorem dX11_init_272 : decode cX11_init 272 = .ok (.putfield 106, 3) := by decide +kernel
theorem dX11_init_275 : decode cX11_init 275 = .ok (.aload_n 0, 1) := by decide +kernel
theorem dX11_init_276 : decode cX11_init 276 = .ok (.iconst (-1), 1) := by decide +kernel
theorem dX11_init_277 : decode cX11_init 277 = .ok (.putfield 109, 3) := by decide +kernel
theorem dX11_init_280 : decode cX11_init 280 = .ok (.aload_n 0, 1) := by decide +kernel
theorem dX11_init_281 : decode cX11_init 281 = .ok (.bipush 8, 2) := by decide +kernel
theorem dX11_init_283 : decode cX11_init 283 = .ok (.newarray .int, 2) := by decide +kernel
theorem dX11_init_285 : decode cX11_init 285 = .ok (.putfield 112, 3) := by decide +kernel
theorem dX11_init_288 : decode cX11_init 288 = .ok (.aload_n 0, 1) := by decide +kernel
theorem dX11_init_289 : decode cX11_init 289 = .ok (.bipush 8, 2) := by decide +kernel
theorem dX11_init_291 : decode cX11_init 291 = .ok (.newarray .int, 2) := by decide +kernel
theorem dX11_init_293 : decode cX11_init 293 = .ok (.putfield 115, 3) := by decide +kernel
theorem dX11_init_296 : decode cX11_init 296 = .ok (.aload_n 0, 1) := by decide +kernel
theorem dX11_init_297 : decode cX11_init 297 = .ok (.sipush 2048, 3) := by decide +kernel
theorem dX11_init_300 : decode cX11_init 300 = .ok (.newarray .int, 2) := by decide +kernel
theorem dX11_init_302 : decode cX11_init 302 = .ok (.putfield 118, 3) := by decide +kernel
theorem dX11_init_305 : decode cX11_init 305 = .ok (.aload_n 0, 1) := by decide +kernel
theorem dX11_init_306 : decode cX11_init 306 = .ok (.bipush 33, 2) := by decide +kernel
theorem dX11_init_308 : decode cX11_init 308 = .ok (.newarray .int, 2) := by decide +kernel
theorem dX11_init_310 : decode cX11_init 310 = .ok (.putfield 121, 3) := by decide +kernel
theorem dX11_init_313 : decode cX11_init 313 = .ok (.aload_n 0, 1) := by decide +kernel
theorem dX11_init_314 : decode cX11_init 314 = .ok (.bipush 32, 2) := by decide +kernel
theorem dX11_init_316 : decode cX11_init 316 = .ok (.newarray .int, 2) := by decide +kernel
theorem dX11_init_318 : decode cX11_init 318 = .ok (.putfield 124, 3) := by decide +kernel
theorem dX11_init_321 : decode cX11_init 321 = .ok (.aload_n 0, 1) := by decide +kernel
theorem dX11_init_322 : decode cX11_init 322 = .ok (.bipush 32, 2) := by decide +kernel
theorem dX11_init_324 : decode cX11_init 324 = .ok (.newarray .int, 2) := by decide +kernel
theorem dX11_init_326 : decode cX11_init 326 = .ok (.putfield 127, 3) := by decide +kernel
theorem dX11_init_329 : decode cX11_init 329 = .ok (.aload_n 0, 1) := by decide +kernel
theorem dX11_init_330 : decode cX11_init 330 = .ok (.bipush 33, 2) := by decide +kernel
theorem dX11_init_332 : decode cX11_init 332 = .ok (.newarray .int, 2) := by decide +kernel
theorem dX11_init_334 : decode cX11_init 334 = .ok (.putfield 130, 3) := by decide +kernel
theorem dX11_init_337 : decode cX11_init 337 = .ok (.aload_n 0, 1) := by decide +kernel
theorem dX11_init_338 : decode cX11_init 338 = .ok (.bipush 6, 2) := by decide +kernel
theorem dX11_init_340 : decode cX11_init 340 = .ok (.newarray .int, 2) := by decide +kernel
theorem dX11_init_342 : decode cX11_init 342 = .ok (.putfield 133, 3) := by decide +kernel
theorem dX11_init_345 : decode cX11_init 345 = .ok (.aload_n 0, 1) := by decide +kernel
theorem dX11_init_346 : decode cX11_init 346 = .ok (.sipush 192, 3) := by decide +kernel
theorem dX11_init_349 : decode cX11_init 349 = .ok (.newarray .int, 2) := by decide +kernel
theorem dX11_init_351 : decode cX11_init 351 = .ok (.putfield 136, 3) := by decide +kernel
theorem dX11_init_354 : decode cX11_init 354 = .ok (.aload_n 0, 1) := by decide +kernel
theorem dX11_init_355 : decode cX11_init 355 = .ok (.sipush 1280, 3) := by decide +kernel
theorem dX11_init_358 : decode cX11_init 358 = .ok (.newarray .int, 2) := by decide +kernel
theorem dX11_init_360 : decode cX11_init 360 = .ok (.putfield 139, 3) := by decide +kernel
theorem dX11_init_363 : decode cX11_init 363 = .ok (.aload_n 0, 1) := by decide +kernel
theorem dX11_init_364 : decode cX11_init 364 = .ok (.iconst 4, 1) := by decide +kernel
theorem dX11_init_365 : decode cX11_init 365 = .ok (.newarray .int, 2) := by decide +kernel
theorem dX11_init_367 : decode cX11_init 367 = .ok (.putfield 142, 3) := by decide +kernel
theorem dX11_init_370 : decode cX11_init 370 = .ok (.aload_n 0, 1) := by decide +kernel
theorem dX11_init_371 : decode cX11_init 371 = .ok (.iconst 4, 1) := by decide +kernel
theorem dX11_init_372 : decode cX11_init 372 = .ok (.newarray .int, 2) := by decide +kernel
theorem dX11_init_374 : decode cX11_init 374 = .ok (.putfield 145, 3) := by decide +kernel
theorem dX11_init_377 : decode cX11_init 377 = .ok (.aload_n 0, 1) := by decide +kernel
theorem dX11_init_378 : decode cX11_init 378 = .ok (.bipush 32, 2) := by decide +kernel
theorem dX11_init_380 : decode cX11_init 380 = .ok (.newarray .int, 2) := by decide +kernel
theorem dX11_init_382 : decode cX11_init 382 = .ok (.putfield 148, 3) := by decide +kernel
theorem dX11_init_385 : decode cX11_init 385 = .ok (.aload_n 0, 1) := by decide +kernel
theorem dX11_init_386 : decode cX11_init 386 = .ok (.bipush 32, 2) := by decide +kernel
theorem dX11_init_388 : decode cX11_init 388 = .ok (.newarray .int, 2) := by decide +kernel
theorem dX11_init_390 : decode cX11_init 390 = .ok (.putfield 151, 3) := by decide +kernel
theorem dX11_init_393 : decode cX11_init 393 = .ok (.aload_n 0, 1) := by decide +kernel
theorem dX11_init_394 : decode cX11_init 394 = .ok (.bipush 32, 2) := by decide +kernel
theorem dX11_init_396 : decode cX11_init 396 = .ok (.newarray .int, 2) := by decide +kernel
theorem dX11_init_398 : decode cX11_init 398 = .ok (.putfield 154, 3) := by decide +kernel
theorem dX11_init_401 : decode cX11_init 401 = .ok (.aload_n 0, 1) := by decide +kernel
theorem dX11_init_402 : decode cX11_init 402 = .ok (.ldc 157, 2) := by decide +kernel
theorem dX11_init_404 : decode cX11_init 404 = .ok (.newarray .int, 2) := by decide +kernel
theorem dX11_init_406 : decode cX11_init 406 = .ok (.putfield 158, 3) := by decide +kernel
theorem dX11_init_409 : decode cX11_init 409 = .ok (.aload_n 0, 1) := by decide +kernel
theorem dX11_init_410 : decode cX11_init 410 = .ok (.sipush 32000, 3) := by decide +kernel
theorem dX11_init_413 : decode cX11_init 413 = .ok (.newarray .int, 2) := by decide +kernel
theorem dX11_init_415 : decode cX11_init 415 = .ok (.putfield 161, 3) := by decide +kernel
theorem dX11_init_418 : decode cX11_init 418 = .ok (.aload_n 0, 1) := by decide +kernel
theorem dX11_init_419 : decode cX11_init 419 = .ok (.bipush 32, 2) := by decide +kernel
theorem dX11_init_421 : decode cX11_init 421 = .ok (.newarray .int, 2) := by decide +kernel
theorem dX11_init_423 : decode cX11_init 423 = .ok (.putfield 164, 3) := by decide +kernel
theorem dX11_init_426 : decode cX11_init 426 = .ok (.aload_n 0, 1) := by decide +kernel
theorem dX11_init_427 : decode cX11_init 427 = .ok (.bipush 32, 2) := by decide +kernel
theorem dX11_init_429 : decode cX11_init 429 = .ok (.newarray .int, 2) := by decide +kernel
theorem dX11_init_431 : decode cX11_init 431 = .ok (.putfield 167, 3) := by decide +kernel
theorem dX11_init_434 : decode cX11_init 434 = .ok (.aload_n 0, 1) := by decide +kernel
theorem dX11_init_435 : decode cX11_init 435 = .ok (.iconst 2, 1) := by decide +kernel
theorem dX11_init_436 : decode cX11_init 436 = .ok (.iconst 2, 1) := by decide +kernel
theorem dX11_init_437 : decode cX11_init 437 = .ok (.invokevirtual 170, 3) := by decide +kernel
theorem dX11_init_440 : decode cX11_init 440 = .ok (.return_, 1) := by decide +kernel
section
variable {p : Program} {l : Launch} {e : Env} {R : Room} {s : State} {m : MethodId} {args : Array Value} {below : List Frame} {meth : Method} {c : Code} {D : va_G} {cA : Nat → ClassId} {z : Nat} {A : Nat → Prop} {T : HR}
set_option maxHeartbeats 16000000 in
theorem cM_init {l : Launch} {D : va_G} {cA : Nat → ClassId} {z sz : Nat} {I : HI} {J : HJ} {F : HR} {L : HL}  {Q : HI → Prop} (hs0 : (0, 18, 0) ∈ L) (hsz0 : sz = z + 1) (h : M_init I F L  Q) : Met l yX11_init (hws0 yX11_init cX11_init 1 none) { frames := 4, cells := 46, slots := 230747, locals := 100 } (hPc D cA z Ev0 (I, J, T, F, L) sz [.ref (z + 0)]) (va_Qv (pIv J T FM LM Q) (hB D cA z (hA z L sz)) (hA z L sz)) 46 230747 (hA z L sz) := by
  refine hm_met (I, J, T, F, L) [.ref (z + 0)] rfl (by decide) (Nat.le_of_ble_eq_true rfl) ?_
  intro p e s m below meth c ls X hr hlk hnm hxt hsz hw hl
  have hl : lv_has ls 1 [(0, .ref (z + 0))] := hl
  have hR : 4 ≤ ({ frames := 4, cells := 46, slots := 230747, locals := 100 } : Room).frames ∧ 100 ≤ ({ frames := 4, cells := 46, slots := 230747, locals := 100 } : Room).locals := ⟨Nat.le_refl _, Nat.le_refl _⟩
  have hRc : 46 ≤ ({ frames := 4, cells := 46, slots := 230747, locals := 100 } : Room).cells ∧ 230747 ≤ ({ frames := 4, cells := 46, slots := 230747, locals := 100 } : Room).slots := ⟨Nat.le_refl _, Nat.le_refl _⟩
  generalize ({ frames := 4, cells := 46, slots := 230747, locals := 100 } : Room) = R at hR hRc ⊢
  have hnm : meth.name = "<init>" := hnm
  have hsz1 : s.heap.size = z + (0 + 1) := hsz.trans hsz0
  clear hsz hsz0
  generalize (hA z L sz) = A at hw ⊢
  have hx := X.1
  have hb := X.2.1
  unfold M_init at h
  refine lv_aload_n hx hb dX11_init_0 rfl (lv_at hl 0 rfl) ?_
  refine hm_obj X kw1323 hl.1 ⟨Nat.le_trans (Nat.le_of_ble_eq_true rfl) hR.1, Nat.le_trans (Nat.le_of_ble_eq_true rfl) hR.2⟩ dX11_init_1 ?_
  refine lv_aload_n hx hb dX11_init_4 rfl (lv_at hl 0 rfl) ?_
  refine lv_iconst (v := 2) hx hb dX11_init_5 (by decide) ?_
  refine hm_puti X hw lkM_7 hs0 rfl rfl dX11_init_6 (fun H locs hw => ?_)
  refine lv_aload_n hx hb dX11_init_9 rfl (lv_at hl 0 rfl) ?_
  refine lv_iconst (v := 2) hx hb dX11_init_10 (by decide) ?_
  refine hm_puti X hw lkM_13 hs0 rfl rfl dX11_init_11 (fun H locs hw => ?_)
  refine lv_aload_n hx hb dX11_init_14 rfl (lv_at hl 0 rfl) ?_
  refine lv_iconst (v := 4) hx hb dX11_init_15 (by decide) ?_
  refine hm_puti X hw lkM_16 hs0 rfl rfl dX11_init_16 (fun H locs hw => ?_)
  refine lv_aload_n hx hb dX11_init_19 rfl (lv_at hl 0 rfl) ?_
  refine lv_iconst (v := 1) hx hb dX11_init_20 (by decide) ?_
  refine hm_puti X hw lkM_19 hs0 rfl rfl dX11_init_21 (fun H locs hw => ?_)
  refine lv_aload_n hx hb dX11_init_24 rfl (lv_at hl 0 rfl) ?_
  refine lv_iconst (v := 4) hx hb dX11_init_25 (by decide) ?_
  refine hm_szK (n0 := 0 + 1) (N := 0) (q := 1) (hW_lt hw _ hs0) hsz1 rfl rfl (fun ehq1 => ?_)
  refine hm_newa0 (N := 4) X hw ehq1 (by decide) (by decide) (by decide) (Nat.le_trans (Nat.le_of_ble_eq_true rfl) hRc.1) (Nat.le_trans (Nat.le_of_ble_eq_true rfl) hRc.2) dX11_init_26 (fun H hsz hw => ?_)
  have hs0 := List.mem_append_left [(1, 0, 4)] hs0
  have ehs2 := mem_last L ((1, 0, 4))
  refine lv_dup hx hb dX11_init_28 rfl ?_
  refine lv_iconst (v := 0) hx hb dX11_init_29 (by decide) ?_
  refine lv_bipush (v := 8) hx hb dX11_init_30 (by decide) ?_
  refine hm_iast X hw ehs2 (by unfold vp_in; decide) dX11_init_32 (fun H locs hw => ?_)
  refine lv_dup hx hb dX11_init_33 rfl ?_
  refine lv_iconst (v := 1) hx hb dX11_init_34 (by decide) ?_
  refine lv_bipush (v := 8) hx hb dX11_init_35 (by decide) ?_
  refine hm_iast X hw ehs2 (by unfold vp_in; decide) dX11_init_37 (fun H locs hw => ?_)
  refine lv_dup hx hb dX11_init_38 rfl ?_
  refine lv_iconst (v := 2) hx hb dX11_init_39 (by decide) ?_
  refine lv_bipush (v := 8) hx hb dX11_init_40 (by decide) ?_
  refine hm_iast X hw ehs2 (by unfold vp_in; decide) dX11_init_42 (fun H locs hw => ?_)
  refine lv_dup hx hb dX11_init_43 rfl ?_
  refine lv_iconst (v := 3) hx hb dX11_init_44 (by decide) ?_
  refine lv_bipush (v := 8) hx hb dX11_init_45 (by decide) ?_
  refine hm_iast X hw ehs2 (by unfold vp_in; decide) dX11_init_47 (fun H locs hw => ?_)
  refine hm_putr X hw lkM_22 (fun _ => ⟨hnm, TX11, 75, rfl, rfl⟩) hs0 rfl rfl dX11_init_48 (fun H locs hw => ?_)
  refine lv_aload_n hx hb dX11_init_51 rfl (lv_at hl 0 rfl) ?_
  refine lv_bipush (v := 8) hx hb dX11_init_52 (by decide) ?_
  refine hm_szK (n0 := 0 + 1) (N := 1) (q := 2) (hW_lt hw _ ehs2) hsz1 rfl rfl (fun ehq3 => ?_)
  refine hm_newa0 (N := 8) X hw ehq3 (by decide) (by decide) (by decide) (Nat.le_trans (Nat.le_of_ble_eq_true rfl) hRc.1) (Nat.le_trans (Nat.le_of_ble_eq_true rfl) hRc.2) dX11_init_54 (fun H hsz hw => ?_)
  have hs0 := List.mem_append_left [(2, 0, 8)] hs0
  have ehs2 := List.mem_append_left [(2, 0, 8)] ehs2
  have ehs4 := mem_last (L ++ [(1, 0, 4)]) ((2, 0, 8))
  clear ehs2
  refine hm_putr X hw lkM_26 (fun _ => ⟨hnm, TX11, 75, rfl, rfl⟩) hs0 rfl rfl dX11_init_56 (fun H locs hw => ?_)
  refine lv_aload_n hx hb dX11_init_59 rfl (lv_at hl 0 rfl) ?_
  refine lv_bipush (v := 8) hx hb dX11_init_60 (by decide) ?_
  refine hm_szK (n0 := 0 + 1) (N := 2) (q := 3) (hW_lt hw _ ehs4) hsz1 rfl rfl (fun ehq5 => ?_)
  refine hm_newa0 (N := 8) X hw ehq5 (by decide) (by decide) (by decide) (Nat.le_trans (Nat.le_of_ble_eq_true rfl) hRc.1) (Nat.le_trans (Nat.le_of_ble_eq_true rfl) hRc.2) dX11_init_62 (fun H hsz hw => ?_)
  have hs0 := List.mem_append_left [(3, 0, 8)] hs0
  have ehs4 := List.mem_append_left [(3, 0, 8)] ehs4
  have ehs6 := mem_last ((L ++ [(1, 0, 4)]) ++ [(2, 0, 8)]) ((3, 0, 8))
  clear ehs4
  refine hm_putr X hw lkM_29 (fun _ => ⟨hnm, TX11, 75, rfl, rfl⟩) hs0 rfl rfl dX11_init_64 (fun H locs hw => ?_)
  refine lv_aload_n hx hb dX11_init_67 rfl (lv_at hl 0 rfl) ?_
  refine lv_bipush (v := 8) hx hb dX11_init_68 (by decide) ?_
  refine hm_szK (n0 := 0 + 1) (N := 3) (q := 4) (hW_lt hw _ ehs6) hsz1 rfl rfl (fun ehq7 => ?_)
  refine hm_newa0 (N := 8) X hw ehq7 (by decide) (by decide) (by decide) (Nat.le_trans (Nat.le_of_ble_eq_true rfl) hRc.1) (Nat.le_trans (Nat.le_of_ble_eq_true rfl) hRc.2) dX11_init_70 (fun H hsz hw => ?_)
  have hs0 := List.mem_append_left [(4, 0, 8)] hs0
  have ehs6 := List.mem_append_left [(4, 0, 8)] ehs6
  have ehs8 := mem_last (((L ++ [(1, 0, 4)]) ++ [(2, 0, 8)]) ++ [(3, 0, 8)]) ((4, 0, 8))
  clear ehs6
  refine hm_putr X hw lkM_32 (fun _ => ⟨hnm, TX11, 75, rfl, rfl⟩) hs0 rfl rfl dX11_init_72 (fun H locs hw => ?_)
  refine lv_aload_n hx hb dX11_init_75 rfl (lv_at hl 0 rfl) ?_
  refine lv_sipush (v := 8192) hx hb dX11_init_76 (by decide) ?_
  refine hm_szK (n0 := 0 + 1) (N := 4) (q := 5) (hW_lt hw _ ehs8) hsz1 rfl rfl (fun ehq9 => ?_)
  refine hm_newa0 (N := 8192) X hw ehq9 (by decide) (by decide) (by decide) (Nat.le_trans (Nat.le_of_ble_eq_true rfl) hRc.1) (Nat.le_trans (Nat.le_of_ble_eq_true rfl) hRc.2) dX11_init_79 (fun H hsz hw => ?_)
  have hs0 := List.mem_append_left [(5, 0, 8192)] hs0
  have ehs8 := List.mem_append_left [(5, 0, 8192)] ehs8
  have ehs10 := mem_last ((((L ++ [(1, 0, 4)]) ++ [(2, 0, 8)]) ++ [(3, 0, 8)]) ++ [(4, 0, 8)]) ((5, 0, 8192))
  clear ehs8
  refine hm_putr X hw lkM_35 (fun _ => ⟨hnm, TX11, 75, rfl, rfl⟩) hs0 rfl rfl dX11_init_81 (fun H locs hw => ?_)
  refine lv_aload_n hx hb dX11_init_84 rfl (lv_at hl 0 rfl) ?_
  refine lv_sipush (v := 8000) hx hb dX11_init_85 (by decide) ?_
  refine hm_szK (n0 := 0 + 1) (N := 5) (q := 6) (hW_lt hw _ ehs10) hsz1 rfl rfl (fun ehq11 => ?_)
  refine hm_newa0 (N := 8000) X hw ehq11 (by decide) (by decide) (by decide) (Nat.le_trans (Nat.le_of_ble_eq_true rfl) hRc.1) (Nat.le_trans (Nat.le_of_ble_eq_true rfl) hRc.2) dX11_init_88 (fun H hsz hw => ?_)
  have hs0 := List.mem_append_left [(6, 0, 8000)] hs0
  have ehs10 := List.mem_append_left [(6, 0, 8000)] ehs10
  have ehs12 := mem_last (((((L ++ [(1, 0, 4)]) ++ [(2, 0, 8)]) ++ [(3, 0, 8)]) ++ [(4, 0, 8)]) ++ [(5, 0, 8192)]) ((6, 0, 8000))
  clear ehs10
  refine hm_putr X hw lkM_38 (fun _ => ⟨hnm, TX11, 75, rfl, rfl⟩) hs0 rfl rfl dX11_init_90 (fun H locs hw => ?_)
  refine lv_aload_n hx hb dX11_init_93 rfl (lv_at hl 0 rfl) ?_
  refine lv_bipush (v := 8) hx hb dX11_init_94 (by decide) ?_
  refine hm_szK (n0 := 0 + 1) (N := 6) (q := 7) (hW_lt hw _ ehs12) hsz1 rfl rfl (fun ehq13 => ?_)
  refine hm_newa0 (N := 8) X hw ehq13 (by decide) (by decide) (by decide) (Nat.le_trans (Nat.le_of_ble_eq_true rfl) hRc.1) (Nat.le_trans (Nat.le_of_ble_eq_true rfl) hRc.2) dX11_init_96 (fun H hsz hw => ?_)
  have hs0 := List.mem_append_left [(7, 0, 8)] hs0
  have ehs12 := List.mem_append_left [(7, 0, 8)] ehs12
  have ehs14 := mem_last ((((((L ++ [(1, 0, 4)]) ++ [(2, 0, 8)]) ++ [(3, 0, 8)]) ++ [(4, 0, 8)]) ++ [(5, 0, 8192)]) ++ [(6, 0, 8000)]) ((7, 0, 8))
  clear ehs12
  refine hm_putr X hw lkM_41 (fun _ => ⟨hnm, TX11, 75, rfl, rfl⟩) hs0 rfl rfl dX11_init_98 (fun H locs hw => ?_)
  refine lv_aload_n hx hb dX11_init_101 rfl (lv_at hl 0 rfl) ?_
  refine lv_bipush (v := 8) hx hb dX11_init_102 (by decide) ?_
  refine hm_szK (n0 := 0 + 1) (N := 7) (q := 8) (hW_lt hw _ ehs14) hsz1 rfl rfl (fun ehq15 => ?_)
  refine hm_newa0 (N := 8) X hw ehq15 (by decide) (by decide) (by decide) (Nat.le_trans (Nat.le_of_ble_eq_true rfl) hRc.1) (Nat.le_trans (Nat.le_of_ble_eq_true rfl) hRc.2) dX11_init_104 (fun H hsz hw => ?_)
  have hs0 := List.mem_append_left [(8, 0, 8)] hs0
  have ehs14 := List.mem_append_left [(8, 0, 8)] ehs14
  have ehs16 := mem_last (((((((L ++ [(1, 0, 4)]) ++ [(2, 0, 8)]) ++ [(3, 0, 8)]) ++ [(4, 0, 8)]) ++ [(5, 0, 8192)]) ++ [(6, 0, 8000)]) ++ [(7, 0, 8)]) ((8, 0, 8))
  clear ehs14
  refine hm_putr X hw lkM_44 (fun _ => ⟨hnm, TX11, 75, rfl, rfl⟩) hs0 rfl rfl dX11_init_106 (fun H locs hw => ?_)
  refine lv_aload_n hx hb dX11_init_109 rfl (lv_at hl 0 rfl) ?_
  refine lv_bipush (v := 8) hx hb dX11_init_110 (by decide) ?_
  refine hm_szK (n0 := 0 + 1) (N := 8) (q := 9) (hW_lt hw _ ehs16) hsz1 rfl rfl (fun ehq17 => ?_)
  refine hm_newa0 (N := 8) X hw ehq17 (by decide) (by decide) (by decide) (Nat.le_trans (Nat.le_of_ble_eq_true rfl) hRc.1) (Nat.le_trans (Nat.le_of_ble_eq_true rfl) hRc.2) dX11_init_112 (fun H hsz hw => ?_)
  have hs0 := List.mem_append_left [(9, 0, 8)] hs0
  have ehs16 := List.mem_append_left [(9, 0, 8)] ehs16
  have ehs18 := mem_last ((((((((L ++ [(1, 0, 4)]) ++ [(2, 0, 8)]) ++ [(3, 0, 8)]) ++ [(4, 0, 8)]) ++ [(5, 0, 8192)]) ++ [(6, 0, 8000)]) ++ [(7, 0, 8)]) ++ [(8, 0, 8)]) ((9, 0, 8))
  clear ehs16
  refine hm_putr X hw lkM_47 (fun _ => ⟨hnm, TX11, 75, rfl, rfl⟩) hs0 rfl rfl dX11_init_114 (fun H locs hw => ?_)
  refine lv_aload_n hx hb dX11_init_117 rfl (lv_at hl 0 rfl) ?_
  refine lv_sipush (v := 500) hx hb dX11_init_118 (by decide) ?_
  refine hm_szK (n0 := 0 + 1) (N := 9) (q := 10) (hW_lt hw _ ehs18) hsz1 rfl rfl (fun ehq19 => ?_)
  refine hm_newa0 (N := 500) X hw ehq19 (by decide) (by decide) (by decide) (Nat.le_trans (Nat.le_of_ble_eq_true rfl) hRc.1) (Nat.le_trans (Nat.le_of_ble_eq_true rfl) hRc.2) dX11_init_121 (fun H hsz hw => ?_)
  have hs0 := List.mem_append_left [(10, 0, 500)] hs0
  have ehs18 := List.mem_append_left [(10, 0, 500)] ehs18
  have ehs20 := mem_last (((((((((L ++ [(1, 0, 4)]) ++ [(2, 0, 8)]) ++ [(3, 0, 8)]) ++ [(4, 0, 8)]) ++ [(5, 0, 8192)]) ++ [(6, 0, 8000)]) ++ [(7, 0, 8)]) ++ [(8, 0, 8)]) ++ [(9, 0, 8)]) ((10, 0, 500))
  clear ehs18
  refine hm_putr X hw lkM_50 (fun _ => ⟨hnm, TX11, 75, rfl, rfl⟩) hs0 rfl rfl dX11_init_123 (fun H locs hw => ?_)
  refine lv_aload_n hx hb dX11_init_126 rfl (lv_at hl 0 rfl) ?_
  refine lv_iconst (v := (-1)) hx hb dX11_init_127 (by decide) ?_
  refine hm_puti X hw lkM_53 hs0 rfl rfl dX11_init_128 (fun H locs hw => ?_)
  refine lv_aload_n hx hb dX11_init_131 rfl (lv_at hl 0 rfl) ?_
  refine lv_bipush (v := 16) hx hb dX11_init_132 (by decide) ?_
  refine hm_szK (n0 := 0 + 1) (N := 10) (q := 11) (hW_lt hw _ ehs20) hsz1 rfl rfl (fun ehq21 => ?_)
  refine hm_newa0 (N := 16) X hw ehq21 (by decide) (by decide) (by decide) (Nat.le_trans (Nat.le_of_ble_eq_true rfl) hRc.1) (Nat.le_trans (Nat.le_of_ble_eq_true rfl) hRc.2) dX11_init_134 (fun H hsz hw => ?_)
  have hs0 := List.mem_append_left [(11, 0, 16)] hs0
  have ehs20 := List.mem_append_left [(11, 0, 16)] ehs20
  have ehs22 := mem_last ((((((((((L ++ [(1, 0, 4)]) ++ [(2, 0, 8)]) ++ [(3, 0, 8)]) ++ [(4, 0, 8)]) ++ [(5, 0, 8192)]) ++ [(6, 0, 8000)]) ++ [(7, 0, 8)]) ++ [(8, 0, 8)]) ++ [(9, 0, 8)]) ++ [(10, 0, 500)]) ((11, 0, 16))
  clear ehs20
  refine hm_putr X hw lkM_56 (fun _ => ⟨hnm, TX11, 75, rfl, rfl⟩) hs0 rfl rfl dX11_init_136 (fun H locs hw => ?_)
  refine lv_aload_n hx hb dX11_init_139 rfl (lv_at hl 0 rfl) ?_
  refine lv_bipush (v := 16) hx hb dX11_init_140 (by decide) ?_
  refine hm_szK (n0 := 0 + 1) (N := 11) (q := 12) (hW_lt hw _ ehs22) hsz1 rfl rfl (fun ehq23 => ?_)
  refine hm_newa0 (N := 16) X hw ehq23 (by decide) (by decide) (by decide) (Nat.le_trans (Nat.le_of_ble_eq_true rfl) hRc.1) (Nat.le_trans (Nat.le_of_ble_eq_true rfl) hRc.2) dX11_init_142 (fun H hsz hw => ?_)
  have hs0 := List.mem_append_left [(12, 0, 16)] hs0
  have ehs22 := List.mem_append_left [(12, 0, 16)] ehs22
  have ehs24 := mem_last (((((((((((L ++ [(1, 0, 4)]) ++ [(2, 0, 8)]) ++ [(3, 0, 8)]) ++ [(4, 0, 8)]) ++ [(5, 0, 8192)]) ++ [(6, 0, 8000)]) ++ [(7, 0, 8)]) ++ [(8, 0, 8)]) ++ [(9, 0, 8)]) ++ [(10, 0, 500)]) ++ [(11, 0, 16)]) ((12, 0, 16))
  clear ehs22
  refine hm_putr X hw lkM_59 (fun _ => ⟨hnm, TX11, 75, rfl, rfl⟩) hs0 rfl rfl dX11_init_144 (fun H locs hw => ?_)
  refine lv_aload_n hx hb dX11_init_147 rfl (lv_at hl 0 rfl) ?_
  refine lv_bipush (v := 16) hx hb dX11_init_148 (by decide) ?_
  refine hm_szK (n0 := 0 + 1) (N := 12) (q := 13) (hW_lt hw _ ehs24) hsz1 rfl rfl (fun ehq25 => ?_)
  refine hm_newa0 (N := 16) X hw ehq25 (by decide) (by decide) (by decide) (Nat.le_trans (Nat.le_of_ble_eq_true rfl) hRc.1) (Nat.le_trans (Nat.le_of_ble_eq_true rfl) hRc.2) dX11_init_150 (fun H hsz hw => ?_)
  have hs0 := List.mem_append_left [(13, 0, 16)] hs0
  have ehs24 := List.mem_append_left [(13, 0, 16)] ehs24
  have ehs26 := mem_last ((((((((((((L ++ [(1, 0, 4)]) ++ [(2, 0, 8)]) ++ [(3, 0, 8)]) ++ [(4, 0, 8)]) ++ [(5, 0, 8192)]) ++ [(6, 0, 8000)]) ++ [(7, 0, 8)]) ++ [(8, 0, 8)]) ++ [(9, 0, 8)]) ++ [(10, 0, 500)]) ++ [(11, 0, 16)]) ++ [(12, 0, 16)]) ((13, 0, 16))
  clear ehs24
  refine hm_putr X hw lkM_62 (fun _ => ⟨hnm, TX11, 75, rfl, rfl⟩) hs0 rfl rfl dX11_init_152 (fun H locs hw => ?_)
  refine lv_aload_n hx hb dX11_init_155 rfl (lv_at hl 0 rfl) ?_
  refine lv_sipush (v := 1600) hx hb dX11_init_156 (by decide) ?_
  refine hm_szK (n0 := 0 + 1) (N := 13) (q := 14) (hW_lt hw _ ehs26) hsz1 rfl rfl (fun ehq27 => ?_)
  refine hm_newa0 (N := 1600) X hw ehq27 (by decide) (by decide) (by decide) (Nat.le_trans (Nat.le_of_ble_eq_true rfl) hRc.1) (Nat.le_trans (Nat.le_of_ble_eq_true rfl) hRc.2) dX11_init_159 (fun H hsz hw => ?_)
  have hs0 := List.mem_append_left [(14, 0, 1600)] hs0
  have ehs26 := List.mem_append_left [(14, 0, 1600)] ehs26
  have ehs28 := mem_last (((((((((((((L ++ [(1, 0, 4)]) ++ [(2, 0, 8)]) ++ [(3, 0, 8)]) ++ [(4, 0, 8)]) ++ [(5, 0, 8192)]) ++ [(6, 0, 8000)]) ++ [(7, 0, 8)]) ++ [(8, 0, 8)]) ++ [(9, 0, 8)]) ++ [(10, 0, 500)]) ++ [(11, 0, 16)]) ++ [(12, 0, 16)]) ++ [(13, 0, 16)]) ((14, 0, 1600))
  clear ehs26
  refine hm_putr X hw lkM_65 (fun _ => ⟨hnm, TX11, 75, rfl, rfl⟩) hs0 rfl rfl dX11_init_161 (fun H locs hw => ?_)
  refine lv_aload_n hx hb dX11_init_164 rfl (lv_at hl 0 rfl) ?_
  refine lv_sipush (v := 520) hx hb dX11_init_165 (by decide) ?_
  refine hm_szK (n0 := 0 + 1) (N := 14) (q := 15) (hW_lt hw _ ehs28) hsz1 rfl rfl (fun ehq29 => ?_)
  refine hm_newa0 (N := 520) X hw ehq29 (by decide) (by decide) (by decide) (Nat.le_trans (Nat.le_of_ble_eq_true rfl) hRc.1) (Nat.le_trans (Nat.le_of_ble_eq_true rfl) hRc.2) dX11_init_168 (fun H hsz hw => ?_)
  have hs0 := List.mem_append_left [(15, 0, 520)] hs0
  have ehs28 := List.mem_append_left [(15, 0, 520)] ehs28
  have ehs30 := mem_last ((((((((((((((L ++ [(1, 0, 4)]) ++ [(2, 0, 8)]) ++ [(3, 0, 8)]) ++ [(4, 0, 8)]) ++ [(5, 0, 8192)]) ++ [(6, 0, 8000)]) ++ [(7, 0, 8)]) ++ [(8, 0, 8)]) ++ [(9, 0, 8)]) ++ [(10, 0, 500)]) ++ [(11, 0, 16)]) ++ [(12, 0, 16)]) ++ [(13, 0, 16)]) ++ [(14, 0, 1600)]) ((15, 0, 520))
  clear ehs28
  refine hm_putr X hw lkM_68 (fun _ => ⟨hnm, TX11, 75, rfl, rfl⟩) hs0 rfl rfl dX11_init_170 (fun H locs hw => ?_)
  refine lv_aload_n hx hb dX11_init_173 rfl (lv_at hl 0 rfl) ?_
  refine lv_bipush (v := 9) hx hb dX11_init_174 (by decide) ?_
  refine hm_szK (n0 := 0 + 1) (N := 15) (q := 16) (hW_lt hw _ ehs30) hsz1 rfl rfl (fun ehq31 => ?_)
  refine hm_newa3 (N := 9) X hw ehq31 (by decide) (by decide) (by decide) (Nat.le_trans (Nat.le_of_ble_eq_true rfl) hRc.1) (Nat.le_trans (Nat.le_of_ble_eq_true rfl) hRc.2) dX11_init_176 (fun H hsz hw => ?_)
  have hs0 := List.mem_append_left [(16, 3, 9)] hs0
  have ehs30 := List.mem_append_left [(16, 3, 9)] ehs30
  have ehs32 := mem_last (((((((((((((((L ++ [(1, 0, 4)]) ++ [(2, 0, 8)]) ++ [(3, 0, 8)]) ++ [(4, 0, 8)]) ++ [(5, 0, 8192)]) ++ [(6, 0, 8000)]) ++ [(7, 0, 8)]) ++ [(8, 0, 8)]) ++ [(9, 0, 8)]) ++ [(10, 0, 500)]) ++ [(11, 0, 16)]) ++ [(12, 0, 16)]) ++ [(13, 0, 16)]) ++ [(14, 0, 1600)]) ++ [(15, 0, 520)]) ((16, 3, 9))
  clear ehs30
  refine hm_putr X hw lkM_71 (fun _ => ⟨hnm, TX11, 75, rfl, rfl⟩) hs0 rfl rfl dX11_init_178 (fun H locs hw => ?_)
  refine lv_aload_n hx hb dX11_init_181 rfl (lv_at hl 0 rfl) ?_
  refine lv_bipush (v := 8) hx hb dX11_init_182 (by decide) ?_
  refine hm_szK (n0 := 0 + 1) (N := 16) (q := 17) (hW_lt hw _ ehs32) hsz1 rfl rfl (fun ehq33 => ?_)
  refine hm_newa0 (N := 8) X hw ehq33 (by decide) (by decide) (by decide) (Nat.le_trans (Nat.le_of_ble_eq_true rfl) hRc.1) (Nat.le_trans (Nat.le_of_ble_eq_true rfl) hRc.2) dX11_init_184 (fun H hsz hw => ?_)
  have hs0 := List.mem_append_left [(17, 0, 8)] hs0
  have ehs32 := List.mem_append_left [(17, 0, 8)] ehs32
  have ehs34 := mem_last ((((((((((((((((L ++ [(1, 0, 4)]) ++ [(2, 0, 8)]) ++ [(3, 0, 8)]) ++ [(4, 0, 8)]) ++ [(5, 0, 8192)]) ++ [(6, 0, 8000)]) ++ [(7, 0, 8)]) ++ [(8, 0, 8)]) ++ [(9, 0, 8)]) ++ [(10, 0, 500)]) ++ [(11, 0, 16)]) ++ [(12, 0, 16)]) ++ [(13, 0, 16)]) ++ [(14, 0, 1600)]) ++ [(15, 0, 520)]) ++ [(16, 3, 9)]) ((17, 0, 8))
  clear ehs32
  refine hm_putr X hw lkM_75 (fun _ => ⟨hnm, TX11, 75, rfl, rfl⟩) hs0 rfl rfl dX11_init_186 (fun H locs hw => ?_)
  refine lv_aload_n hx hb dX11_init_189 rfl (lv_at hl 0 rfl) ?_
  refine lv_bipush (v := 8) hx hb dX11_init_190 (by decide) ?_
  refine hm_szK (n0 := 0 + 1) (N := 17) (q := 18) (hW_lt hw _ ehs34) hsz1 rfl rfl (fun ehq35 => ?_)
  refine hm_newa0 (N := 8) X hw ehq35 (by decide) (by decide) (by decide) (Nat.le_trans (Nat.le_of_ble_eq_true rfl) hRc.1) (Nat.le_trans (Nat.le_of_ble_eq_true rfl) hRc.2) dX11_init_192 (fun H hsz hw => ?_)
  have hs0 := List.mem_append_left [(18, 0, 8)] hs0
  have ehs34 := List.mem_append_left [(18, 0, 8)] ehs34
  have ehs36 := mem_last (((((((((((((((((L ++ [(1, 0, 4)]) ++ [(2, 0, 8)]) ++ [(3, 0, 8)]) ++ [(4, 0, 8)]) ++ [(5, 0, 8192)]) ++ [(6, 0, 8000)]) ++ [(7, 0, 8)]) ++ [(8, 0, 8)]) ++ [(9, 0, 8)]) ++ [(10, 0, 500)]) ++ [(11, 0, 16)]) ++ [(12, 0, 16)]) ++ [(13, 0, 16)]) ++ [(14, 0, 1600)]) ++ [(15, 0, 520)]) ++ [(16, 3, 9)]) ++ [(17, 0, 8)]) ((18, 0, 8))
  clear ehs34
  refine hm_putr X hw lkM_78 (fun _ => ⟨hnm, TX11, 75, rfl, rfl⟩) hs0 rfl rfl dX11_init_194 (fun H locs hw => ?_)
  refine lv_aload_n hx hb dX11_init_197 rfl (lv_at hl 0 rfl) ?_
  refine lv_sipush (v := 520) hx hb dX11_init_198 (by decide) ?_
  refine hm_szK (n0 := 0 + 1) (N := 18) (q := 19) (hW_lt hw _ ehs36) hsz1 rfl rfl (fun ehq37 => ?_)
  refine hm_newa0 (N := 520) X hw ehq37 (by decide) (by decide) (by decide) (Nat.le_trans (Nat.le_of_ble_eq_true rfl) hRc.1) (Nat.le_trans (Nat.le_of_ble_eq_true rfl) hRc.2) dX11_init_201 (fun H hsz hw => ?_)
  have hs0 := List.mem_append_left [(19, 0, 520)] hs0
  have ehs36 := List.mem_append_left [(19, 0, 520)] ehs36
  have ehs38 := mem_last ((((((((((((((((((L ++ [(1, 0, 4)]) ++ [(2, 0, 8)]) ++ [(3, 0, 8)]) ++ [(4, 0, 8)]) ++ [(5, 0, 8192)]) ++ [(6, 0, 8000)]) ++ [(7, 0, 8)]) ++ [(8, 0, 8)]) ++ [(9, 0, 8)]) ++ [(10, 0, 500)]) ++ [(11, 0, 16)]) ++ [(12, 0, 16)]) ++ [(13, 0, 16)]) ++ [(14, 0, 1600)]) ++ [(15, 0, 520)]) ++ [(16, 3, 9)]) ++ [(17, 0, 8)]) ++ [(18, 0, 8)]) ((19, 0, 520))
  clear ehs36
  refine hm_putr X hw lkM_81 (fun _ => ⟨hnm, TX11, 75, rfl, rfl⟩) hs0 rfl rfl dX11_init_203 (fun H locs hw => ?_)
  refine lv_aload_n hx hb dX11_init_206 rfl (lv_at hl 0 rfl) ?_
  refine lv_sipush (v := 6561) hx hb dX11_init_207 (by decide) ?_
  refine hm_szK (n0 := 0 + 1) (N := 19) (q := 20) (hW_lt hw _ ehs38) hsz1 rfl rfl (fun ehq39 => ?_)
  refine hm_newa0 (N := 6561) X hw ehq39 (by decide) (by decide) (by decide) (Nat.le_trans (Nat.le_of_ble_eq_true rfl) hRc.1) (Nat.le_trans (Nat.le_of_ble_eq_true rfl) hRc.2) dX11_init_210 (fun H hsz hw => ?_)
  have hs0 := List.mem_append_left [(20, 0, 6561)] hs0
  have ehs38 := List.mem_append_left [(20, 0, 6561)] ehs38
  have ehs40 := mem_last (((((((((((((((((((L ++ [(1, 0, 4)]) ++ [(2, 0, 8)]) ++ [(3, 0, 8)]) ++ [(4, 0, 8)]) ++ [(5, 0, 8192)]) ++ [(6, 0, 8000)]) ++ [(7, 0, 8)]) ++ [(8, 0, 8)]) ++ [(9, 0, 8)]) ++ [(10, 0, 500)]) ++ [(11, 0, 16)]) ++ [(12, 0, 16)]) ++ [(13, 0, 16)]) ++ [(14, 0, 1600)]) ++ [(15, 0, 520)]) ++ [(16, 3, 9)]) ++ [(17, 0, 8)]) ++ [(18, 0, 8)]) ++ [(19, 0, 520)]) ((20, 0, 6561))
  clear ehs38
  refine hm_putr X hw lkM_84 (fun _ => ⟨hnm, TX11, 75, rfl, rfl⟩) hs0 rfl rfl dX11_init_212 (fun H locs hw => ?_)
  refine lv_aload_n hx hb dX11_init_215 rfl (lv_at hl 0 rfl) ?_
  refine lv_sipush (v := 6561) hx hb dX11_init_216 (by decide) ?_
  refine hm_szK (n0 := 0 + 1) (N := 20) (q := 21) (hW_lt hw _ ehs40) hsz1 rfl rfl (fun ehq41 => ?_)
  refine hm_newa0 (N := 6561) X hw ehq41 (by decide) (by decide) (by decide) (Nat.le_trans (Nat.le_of_ble_eq_true rfl) hRc.1) (Nat.le_trans (Nat.le_of_ble_eq_true rfl) hRc.2) dX11_init_219 (fun H hsz hw => ?_)
  have hs0 := List.mem_append_left [(21, 0, 6561)] hs0
  have ehs40 := List.mem_append_left [(21, 0, 6561)] ehs40
  have ehs42 := mem_last ((((((((((((((((((((L ++ [(1, 0, 4)]) ++ [(2, 0, 8)]) ++ [(3, 0, 8)]) ++ [(4, 0, 8)]) ++ [(5, 0, 8192)]) ++ [(6, 0, 8000)]) ++ [(7, 0, 8)]) ++ [(8, 0, 8)]) ++ [(9, 0, 8)]) ++ [(10, 0, 500)]) ++ [(11, 0, 16)]) ++ [(12, 0, 16)]) ++ [(13, 0, 16)]) ++ [(14, 0, 1600)]) ++ [(15, 0, 520)]) ++ [(16, 3, 9)]) ++ [(17, 0, 8)]) ++ [(18, 0, 8)]) ++ [(19, 0, 520)]) ++ [(20, 0, 6561)]) ((21, 0, 6561))
  clear ehs40
  refine hm_putr X hw lkM_87 (fun _ => ⟨hnm, TX11, 75, rfl, rfl⟩) hs0 rfl rfl dX11_init_221 (fun H locs hw => ?_)
  refine lv_aload_n hx hb dX11_init_224 rfl (lv_at hl 0 rfl) ?_
  refine lv_ldc (v := 52488) hx hb X.2.2.2.1 (X.2.2.2.2 _ kw1324) dX11_init_225 ?_
  refine hm_szK (n0 := 0 + 1) (N := 21) (q := 22) (hW_lt hw _ ehs42) hsz1 rfl rfl (fun ehq43 => ?_)
  refine hm_newa0 (N := 52488) X hw ehq43 (by decide) (by decide) (by decide) (Nat.le_trans (Nat.le_of_ble_eq_true rfl) hRc.1) (Nat.le_trans (Nat.le_of_ble_eq_true rfl) hRc.2) dX11_init_227 (fun H hsz hw => ?_)
  have hs0 := List.mem_append_left [(22, 0, 52488)] hs0
  have ehs42 := List.mem_append_left [(22, 0, 52488)] ehs42
  have ehs44 := mem_last (((((((((((((((((((((L ++ [(1, 0, 4)]) ++ [(2, 0, 8)]) ++ [(3, 0, 8)]) ++ [(4, 0, 8)]) ++ [(5, 0, 8192)]) ++ [(6, 0, 8000)]) ++ [(7, 0, 8)]) ++ [(8, 0, 8)]) ++ [(9, 0, 8)]) ++ [(10, 0, 500)]) ++ [(11, 0, 16)]) ++ [(12, 0, 16)]) ++ [(13, 0, 16)]) ++ [(14, 0, 1600)]) ++ [(15, 0, 520)]) ++ [(16, 3, 9)]) ++ [(17, 0, 8)]) ++ [(18, 0, 8)]) ++ [(19, 0, 520)]) ++ [(20, 0, 6561)]) ++ [(21, 0, 6561)]) ((22, 0, 52488))
  clear ehs42
  refine hm_putr X hw lkM_91 (fun _ => ⟨hnm, TX11, 75, rfl, rfl⟩) hs0 rfl rfl dX11_init_229 (fun H locs hw => ?_)
  refine lv_aload_n hx hb dX11_init_232 rfl (lv_at hl 0 rfl) ?_
  refine lv_bipush (v := 8) hx hb dX11_init_233 (by decide) ?_
  refine hm_szK (n0 := 0 + 1) (N := 22) (q := 23) (hW_lt hw _ ehs44) hsz1 rfl rfl (fun ehq45 => ?_)
  refine hm_newa0 (N := 8) X hw ehq45 (by decide) (by decide) (by decide) (Nat.le_trans (Nat.le_of_ble_eq_true rfl) hRc.1) (Nat.le_trans (Nat.le_of_ble_eq_true rfl) hRc.2) dX11_init_235 (fun H hsz hw => ?_)
  have hs0 := List.mem_append_left [(23, 0, 8)] hs0
  have ehs44 := List.mem_append_left [(23, 0, 8)] ehs44
  have ehs46 := mem_last ((((((((((((((((((((((L ++ [(1, 0, 4)]) ++ [(2, 0, 8)]) ++ [(3, 0, 8)]) ++ [(4, 0, 8)]) ++ [(5, 0, 8192)]) ++ [(6, 0, 8000)]) ++ [(7, 0, 8)]) ++ [(8, 0, 8)]) ++ [(9, 0, 8)]) ++ [(10, 0, 500)]) ++ [(11, 0, 16)]) ++ [(12, 0, 16)]) ++ [(13, 0, 16)]) ++ [(14, 0, 1600)]) ++ [(15, 0, 520)]) ++ [(16, 3, 9)]) ++ [(17, 0, 8)]) ++ [(18, 0, 8)]) ++ [(19, 0, 520)]) ++ [(20, 0, 6561)]) ++ [(21, 0, 6561)]) ++ [(22, 0, 52488)]) ((23, 0, 8))
  clear ehs44
  refine hm_putr X hw lkM_94 (fun _ => ⟨hnm, TX11, 75, rfl, rfl⟩) hs0 rfl rfl dX11_init_237 (fun H locs hw => ?_)
  refine lv_aload_n hx hb dX11_init_240 rfl (lv_at hl 0 rfl) ?_
  refine lv_sipush (v := 8192) hx hb dX11_init_241 (by decide) ?_
  refine hm_szK (n0 := 0 + 1) (N := 23) (q := 24) (hW_lt hw _ ehs46) hsz1 rfl rfl (fun ehq47 => ?_)
  refine hm_newa0 (N := 8192) X hw ehq47 (by decide) (by decide) (by decide) (Nat.le_trans (Nat.le_of_ble_eq_true rfl) hRc.1) (Nat.le_trans (Nat.le_of_ble_eq_true rfl) hRc.2) dX11_init_244 (fun H hsz hw => ?_)
  have hs0 := List.mem_append_left [(24, 0, 8192)] hs0
  have ehs46 := List.mem_append_left [(24, 0, 8192)] ehs46
  have ehs48 := mem_last (((((((((((((((((((((((L ++ [(1, 0, 4)]) ++ [(2, 0, 8)]) ++ [(3, 0, 8)]) ++ [(4, 0, 8)]) ++ [(5, 0, 8192)]) ++ [(6, 0, 8000)]) ++ [(7, 0, 8)]) ++ [(8, 0, 8)]) ++ [(9, 0, 8)]) ++ [(10, 0, 500)]) ++ [(11, 0, 16)]) ++ [(12, 0, 16)]) ++ [(13, 0, 16)]) ++ [(14, 0, 1600)]) ++ [(15, 0, 520)]) ++ [(16, 3, 9)]) ++ [(17, 0, 8)]) ++ [(18, 0, 8)]) ++ [(19, 0, 520)]) ++ [(20, 0, 6561)]) ++ [(21, 0, 6561)]) ++ [(22, 0, 52488)]) ++ [(23, 0, 8)]) ((24, 0, 8192))
  clear ehs46
  refine hm_putr X hw lkM_97 (fun _ => ⟨hnm, TX11, 75, rfl, rfl⟩) hs0 rfl rfl dX11_init_246 (fun H locs hw => ?_)
  refine lv_aload_n hx hb dX11_init_249 rfl (lv_at hl 0 rfl) ?_
  refine lv_ldc (v := 52488) hx hb X.2.2.2.1 (X.2.2.2.2 _ kw1324) dX11_init_250 ?_
  refine hm_szK (n0 := 0 + 1) (N := 24) (q := 25) (hW_lt hw _ ehs48) hsz1 rfl rfl (fun ehq49 => ?_)
  refine hm_newa0 (N := 52488) X hw ehq49 (by decide) (by decide) (by decide) (Nat.le_trans (Nat.le_of_ble_eq_true rfl) hRc.1) (Nat.le_trans (Nat.le_of_ble_eq_true rfl) hRc.2) dX11_init_252 (fun H hsz hw => ?_)
  have hs0 := List.mem_append_left [(25, 0, 52488)] hs0
  have ehs48 := List.mem_append_left [(25, 0, 52488)] ehs48
  have ehs50 := mem_last ((((((((((((((((((((((((L ++ [(1, 0, 4)]) ++ [(2, 0, 8)]) ++ [(3, 0, 8)]) ++ [(4, 0, 8)]) ++ [(5, 0, 8192)]) ++ [(6, 0, 8000)]) ++ [(7, 0, 8)]) ++ [(8, 0, 8)]) ++ [(9, 0, 8)]) ++ [(10, 0, 500)]) ++ [(11, 0, 16)]) ++ [(12, 0, 16)]) ++ [(13, 0, 16)]) ++ [(14, 0, 1600)]) ++ [(15, 0, 520)]) ++ [(16, 3, 9)]) ++ [(17, 0, 8)]) ++ [(18, 0, 8)]) ++ [(19, 0, 520)]) ++ [(20, 0, 6561)]) ++ [(21, 0, 6561)]) ++ [(22, 0, 52488)]) ++ [(23, 0, 8)]) ++ [(24, 0, 8192)]) ((25, 0, 52488))
  clear ehs48
  refine hm_putr X hw lkM_100 (fun _ => ⟨hnm, TX11, 75, rfl, rfl⟩) hs0 rfl rfl dX11_init_254 (fun H locs hw => ?_)
  refine lv_aload_n hx hb dX11_init_257 rfl (lv_at hl 0 rfl) ?_
  refine lv_sipush (v := 8192) hx hb dX11_init_258 (by decide) ?_
  refine hm_szK (n0 := 0 + 1) (N := 25) (q := 26) (hW_lt hw _ ehs50) hsz1 rfl rfl (fun ehq51 => ?_)
  refine hm_newa0 (N := 8192) X hw ehq51 (by decide) (by decide) (by decide) (Nat.le_trans (Nat.le_of_ble_eq_true rfl) hRc.1) (Nat.le_trans (Nat.le_of_ble_eq_true rfl) hRc.2) dX11_init_261 (fun H hsz hw => ?_)
  have hs0 := List.mem_append_left [(26, 0, 8192)] hs0
  have ehs50 := List.mem_append_left [(26, 0, 8192)] ehs50
  have ehs52 := mem_last (((((((((((((((((((((((((L ++ [(1, 0, 4)]) ++ [(2, 0, 8)]) ++ [(3, 0, 8)]) ++ [(4, 0, 8)]) ++ [(5, 0, 8192)]) ++ [(6, 0, 8000)]) ++ [(7, 0, 8)]) ++ [(8, 0, 8)]) ++ [(9, 0, 8)]) ++ [(10, 0, 500)]) ++ [(11, 0, 16)]) ++ [(12, 0, 16)]) ++ [(13, 0, 16)]) ++ [(14, 0, 1600)]) ++ [(15, 0, 520)]) ++ [(16, 3, 9)]) ++ [(17, 0, 8)]) ++ [(18, 0, 8)]) ++ [(19, 0, 520)]) ++ [(20, 0, 6561)]) ++ [(21, 0, 6561)]) ++ [(22, 0, 52488)]) ++ [(23, 0, 8)]) ++ [(24, 0, 8192)]) ++ [(25, 0, 52488)]) ((26, 0, 8192))
  clear ehs50
  refine hm_putr X hw lkM_103 (fun _ => ⟨hnm, TX11, 75, rfl, rfl⟩) hs0 rfl rfl dX11_init_263 (fun H locs hw => ?_)
  refine lv_aload_n hx hb dX11_init_266 rfl (lv_at hl 0 rfl) ?_
  refine lv_sipush (v := 8192) hx hb dX11_init_267 (by decide) ?_
  refine hm_szK (n0 := 0 + 1) (N := 26) (q := 27) (hW_lt hw _ ehs52) hsz1 rfl rfl (fun ehq53 => ?_)
  refine hm_newa0 (N := 8192) X hw ehq53 (by decide) (by decide) (by decide) (Nat.le_trans (Nat.le_of_ble_eq_true rfl) hRc.1) (Nat.le_trans (Nat.le_of_ble_eq_true rfl) hRc.2) dX11_init_270 (fun H hsz hw => ?_)
  have hs0 := List.mem_append_left [(27, 0, 8192)] hs0
  have ehs52 := List.mem_append_left [(27, 0, 8192)] ehs52
  have ehs54 := mem_last ((((((((((((((((((((((((((L ++ [(1, 0, 4)]) ++ [(2, 0, 8)]) ++ [(3, 0, 8)]) ++ [(4, 0, 8)]) ++ [(5, 0, 8192)]) ++ [(6, 0, 8000)]) ++ [(7, 0, 8)]) ++ [(8, 0, 8)]) ++ [(9, 0, 8)]) ++ [(10, 0, 500)]) ++ [(11, 0, 16)]) ++ [(12, 0, 16)]) ++ [(13, 0, 16)]) ++ [(14, 0, 1600)]) ++ [(15, 0, 520)]) ++ [(16, 3, 9)]) ++ [(17, 0, 8)]) ++ [(18, 0, 8)]) ++ [(19, 0, 520)]) ++ [(20, 0, 6561)]) ++ [(21, 0, 6561)]) ++ [(22, 0, 52488)]) ++ [(23, 0, 8)]) ++ [(24, 0, 8192)]) ++ [(25, 0, 52488)]) ++ [(26, 0, 8192)]) ((27, 0, 8192))
  clear ehs52
  refine hm_putr X hw lkM_106 (fun _ => ⟨hnm, TX11, 75, rfl, rfl⟩) hs0 rfl rfl dX11_init_272 (fun H locs hw => ?_)
  refine lv_aload_n hx hb dX11_init_275 rfl (lv_at hl 0 rfl) ?_
  refine lv_iconst (v := (-1)) hx hb dX11_init_276 (by decide) ?_
  refine hm_puti X hw lkM_109 hs0 rfl rfl dX11_init_277 (fun H locs hw => ?_)
  refine lv_aload_n hx hb dX11_init_280 rfl (lv_at hl 0 rfl) ?_
  refine lv_bipush (v := 8) hx hb dX11_init_281 (by decide) ?_
  refine hm_szK (n0 := 0 + 1) (N := 27) (q := 28) (hW_lt hw _ ehs54) hsz1 rfl rfl (fun ehq55 => ?_)
  refine hm_newa0 (N := 8) X hw ehq55 (by decide) (by decide) (by decide) (Nat.le_trans (Nat.le_of_ble_eq_true rfl) hRc.1) (Nat.le_trans (Nat.le_of_ble_eq_true rfl) hRc.2) dX11_init_283 (fun H hsz hw => ?_)
  have hs0 := List.mem_append_left [(28, 0, 8)] hs0
  have ehs54 := List.mem_append_left [(28, 0, 8)] ehs54
  have ehs56 := mem_last (((((((((((((((((((((((((((L ++ [(1, 0, 4)]) ++ [(2, 0, 8)]) ++ [(3, 0, 8)]) ++ [(4, 0, 8)]) ++ [(5, 0, 8192)]) ++ [(6, 0, 8000)]) ++ [(7, 0, 8)]) ++ [(8, 0, 8)]) ++ [(9, 0, 8)]) ++ [(10, 0, 500)]) ++ [(11, 0, 16)]) ++ [(12, 0, 16)]) ++ [(13, 0, 16)]) ++ [(14, 0, 1600)]) ++ [(15, 0, 520)]) ++ [(16, 3, 9)]) ++ [(17, 0, 8)]) ++ [(18, 0, 8)]) ++ [(19, 0, 520)]) ++ [(20, 0, 6561)]) ++ [(21, 0, 6561)]) ++ [(22, 0, 52488)]) ++ [(23, 0, 8)]) ++ [(24, 0, 8192)]) ++ [(25, 0, 52488)]) ++ [(26, 0, 8192)]) ++ [(27, 0, 8192)]) ((28, 0, 8))
  clear ehs54
  refine hm_putr X hw lkM_112 (fun _ => ⟨hnm, TX11, 75, rfl, rfl⟩) hs0 rfl rfl dX11_init_285 (fun H locs hw => ?_)
  refine lv_aload_n hx hb dX11_init_288 rfl (lv_at hl 0 rfl) ?_
  refine lv_bipush (v := 8) hx hb dX11_init_289 (by decide) ?_
  refine hm_szK (n0 := 0 + 1) (N := 28) (q := 29) (hW_lt hw _ ehs56) hsz1 rfl rfl (fun ehq57 => ?_)
  refine hm_newa0 (N := 8) X hw ehq57 (by decide) (by decide) (by decide) (Nat.le_trans (Nat.le_of_ble_eq_true rfl) hRc.1) (Nat.le_trans (Nat.le_of_ble_eq_true rfl) hRc.2) dX11_init_291 (fun H hsz hw => ?_)
  have hs0 := List.mem_append_left [(29, 0, 8)] hs0
  have ehs56 := List.mem_append_left [(29, 0, 8)] ehs56
  have ehs58 := mem_last ((((((((((((((((((((((((((((L ++ [(1, 0, 4)]) ++ [(2, 0, 8)]) ++ [(3, 0, 8)]) ++ [(4, 0, 8)]) ++ [(5, 0, 8192)]) ++ [(6, 0, 8000)]) ++ [(7, 0, 8)]) ++ [(8, 0, 8)]) ++ [(9, 0, 8)]) ++ [(10, 0, 500)]) ++ [(11, 0, 16)]) ++ [(12, 0, 16)]) ++ [(13, 0, 16)]) ++ [(14, 0, 1600)]) ++ [(15, 0, 520)]) ++ [(16, 3, 9)]) ++ [(17, 0, 8)]) ++ [(18, 0, 8)]) ++ [(19, 0, 520)]) ++ [(20, 0, 6561)]) ++ [(21, 0, 6561)]) ++ [(22, 0, 52488)]) ++ [(23, 0, 8)]) ++ [(24, 0, 8192)]) ++ [(25, 0, 52488)]) ++ [(26, 0, 8192)]) ++ [(27, 0, 8192)]) ++ [(28, 0, 8)]) ((29, 0, 8))
  clear ehs56
  refine hm_putr X hw lkM_115 (fun _ => ⟨hnm, TX11, 75, rfl, rfl⟩) hs0 rfl rfl dX11_init_293 (fun H locs hw => ?_)
  refine lv_aload_n hx hb dX11_init_296 rfl (lv_at hl 0 rfl) ?_
  refine lv_sipush (v := 2048) hx hb dX11_init_297 (by decide) ?_
  refine hm_szK (n0 := 0 + 1) (N := 29) (q := 30) (hW_lt hw _ ehs58) hsz1 rfl rfl (fun ehq59 => ?_)
  refine hm_newa0 (N := 2048) X hw ehq59 (by decide) (by decide) (by decide) (Nat.le_trans (Nat.le_of_ble_eq_true rfl) hRc.1) (Nat.le_trans (Nat.le_of_ble_eq_true rfl) hRc.2) dX11_init_300 (fun H hsz hw => ?_)
  have hs0 := List.mem_append_left [(30, 0, 2048)] hs0
  have ehs58 := List.mem_append_left [(30, 0, 2048)] ehs58
  have ehs60 := mem_last (((((((((((((((((((((((((((((L ++ [(1, 0, 4)]) ++ [(2, 0, 8)]) ++ [(3, 0, 8)]) ++ [(4, 0, 8)]) ++ [(5, 0, 8192)]) ++ [(6, 0, 8000)]) ++ [(7, 0, 8)]) ++ [(8, 0, 8)]) ++ [(9, 0, 8)]) ++ [(10, 0, 500)]) ++ [(11, 0, 16)]) ++ [(12, 0, 16)]) ++ [(13, 0, 16)]) ++ [(14, 0, 1600)]) ++ [(15, 0, 520)]) ++ [(16, 3, 9)]) ++ [(17, 0, 8)]) ++ [(18, 0, 8)]) ++ [(19, 0, 520)]) ++ [(20, 0, 6561)]) ++ [(21, 0, 6561)]) ++ [(22, 0, 52488)]) ++ [(23, 0, 8)]) ++ [(24, 0, 8192)]) ++ [(25, 0, 52488)]) ++ [(26, 0, 8192)]) ++ [(27, 0, 8192)]) ++ [(28, 0, 8)]) ++ [(29, 0, 8)]) ((30, 0, 2048))
  clear ehs58
  refine hm_putr X hw lkM_118 (fun _ => ⟨hnm, TX11, 75, rfl, rfl⟩) hs0 rfl rfl dX11_init_302 (fun H locs hw => ?_)
  refine lv_aload_n hx hb dX11_init_305 rfl (lv_at hl 0 rfl) ?_
  refine lv_bipush (v := 33) hx hb dX11_init_306 (by decide) ?_
  refine hm_szK (n0 := 0 + 1) (N := 30) (q := 31) (hW_lt hw _ ehs60) hsz1 rfl rfl (fun ehq61 => ?_)
  refine hm_newa0 (N := 33) X hw ehq61 (by decide) (by decide) (by decide) (Nat.le_trans (Nat.le_of_ble_eq_true rfl) hRc.1) (Nat.le_trans (Nat.le_of_ble_eq_true rfl) hRc.2) dX11_init_308 (fun H hsz hw => ?_)
  have hs0 := List.mem_append_left [(31, 0, 33)] hs0
  have ehs60 := List.mem_append_left [(31, 0, 33)] ehs60
  have ehs62 := mem_last ((((((((((((((((((((((((((((((L ++ [(1, 0, 4)]) ++ [(2, 0, 8)]) ++ [(3, 0, 8)]) ++ [(4, 0, 8)]) ++ [(5, 0, 8192)]) ++ [(6, 0, 8000)]) ++ [(7, 0, 8)]) ++ [(8, 0, 8)]) ++ [(9, 0, 8)]) ++ [(10, 0, 500)]) ++ [(11, 0, 16)]) ++ [(12, 0, 16)]) ++ [(13, 0, 16)]) ++ [(14, 0, 1600)]) ++ [(15, 0, 520)]) ++ [(16, 3, 9)]) ++ [(17, 0, 8)]) ++ [(18, 0, 8)]) ++ [(19, 0, 520)]) ++ [(20, 0, 6561)]) ++ [(21, 0, 6561)]) ++ [(22, 0, 52488)]) ++ [(23, 0, 8)]) ++ [(24, 0, 8192)]) ++ [(25, 0, 52488)]) ++ [(26, 0, 8192)]) ++ [(27, 0, 8192)]) ++ [(28, 0, 8)]) ++ [(29, 0, 8)]) ++ [(30, 0, 2048)]) ((31, 0, 33))
  clear ehs60
  refine hm_putr X hw lkM_121 (fun _ => ⟨hnm, TX11, 75, rfl, rfl⟩) hs0 rfl rfl dX11_init_310 (fun H locs hw => ?_)
  refine lv_aload_n hx hb dX11_init_313 rfl (lv_at hl 0 rfl) ?_
  refine lv_bipush (v := 32) hx hb dX11_init_314 (by decide) ?_
  refine hm_szK (n0 := 0 + 1) (N := 31) (q := 32) (hW_lt hw _ ehs62) hsz1 rfl rfl (fun ehq63 => ?_)
  refine hm_newa0 (N := 32) X hw ehq63 (by decide) (by decide) (by decide) (Nat.le_trans (Nat.le_of_ble_eq_true rfl) hRc.1) (Nat.le_trans (Nat.le_of_ble_eq_true rfl) hRc.2) dX11_init_316 (fun H hsz hw => ?_)
  have hs0 := List.mem_append_left [(32, 0, 32)] hs0
  have ehs62 := List.mem_append_left [(32, 0, 32)] ehs62
  have ehs64 := mem_last (((((((((((((((((((((((((((((((L ++ [(1, 0, 4)]) ++ [(2, 0, 8)]) ++ [(3, 0, 8)]) ++ [(4, 0, 8)]) ++ [(5, 0, 8192)]) ++ [(6, 0, 8000)]) ++ [(7, 0, 8)]) ++ [(8, 0, 8)]) ++ [(9, 0, 8)]) ++ [(10, 0, 500)]) ++ [(11, 0, 16)]) ++ [(12, 0, 16)]) ++ [(13, 0, 16)]) ++ [(14, 0, 1600)]) ++ [(15, 0, 520)]) ++ [(16, 3, 9)]) ++ [(17, 0, 8)]) ++ [(18, 0, 8)]) ++ [(19, 0, 520)]) ++ [(20, 0, 6561)]) ++ [(21, 0, 6561)]) ++ [(22, 0, 52488)]) ++ [(23, 0, 8)]) ++ [(24, 0, 8192)]) ++ [(25, 0, 52488)]) ++ [(26, 0, 8192)]) ++ [(27, 0, 8192)]) ++ [(28, 0, 8)]) ++ [(29, 0, 8)]) ++ [(30, 0, 2048)]) ++ [(31, 0, 33)]) ((32, 0, 32))
  clear ehs62
  refine hm_putr X hw lkM_124 (fun _ => ⟨hnm, TX11, 75, rfl, rfl⟩) hs0 rfl rfl dX11_init_318 (fun H locs hw => ?_)
  refine lv_aload_n hx hb dX11_init_321 rfl (lv_at hl 0 rfl) ?_
  refine lv_bipush (v := 32) hx hb dX11_init_322 (by decide) ?_
  refine hm_szK (n0 := 0 + 1) (N := 32) (q := 33) (hW_lt hw _ ehs64) hsz1 rfl rfl (fun ehq65 => ?_)
  refine hm_newa0 (N := 32) X hw ehq65 (by decide) (by decide) (by decide) (Nat.le_trans (Nat.le_of_ble_eq_true rfl) hRc.1) (Nat.le_trans (Nat.le_of_ble_eq_true rfl) hRc.2) dX11_init_324 (fun H hsz hw => ?_)
  have hs0 := List.mem_append_left [(33, 0, 32)] hs0
  have ehs64 := List.mem_append_left [(33, 0, 32)] ehs64
  have ehs66 := mem_last ((((((((((((((((((((((((((((((((L ++ [(1, 0, 4)]) ++ [(2, 0, 8)]) ++ [(3, 0, 8)]) ++ [(4, 0, 8)]) ++ [(5, 0, 8192)]) ++ [(6, 0, 8000)]) ++ [(7, 0, 8)]) ++ [(8, 0, 8)]) ++ [(9, 0, 8)]) ++ [(10, 0, 500)]) ++ [(11, 0, 16)]) ++ [(12, 0, 16)]) ++ [(13, 0, 16)]) ++ [(14, 0, 1600)]) ++ [(15, 0, 520)]) ++ [(16, 3, 9)]) ++ [(17, 0, 8)]) ++ [(18, 0, 8)]) ++ [(19, 0, 520)]) ++ [(20, 0, 6561)]) ++ [(21, 0, 6561)]) ++ [(22, 0, 52488)]) ++ [(23, 0, 8)]) ++ [(24, 0, 8192)]) ++ [(25, 0, 52488)]) ++ [(26, 0, 8192)]) ++ [(27, 0, 8192)]) ++ [(28, 0, 8)]) ++ [(29, 0, 8)]) ++ [(30, 0, 2048)]) ++ [(31, 0, 33)]) ++ [(32, 0, 32)]) ((33, 0, 32))
  clear ehs64
  refine hm_putr X hw lkM_127 (fun _ => ⟨hnm, TX11, 75, rfl, rfl⟩) hs0 rfl rfl dX11_init_326 (fun H locs hw => ?_)
  refine lv_aload_n hx hb dX11_init_329 rfl (lv_at hl 0 rfl) ?_
  refine lv_bipush (v := 33) hx hb dX11_init_330 (by decide) ?_
  refine hm_szK (n0 := 0 + 1) (N := 33) (q := 34) (hW_lt hw _ ehs66) hsz1 rfl rfl (fun ehq67 => ?_)
  refine hm_newa0 (N := 33) X hw ehq67 (by decide) (by decide) (by decide) (Nat.le_trans (Nat.le_of_ble_eq_true rfl) hRc.1) (Nat.le_trans (Nat.le_of_ble_eq_true rfl) hRc.2) dX11_init_332 (fun H hsz hw => ?_)
  have hs0 := List.mem_append_left [(34, 0, 33)] hs0
  have ehs66 := List.mem_append_left [(34, 0, 33)] ehs66
  have ehs68 := mem_last (((((((((((((((((((((((((((((((((L ++ [(1, 0, 4)]) ++ [(2, 0, 8)]) ++ [(3, 0, 8)]) ++ [(4, 0, 8)]) ++ [(5, 0, 8192)]) ++ [(6, 0, 8000)]) ++ [(7, 0, 8)]) ++ [(8, 0, 8)]) ++ [(9, 0, 8)]) ++ [(10, 0, 500)]) ++ [(11, 0, 16)]) ++ [(12, 0, 16)]) ++ [(13, 0, 16)]) ++ [(14, 0, 1600)]) ++ [(15, 0, 520)]) ++ [(16, 3, 9)]) ++ [(17, 0, 8)]) ++ [(18, 0, 8)]) ++ [(19, 0, 520)]) ++ [(20, 0, 6561)]) ++ [(21, 0, 6561)]) ++ [(22, 0, 52488)]) ++ [(23, 0, 8)]) ++ [(24, 0, 8192)]) ++ [(25, 0, 52488)]) ++ [(26, 0, 8192)]) ++ [(27, 0, 8192)]) ++ [(28, 0, 8)]) ++ [(29, 0, 8)]) ++ [(30, 0, 2048)]) ++ [(31, 0, 33)]) ++ [(32, 0, 32)]) ++ [(33, 0, 32)]) ((34, 0, 33))
  clear ehs66
  refine hm_putr X hw lkM_130 (fun _ => ⟨hnm, TX11, 75, rfl, rfl⟩) hs0 rfl rfl dX11_init_334 (fun H locs hw => ?_)
  refine lv_aload_n hx hb dX11_init_337 rfl (lv_at hl 0 rfl) ?_
  refine lv_bipush (v := 6) hx hb dX11_init_338 (by decide) ?_
  refine hm_szK (n0 := 0 + 1) (N := 34) (q := 35) (hW_lt hw _ ehs68) hsz1 rfl rfl (fun ehq69 => ?_)
  refine hm_newa0 (N := 6) X hw ehq69 (by decide) (by decide) (by decide) (Nat.le_trans (Nat.le_of_ble_eq_true rfl) hRc.1) (Nat.le_trans (Nat.le_of_ble_eq_true rfl) hRc.2) dX11_init_340 (fun H hsz hw => ?_)
  have hs0 := List.mem_append_left [(35, 0, 6)] hs0
  have ehs68 := List.mem_append_left [(35, 0, 6)] ehs68
  have ehs70 := mem_last ((((((((((((((((((((((((((((((((((L ++ [(1, 0, 4)]) ++ [(2, 0, 8)]) ++ [(3, 0, 8)]) ++ [(4, 0, 8)]) ++ [(5, 0, 8192)]) ++ [(6, 0, 8000)]) ++ [(7, 0, 8)]) ++ [(8, 0, 8)]) ++ [(9, 0, 8)]) ++ [(10, 0, 500)]) ++ [(11, 0, 16)]) ++ [(12, 0, 16)]) ++ [(13, 0, 16)]) ++ [(14, 0, 1600)]) ++ [(15, 0, 520)]) ++ [(16, 3, 9)]) ++ [(17, 0, 8)]) ++ [(18, 0, 8)]) ++ [(19, 0, 520)]) ++ [(20, 0, 6561)]) ++ [(21, 0, 6561)]) ++ [(22, 0, 52488)]) ++ [(23, 0, 8)]) ++ [(24, 0, 8192)]) ++ [(25, 0, 52488)]) ++ [(26, 0, 8192)]) ++ [(27, 0, 8192)]) ++ [(28, 0, 8)]) ++ [(29, 0, 8)]) ++ [(30, 0, 2048)]) ++ [(31, 0, 33)]) ++ [(32, 0, 32)]) ++ [(33, 0, 32)]) ++ [(34, 0, 33)]) ((35, 0, 6))
  clear ehs68
  refine hm_putr X hw lkM_133 (fun _ => ⟨hnm, TX11, 75, rfl, rfl⟩) hs0 rfl rfl dX11_init_342 (fun H locs hw => ?_)
  refine lv_aload_n hx hb dX11_init_345 rfl (lv_at hl 0 rfl) ?_
  refine lv_sipush (v := 192) hx hb dX11_init_346 (by decide) ?_
  refine hm_szK (n0 := 0 + 1) (N := 35) (q := 36) (hW_lt hw _ ehs70) hsz1 rfl rfl (fun ehq71 => ?_)
  refine hm_newa0 (N := 192) X hw ehq71 (by decide) (by decide) (by decide) (Nat.le_trans (Nat.le_of_ble_eq_true rfl) hRc.1) (Nat.le_trans (Nat.le_of_ble_eq_true rfl) hRc.2) dX11_init_349 (fun H hsz hw => ?_)
  have hs0 := List.mem_append_left [(36, 0, 192)] hs0
  have ehs70 := List.mem_append_left [(36, 0, 192)] ehs70
  have ehs72 := mem_last (((((((((((((((((((((((((((((((((((L ++ [(1, 0, 4)]) ++ [(2, 0, 8)]) ++ [(3, 0, 8)]) ++ [(4, 0, 8)]) ++ [(5, 0, 8192)]) ++ [(6, 0, 8000)]) ++ [(7, 0, 8)]) ++ [(8, 0, 8)]) ++ [(9, 0, 8)]) ++ [(10, 0, 500)]) ++ [(11, 0, 16)]) ++ [(12, 0, 16)]) ++ [(13, 0, 16)]) ++ [(14, 0, 1600)]) ++ [(15, 0, 520)]) ++ [(16, 3, 9)]) ++ [(17, 0, 8)]) ++ [(18, 0, 8)]) ++ [(19, 0, 520)]) ++ [(20, 0, 6561)]) ++ [(21, 0, 6561)]) ++ [(22, 0, 52488)]) ++ [(23, 0, 8)]) ++ [(24, 0, 8192)]) ++ [(25, 0, 52488)]) ++ [(26, 0, 8192)]) ++ [(27, 0, 8192)]) ++ [(28, 0, 8)]) ++ [(29, 0, 8)]) ++ [(30, 0, 2048)]) ++ [(31, 0, 33)]) ++ [(32, 0, 32)]) ++ [(33, 0, 32)]) ++ [(34, 0, 33)]) ++ [(35, 0, 6)]) ((36, 0, 192))
  clear ehs70
  refine hm_putr X hw lkM_136 (fun _ => ⟨hnm, TX11, 75, rfl, rfl⟩) hs0 rfl rfl dX11_init_351 (fun H locs hw => ?_)
  refine lv_aload_n hx hb dX11_init_354 rfl (lv_at hl 0 rfl) ?_
  refine lv_sipush (v := 1280) hx hb dX11_init_355 (by decide) ?_
  refine hm_szK (n0 := 0 + 1) (N := 36) (q := 37) (hW_lt hw _ ehs72) hsz1 rfl rfl (fun ehq73 => ?_)
  refine hm_newa0 (N := 1280) X hw ehq73 (by decide) (by decide) (by decide) (Nat.le_trans (Nat.le_of_ble_eq_true rfl) hRc.1) (Nat.le_trans (Nat.le_of_ble_eq_true rfl) hRc.2) dX11_init_358 (fun H hsz hw => ?_)
  have hs0 := List.mem_append_left [(37, 0, 1280)] hs0
  have ehs72 := List.mem_append_left [(37, 0, 1280)] ehs72
  have ehs74 := mem_last ((((((((((((((((((((((((((((((((((((L ++ [(1, 0, 4)]) ++ [(2, 0, 8)]) ++ [(3, 0, 8)]) ++ [(4, 0, 8)]) ++ [(5, 0, 8192)]) ++ [(6, 0, 8000)]) ++ [(7, 0, 8)]) ++ [(8, 0, 8)]) ++ [(9, 0, 8)]) ++ [(10, 0, 500)]) ++ [(11, 0, 16)]) ++ [(12, 0, 16)]) ++ [(13, 0, 16)]) ++ [(14, 0, 1600)]) ++ [(15, 0, 520)]) ++ [(16, 3, 9)]) ++ [(17, 0, 8)]) ++ [(18, 0, 8)]) ++ [(19, 0, 520)]) ++ [(20, 0, 6561)]) ++ [(21, 0, 6561)]) ++ [(22, 0, 52488)]) ++ [(23, 0, 8)]) ++ [(24, 0, 8192)]) ++ [(25, 0, 52488)]) ++ [(26, 0, 8192)]) ++ [(27, 0, 8192)]) ++ [(28, 0, 8)]) ++ [(29, 0, 8)]) ++ [(30, 0, 2048)]) ++ [(31, 0, 33)]) ++ [(32, 0, 32)]) ++ [(33, 0, 32)]) ++ [(34, 0, 33)]) ++ [(35, 0, 6)]) ++ [(36, 0, 192)]) ((37, 0, 1280))
  clear ehs72
  refine hm_putr X hw lkM_139 (fun _ => ⟨hnm, TX11, 75, rfl, rfl⟩) hs0 rfl rfl dX11_init_360 (fun H locs hw => ?_)
  refine lv_aload_n hx hb dX11_init_363 rfl (lv_at hl 0 rfl) ?_
  refine lv_iconst (v := 4) hx hb dX11_init_364 (by decide) ?_
  refine hm_szK (n0 := 0 + 1) (N := 37) (q := 38) (hW_lt hw _ ehs74) hsz1 rfl rfl (fun ehq75 => ?_)
  refine hm_newa0 (N := 4) X hw ehq75 (by decide) (by decide) (by decide) (Nat.le_trans (Nat.le_of_ble_eq_true rfl) hRc.1) (Nat.le_trans (Nat.le_of_ble_eq_true rfl) hRc.2) dX11_init_365 (fun H hsz hw => ?_)
  have hs0 := List.mem_append_left [(38, 0, 4)] hs0
  have ehs74 := List.mem_append_left [(38, 0, 4)] ehs74
  have ehs76 := mem_last (((((((((((((((((((((((((((((((((((((L ++ [(1, 0, 4)]) ++ [(2, 0, 8)]) ++ [(3, 0, 8)]) ++ [(4, 0, 8)]) ++ [(5, 0, 8192)]) ++ [(6, 0, 8000)]) ++ [(7, 0, 8)]) ++ [(8, 0, 8)]) ++ [(9, 0, 8)]) ++ [(10, 0, 500)]) ++ [(11, 0, 16)]) ++ [(12, 0, 16)]) ++ [(13, 0, 16)]) ++ [(14, 0, 1600)]) ++ [(15, 0, 520)]) ++ [(16, 3, 9)]) ++ [(17, 0, 8)]) ++ [(18, 0, 8)]) ++ [(19, 0, 520)]) ++ [(20, 0, 6561)]) ++ [(21, 0, 6561)]) ++ [(22, 0, 52488)]) ++ [(23, 0, 8)]) ++ [(24, 0, 8192)]) ++ [(25, 0, 52488)]) ++ [(26, 0, 8192)]) ++ [(27, 0, 8192)]) ++ [(28, 0, 8)]) ++ [(29, 0, 8)]) ++ [(30, 0, 2048)]) ++ [(31, 0, 33)]) ++ [(32, 0, 32)]) ++ [(33, 0, 32)]) ++ [(34, 0, 33)]) ++ [(35, 0, 6)]) ++ [(36, 0, 192)]) ++ [(37, 0, 1280)]) ((38, 0, 4))
  clear ehs74
  refine hm_putr X hw lkM_142 (fun _ => ⟨hnm, TX11, 75, rfl, rfl⟩) hs0 rfl rfl dX11_init_367 (fun H locs hw => ?_)
  refine lv_aload_n hx hb dX11_init_370 rfl (lv_at hl 0 rfl) ?_
  refine lv_iconst (v := 4) hx hb dX11_init_371 (by decide) ?_
  refine hm_szK (n0 := 0 + 1) (N := 38) (q := 39) (hW_lt hw _ ehs76) hsz1 rfl rfl (fun ehq77 => ?_)
  refine hm_newa0 (N := 4) X hw ehq77 (by decide) (by decide) (by decide) (Nat.le_trans (Nat.le_of_ble_eq_true rfl) hRc.1) (Nat.le_trans (Nat.le_of_ble_eq_true rfl) hRc.2) dX11_init_372 (fun H hsz hw => ?_)
  have hs0 := List.mem_append_left [(39, 0, 4)] hs0
  have ehs76 := List.mem_append_left [(39, 0, 4)] ehs76
  have ehs78 := mem_last ((((((((((((((((((((((((((((((((((((((L ++ [(1, 0, 4)]) ++ [(2, 0, 8)]) ++ [(3, 0, 8)]) ++ [(4, 0, 8)]) ++ [(5, 0, 8192)]) ++ [(6, 0, 8000)]) ++ [(7, 0, 8)]) ++ [(8, 0, 8)]) ++ [(9, 0, 8)]) ++ [(10, 0, 500)]) ++ [(11, 0, 16)]) ++ [(12, 0, 16)]) ++ [(13, 0, 16)]) ++ [(14, 0, 1600)]) ++ [(15, 0, 520)]) ++ [(16, 3, 9)]) ++ [(17, 0, 8)]) ++ [(18, 0, 8)]) ++ [(19, 0, 520)]) ++ [(20, 0, 6561)]) ++ [(21, 0, 6561)]) ++ [(22, 0, 52488)]) ++ [(23, 0, 8)]) ++ [(24, 0, 8192)]) ++ [(25, 0, 52488)]) ++ [(26, 0, 8192)]) ++ [(27, 0, 8192)]) ++ [(28, 0, 8)]) ++ [(29, 0, 8)]) ++ [(30, 0, 2048)]) ++ [(31, 0, 33)]) ++ [(32, 0, 32)]) ++ [(33, 0, 32)]) ++ [(34, 0, 33)]) ++ [(35, 0, 6)]) ++ [(36, 0, 192)]) ++ [(37, 0, 1280)]) ++ [(38, 0, 4)]) ((39, 0, 4))
  clear ehs76
  refine hm_putr X hw lkM_145 (fun _ => ⟨hnm, TX11, 75, rfl, rfl⟩) hs0 rfl rfl dX11_init_374 (fun H locs hw => ?_)
  refine lv_aload_n hx hb dX11_init_377 rfl (lv_at hl 0 rfl) ?_
  refine lv_bipush (v := 32) hx hb dX11_init_378 (by decide) ?_
  refine hm_szK (n0 := 0 + 1) (N := 39) (q := 40) (hW_lt hw _ ehs78) hsz1 rfl rfl (fun ehq79 => ?_)
  refine hm_newa0 (N := 32) X hw ehq79 (by decide) (by decide) (by decide) (Nat.le_trans (Nat.le_of_ble_eq_true rfl) hRc.1) (Nat.le_trans (Nat.le_of_ble_eq_true rfl) hRc.2) dX11_init_380 (fun H hsz hw => ?_)
  have hs0 := List.mem_append_left [(40, 0, 32)] hs0
  have ehs78 := List.mem_append_left [(40, 0, 32)] ehs78
  have ehs80 := mem_last (((((((((((((((((((((((((((((((((((((((L ++ [(1, 0, 4)]) ++ [(2, 0, 8)]) ++ [(3, 0, 8)]) ++ [(4, 0, 8)]) ++ [(5, 0, 8192)]) ++ [(6, 0, 8000)]) ++ [(7, 0, 8)]) ++ [(8, 0, 8)]) ++ [(9, 0, 8)]) ++ [(10, 0, 500)]) ++ [(11, 0, 16)]) ++ [(12, 0, 16)]) ++ [(13, 0, 16)]) ++ [(14, 0, 1600)]) ++ [(15, 0, 520)]) ++ [(16, 3, 9)]) ++ [(17, 0, 8)]) ++ [(18, 0, 8)]) ++ [(19, 0, 520)]) ++ [(20, 0, 6561)]) ++ [(21, 0, 6561)]) ++ [(22, 0, 52488)]) ++ [(23, 0, 8)]) ++ [(24, 0, 8192)]) ++ [(25, 0, 52488)]) ++ [(26, 0, 8192)]) ++ [(27, 0, 8192)]) ++ [(28, 0, 8)]) ++ [(29, 0, 8)]) ++ [(30, 0, 2048)]) ++ [(31, 0, 33)]) ++ [(32, 0, 32)]) ++ [(33, 0, 32)]) ++ [(34, 0, 33)]) ++ [(35, 0, 6)]) ++ [(36, 0, 192)]) ++ [(37, 0, 1280)]) ++ [(38, 0, 4)]) ++ [(39, 0, 4)]) ((40, 0, 32))
  clear ehs78
  refine hm_putr X hw lkM_148 (fun _ => ⟨hnm, TX11, 75, rfl, rfl⟩) hs0 rfl rfl dX11_init_382 (fun H locs hw => ?_)
  refine lv_aload_n hx hb dX11_init_385 rfl (lv_at hl 0 rfl) ?_
  refine lv_bipush (v := 32) hx hb dX11_init_386 (by decide) ?_
  refine hm_szK (n0 := 0 + 1) (N := 40) (q := 41) (hW_lt hw _ ehs80) hsz1 rfl rfl (fun ehq81 => ?_)
  refine hm_newa0 (N := 32) X hw ehq81 (by decide) (by decide) (by decide) (Nat.le_trans (Nat.le_of_ble_eq_true rfl) hRc.1) (Nat.le_trans (Nat.le_of_ble_eq_true rfl) hRc.2) dX11_init_388 (fun H hsz hw => ?_)
  have hs0 := List.mem_append_left [(41, 0, 32)] hs0
  have ehs80 := List.mem_append_left [(41, 0, 32)] ehs80
  have ehs82 := mem_last ((((((((((((((((((((((((((((((((((((((((L ++ [(1, 0, 4)]) ++ [(2, 0, 8)]) ++ [(3, 0, 8)]) ++ [(4, 0, 8)]) ++ [(5, 0, 8192)]) ++ [(6, 0, 8000)]) ++ [(7, 0, 8)]) ++ [(8, 0, 8)]) ++ [(9, 0, 8)]) ++ [(10, 0, 500)]) ++ [(11, 0, 16)]) ++ [(12, 0, 16)]) ++ [(13, 0, 16)]) ++ [(14, 0, 1600)]) ++ [(15, 0, 520)]) ++ [(16, 3, 9)]) ++ [(17, 0, 8)]) ++ [(18, 0, 8)]) ++ [(19, 0, 520)]) ++ [(20, 0, 6561)]) ++ [(21, 0, 6561)]) ++ [(22, 0, 52488)]) ++ [(23, 0, 8)]) ++ [(24, 0, 8192)]) ++ [(25, 0, 52488)]) ++ [(26, 0, 8192)]) ++ [(27, 0, 8192)]) ++ [(28, 0, 8)]) ++ [(29, 0, 8)]) ++ [(30, 0, 2048)]) ++ [(31, 0, 33)]) ++ [(32, 0, 32)]) ++ [(33, 0, 32)]) ++ [(34, 0, 33)]) ++ [(35, 0, 6)]) ++ [(36, 0, 192)]) ++ [(37, 0, 1280)]) ++ [(38, 0, 4)]) ++ [(39, 0, 4)]) ++ [(40, 0, 32)]) ((41, 0, 32))
  clear ehs80
  refine hm_putr X hw lkM_151 (fun _ => ⟨hnm, TX11, 75, rfl, rfl⟩) hs0 rfl rfl dX11_init_390 (fun H locs hw => ?_)
  refine lv_aload_n hx hb dX11_init_393 rfl (lv_at hl 0 rfl) ?_
  refine lv_bipush (v := 32) hx hb dX11_init_394 (by decide) ?_
  refine hm_szK (n0 := 0 + 1) (N := 41) (q := 42) (hW_lt hw _ ehs82) hsz1 rfl rfl (fun ehq83 => ?_)
  refine hm_newa0 (N := 32) X hw ehq83 (by decide) (by decide) (by decide) (Nat.le_trans (Nat.le_of_ble_eq_true rfl) hRc.1) (Nat.le_trans (Nat.le_of_ble_eq_true rfl) hRc.2) dX11_init_396 (fun H hsz hw => ?_)
  have hs0 := List.mem_append_left [(42, 0, 32)] hs0
  have ehs82 := List.mem_append_left [(42, 0, 32)] ehs82
  have ehs84 := mem_last (((((((((((((((((((((((((((((((((((((((((L ++ [(1, 0, 4)]) ++ [(2, 0, 8)]) ++ [(3, 0, 8)]) ++ [(4, 0, 8)]) ++ [(5, 0, 8192)]) ++ [(6, 0, 8000)]) ++ [(7, 0, 8)]) ++ [(8, 0, 8)]) ++ [(9, 0, 8)]) ++ [(10, 0, 500)]) ++ [(11, 0, 16)]) ++ [(12, 0, 16)]) ++ [(13, 0, 16)]) ++ [(14, 0, 1600)]) ++ [(15, 0, 520)]) ++ [(16, 3, 9)]) ++ [(17, 0, 8)]) ++ [(18, 0, 8)]) ++ [(19, 0, 520)]) ++ [(20, 0, 6561)]) ++ [(21, 0, 6561)]) ++ [(22, 0, 52488)]) ++ [(23, 0, 8)]) ++ [(24, 0, 8192)]) ++ [(25, 0, 52488)]) ++ [(26, 0, 8192)]) ++ [(27, 0, 8192)]) ++ [(28, 0, 8)]) ++ [(29, 0, 8)]) ++ [(30, 0, 2048)]) ++ [(31, 0, 33)]) ++ [(32, 0, 32)]) ++ [(33, 0, 32)]) ++ [(34, 0, 33)]) ++ [(35, 0, 6)]) ++ [(36, 0, 192)]) ++ [(37, 0, 1280)]) ++ [(38, 0, 4)]) ++ [(39, 0, 4)]) ++ [(40, 0, 32)]) ++ [(41, 0, 32)]) ((42, 0, 32))
  clear ehs82
  refine hm_putr X hw lkM_154 (fun _ => ⟨hnm, TX11, 75, rfl, rfl⟩) hs0 rfl rfl dX11_init_398 (fun H locs hw => ?_)
  refine lv_aload_n hx hb dX11_init_401 rfl (lv_at hl 0 rfl) ?_
  refine lv_ldc (v := 32768) hx hb X.2.2.2.1 (X.2.2.2.2 _ kw1325) dX11_init_402 ?_
  refine hm_szK (n0 := 0 + 1) (N := 42) (q := 43) (hW_lt hw _ ehs84) hsz1 rfl rfl (fun ehq85 => ?_)
  refine hm_newa0 (N := 32768) X hw ehq85 (by decide) (by decide) (by decide) (Nat.le_trans (Nat.le_of_ble_eq_true rfl) hRc.1) (Nat.le_trans (Nat.le_of_ble_eq_true rfl) hRc.2) dX11_init_404 (fun H hsz hw => ?_)
  have hs0 := List.mem_append_left [(43, 0, 32768)] hs0
  have ehs84 := List.mem_append_left [(43, 0, 32768)] ehs84
  have ehs86 := mem_last ((((((((((((((((((((((((((((((((((((((((((L ++ [(1, 0, 4)]) ++ [(2, 0, 8)]) ++ [(3, 0, 8)]) ++ [(4, 0, 8)]) ++ [(5, 0, 8192)]) ++ [(6, 0, 8000)]) ++ [(7, 0, 8)]) ++ [(8, 0, 8)]) ++ [(9, 0, 8)]) ++ [(10, 0, 500)]) ++ [(11, 0, 16)]) ++ [(12, 0, 16)]) ++ [(13, 0, 16)]) ++ [(14, 0, 1600)]) ++ [(15, 0, 520)]) ++ [(16, 3, 9)]) ++ [(17, 0, 8)]) ++ [(18, 0, 8)]) ++ [(19, 0, 520)]) ++ [(20, 0, 6561)]) ++ [(21, 0, 6561)]) ++ [(22, 0, 52488)]) ++ [(23, 0, 8)]) ++ [(24, 0, 8192)]) ++ [(25, 0, 52488)]) ++ [(26, 0, 8192)]) ++ [(27, 0, 8192)]) ++ [(28, 0, 8)]) ++ [(29, 0, 8)]) ++ [(30, 0, 2048)]) ++ [(31, 0, 33)]) ++ [(32, 0, 32)]) ++ [(33, 0, 32)]) ++ [(34, 0, 33)]) ++ [(35, 0, 6)]) ++ [(36, 0, 192)]) ++ [(37, 0, 1280)]) ++ [(38, 0, 4)]) ++ [(39, 0, 4)]) ++ [(40, 0, 32)]) ++ [(41, 0, 32)]) ++ [(42, 0, 32)]) ((43, 0, 32768))
  clear ehs84
  refine hm_putr X hw lkM_158 (fun _ => ⟨hnm, TX11, 75, rfl, rfl⟩) hs0 rfl rfl dX11_init_406 (fun H locs hw => ?_)
  refine lv_aload_n hx hb dX11_init_409 rfl (lv_at hl 0 rfl) ?_
  refine lv_sipush (v := 32000) hx hb dX11_init_410 (by decide) ?_
  refine hm_szK (n0 := 0 + 1) (N := 43) (q := 44) (hW_lt hw _ ehs86) hsz1 rfl rfl (fun ehq87 => ?_)
  refine hm_newa0 (N := 32000) X hw ehq87 (by decide) (by decide) (by decide) (Nat.le_trans (Nat.le_of_ble_eq_true rfl) hRc.1) (Nat.le_trans (Nat.le_of_ble_eq_true rfl) hRc.2) dX11_init_413 (fun H hsz hw => ?_)
  have hs0 := List.mem_append_left [(44, 0, 32000)] hs0
  have ehs86 := List.mem_append_left [(44, 0, 32000)] ehs86
  have ehs88 := mem_last (((((((((((((((((((((((((((((((((((((((((((L ++ [(1, 0, 4)]) ++ [(2, 0, 8)]) ++ [(3, 0, 8)]) ++ [(4, 0, 8)]) ++ [(5, 0, 8192)]) ++ [(6, 0, 8000)]) ++ [(7, 0, 8)]) ++ [(8, 0, 8)]) ++ [(9, 0, 8)]) ++ [(10, 0, 500)]) ++ [(11, 0, 16)]) ++ [(12, 0, 16)]) ++ [(13, 0, 16)]) ++ [(14, 0, 1600)]) ++ [(15, 0, 520)]) ++ [(16, 3, 9)]) ++ [(17, 0, 8)]) ++ [(18, 0, 8)]) ++ [(19, 0, 520)]) ++ [(20, 0, 6561)]) ++ [(21, 0, 6561)]) ++ [(22, 0, 52488)]) ++ [(23, 0, 8)]) ++ [(24, 0, 8192)]) ++ [(25, 0, 52488)]) ++ [(26, 0, 8192)]) ++ [(27, 0, 8192)]) ++ [(28, 0, 8)]) ++ [(29, 0, 8)]) ++ [(30, 0, 2048)]) ++ [(31, 0, 33)]) ++ [(32, 0, 32)]) ++ [(33, 0, 32)]) ++ [(34, 0, 33)]) ++ [(35, 0, 6)]) ++ [(36, 0, 192)]) ++ [(37, 0, 1280)]) ++ [(38, 0, 4)]) ++ [(39, 0, 4)]) ++ [(40, 0, 32)]) ++ [(41, 0, 32)]) ++ [(42, 0, 32)]) ++ [(43, 0, 32768)]) ((44, 0, 32000))
  clear ehs86
  refine hm_putr X hw lkM_161 (fun _ => ⟨hnm, TX11, 75, rfl, rfl⟩) hs0 rfl rfl dX11_init_415 (fun H locs hw => ?_)
  refine lv_aload_n hx hb dX11_init_418 rfl (lv_at hl 0 rfl) ?_
  refine lv_bipush (v := 32) hx hb dX11_init_419 (by decide) ?_
  refine hm_szK (n0 := 0 + 1) (N := 44) (q := 45) (hW_lt hw _ ehs88) hsz1 rfl rfl (fun ehq89 => ?_)
  refine hm_newa0 (N := 32) X hw ehq89 (by decide) (by decide) (by decide) (Nat.le_trans (Nat.le_of_ble_eq_true rfl) hRc.1) (Nat.le_trans (Nat.le_of_ble_eq_true rfl) hRc.2) dX11_init_421 (fun H hsz hw => ?_)
  have hs0 := List.mem_append_left [(45, 0, 32)] hs0
  have ehs88 := List.mem_append_left [(45, 0, 32)] ehs88
  have ehs90 := mem_last ((((((((((((((((((((((((((((((((((((((((((((L ++ [(1, 0, 4)]) ++ [(2, 0, 8)]) ++ [(3, 0, 8)]) ++ [(4, 0, 8)]) ++ [(5, 0, 8192)]) ++ [(6, 0, 8000)]) ++ [(7, 0, 8)]) ++ [(8, 0, 8)]) ++ [(9, 0, 8)]) ++ [(10, 0, 500)]) ++ [(11, 0, 16)]) ++ [(12, 0, 16)]) ++ [(13, 0, 16)]) ++ [(14, 0, 1600)]) ++ [(15, 0, 520)]) ++ [(16, 3, 9)]) ++ [(17, 0, 8)]) ++ [(18, 0, 8)]) ++ [(19, 0, 520)]) ++ [(20, 0, 6561)]) ++ [(21, 0, 6561)]) ++ [(22, 0, 52488)]) ++ [(23, 0, 8)]) ++ [(24, 0, 8192)]) ++ [(25, 0, 52488)]) ++ [(26, 0, 8192)]) ++ [(27, 0, 8192)]) ++ [(28, 0, 8)]) ++ [(29, 0, 8)]) ++ [(30, 0, 2048)]) ++ [(31, 0, 33)]) ++ [(32, 0, 32)]) ++ [(33, 0, 32)]) ++ [(34, 0, 33)]) ++ [(35, 0, 6)]) ++ [(36, 0, 192)]) ++ [(37, 0, 1280)]) ++ [(38, 0, 4)]) ++ [(39, 0, 4)]) ++ [(40, 0, 32)]) ++ [(41, 0, 32)]) ++ [(42, 0, 32)]) ++ [(43, 0, 32768)]) ++ [(44, 0, 32000)]) ((45, 0, 32))
  clear ehs88
  refine hm_putr X hw lkM_164 (fun _ => ⟨hnm, TX11, 75, rfl, rfl⟩) hs0 rfl rfl dX11_init_423 (fun H locs hw => ?_)
  refine lv_aload_n hx hb dX11_init_426 rfl (lv_at hl 0 rfl) ?_
  refine lv_bipush (v := 32) hx hb dX11_init_427 (by decide) ?_
  refine hm_szK (n0 := 0 + 1) (N := 45) (q := 46) (hW_lt hw _ ehs90) hsz1 rfl rfl (fun ehq91 => ?_)
  refine hm_newa0 (N := 32) X hw ehq91 (by decide) (by decide) (by decide) (Nat.le_trans (Nat.le_of_ble_eq_true rfl) hRc.1) (Nat.le_trans (Nat.le_of_ble_eq_true rfl) hRc.2) dX11_init_429 (fun H hsz hw => ?_)
  have hs0 := List.mem_append_left [(46, 0, 32)] hs0
  have ehs90 := List.mem_append_left [(46, 0, 32)] ehs90
  have ehs92 := mem_last (((((((((((((((((((((((((((((((((((((((((((((L ++ [(1, 0, 4)]) ++ [(2, 0, 8)]) ++ [(3, 0, 8)]) ++ [(4, 0, 8)]) ++ [(5, 0, 8192)]) ++ [(6, 0, 8000)]) ++ [(7, 0, 8)]) ++ [(8, 0, 8)]) ++ [(9, 0, 8)]) ++ [(10, 0, 500)]) ++ [(11, 0, 16)]) ++ [(12, 0, 16)]) ++ [(13, 0, 16)]) ++ [(14, 0, 1600)]) ++ [(15, 0, 520)]) ++ [(16, 3, 9)]) ++ [(17, 0, 8)]) ++ [(18, 0, 8)]) ++ [(19, 0, 520)]) ++ [(20, 0, 6561)]) ++ [(21, 0, 6561)]) ++ [(22, 0, 52488)]) ++ [(23, 0, 8)]) ++ [(24, 0, 8192)]) ++ [(25, 0, 52488)]) ++ [(26, 0, 8192)]) ++ [(27, 0, 8192)]) ++ [(28, 0, 8)]) ++ [(29, 0, 8)]) ++ [(30, 0, 2048)]) ++ [(31, 0, 33)]) ++ [(32, 0, 32)]) ++ [(33, 0, 32)]) ++ [(34, 0, 33)]) ++ [(35, 0, 6)]) ++ [(36, 0, 192)]) ++ [(37, 0, 1280)]) ++ [(38, 0, 4)]) ++ [(39, 0, 4)]) ++ [(40, 0, 32)]) ++ [(41, 0, 32)]) ++ [(42, 0, 32)]) ++ [(43, 0, 32768)]) ++ [(44, 0, 32000)]) ++ [(45, 0, 32)]) ((46, 0, 32))
  clear ehs90
  refine hm_putr X hw lkM_167 (fun _ => ⟨hnm, TX11, 75, rfl, rfl⟩) hs0 rfl rfl dX11_init_431 (fun H locs hw => ?_)
  refine lv_aload_n hx hb dX11_init_434 rfl (lv_at hl 0 rfl) ?_
  refine lv_iconst (v := 2) hx hb dX11_init_435 (by decide) ?_
  refine lv_iconst (v := 2) hx hb dX11_init_436 (by decide) ?_
  obtain ⟨hF9, hL9, h⟩ := h
  rw [hF9, hL9] at hw
  refine hm_callv hw (hm_runV (rest := []) hCl_true X hw (cM_anew  h) ykM_anew kw1326 rfl LM_0 rfl hl.1 rfl rfl rfl (Nat.le_of_ble_eq_true rfl) ⟨Nat.le_trans (Nat.le_of_ble_eq_true rfl) hR.1, Nat.le_trans (Nat.le_of_ble_eq_true rfl) hR.2⟩ ⟨Nat.le_trans (Nat.le_of_ble_eq_true rfl) hRc.1, Nat.le_trans (Nat.le_of_ble_eq_true rfl) hRc.2⟩ dX11_init_437) (fun u94 H locs hp hw => ?_)
  obtain ⟨I93, rfl, h⟩ := hp
  exact hm_vret X hr hlk hw ⟨_, rfl, h⟩ dX11_init_440

end
