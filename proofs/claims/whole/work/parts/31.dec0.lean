theorem dl_0 : decode code 0 = .ok (.new 8, 3) := by decide +kernel
theorem dl_3 : decode code 3 = .ok (.dup, 1) := by decide +kernel
theorem dl_4 : decode code 4 = .ok (.invokespecial 77, 3) := by decide +kernel
theorem dl_7 : decode code 7 = .ok (.astore_n 1, 1) := by decide +kernel
theorem dl_8 : decode code 8 = .ok (.new 78, 3) := by decide +kernel
theorem dl_11 : decode code 11 = .ok (.dup, 1) := by decide +kernel
theorem dl_12 : decode code 12 = .ok (.invokespecial 80, 3) := by decide +kernel
theorem dl_15 : decode code 15 = .ok (.astore_n 2, 1) := by decide +kernel
theorem dl_16 : decode code 16 = .ok (.iconst 1, 1) := by decide +kernel
theorem dl_17 : decode code 17 = .ok (.newarray .long, 2) := by decide +kernel
theorem dl_19 : decode code 19 = .ok (.astore_n 3, 1) := by decide +kernel
theorem dl_20 : decode code 20 = .ok (.iconst 0, 1) := by decide +kernel
theorem dl_21 : decode code 21 = .ok (.istore 4, 2) := by decide +kernel
theorem dl_23 : decode code 23 = .ok (.iload 4, 2) := by decide +kernel
theorem dl_25 : decode code 25 = .ok (.aload_n 0, 1) := by decide +kernel
theorem dl_26 : decode code 26 = .ok (.arraylength, 1) := by decide +kernel
theorem dl_27 : decode code 27 = .ok (.bipush 6, 2) := by decide +kernel
theorem dl_29 : decode code 29 = .ok (.isub, 1) := by decide +kernel
theorem dl_30 : decode code 30 = .ok (.if_icmp .gt 1747, 3) := by decide +kernel
theorem dl_33 : decode code 33 = .ok (.aload_n 0, 1) := by decide +kernel
theorem dl_34 : decode code 34 = .ok (.iload 4, 2) := by decide +kernel
theorem dl_36 : decode code 36 = .ok (.iaload, 1) := by decide +kernel
theorem dl_37 : decode code 37 = .ok (.bipush 63, 2) := by decide +kernel
theorem dl_39 : decode code 39 = .ok (.iand, 1) := by decide +kernel
theorem dl_40 : decode code 40 = .ok (.tableswitch 1731 0 33 #[152, 189, 264, 339, 376, 413, 486, 542, 555, 623, 710, 778, 858, 926, 981, 1006, 1031, 1087, 1143, 1199, 1267, 1280, 1293, 1349, 1362, 1406, 1462, 1475, 1531, 1544, 1600, 1625, 1650, 1675], 152) := by decide +kernel
theorem dl_192 : decode code 192 = .ok (.aload_n 1, 1) := by decide +kernel
theorem dl_193 : decode code 193 = .ok (.aload_n 0, 1) := by decide +kernel
theorem dl_194 : decode code 194 = .ok (.iload 4, 2) := by decide +kernel
theorem dl_196 : decode code 196 = .ok (.iconst 1, 1) := by decide +kernel
theorem dl_197 : decode code 197 = .ok (.iadd, 1) := by decide +kernel
theorem dl_198 : decode code 198 = .ok (.iaload, 1) := by decide +kernel
theorem dl_199 : decode code 199 = .ok (.aload_n 0, 1) := by decide +kernel
theorem dl_200 : decode code 200 = .ok (.iload 4, 2) := by decide +kernel
theorem dl_202 : decode code 202 = .ok (.iconst 2, 1) := by decide +kernel
theorem dl_203 : decode code 203 = .ok (.iadd, 1) := by decide +kernel
theorem dl_204 : decode code 204 = .ok (.iaload, 1) := by decide +kernel
theorem dl_205 : decode code 205 = .ok (.invokevirtual 81, 3) := by decide +kernel
theorem dl_208 : decode code 208 = .ok (.aload_n 2, 1) := by decide +kernel
theorem dl_209 : decode code 209 = .ok (.aload_n 0, 1) := by decide +kernel
theorem dl_210 : decode code 210 = .ok (.iload 4, 2) := by decide +kernel
theorem dl_212 : decode code 212 = .ok (.iconst 1, 1) := by decide +kernel
theorem dl_213 : decode code 213 = .ok (.iadd, 1) := by decide +kernel
theorem dl_214 : decode code 214 = .ok (.iaload, 1) := by decide +kernel
theorem dl_215 : decode code 215 = .ok (.aload_n 0, 1) := by decide +kernel
theorem dl_216 : decode code 216 = .ok (.iload 4, 2) := by decide +kernel
theorem dl_218 : decode code 218 = .ok (.iconst 2, 1) := by decide +kernel
theorem dl_219 : decode code 219 = .ok (.iadd, 1) := by decide +kernel
theorem dl_220 : decode code 220 = .ok (.iaload, 1) := by decide +kernel
theorem dl_221 : decode code 221 = .ok (.invokevirtual 84, 3) := by decide +kernel
theorem dl_224 : decode code 224 = .ok (.if_icmp .eq 1547, 3) := by decide +kernel
theorem dl_227 : decode code 227 = .ok (.iconst 0, 1) := by decide +kernel
theorem dl_228 : decode code 228 = .ok (.ireturn, 1) := by decide +kernel
theorem dl_229 : decode code 229 = .ok (.aload_n 1, 1) := by decide +kernel
theorem dl_230 : decode code 230 = .ok (.aload_n 0, 1) := by decide +kernel
theorem dl_231 : decode code 231 = .ok (.iload 4, 2) := by decide +kernel
theorem dl_233 : decode code 233 = .ok (.iconst 1, 1) := by decide +kernel
theorem dl_234 : decode code 234 = .ok (.iadd, 1) := by decide +kernel
theorem dl_235 : decode code 235 = .ok (.iaload, 1) := by decide +kernel
theorem dl_236 : decode code 236 = .ok (.aload_n 0, 1) := by decide +kernel
theorem dl_237 : decode code 237 = .ok (.iload 4, 2) := by decide +kernel
theorem dl_239 : decode code 239 = .ok (.iconst 2, 1) := by decide +kernel
theorem dl_240 : decode code 240 = .ok (.iadd, 1) := by decide +kernel
theorem dl_241 : decode code 241 = .ok (.iaload, 1) := by decide +kernel
theorem dl_242 : decode code 242 = .ok (.aload_n 3, 1) := by decide +kernel
theorem dl_243 : decode code 243 = .ok (.invokestatic 85, 3) := by decide +kernel
theorem dl_246 : decode code 246 = .ok (.istore 5, 2) := by decide +kernel
theorem dl_248 : decode code 248 = .ok (.aload_n 2, 1) := by decide +kernel
theorem dl_249 : decode code 249 = .ok (.aload_n 0, 1) := by decide +kernel
theorem dl_250 : decode code 250 = .ok (.iload 4, 2) := by decide +kernel
theorem dl_252 : decode code 252 = .ok (.iconst 1, 1) := by decide +kernel
theorem dl_253 : decode code 253 = .ok (.iadd, 1) := by decide +kernel
theorem dl_254 : decode code 254 = .ok (.iaload, 1) := by decide +kernel
theorem dl_255 : decode code 255 = .ok (.aload_n 0, 1) := by decide +kernel
theorem dl_256 : decode code 256 = .ok (.iload 4, 2) := by decide +kernel
theorem dl_258 : decode code 258 = .ok (.iconst 2, 1) := by decide +kernel
theorem dl_259 : decode code 259 = .ok (.iadd, 1) := by decide +kernel
theorem dl_260 : decode code 260 = .ok (.iaload, 1) := by decide +kernel
theorem dl_261 : decode code 261 = .ok (.invokevirtual 90, 3) := by decide +kernel
theorem dl_264 : decode code 264 = .ok (.istore 6, 2) := by decide +kernel
theorem dl_266 : decode code 266 = .ok (.aload_n 2, 1) := by decide +kernel
theorem dl_267 : decode code 267 = .ok (.invokevirtual 91, 3) := by decide +kernel
theorem dl_270 : decode code 270 = .ok (.iload 5, 2) := by decide +kernel
theorem dl_272 : decode code 272 = .ok (.if_icmp .eq 5, 3) := by decide +kernel
theorem dl_275 : decode code 275 = .ok (.iconst 0, 1) := by decide +kernel
theorem dl_276 : decode code 276 = .ok (.ireturn, 1) := by decide +kernel
theorem dl_277 : decode code 277 = .ok (.iload 5, 2) := by decide +kernel
theorem dl_279 : decode code 279 = .ok (.ifCond .ne 22, 3) := by decide +kernel
theorem dl_282 : decode code 282 = .ok (.aload_n 3, 1) := by decide +kernel
theorem dl_283 : decode code 283 = .ok (.iconst 0, 1) := by decide +kernel
theorem dl_284 : decode code 284 = .ok (.laload, 1) := by decide +kernel
theorem dl_285 : decode code 285 = .ok (.iload 6, 2) := by decide +kernel
theorem dl_287 : decode code 287 = .ok (.ifCond .eq 7, 3) := by decide +kernel
theorem dl_290 : decode code 290 = .ok (.lconst 1, 1) := by decide +kernel
theorem dl_291 : decode code 291 = .ok (.goto 4, 3) := by decide +kernel
theorem dl_294 : decode code 294 = .ok (.lconst 0, 1) := by decide +kernel
theorem dl_295 : decode code 295 = .ok (.lcmp, 1) := by decide +kernel
theorem dl_296 : decode code 296 = .ok (.ifCond .eq 5, 3) := by decide +kernel
theorem dl_299 : decode code 299 = .ok (.iconst 0, 1) := by decide +kernel
theorem dl_300 : decode code 300 = .ok (.ireturn, 1) := by decide +kernel
theorem dl_301 : decode code 301 = .ok (.goto 1470, 3) := by decide +kernel
theorem dl_304 : decode code 304 = .ok (.aload_n 1, 1) := by decide +kernel
theorem dl_305 : decode code 305 = .ok (.aload_n 0, 1) := by decide +kernel
theorem dl_306 : decode code 306 = .ok (.iload 4, 2) := by decide +kernel
theorem dl_308 : decode code 308 = .ok (.iconst 1, 1) := by decide +kernel
theorem dl_309 : decode code 309 = .ok (.iadd, 1) := by decide +kernel
theorem dl_310 : decode code 310 = .ok (.iaload, 1) := by decide +kernel
theorem dl_311 : decode code 311 = .ok (.aload_n 0, 1) := by decide +kernel
theorem dl_312 : decode code 312 = .ok (.iload 4, 2) := by decide +kernel
theorem dl_314 : decode code 314 = .ok (.iconst 2, 1) := by decide +kernel
theorem dl_315 : decode code 315 = .ok (.iadd, 1) := by decide +kernel
theorem dl_316 : decode code 316 = .ok (.iaload, 1) := by decide +kernel
theorem dl_317 : decode code 317 = .ok (.aload_n 3, 1) := by decide +kernel
theorem dl_318 : decode code 318 = .ok (.invokestatic 94, 3) := by decide +kernel
theorem dl_321 : decode code 321 = .ok (.istore 5, 2) := by decide +kernel
theorem dl_323 : decode code 323 = .ok (.aload_n 2, 1) := by decide +kernel
theorem dl_324 : decode code 324 = .ok (.aload_n 0, 1) := by decide +kernel
theorem dl_325 : decode code 325 = .ok (.iload 4, 2) := by decide +kernel
theorem dl_327 : decode code 327 = .ok (.iconst 1, 1) := by decide +kernel
theorem dl_328 : decode code 328 = .ok (.iadd, 1) := by decide +kernel
theorem dl_329 : decode code 329 = .ok (.iaload, 1) := by decide +kernel
theorem dl_330 : decode code 330 = .ok (.aload_n 0, 1) := by decide +kernel
theorem dl_331 : decode code 331 = .ok (.iload 4, 2) := by decide +kernel
theorem dl_333 : decode code 333 = .ok (.iconst 2, 1) := by decide +kernel
theorem dl_334 : decode code 334 = .ok (.iadd, 1) := by decide +kernel
theorem dl_335 : decode code 335 = .ok (.iaload, 1) := by decide +kernel
theorem dl_336 : decode code 336 = .ok (.invokevirtual 96, 3) := by decide +kernel
theorem dl_339 : decode code 339 = .ok (.istore 6, 2) := by decide +kernel
theorem dl_341 : decode code 341 = .ok (.aload_n 2, 1) := by decide +kernel
theorem dl_342 : decode code 342 = .ok (.invokevirtual 91, 3) := by decide +kernel
theorem dl_345 : decode code 345 = .ok (.iload 5, 2) := by decide +kernel
theorem dl_347 : decode code 347 = .ok (.if_icmp .eq 5, 3) := by decide +kernel
theorem dl_350 : decode code 350 = .ok (.iconst 0, 1) := by decide +kernel
theorem dl_351 : decode code 351 = .ok (.ireturn, 1) := by decide +kernel
theorem dl_352 : decode code 352 = .ok (.iload 5, 2) := by decide +kernel
theorem dl_354 : decode code 354 = .ok (.ifCond .ne 22, 3) := by decide +kernel
theorem dl_357 : decode code 357 = .ok (.aload_n 3, 1) := by decide +kernel
theorem dl_358 : decode code 358 = .ok (.iconst 0, 1) := by decide +kernel
theorem dl_359 : decode code 359 = .ok (.laload, 1) := by decide +kernel
theorem dl_360 : decode code 360 = .ok (.iload 6, 2) := by decide +kernel
theorem dl_362 : decode code 362 = .ok (.ifCond .eq 7, 3) := by decide +kernel
theorem dl_365 : decode code 365 = .ok (.lconst 1, 1) := by decide +kernel
theorem dl_366 : decode code 366 = .ok (.goto 4, 3) := by decide +kernel
theorem dl_369 : decode code 369 = .ok (.lconst 0, 1) := by decide +kernel
theorem dl_370 : decode code 370 = .ok (.lcmp, 1) := by decide +kernel
theorem dl_371 : decode code 371 = .ok (.ifCond .eq 5, 3) := by decide +kernel
theorem dl_374 : decode code 374 = .ok (.iconst 0, 1) := by decide +kernel
theorem dl_375 : decode code 375 = .ok (.ireturn, 1) := by decide +kernel
theorem dl_376 : decode code 376 = .ok (.goto 1395, 3) := by decide +kernel
theorem dl_379 : decode code 379 = .ok (.aload_n 1, 1) := by decide +kernel
theorem dl_380 : decode code 380 = .ok (.aload_n 0, 1) := by decide +kernel
theorem dl_381 : decode code 381 = .ok (.iload 4, 2) := by decide +kernel
theorem dl_383 : decode code 383 = .ok (.iconst 1, 1) := by decide +kernel
theorem dl_384 : decode code 384 = .ok (.iadd, 1) := by decide +kernel
theorem dl_385 : decode code 385 = .ok (.iaload, 1) := by decide +kernel
theorem dl_386 : decode code 386 = .ok (.aload_n 0, 1) := by decide +kernel
theorem dl_387 : decode code 387 = .ok (.iload 4, 2) := by decide +kernel
theorem dl_389 : decode code 389 = .ok (.iconst 2, 1) := by decide +kernel
theorem dl_390 : decode code 390 = .ok (.iadd, 1) := by decide +kernel
theorem dl_391 : decode code 391 = .ok (.iaload, 1) := by decide +kernel
theorem dl_392 : decode code 392 = .ok (.invokevirtual 97, 3) := by decide +kernel
theorem dl_395 : decode code 395 = .ok (.aload_n 2, 1) := by decide +kernel
theorem dl_396 : decode code 396 = .ok (.aload_n 0, 1) := by decide +kernel
theorem dl_397 : decode code 397 = .ok (.iload 4, 2) := by decide +kernel
theorem dl_399 : decode code 399 = .ok (.iconst 1, 1) := by decide +kernel
theorem dl_400 : decode code 400 = .ok (.iadd, 1) := by decide +kernel
theorem dl_401 : decode code 401 = .ok (.iaload, 1) := by decide +kernel
theorem dl_402 : decode code 402 = .ok (.aload_n 0, 1) := by decide +kernel
theorem dl_403 : decode code 403 = .ok (.iload 4, 2) := by decide +kernel
theorem dl_405 : decode code 405 = .ok (.iconst 2, 1) := by decide +kernel
theorem dl_406 : decode code 406 = .ok (.iadd, 1) := by decide +kernel
theorem dl_407 : decode code 407 = .ok (.iaload, 1) := by decide +kernel
theorem dl_408 : decode code 408 = .ok (.invokevirtual 100, 3) := by decide +kernel
theorem dl_411 : decode code 411 = .ok (.if_icmp .eq 1360, 3) := by decide +kernel
theorem dl_414 : decode code 414 = .ok (.iconst 0, 1) := by decide +kernel
theorem dl_415 : decode code 415 = .ok (.ireturn, 1) := by decide +kernel
theorem dl_416 : decode code 416 = .ok (.aload_n 1, 1) := by decide +kernel
theorem dl_417 : decode code 417 = .ok (.aload_n 0, 1) := by decide +kernel
theorem dl_418 : decode code 418 = .ok (.iload 4, 2) := by decide +kernel
theorem dl_420 : decode code 420 = .ok (.iconst 1, 1) := by decide +kernel
theorem dl_421 : decode code 421 = .ok (.iadd, 1) := by decide +kernel
theorem dl_422 : decode code 422 = .ok (.iaload, 1) := by decide +kernel
theorem dl_423 : decode code 423 = .ok (.aload_n 0, 1) := by decide +kernel
theorem dl_424 : decode code 424 = .ok (.iload 4, 2) := by decide +kernel
theorem dl_426 : decode code 426 = .ok (.iconst 2, 1) := by decide +kernel
theorem dl_427 : decode code 427 = .ok (.iadd, 1) := by decide +kernel
theorem dl_428 : decode code 428 = .ok (.iaload, 1) := by decide +kernel
theorem dl_429 : decode code 429 = .ok (.invokevirtual 101, 3) := by decide +kernel
theorem dl_432 : decode code 432 = .ok (.aload_n 2, 1) := by decide +kernel
theorem dl_433 : decode code 433 = .ok (.aload_n 0, 1) := by decide +kernel
theorem dl_434 : decode code 434 = .ok (.iload 4, 2) := by decide +kernel
theorem dl_436 : decode code 436 = .ok (.iconst 1, 1) := by decide +kernel
theorem dl_437 : decode code 437 = .ok (.iadd, 1) := by decide +kernel
theorem dl_438 : decode code 438 = .ok (.iaload, 1) := by decide +kernel
theorem dl_439 : decode code 439 = .ok (.aload_n 0, 1) := by decide +kernel
theorem dl_440 : decode code 440 = .ok (.iload 4, 2) := by decide +kernel
theorem dl_442 : decode code 442 = .ok (.iconst 2, 1) := by decide +kernel
theorem dl_443 : decode code 443 = .ok (.iadd, 1) := by decide +kernel
theorem dl_444 : decode code 444 = .ok (.iaload, 1) := by decide +kernel
theorem dl_445 : decode code 445 = .ok (.invokevirtual 104, 3) := by decide +kernel
theorem dl_448 : decode code 448 = .ok (.if_icmp .eq 1323, 3) := by decide +kernel
theorem dl_451 : decode code 451 = .ok (.iconst 0, 1) := by decide +kernel
theorem dl_452 : decode code 452 = .ok (.ireturn, 1) := by decide +kernel
theorem dl_453 : decode code 453 = .ok (.aload_n 1, 1) := by decide +kernel
theorem dl_454 : decode code 454 = .ok (.aload_n 0, 1) := by decide +kernel
theorem dl_455 : decode code 455 = .ok (.iload 4, 2) := by decide +kernel
theorem dl_457 : decode code 457 = .ok (.iconst 1, 1) := by decide +kernel
theorem dl_458 : decode code 458 = .ok (.iadd, 1) := by decide +kernel
theorem dl_459 : decode code 459 = .ok (.iaload, 1) := by decide +kernel
theorem dl_460 : decode code 460 = .ok (.aload_n 0, 1) := by decide +kernel
theorem dl_461 : decode code 461 = .ok (.iload 4, 2) := by decide +kernel
theorem dl_463 : decode code 463 = .ok (.iconst 2, 1) := by decide +kernel
theorem dl_464 : decode code 464 = .ok (.iadd, 1) := by decide +kernel
theorem dl_465 : decode code 465 = .ok (.iaload, 1) := by decide +kernel
theorem dl_466 : decode code 466 = .ok (.aload_n 0, 1) := by decide +kernel
theorem dl_467 : decode code 467 = .ok (.iload 4, 2) := by decide +kernel
theorem dl_469 : decode code 469 = .ok (.iconst 3, 1) := by decide +kernel
theorem dl_470 : decode code 470 = .ok (.iadd, 1) := by decide +kernel
theorem dl_471 : decode code 471 = .ok (.iaload, 1) := by decide +kernel
theorem dl_472 : decode code 472 = .ok (.aload_n 0, 1) := by decide +kernel
theorem dl_473 : decode code 473 = .ok (.iload 4, 2) := by decide +kernel
theorem dl_475 : decode code 475 = .ok (.iconst 4, 1) := by decide +kernel
theorem dl_476 : decode code 476 = .ok (.iadd, 1) := by decide +kernel
theorem dl_477 : decode code 477 = .ok (.iaload, 1) := by decide +kernel
theorem dl_478 : decode code 478 = .ok (.aload_n 0, 1) := by decide +kernel
theorem dl_479 : decode code 479 = .ok (.iload 4, 2) := by decide +kernel
theorem dl_481 : decode code 481 = .ok (.iconst 5, 1) := by decide +kernel
theorem dl_482 : decode code 482 = .ok (.iadd, 1) := by decide +kernel
theorem dl_483 : decode code 483 = .ok (.iaload, 1) := by decide +kernel
theorem dl_484 : decode code 484 = .ok (.invokevirtual 105, 3) := by decide +kernel
theorem dl_487 : decode code 487 = .ok (.aload_n 2, 1) := by decide +kernel
theorem dl_488 : decode code 488 = .ok (.aload_n 0, 1) := by decide +kernel
theorem dl_489 : decode code 489 = .ok (.iload 4, 2) := by decide +kernel
theorem dl_491 : decode code 491 = .ok (.iconst 1, 1) := by decide +kernel
theorem dl_492 : decode code 492 = .ok (.iadd, 1) := by decide +kernel
theorem dl_493 : decode code 493 = .ok (.iaload, 1) := by decide +kernel
theorem dl_494 : decode code 494 = .ok (.aload_n 0, 1) := by decide +kernel
theorem dl_495 : decode code 495 = .ok (.iload 4, 2) := by decide +kernel
theorem dl_497 : decode code 497 = .ok (.iconst 2, 1) := by decide +kernel
theorem dl_498 : decode code 498 = .ok (.iadd, 1) := by decide +kernel
theorem dl_499 : decode code 499 = .ok (.iaload, 1) := by decide +kernel
theorem dl_500 : decode code 500 = .ok (.aload_n 0, 1) := by decide +kernel
theorem dl_501 : decode code 501 = .ok (.iload 4, 2) := by decide +kernel
theorem dl_503 : decode code 503 = .ok (.iconst 3, 1) := by decide +kernel
theorem dl_504 : decode code 504 = .ok (.iadd, 1) := by decide +kernel
theorem dl_505 : decode code 505 = .ok (.iaload, 1) := by decide +kernel
theorem dl_506 : decode code 506 = .ok (.aload_n 0, 1) := by decide +kernel
theorem dl_507 : decode code 507 = .ok (.iload 4, 2) := by decide +kernel
theorem dl_509 : decode code 509 = .ok (.iconst 4, 1) := by decide +kernel
theorem dl_510 : decode code 510 = .ok (.iadd, 1) := by decide +kernel
theorem dl_511 : decode code 511 = .ok (.iaload, 1) := by decide +kernel
theorem dl_512 : decode code 512 = .ok (.aload_n 0, 1) := by decide +kernel
theorem dl_513 : decode code 513 = .ok (.iload 4, 2) := by decide +kernel
theorem dl_515 : decode code 515 = .ok (.iconst 5, 1) := by decide +kernel
theorem dl_516 : decode code 516 = .ok (.iadd, 1) := by decide +kernel
theorem dl_517 : decode code 517 = .ok (.iaload, 1) := by decide +kernel
theorem dl_518 : decode code 518 = .ok (.invokevirtual 109, 3) := by decide +kernel
theorem dl_521 : decode code 521 = .ok (.if_icmp .eq 1250, 3) := by decide +kernel
theorem dl_524 : decode code 524 = .ok (.iconst 0, 1) := by decide +kernel
theorem dl_525 : decode code 525 = .ok (.ireturn, 1) := by decide +kernel
theorem dl_526 : decode code 526 = .ok (.aload_n 1, 1) := by decide +kernel
theorem dl_527 : decode code 527 = .ok (.aload_n 0, 1) := by decide +kernel
theorem dl_528 : decode code 528 = .ok (.iload 4, 2) := by decide +kernel
theorem dl_530 : decode code 530 = .ok (.iconst 1, 1) := by decide +kernel
theorem dl_531 : decode code 531 = .ok (.iadd, 1) := by decide +kernel
theorem dl_532 : decode code 532 = .ok (.iaload, 1) := by decide +kernel
theorem dl_533 : decode code 533 = .ok (.aload_n 3, 1) := by decide +kernel
theorem dl_534 : decode code 534 = .ok (.invokestatic 110, 3) := by decide +kernel
theorem dl_537 : decode code 537 = .ok (.istore 5, 2) := by decide +kernel
theorem dl_539 : decode code 539 = .ok (.aload_n 2, 1) := by decide +kernel
theorem dl_540 : decode code 540 = .ok (.aload_n 0, 1) := by decide +kernel
