/-! Walks of the reference's methods, written by wip/whole/gen_model.py -/
theorem d_GM_function_0 : decode prog_15_method_60_code 0 = .ok (.iload_n 3, 1) := by decide +kernel
theorem d_GM_function_1 : decode prog_15_method_60_code 1 = .ok (.ifCond .le 12, 3) := by decide +kernel
theorem d_GM_function_13 : decode prog_15_method_60_code 13 = .ok (.lconst 0, 1) := by decide +kernel
theorem d_GM_function_4 : decode prog_15_method_60_code 4 = .ok (.aload_n 0, 1) := by decide +kernel
theorem d_GM_function_5 : decode prog_15_method_60_code 5 = .ok (.getfield 122, 3) := by decide +kernel
theorem d_GM_function_8 : decode prog_15_method_60_code 8 = .ok (.iload_n 2, 1) := by decide +kernel
theorem d_GM_function_9 : decode prog_15_method_60_code 9 = .ok (.laload, 1) := by decide +kernel
theorem d_GM_function_10 : decode prog_15_method_60_code 10 = .ok (.goto 4, 3) := by decide +kernel
theorem d_GM_function_14 : decode prog_15_method_60_code 14 = .ok (.lstore 4, 2) := by decide +kernel
theorem d_GM_function_16 : decode prog_15_method_60_code 16 = .ok (.iload_n 3, 1) := by decide +kernel
theorem d_GM_function_17 : decode prog_15_method_60_code 17 = .ok (.iconst 1, 1) := by decide +kernel
theorem d_GM_function_18 : decode prog_15_method_60_code 18 = .ok (.if_icmp .le 14, 3) := by decide +kernel
theorem d_GM_function_32 : decode prog_15_method_60_code 32 = .ok (.lconst 0, 1) := by decide +kernel
theorem d_GM_function_21 : decode prog_15_method_60_code 21 = .ok (.aload_n 0, 1) := by decide +kernel
theorem d_GM_function_22 : decode prog_15_method_60_code 22 = .ok (.getfield 122, 3) := by decide +kernel
theorem d_GM_function_25 : decode prog_15_method_60_code 25 = .ok (.iload_n 2, 1) := by decide +kernel
theorem d_GM_function_26 : decode prog_15_method_60_code 26 = .ok (.iconst 1, 1) := by decide +kernel
theorem d_GM_function_27 : decode prog_15_method_60_code 27 = .ok (.iadd, 1) := by decide +kernel
theorem d_GM_function_28 : decode prog_15_method_60_code 28 = .ok (.laload, 1) := by decide +kernel
theorem d_GM_function_29 : decode prog_15_method_60_code 29 = .ok (.goto 4, 3) := by decide +kernel
theorem d_GM_function_33 : decode prog_15_method_60_code 33 = .ok (.lstore 6, 2) := by decide +kernel
theorem d_GM_function_35 : decode prog_15_method_60_code 35 = .ok (.iload_n 1, 1) := by decide +kernel
theorem d_GM_function_36 : decode prog_15_method_60_code 36 = .ok (.tableswitch 489 0 33 #[152, 152, 152, 152, 152, 152, 152, 160, 186, 212, 489, 489, 489, 231, 253, 275, 297, 318, 349, 363, 489, 489, 489, 489, 489, 489, 489, 489, 393, 408, 423, 443, 463, 472], 152) := by decide +kernel
theorem d_GM_function_188 : decode prog_15_method_60_code 188 = .ok (.aload_n 0, 1) := by decide +kernel
theorem d_GM_function_189 : decode prog_15_method_60_code 189 = .ok (.iload_n 1, 1) := by decide +kernel
theorem d_GM_function_190 : decode prog_15_method_60_code 190 = .ok (.invokevirtual 424, 3) := by decide +kernel
theorem d_GM_function_193 : decode prog_15_method_60_code 193 = .ok (.goto 353, 3) := by decide +kernel
theorem d_GM_function_196 : decode prog_15_method_60_code 196 = .ok (.aload_n 0, 1) := by decide +kernel
theorem d_GM_function_197 : decode prog_15_method_60_code 197 = .ok (.lload 4, 2) := by decide +kernel
theorem d_GM_function_199 : decode prog_15_method_60_code 199 = .ok (.lconst 1, 1) := by decide +kernel
theorem d_GM_function_200 : decode prog_15_method_60_code 200 = .ok (.lcmp, 1) := by decide +kernel
theorem d_GM_function_201 : decode prog_15_method_60_code 201 = .ok (.ifCond .ne 14, 3) := by decide +kernel
theorem d_GM_function_204 : decode prog_15_method_60_code 204 = .ok (.lload 6, 2) := by decide +kernel
theorem d_GM_function_206 : decode prog_15_method_60_code 206 = .ok (.lconst 1, 1) := by decide +kernel
theorem d_GM_function_207 : decode prog_15_method_60_code 207 = .ok (.lcmp, 1) := by decide +kernel
theorem d_GM_function_208 : decode prog_15_method_60_code 208 = .ok (.ifCond .ne 7, 3) := by decide +kernel
theorem d_GM_function_211 : decode prog_15_method_60_code 211 = .ok (.iconst 1, 1) := by decide +kernel
theorem d_GM_function_212 : decode prog_15_method_60_code 212 = .ok (.goto 4, 3) := by decide +kernel
theorem d_GM_function_222 : decode prog_15_method_60_code 222 = .ok (.aload_n 0, 1) := by decide +kernel
theorem d_GM_function_223 : decode prog_15_method_60_code 223 = .ok (.lload 4, 2) := by decide +kernel
theorem d_GM_function_225 : decode prog_15_method_60_code 225 = .ok (.lconst 1, 1) := by decide +kernel
theorem d_GM_function_226 : decode prog_15_method_60_code 226 = .ok (.lcmp, 1) := by decide +kernel
theorem d_GM_function_227 : decode prog_15_method_60_code 227 = .ok (.ifCond .eq 10, 3) := by decide +kernel
theorem d_GM_function_230 : decode prog_15_method_60_code 230 = .ok (.lload 6, 2) := by decide +kernel
theorem d_GM_function_232 : decode prog_15_method_60_code 232 = .ok (.lconst 1, 1) := by decide +kernel
theorem d_GM_function_233 : decode prog_15_method_60_code 233 = .ok (.lcmp, 1) := by decide +kernel
theorem d_GM_function_234 : decode prog_15_method_60_code 234 = .ok (.ifCond .ne 7, 3) := by decide +kernel
theorem d_GM_function_241 : decode prog_15_method_60_code 241 = .ok (.iconst 0, 1) := by decide +kernel
theorem d_GM_function_248 : decode prog_15_method_60_code 248 = .ok (.aload_n 0, 1) := by decide +kernel
theorem d_GM_function_249 : decode prog_15_method_60_code 249 = .ok (.lload 4, 2) := by decide +kernel
theorem d_GM_function_251 : decode prog_15_method_60_code 251 = .ok (.lconst 0, 1) := by decide +kernel
theorem d_GM_function_252 : decode prog_15_method_60_code 252 = .ok (.lcmp, 1) := by decide +kernel
theorem d_GM_function_253 : decode prog_15_method_60_code 253 = .ok (.ifCond .ne 7, 3) := by decide +kernel
theorem d_GM_function_260 : decode prog_15_method_60_code 260 = .ok (.iconst 0, 1) := by decide +kernel
theorem d_GM_function_256 : decode prog_15_method_60_code 256 = .ok (.iconst 1, 1) := by decide +kernel
theorem d_GM_function_257 : decode prog_15_method_60_code 257 = .ok (.goto 4, 3) := by decide +kernel
theorem d_GM_function_525 : decode prog_15_method_60_code 525 = .ok (.iload_n 1, 1) := by decide +kernel
theorem d_GM_function_526 : decode prog_15_method_60_code 526 = .ok (.bipush 28, 2) := by decide +kernel
theorem d_GM_function_528 : decode prog_15_method_60_code 528 = .ok (.if_icmp .ge 12, 3) := by decide +kernel
theorem d_GM_function_540 : decode prog_15_method_60_code 540 = .ok (.aload_n 0, 1) := by decide +kernel
theorem d_GM_function_541 : decode prog_15_method_60_code 541 = .ok (.iload_n 1, 1) := by decide +kernel
theorem d_GM_function_542 : decode prog_15_method_60_code 542 = .ok (.iload_n 2, 1) := by decide +kernel
theorem d_GM_function_543 : decode prog_15_method_60_code 543 = .ok (.invokevirtual 448, 3) := by decide +kernel
theorem d_GM_function_531 : decode prog_15_method_60_code 531 = .ok (.aload_n 0, 1) := by decide +kernel
theorem d_GM_function_532 : decode prog_15_method_60_code 532 = .ok (.iload_n 1, 1) := by decide +kernel
theorem d_GM_function_533 : decode prog_15_method_60_code 533 = .ok (.iload_n 2, 1) := by decide +kernel
theorem d_GM_function_534 : decode prog_15_method_60_code 534 = .ok (.invokevirtual 445, 3) := by decide +kernel
theorem d_GM_function_537 : decode prog_15_method_60_code 537 = .ok (.goto 9, 3) := by decide +kernel
theorem d_GM_function_267 : decode prog_15_method_60_code 267 = .ok (.aload_n 0, 1) := by decide +kernel
theorem d_GM_function_268 : decode prog_15_method_60_code 268 = .ok (.aload_n 0, 1) := by decide +kernel
theorem d_GM_function_269 : decode prog_15_method_60_code 269 = .ok (.getfield 116, 3) := by decide +kernel
theorem d_GM_function_272 : decode prog_15_method_60_code 272 = .ok (.iload_n 2, 1) := by decide +kernel
theorem d_GM_function_273 : decode prog_15_method_60_code 273 = .ok (.iaload, 1) := by decide +kernel
theorem d_GM_function_274 : decode prog_15_method_60_code 274 = .ok (.iconst 4, 1) := by decide +kernel
theorem d_GM_function_275 : decode prog_15_method_60_code 275 = .ok (.if_icmp .ne 7, 3) := by decide +kernel
theorem d_GM_function_282 : decode prog_15_method_60_code 282 = .ok (.iconst 0, 1) := by decide +kernel
theorem d_GM_function_278 : decode prog_15_method_60_code 278 = .ok (.iconst 1, 1) := by decide +kernel
theorem d_GM_function_279 : decode prog_15_method_60_code 279 = .ok (.goto 4, 3) := by decide +kernel
theorem d_GM_function_289 : decode prog_15_method_60_code 289 = .ok (.aload_n 0, 1) := by decide +kernel
theorem d_GM_function_290 : decode prog_15_method_60_code 290 = .ok (.aload_n 0, 1) := by decide +kernel
theorem d_GM_function_291 : decode prog_15_method_60_code 291 = .ok (.getfield 116, 3) := by decide +kernel
theorem d_GM_function_294 : decode prog_15_method_60_code 294 = .ok (.iload_n 2, 1) := by decide +kernel
theorem d_GM_function_295 : decode prog_15_method_60_code 295 = .ok (.iaload, 1) := by decide +kernel
theorem d_GM_function_296 : decode prog_15_method_60_code 296 = .ok (.iconst 1, 1) := by decide +kernel
theorem d_GM_function_297 : decode prog_15_method_60_code 297 = .ok (.if_icmp .ne 7, 3) := by decide +kernel
theorem d_GM_function_304 : decode prog_15_method_60_code 304 = .ok (.iconst 0, 1) := by decide +kernel
theorem d_GM_function_300 : decode prog_15_method_60_code 300 = .ok (.iconst 1, 1) := by decide +kernel
theorem d_GM_function_301 : decode prog_15_method_60_code 301 = .ok (.goto 4, 3) := by decide +kernel
theorem d_GM_function_311 : decode prog_15_method_60_code 311 = .ok (.aload_n 0, 1) := by decide +kernel
theorem d_GM_function_312 : decode prog_15_method_60_code 312 = .ok (.aload_n 0, 1) := by decide +kernel
theorem d_GM_function_313 : decode prog_15_method_60_code 313 = .ok (.getfield 116, 3) := by decide +kernel
theorem d_GM_function_316 : decode prog_15_method_60_code 316 = .ok (.iload_n 2, 1) := by decide +kernel
theorem d_GM_function_317 : decode prog_15_method_60_code 317 = .ok (.iaload, 1) := by decide +kernel
theorem d_GM_function_318 : decode prog_15_method_60_code 318 = .ok (.iconst 2, 1) := by decide +kernel
theorem d_GM_function_319 : decode prog_15_method_60_code 319 = .ok (.if_icmp .ne 7, 3) := by decide +kernel
theorem d_GM_function_326 : decode prog_15_method_60_code 326 = .ok (.iconst 0, 1) := by decide +kernel
theorem d_GM_function_322 : decode prog_15_method_60_code 322 = .ok (.iconst 1, 1) := by decide +kernel
theorem d_GM_function_323 : decode prog_15_method_60_code 323 = .ok (.goto 4, 3) := by decide +kernel
theorem d_GM_function_333 : decode prog_15_method_60_code 333 = .ok (.aload_n 0, 1) := by decide +kernel
theorem d_GM_function_334 : decode prog_15_method_60_code 334 = .ok (.aload_n 0, 1) := by decide +kernel
theorem d_GM_function_335 : decode prog_15_method_60_code 335 = .ok (.getfield 116, 3) := by decide +kernel
theorem d_GM_function_338 : decode prog_15_method_60_code 338 = .ok (.iload_n 2, 1) := by decide +kernel
theorem d_GM_function_339 : decode prog_15_method_60_code 339 = .ok (.iaload, 1) := by decide +kernel
theorem d_GM_function_340 : decode prog_15_method_60_code 340 = .ok (.ifCond .ne 7, 3) := by decide +kernel
theorem d_GM_function_347 : decode prog_15_method_60_code 347 = .ok (.iconst 0, 1) := by decide +kernel
theorem d_GM_function_343 : decode prog_15_method_60_code 343 = .ok (.iconst 1, 1) := by decide +kernel
theorem d_GM_function_344 : decode prog_15_method_60_code 344 = .ok (.goto 4, 3) := by decide +kernel
theorem d_GM_function_354 : decode prog_15_method_60_code 354 = .ok (.lload 4, 2) := by decide +kernel
theorem d_GM_function_356 : decode prog_15_method_60_code 356 = .ok (.ldc2_w 170, 3) := by decide +kernel
theorem d_GM_function_359 : decode prog_15_method_60_code 359 = .ok (.lcmp, 1) := by decide +kernel
theorem d_GM_function_360 : decode prog_15_method_60_code 360 = .ok (.ifCond .ne 12, 3) := by decide +kernel
theorem d_GM_function_372 : decode prog_15_method_60_code 372 = .ok (.aload_n 0, 1) := by decide +kernel
theorem d_GM_function_373 : decode prog_15_method_60_code 373 = .ok (.iconst 1, 1) := by decide +kernel
theorem d_GM_function_374 : decode prog_15_method_60_code 374 = .ok (.lload 4, 2) := by decide +kernel
theorem d_GM_function_376 : decode prog_15_method_60_code 376 = .ok (.invokestatic 431, 3) := by decide +kernel
theorem d_GM_function_379 : decode prog_15_method_60_code 379 = .ok (.invokevirtual 307, 3) := by decide +kernel
theorem d_GM_function_382 : decode prog_15_method_60_code 382 = .ok (.goto 164, 3) := by decide +kernel
theorem d_GM_function_363 : decode prog_15_method_60_code 363 = .ok (.aload_n 0, 1) := by decide +kernel
theorem d_GM_function_364 : decode prog_15_method_60_code 364 = .ok (.bipush 6, 2) := by decide +kernel
theorem d_GM_function_366 : decode prog_15_method_60_code 366 = .ok (.invokevirtual 314, 3) := by decide +kernel
theorem d_GM_function_369 : decode prog_15_method_60_code 369 = .ok (.goto 177, 3) := by decide +kernel
theorem d_GM_function_385 : decode prog_15_method_60_code 385 = .ok (.aload_n 0, 1) := by decide +kernel
theorem d_GM_function_386 : decode prog_15_method_60_code 386 = .ok (.iconst 1, 1) := by decide +kernel
theorem d_GM_function_387 : decode prog_15_method_60_code 387 = .ok (.lload 4, 2) := by decide +kernel
theorem d_GM_function_389 : decode prog_15_method_60_code 389 = .ok (.invokestatic 435, 3) := by decide +kernel
theorem d_GM_function_392 : decode prog_15_method_60_code 392 = .ok (.i2l, 1) := by decide +kernel
theorem d_GM_function_393 : decode prog_15_method_60_code 393 = .ok (.invokevirtual 307, 3) := by decide +kernel
theorem d_GM_function_396 : decode prog_15_method_60_code 396 = .ok (.goto 150, 3) := by decide +kernel
theorem d_GM_function_399 : decode prog_15_method_60_code 399 = .ok (.lload 6, 2) := by decide +kernel
theorem d_GM_function_401 : decode prog_15_method_60_code 401 = .ok (.lconst 0, 1) := by decide +kernel
theorem d_GM_function_402 : decode prog_15_method_60_code 402 = .ok (.lcmp, 1) := by decide +kernel
theorem d_GM_function_403 : decode prog_15_method_60_code 403 = .ok (.ifCond .ne 11, 3) := by decide +kernel
theorem d_GM_function_414 : decode prog_15_method_60_code 414 = .ok (.aload_n 0, 1) := by decide +kernel
theorem d_GM_function_415 : decode prog_15_method_60_code 415 = .ok (.iconst 1, 1) := by decide +kernel
theorem d_GM_function_416 : decode prog_15_method_60_code 416 = .ok (.lload 4, 2) := by decide +kernel
theorem d_GM_function_418 : decode prog_15_method_60_code 418 = .ok (.lload 6, 2) := by decide +kernel
theorem d_GM_function_420 : decode prog_15_method_60_code 420 = .ok (.invokestatic 439, 3) := by decide +kernel
theorem d_GM_function_423 : decode prog_15_method_60_code 423 = .ok (.invokevirtual 307, 3) := by decide +kernel
theorem d_GM_function_426 : decode prog_15_method_60_code 426 = .ok (.goto 120, 3) := by decide +kernel
theorem d_GM_function_406 : decode prog_15_method_60_code 406 = .ok (.aload_n 0, 1) := by decide +kernel
theorem d_GM_function_407 : decode prog_15_method_60_code 407 = .ok (.iconst 5, 1) := by decide +kernel
theorem d_GM_function_408 : decode prog_15_method_60_code 408 = .ok (.invokevirtual 314, 3) := by decide +kernel
theorem d_GM_function_411 : decode prog_15_method_60_code 411 = .ok (.goto 135, 3) := by decide +kernel
theorem d_GM_function_429 : decode prog_15_method_60_code 429 = .ok (.aload_n 0, 1) := by decide +kernel
theorem d_GM_function_430 : decode prog_15_method_60_code 430 = .ok (.iconst 1, 1) := by decide +kernel
theorem d_GM_function_431 : decode prog_15_method_60_code 431 = .ok (.aload_n 0, 1) := by decide +kernel
theorem d_GM_function_432 : decode prog_15_method_60_code 432 = .ok (.getfield 418, 3) := by decide +kernel
theorem d_GM_function_435 : decode prog_15_method_60_code 435 = .ok (.iconst 1, 1) := by decide +kernel
theorem d_GM_function_436 : decode prog_15_method_60_code 436 = .ok (.iadd, 1) := by decide +kernel
theorem d_GM_function_437 : decode prog_15_method_60_code 437 = .ok (.i2l, 1) := by decide +kernel
theorem d_GM_function_438 : decode prog_15_method_60_code 438 = .ok (.invokevirtual 307, 3) := by decide +kernel
theorem d_GM_function_441 : decode prog_15_method_60_code 441 = .ok (.goto 105, 3) := by decide +kernel
theorem d_GM_function_444 : decode prog_15_method_60_code 444 = .ok (.aload_n 0, 1) := by decide +kernel
theorem d_GM_function_445 : decode prog_15_method_60_code 445 = .ok (.iconst 1, 1) := by decide +kernel
theorem d_GM_function_446 : decode prog_15_method_60_code 446 = .ok (.aload_n 0, 1) := by decide +kernel
theorem d_GM_function_447 : decode prog_15_method_60_code 447 = .ok (.getfield 412, 3) := by decide +kernel
theorem d_GM_function_450 : decode prog_15_method_60_code 450 = .ok (.iconst 1, 1) := by decide +kernel
theorem d_GM_function_451 : decode prog_15_method_60_code 451 = .ok (.iadd, 1) := by decide +kernel
theorem d_GM_function_452 : decode prog_15_method_60_code 452 = .ok (.i2l, 1) := by decide +kernel
theorem d_GM_function_453 : decode prog_15_method_60_code 453 = .ok (.invokevirtual 307, 3) := by decide +kernel
theorem d_GM_function_456 : decode prog_15_method_60_code 456 = .ok (.goto 90, 3) := by decide +kernel
theorem d_GM_function_459 : decode prog_15_method_60_code 459 = .ok (.aload_n 0, 1) := by decide +kernel
theorem d_GM_function_460 : decode prog_15_method_60_code 460 = .ok (.iconst 1, 1) := by decide +kernel
theorem d_GM_function_461 : decode prog_15_method_60_code 461 = .ok (.aload_n 0, 1) := by decide +kernel
theorem d_GM_function_462 : decode prog_15_method_60_code 462 = .ok (.getfield 421, 3) := by decide +kernel
theorem d_GM_function_465 : decode prog_15_method_60_code 465 = .ok (.aload_n 0, 1) := by decide +kernel
theorem d_GM_function_466 : decode prog_15_method_60_code 466 = .ok (.getfield 418, 3) := by decide +kernel
theorem d_GM_function_469 : decode prog_15_method_60_code 469 = .ok (.isub, 1) := by decide +kernel
theorem d_GM_function_470 : decode prog_15_method_60_code 470 = .ok (.iconst 1, 1) := by decide +kernel
theorem d_GM_function_471 : decode prog_15_method_60_code 471 = .ok (.iadd, 1) := by decide +kernel
theorem d_GM_function_472 : decode prog_15_method_60_code 472 = .ok (.i2l, 1) := by decide +kernel
theorem d_GM_function_473 : decode prog_15_method_60_code 473 = .ok (.invokevirtual 307, 3) := by decide +kernel
theorem d_GM_function_476 : decode prog_15_method_60_code 476 = .ok (.goto 70, 3) := by decide +kernel
theorem d_GM_function_479 : decode prog_15_method_60_code 479 = .ok (.aload_n 0, 1) := by decide +kernel
theorem d_GM_function_480 : decode prog_15_method_60_code 480 = .ok (.iconst 1, 1) := by decide +kernel
theorem d_GM_function_481 : decode prog_15_method_60_code 481 = .ok (.aload_n 0, 1) := by decide +kernel
theorem d_GM_function_482 : decode prog_15_method_60_code 482 = .ok (.getfield 415, 3) := by decide +kernel
theorem d_GM_function_485 : decode prog_15_method_60_code 485 = .ok (.aload_n 0, 1) := by decide +kernel
theorem d_GM_function_486 : decode prog_15_method_60_code 486 = .ok (.getfield 412, 3) := by decide +kernel
theorem d_GM_function_489 : decode prog_15_method_60_code 489 = .ok (.isub, 1) := by decide +kernel
theorem d_GM_function_490 : decode prog_15_method_60_code 490 = .ok (.iconst 1, 1) := by decide +kernel
theorem d_GM_function_491 : decode prog_15_method_60_code 491 = .ok (.iadd, 1) := by decide +kernel
theorem d_GM_function_492 : decode prog_15_method_60_code 492 = .ok (.i2l, 1) := by decide +kernel
theorem d_GM_function_493 : decode prog_15_method_60_code 493 = .ok (.invokevirtual 307, 3) := by decide +kernel
theorem d_GM_function_496 : decode prog_15_method_60_code 496 = .ok (.goto 50, 3) := by decide +kernel
theorem d_GM_function_499 : decode prog_15_method_60_code 499 = .ok (.aload_n 0, 1) := by decide +kernel
theorem d_GM_function_500 : decode prog_15_method_60_code 500 = .ok (.bipush 7, 2) := by decide +kernel
theorem d_GM_function_502 : decode prog_15_method_60_code 502 = .ok (.invokevirtual 314, 3) := by decide +kernel
theorem d_GM_function_505 : decode prog_15_method_60_code 505 = .ok (.goto 41, 3) := by decide +kernel
theorem d_GM_function_508 : decode prog_15_method_60_code 508 = .ok (.aload_n 0, 1) := by decide +kernel
theorem d_GM_function_509 : decode prog_15_method_60_code 509 = .ok (.lload 6, 2) := by decide +kernel
theorem d_GM_function_511 : decode prog_15_method_60_code 511 = .ok (.aload_n 0, 1) := by decide +kernel
theorem d_GM_function_512 : decode prog_15_method_60_code 512 = .ok (.getfield 122, 3) := by decide +kernel
theorem d_GM_function_515 : decode prog_15_method_60_code 515 = .ok (.iload_n 2, 1) := by decide +kernel
theorem d_GM_function_516 : decode prog_15_method_60_code 516 = .ok (.iconst 2, 1) := by decide +kernel
theorem d_GM_function_517 : decode prog_15_method_60_code 517 = .ok (.iadd, 1) := by decide +kernel
theorem d_GM_function_518 : decode prog_15_method_60_code 518 = .ok (.laload, 1) := by decide +kernel
theorem d_GM_function_519 : decode prog_15_method_60_code 519 = .ok (.invokevirtual 443, 3) := by decide +kernel
theorem d_GM_function_522 : decode prog_15_method_60_code 522 = .ok (.goto 24, 3) := by decide +kernel
theorem d_GM_function_546 : decode prog_15_method_60_code 546 = .ok (.return_, 1) := by decide +kernel
theorem d_GM_function_215 : decode prog_15_method_60_code 215 = .ok (.iconst 0, 1) := by decide +kernel
theorem d_GM_function_216 : decode prog_15_method_60_code 216 = .ok (.invokevirtual 427, 3) := by decide +kernel
theorem d_GM_function_219 : decode prog_15_method_60_code 219 = .ok (.goto 327, 3) := by decide +kernel
theorem d_GM_function_237 : decode prog_15_method_60_code 237 = .ok (.iconst 1, 1) := by decide +kernel
theorem d_GM_function_238 : decode prog_15_method_60_code 238 = .ok (.goto 4, 3) := by decide +kernel
theorem d_GM_function_242 : decode prog_15_method_60_code 242 = .ok (.invokevirtual 427, 3) := by decide +kernel
theorem d_GM_function_245 : decode prog_15_method_60_code 245 = .ok (.goto 301, 3) := by decide +kernel
theorem d_GM_function_261 : decode prog_15_method_60_code 261 = .ok (.invokevirtual 427, 3) := by decide +kernel
theorem d_GM_function_264 : decode prog_15_method_60_code 264 = .ok (.goto 282, 3) := by decide +kernel
theorem d_GM_function_283 : decode prog_15_method_60_code 283 = .ok (.invokevirtual 427, 3) := by decide +kernel
theorem d_GM_function_286 : decode prog_15_method_60_code 286 = .ok (.goto 260, 3) := by decide +kernel
theorem d_GM_function_305 : decode prog_15_method_60_code 305 = .ok (.invokevirtual 427, 3) := by decide +kernel
theorem d_GM_function_308 : decode prog_15_method_60_code 308 = .ok (.goto 238, 3) := by decide +kernel
theorem d_GM_function_327 : decode prog_15_method_60_code 327 = .ok (.invokevirtual 427, 3) := by decide +kernel
theorem d_GM_function_330 : decode prog_15_method_60_code 330 = .ok (.goto 216, 3) := by decide +kernel
theorem d_GM_function_348 : decode prog_15_method_60_code 348 = .ok (.invokevirtual 427, 3) := by decide +kernel
theorem d_GM_function_351 : decode prog_15_method_60_code 351 = .ok (.goto 195, 3) := by decide +kernel
set_option maxHeartbeats 4000000 in
theorem w_GM_function_0 {l : Launch} {G : gG} {d : Nat} {X : gX} {M : gM} {k : gM → Prop} {o : Nat} (hX : gmX X o) {x1 : Int} (hx1 : g32 x1) {x2 : Int} (hx2 : g32 x2) {x3 : Int} (hx3 : g32 x3) (T : (x3 ≤ 0 → (wp l G y_GM_function (gRm (d + 1)) true (kkV X k) true 14 [.val (gR G o), .val (gI x1), .val (gI x2), .val (gI x3), .unset, .unset, .unset, .unset] [gL 0] X M 0 0)) ∧ (¬ x3 ≤ 0 → (((0 : Int) ≤ x2 ∧ x2 < 1200) ∧ (g64 (M (o + 36) (Int.toNat x2)) → (wp l G y_GM_function (gRm (d + 1)) true (kkV X k) true 14 [.val (gR G o), .val (gI x1), .val (gI x2), .val (gI x3), .unset, .unset, .unset, .unset] [gL (M (o + 36) (Int.toNat x2))] X M 0 0))))) : wp l G y_GM_function (gRm (d + 1)) true (kkV X k) false 0 [.val (gR G o), .val (gI x1), .val (gI x2), .val (gI x3), .unset, .unset, .unset, .unset] [] X M 0 0 := by
  refine wp_iload_n d_GM_function_0 rfl rfl ?_
  refine xz_le (tgt := 13) d_GM_function_1 (by decide) (w32_id hx3) (fun h2 => ?_) (fun h2 => ?_)
  · have T := T.1 h2
    refine wp_lconst0 d_GM_function_13 ?_
    exact wp_md (wpt T (And.intro rfl (And.intro rfl (And.intro rfl (And.intro rfl True.intro)))))
  · have T := T.2 h2
    refine wp_aload_n d_GM_function_4 rfl rfl (g_nz hX.1) ?_
    refine xgetR d_GM_function_5 gc_GM f_GM_122.1 f_GM_122.2.1 f_GM_122.2.2.1 hX.1 (gm_o2 hX) hX.2.2.1 f_GM_122.2.2.2.2.1 (gm_row hX 35 rfl).1 ?_
    refine wp_iload_n d_GM_function_8 rfl rfl ?_
    refine wp_laload d_GM_function_9 (gm_row hX 35 rfl).2.2.1 (gm_row hX 35 rfl).2.2.2 (gm_row hX 35 rfl).2.1 (g32_n T.1 (by decide)) T.1.1 T.1.2 (fun h1 => ?_)
    have T := T.2 h1
    refine wp_goto (tgt := 14) d_GM_function_10 (by decide) ?_
    exact wp_md (wpt T (And.intro rfl (And.intro rfl (And.intro rfl (And.intro rfl True.intro)))))
set_option maxHeartbeats 4000000 in
theorem w_GM_function_14 {l : Launch} {G : gG} {d : Nat} {X : gX} {M : gM} {k : gM → Prop} {o : Nat} (hX : gmX X o) {x1 : Int} (hx1 : g32 x1) {x2 : Int} (hx2 : g32 x2) {x3 : Int} (hx3 : g32 x3) {s0 : Int} (hs0 : g64 s0) (T : (x3 ≤ 1 → (wp l G y_GM_function (gRm (d + 1)) true (kkV X k) true 33 [.val (gR G o), .val (gI x1), .val (gI x2), .unset, .val (gL s0), .unset, .unset, .unset] [gL 0] X M 0 0)) ∧ (¬ x3 ≤ 1 → (((0 : Int) ≤ x2 + 1 ∧ x2 + 1 < 1200) ∧ (g64 (M (o + 36) (Int.toNat (x2 + 1))) → (wp l G y_GM_function (gRm (d + 1)) true (kkV X k) true 33 [.val (gR G o), .val (gI x1), .val (gI x2), .unset, .val (gL s0), .unset, .unset, .unset] [gL (M (o + 36) (Int.toNat (x2 + 1)))] X M 0 0))))) : wp l G y_GM_function (gRm (d + 1)) true (kkV X k) true 14 [.val (gR G o), .val (gI x1), .val (gI x2), .val (gI x3), .unset, .unset, .unset, .unset] [gL s0] X M 0 0 := by
  refine wp_lstore (L' := [.val (gR G o), .val (gI x1), .val (gI x2), .val (gI x3), .val (gL s0), .unset, .unset, .unset]) d_GM_function_14 (by decide) rfl ?_
  refine wp_iload_n d_GM_function_16 rfl rfl ?_
  refine wp_iconst d_GM_function_17 ?_
  refine xi_le (tgt := 32) d_GM_function_18 (by decide) (w32_id hx3) (w32_id (g32_c (x := 1) rfl)) (fun h4 => ?_) (fun h4 => ?_)
  · have T := T.1 h4
    refine wp_lconst0 d_GM_function_32 ?_
    exact wp_md (wpt T (And.intro rfl (And.intro rfl (And.intro rfl (And.intro rfl True.intro)))))
  · have T := T.2 h4
    refine wp_aload_n d_GM_function_21 rfl rfl (g_nz hX.1) ?_
    refine xgetR d_GM_function_22 gc_GM f_GM_122.1 f_GM_122.2.1 f_GM_122.2.2.1 hX.1 (gm_o2 hX) hX.2.2.1 f_GM_122.2.2.2.2.1 (gm_row hX 35 rfl).1 ?_
    refine wp_iload_n d_GM_function_25 rfl rfl ?_
    refine wp_iconst d_GM_function_26 ?_
    refine wp_iadd d_GM_function_27 ?_
    refine wp_laload d_GM_function_28 (gm_row hX 35 rfl).2.2.1 (gm_row hX 35 rfl).2.2.2 (gm_row hX 35 rfl).2.1 (g32_n T.1 (by decide)) T.1.1 T.1.2 (fun h3 => ?_)
    have T := T.2 h3
    refine wp_goto (tgt := 33) d_GM_function_29 (by decide) ?_
    exact wp_md (wpt T (And.intro rfl (And.intro rfl (And.intro rfl (And.intro rfl True.intro)))))
set_option maxHeartbeats 4000000 in
theorem w_GM_function_33 {l : Launch} {G : gG} {d : Nat} {X : gX} {M : gM} {k : gM → Prop} {o : Nat} (hX : gmX X o) {x1 : Int} (hx1 : g32 x1) {x2 : Int} (hx2 : g32 x2) {x4 : Int} (hx4 : g64 x4) {s0 : Int} (hs0 : g64 s0) (T : (x1 = 0 → (cV l G y_GM_total (gRm d) true [gR G o, gI x1] X M (fun M5 => (wp l G y_GM_function (gRm (d + 1)) true (kkV X k) true 546 [.unset, .unset, .unset, .unset, .unset, .unset, .unset, .unset] [] X M5 0 0)))) ∧ (x1 = 1 → (cV l G y_GM_total (gRm d) true [gR G o, gI x1] X M (fun M6 => (wp l G y_GM_function (gRm (d + 1)) true (kkV X k) true 546 [.unset, .unset, .unset, .unset, .unset, .unset, .unset, .unset] [] X M6 0 0)))) ∧ (x1 = 2 → (cV l G y_GM_total (gRm d) true [gR G o, gI x1] X M (fun M7 => (wp l G y_GM_function (gRm (d + 1)) true (kkV X k) true 546 [.unset, .unset, .unset, .unset, .unset, .unset, .unset, .unset] [] X M7 0 0)))) ∧ (x1 = 3 → (cV l G y_GM_total (gRm d) true [gR G o, gI x1] X M (fun M8 => (wp l G y_GM_function (gRm (d + 1)) true (kkV X k) true 546 [.unset, .unset, .unset, .unset, .unset, .unset, .unset, .unset] [] X M8 0 0)))) ∧ (x1 = 4 → (cV l G y_GM_total (gRm d) true [gR G o, gI x1] X M (fun M9 => (wp l G y_GM_function (gRm (d + 1)) true (kkV X k) true 546 [.unset, .unset, .unset, .unset, .unset, .unset, .unset, .unset] [] X M9 0 0)))) ∧ (x1 = 5 → (cV l G y_GM_total (gRm d) true [gR G o, gI x1] X M (fun M10 => (wp l G y_GM_function (gRm (d + 1)) true (kkV X k) true 546 [.unset, .unset, .unset, .unset, .unset, .unset, .unset, .unset] [] X M10 0 0)))) ∧ (x1 = 6 → (cV l G y_GM_total (gRm d) true [gR G o, gI x1] X M (fun M11 => (wp l G y_GM_function (gRm (d + 1)) true (kkV X k) true 546 [.unset, .unset, .unset, .unset, .unset, .unset, .unset, .unset] [] X M11 0 0)))) ∧ (x1 = 7 → ((¬ x4 = 1 → (wp l G y_GM_function (gRm (d + 1)) true (kkV X k) true 215 [.unset, .unset, .unset, .unset, .unset, .unset, .unset, .unset] [gR G o] X M 0 0)) ∧ (x4 = 1 → ((¬ s0 = 1 → (wp l G y_GM_function (gRm (d + 1)) true (kkV X k) true 215 [.unset, .unset, .unset, .unset, .unset, .unset, .unset, .unset] [gR G o] X M 0 0)) ∧ (s0 = 1 → (wp l G y_GM_function (gRm (d + 1)) true (kkV X k) true 216 [.unset, .unset, .unset, .unset, .unset, .unset, .unset, .unset] [gI 1, gR G o] X M 0 0)))))) ∧ (x1 = 8 → ((x4 = 1 → (wp l G y_GM_function (gRm (d + 1)) true (kkV X k) true 237 [.unset, .unset, .unset, .unset, .unset, .unset, .unset, .unset] [gR G o] X M 0 0)) ∧ (¬ x4 = 1 → ((¬ s0 = 1 → (wp l G y_GM_function (gRm (d + 1)) true (kkV X k) true 242 [.unset, .unset, .unset, .unset, .unset, .unset, .unset, .unset] [gI 0, gR G o] X M 0 0)) ∧ (s0 = 1 → (wp l G y_GM_function (gRm (d + 1)) true (kkV X k) true 237 [.unset, .unset, .unset, .unset, .unset, .unset, .unset, .unset] [gR G o] X M 0 0)))))) ∧ (x1 = 9 → ((¬ x4 = 0 → (wp l G y_GM_function (gRm (d + 1)) true (kkV X k) true 261 [.unset, .unset, .unset, .unset, .unset, .unset, .unset, .unset] [gI 0, gR G o] X M 0 0)) ∧ (x4 = 0 → (wp l G y_GM_function (gRm (d + 1)) true (kkV X k) true 261 [.unset, .unset, .unset, .unset, .unset, .unset, .unset, .unset] [gI 1, gR G o] X M 0 0)))) ∧ (x1 = 10 → ((28 ≤ x1 → (cV l G y_GM_search (gRm d) true [gR G o, gI x1, gI x2] X M (fun M17 => (wp l G y_GM_function (gRm (d + 1)) true (kkV X k) true 546 [.unset, .unset, .unset, .unset, .unset, .unset, .unset, .unset] [] X M17 0 0)))) ∧ (¬ 28 ≤ x1 → (cV l G y_GM_text (gRm d) true [gR G o, gI x1, gI x2] X M (fun M18 => (wp l G y_GM_function (gRm (d + 1)) true (kkV X k) true 546 [.unset, .unset, .unset, .unset, .unset, .unset, .unset, .unset] [] X M18 0 0)))))) ∧ (x1 = 11 → ((28 ≤ x1 → (cV l G y_GM_search (gRm d) true [gR G o, gI x1, gI x2] X M (fun M20 => (wp l G y_GM_function (gRm (d + 1)) true (kkV X k) true 546 [.unset, .unset, .unset, .unset, .unset, .unset, .unset, .unset] [] X M20 0 0)))) ∧ (¬ 28 ≤ x1 → (cV l G y_GM_text (gRm d) true [gR G o, gI x1, gI x2] X M (fun M21 => (wp l G y_GM_function (gRm (d + 1)) true (kkV X k) true 546 [.unset, .unset, .unset, .unset, .unset, .unset, .unset, .unset] [] X M21 0 0)))))) ∧ (x1 = 12 → ((28 ≤ x1 → (cV l G y_GM_search (gRm d) true [gR G o, gI x1, gI x2] X M (fun M23 => (wp l G y_GM_function (gRm (d + 1)) true (kkV X k) true 546 [.unset, .unset, .unset, .unset, .unset, .unset, .unset, .unset] [] X M23 0 0)))) ∧ (¬ 28 ≤ x1 → (cV l G y_GM_text (gRm d) true [gR G o, gI x1, gI x2] X M (fun M24 => (wp l G y_GM_function (gRm (d + 1)) true (kkV X k) true 546 [.unset, .unset, .unset, .unset, .unset, .unset, .unset, .unset] [] X M24 0 0)))))) ∧ (x1 = 13 → (((0 : Int) ≤ x2 ∧ x2 < 1200) ∧ (g32 (M (o + 34) (Int.toNat x2)) → ((¬ M (o + 34) (Int.toNat x2) = 4 → (wp l G y_GM_function (gRm (d + 1)) true (kkV X k) true 283 [.unset, .unset, .unset, .unset, .unset, .unset, .unset, .unset] [gI 0, gR G o] X M 0 0)) ∧ (M (o + 34) (Int.toNat x2) = 4 → (wp l G y_GM_function (gRm (d + 1)) true (kkV X k) true 283 [.unset, .unset, .unset, .unset, .unset, .unset, .unset, .unset] [gI 1, gR G o] X M 0 0)))))) ∧ (x1 = 14 → (((0 : Int) ≤ x2 ∧ x2 < 1200) ∧ (g32 (M (o + 34) (Int.toNat x2)) → ((¬ M (o + 34) (Int.toNat x2) = 1 → (wp l G y_GM_function (gRm (d + 1)) true (kkV X k) true 305 [.unset, .unset, .unset, .unset, .unset, .unset, .unset, .unset] [gI 0, gR G o] X M 0 0)) ∧ (M (o + 34) (Int.toNat x2) = 1 → (wp l G y_GM_function (gRm (d + 1)) true (kkV X k) true 305 [.unset, .unset, .unset, .unset, .unset, .unset, .unset, .unset] [gI 1, gR G o] X M 0 0)))))) ∧ (x1 = 15 → (((0 : Int) ≤ x2 ∧ x2 < 1200) ∧ (g32 (M (o + 34) (Int.toNat x2)) → ((¬ M (o + 34) (Int.toNat x2) = 2 → (wp l G y_GM_function (gRm (d + 1)) true (kkV X k) true 327 [.unset, .unset, .unset, .unset, .unset, .unset, .unset, .unset] [gI 0, gR G o] X M 0 0)) ∧ (M (o + 34) (Int.toNat x2) = 2 → (wp l G y_GM_function (gRm (d + 1)) true (kkV X k) true 327 [.unset, .unset, .unset, .unset, .unset, .unset, .unset, .unset] [gI 1, gR G o] X M 0 0)))))) ∧ (x1 = 16 → (((0 : Int) ≤ x2 ∧ x2 < 1200) ∧ (g32 (M (o + 34) (Int.toNat x2)) → ((¬ M (o + 34) (Int.toNat x2) = 0 → (wp l G y_GM_function (gRm (d + 1)) true (kkV X k) true 348 [.unset, .unset, .unset, .unset, .unset, .unset, .unset, .unset] [gI 0, gR G o] X M 0 0)) ∧ (M (o + 34) (Int.toNat x2) = 0 → (wp l G y_GM_function (gRm (d + 1)) true (kkV X k) true 348 [.unset, .unset, .unset, .unset, .unset, .unset, .unset, .unset] [gI 1, gR G o] X M 0 0)))))) ∧ (x1 = 17 → ((¬ x4 = (-9223372036854775808) → (cL l G y_jMath_abs_2 (gRm d) false [gL x4] X M (fun v35 M34 => (cV l G y_GM_push (gRm d) true [gR G o, gI 1, gL v35] X M34 (fun M37 => (wp l G y_GM_function (gRm (d + 1)) true (kkV X k) true 546 [.unset, .unset, .unset, .unset, .unset, .unset, .unset, .unset] [] X M37 0 0)))))) ∧ (x4 = (-9223372036854775808) → (cV l G y_GM_fault (gRm d) true [gR G o, gI 6] X M (fun M38 => (wp l G y_GM_function (gRm (d + 1)) true (kkV X k) true 546 [.unset, .unset, .unset, .unset, .unset, .unset, .unset, .unset] [] X M38 0 0)))))) ∧ (x1 = 18 → (cI l G y_jLong_signum (gRm d) false [gL x4] X M (fun v41 M40 => (cV l G y_GM_push (gRm d) true [gR G o, gI 1, gL v41] X M40 (fun M43 => (wp l G y_GM_function (gRm (d + 1)) true (kkV X k) true 546 [.unset, .unset, .unset, .unset, .unset, .unset, .unset, .unset] [] X M43 0 0)))))) ∧ (x1 = 19 → ((¬ s0 = 0 → (cL l G y_jMath_floorMod (gRm d) false [gL x4, gL s0] X M (fun v45 M44 => (cV l G y_GM_push (gRm d) true [gR G o, gI 1, gL v45] X M44 (fun M47 => (wp l G y_GM_function (gRm (d + 1)) true (kkV X k) true 546 [.unset, .unset, .unset, .unset, .unset, .unset, .unset, .unset] [] X M47 0 0)))))) ∧ (s0 = 0 → (cV l G y_GM_fault (gRm d) true [gR G o, gI 5] X M (fun M48 => (wp l G y_GM_function (gRm (d + 1)) true (kkV X k) true 546 [.unset, .unset, .unset, .unset, .unset, .unset, .unset, .unset] [] X M48 0 0)))))) ∧ (x1 = 20 → ((28 ≤ x1 → (cV l G y_GM_search (gRm d) true [gR G o, gI x1, gI x2] X M (fun M50 => (wp l G y_GM_function (gRm (d + 1)) true (kkV X k) true 546 [.unset, .unset, .unset, .unset, .unset, .unset, .unset, .unset] [] X M50 0 0)))) ∧ (¬ 28 ≤ x1 → (cV l G y_GM_text (gRm d) true [gR G o, gI x1, gI x2] X M (fun M51 => (wp l G y_GM_function (gRm (d + 1)) true (kkV X k) true 546 [.unset, .unset, .unset, .unset, .unset, .unset, .unset, .unset] [] X M51 0 0)))))) ∧ (x1 = 21 → ((28 ≤ x1 → (cV l G y_GM_search (gRm d) true [gR G o, gI x1, gI x2] X M (fun M53 => (wp l G y_GM_function (gRm (d + 1)) true (kkV X k) true 546 [.unset, .unset, .unset, .unset, .unset, .unset, .unset, .unset] [] X M53 0 0)))) ∧ (¬ 28 ≤ x1 → (cV l G y_GM_text (gRm d) true [gR G o, gI x1, gI x2] X M (fun M54 => (wp l G y_GM_function (gRm (d + 1)) true (kkV X k) true 546 [.unset, .unset, .unset, .unset, .unset, .unset, .unset, .unset] [] X M54 0 0)))))) ∧ (x1 = 22 → ((28 ≤ x1 → (cV l G y_GM_search (gRm d) true [gR G o, gI x1, gI x2] X M (fun M56 => (wp l G y_GM_function (gRm (d + 1)) true (kkV X k) true 546 [.unset, .unset, .unset, .unset, .unset, .unset, .unset, .unset] [] X M56 0 0)))) ∧ (¬ 28 ≤ x1 → (cV l G y_GM_text (gRm d) true [gR G o, gI x1, gI x2] X M (fun M57 => (wp l G y_GM_function (gRm (d + 1)) true (kkV X k) true 546 [.unset, .unset, .unset, .unset, .unset, .unset, .unset, .unset] [] X M57 0 0)))))) ∧ (x1 = 23 → ((28 ≤ x1 → (cV l G y_GM_search (gRm d) true [gR G o, gI x1, gI x2] X M (fun M59 => (wp l G y_GM_function (gRm (d + 1)) true (kkV X k) true 546 [.unset, .unset, .unset, .unset, .unset, .unset, .unset, .unset] [] X M59 0 0)))) ∧ (¬ 28 ≤ x1 → (cV l G y_GM_text (gRm d) true [gR G o, gI x1, gI x2] X M (fun M60 => (wp l G y_GM_function (gRm (d + 1)) true (kkV X k) true 546 [.unset, .unset, .unset, .unset, .unset, .unset, .unset, .unset] [] X M60 0 0)))))) ∧ (x1 = 24 → ((28 ≤ x1 → (cV l G y_GM_search (gRm d) true [gR G o, gI x1, gI x2] X M (fun M62 => (wp l G y_GM_function (gRm (d + 1)) true (kkV X k) true 546 [.unset, .unset, .unset, .unset, .unset, .unset, .unset, .unset] [] X M62 0 0)))) ∧ (¬ 28 ≤ x1 → (cV l G y_GM_text (gRm d) true [gR G o, gI x1, gI x2] X M (fun M63 => (wp l G y_GM_function (gRm (d + 1)) true (kkV X k) true 546 [.unset, .unset, .unset, .unset, .unset, .unset, .unset, .unset] [] X M63 0 0)))))) ∧ (x1 = 25 → ((28 ≤ x1 → (cV l G y_GM_search (gRm d) true [gR G o, gI x1, gI x2] X M (fun M65 => (wp l G y_GM_function (gRm (d + 1)) true (kkV X k) true 546 [.unset, .unset, .unset, .unset, .unset, .unset, .unset, .unset] [] X M65 0 0)))) ∧ (¬ 28 ≤ x1 → (cV l G y_GM_text (gRm d) true [gR G o, gI x1, gI x2] X M (fun M66 => (wp l G y_GM_function (gRm (d + 1)) true (kkV X k) true 546 [.unset, .unset, .unset, .unset, .unset, .unset, .unset, .unset] [] X M66 0 0)))))) ∧ (x1 = 26 → ((28 ≤ x1 → (cV l G y_GM_search (gRm d) true [gR G o, gI x1, gI x2] X M (fun M68 => (wp l G y_GM_function (gRm (d + 1)) true (kkV X k) true 546 [.unset, .unset, .unset, .unset, .unset, .unset, .unset, .unset] [] X M68 0 0)))) ∧ (¬ 28 ≤ x1 → (cV l G y_GM_text (gRm d) true [gR G o, gI x1, gI x2] X M (fun M69 => (wp l G y_GM_function (gRm (d + 1)) true (kkV X k) true 546 [.unset, .unset, .unset, .unset, .unset, .unset, .unset, .unset] [] X M69 0 0)))))) ∧ (x1 = 27 → ((28 ≤ x1 → (cV l G y_GM_search (gRm d) true [gR G o, gI x1, gI x2] X M (fun M71 => (wp l G y_GM_function (gRm (d + 1)) true (kkV X k) true 546 [.unset, .unset, .unset, .unset, .unset, .unset, .unset, .unset] [] X M71 0 0)))) ∧ (¬ 28 ≤ x1 → (cV l G y_GM_text (gRm d) true [gR G o, gI x1, gI x2] X M (fun M72 => (wp l G y_GM_function (gRm (d + 1)) true (kkV X k) true 546 [.unset, .unset, .unset, .unset, .unset, .unset, .unset, .unset] [] X M72 0 0)))))) ∧ (x1 = 28 → (g32 (M o 57) → (cV l G y_GM_push (gRm d) true [gR G o, gI 1, gL (w32 ((M o 57) + 1))] X M (fun M75 => (wp l G y_GM_function (gRm (d + 1)) true (kkV X k) true 546 [.unset, .unset, .unset, .unset, .unset, .unset, .unset, .unset] [] X M75 0 0))))) ∧ (x1 = 29 → (g32 (M o 56) → (cV l G y_GM_push (gRm d) true [gR G o, gI 1, gL (w32 ((M o 56) + 1))] X M (fun M77 => (wp l G y_GM_function (gRm (d + 1)) true (kkV X k) true 546 [.unset, .unset, .unset, .unset, .unset, .unset, .unset, .unset] [] X M77 0 0))))) ∧ (x1 = 30 → (g32 (M o 59) → (g32 (M o 57) → (cV l G y_GM_push (gRm d) true [gR G o, gI 1, gL (w32 (((M o 59) - (M o 57)) + 1))] X M (fun M80 => (wp l G y_GM_function (gRm (d + 1)) true (kkV X k) true 546 [.unset, .unset, .unset, .unset, .unset, .unset, .unset, .unset] [] X M80 0 0)))))) ∧ (x1 = 31 → (g32 (M o 58) → (g32 (M o 56) → (cV l G y_GM_push (gRm d) true [gR G o, gI 1, gL (w32 (((M o 58) - (M o 56)) + 1))] X M (fun M83 => (wp l G y_GM_function (gRm (d + 1)) true (kkV X k) true 546 [.unset, .unset, .unset, .unset, .unset, .unset, .unset, .unset] [] X M83 0 0)))))) ∧ (x1 = 32 → (cV l G y_GM_fault (gRm d) true [gR G o, gI 7] X M (fun M84 => (wp l G y_GM_function (gRm (d + 1)) true (kkV X k) true 546 [.unset, .unset, .unset, .unset, .unset, .unset, .unset, .unset] [] X M84 0 0)))) ∧ (x1 = 33 → (((0 : Int) ≤ x2 + 2 ∧ x2 + 2 < 1200) ∧ (g64 (M (o + 36) (Int.toNat (x2 + 2))) → (cV l G y_GM_at (gRm d) true [gR G o, gL s0, gL (M (o + 36) (Int.toNat (x2 + 2)))] X M (fun M86 => (wp l G y_GM_function (gRm (d + 1)) true (kkV X k) true 546 [.unset, .unset, .unset, .unset, .unset, .unset, .unset, .unset] [] X M86 0 0)))))) ∧ ((¬ x1 = 0 ∧ ¬ x1 = 1 ∧ ¬ x1 = 2 ∧ ¬ x1 = 3 ∧ ¬ x1 = 4 ∧ ¬ x1 = 5 ∧ ¬ x1 = 6 ∧ ¬ x1 = 7 ∧ ¬ x1 = 8 ∧ ¬ x1 = 9 ∧ ¬ x1 = 10 ∧ ¬ x1 = 11 ∧ ¬ x1 = 12 ∧ ¬ x1 = 13 ∧ ¬ x1 = 14 ∧ ¬ x1 = 15 ∧ ¬ x1 = 16 ∧ ¬ x1 = 17 ∧ ¬ x1 = 18 ∧ ¬ x1 = 19 ∧ ¬ x1 = 20 ∧ ¬ x1 = 21 ∧ ¬ x1 = 22 ∧ ¬ x1 = 23 ∧ ¬ x1 = 24 ∧ ¬ x1 = 25 ∧ ¬ x1 = 26 ∧ ¬ x1 = 27 ∧ ¬ x1 = 28 ∧ ¬ x1 = 29 ∧ ¬ x1 = 30 ∧ ¬ x1 = 31 ∧ ¬ x1 = 32 ∧ ¬ x1 = 33) → ((28 ≤ x1 → (cV l G y_GM_search (gRm d) true [gR G o, gI x1, gI x2] X M (fun M87 => (wp l G y_GM_function (gRm (d + 1)) true (kkV X k) true 546 [.unset, .unset, .unset, .unset, .unset, .unset, .unset, .unset] [] X M87 0 0)))) ∧ (¬ 28 ≤ x1 → (cV l G y_GM_text (gRm d) true [gR G o, gI x1, gI x2] X M (fun M88 => (wp l G y_GM_function (gRm (d + 1)) true (kkV X k) true 546 [.unset, .unset, .unset, .unset, .unset, .unset, .unset, .unset] [] X M88 0 0))))))) : wp l G y_GM_function (gRm (d + 1)) true (kkV X k) true 33 [.val (gR G o), .val (gI x1), .val (gI x2), .unset, .val (gL x4), .unset, .unset, .unset] [gL s0] X M 0 0 := by
  refine wp_lstore (L' := [.val (gR G o), .val (gI x1), .val (gI x2), .unset, .val (gL x4), .unset, .val (gL s0), .unset]) d_GM_function_33 (by decide) rfl ?_
  refine wp_iload_n d_GM_function_35 rfl rfl ?_
  obtain ⟨T0, T1, T2, T3, T4, T5, T6, T7, T8, T9, T10, T11, T12, T13, T14, T15, T16, T17, T18, T19, T20, T21, T22, T23, T24, T25, T26, T27, T28, T29, T30, T31, T32, T33, T34⟩ := T
  by_cases hc0 : x1 = 0
  · refine xtabIn (tgt := 188) d_GM_function_36 (w32_id hx1) 0 hc0 rfl rfl (by decide) ?_
    have T := T0 hc0
    refine wp_aload_n d_GM_function_188 rfl rfl (g_nz hX.1) ?_
    refine wp_iload_n d_GM_function_189 rfl rfl ?_
    refine xcV_V (md' := true) (As := [gI x1]) (st := []) d_GM_function_190 ca_GM_total ml_GM_424 im_GM_total se_GM_total gc_GM hX.1 (gm_o2 hX) hX.2.2.1 rfl (by decide) (by decide) rfl (fun _ => rfl) (fun _ => rfl) T (fun M5 T => ?_)
    refine wp_goto (tgt := 546) d_GM_function_193 (by decide) ?_
    exact wp_md (wpt T True.intro)
  by_cases hc1 : x1 = 1
  · refine xtabIn (tgt := 188) d_GM_function_36 (w32_id hx1) 1 hc1 rfl rfl (by decide) ?_
    have T := T1 hc1
    refine wp_aload_n d_GM_function_188 rfl rfl (g_nz hX.1) ?_
    refine wp_iload_n d_GM_function_189 rfl rfl ?_
    refine xcV_V (md' := true) (As := [gI x1]) (st := []) d_GM_function_190 ca_GM_total ml_GM_424 im_GM_total se_GM_total gc_GM hX.1 (gm_o2 hX) hX.2.2.1 rfl (by decide) (by decide) rfl (fun _ => rfl) (fun _ => rfl) T (fun M6 T => ?_)
    refine wp_goto (tgt := 546) d_GM_function_193 (by decide) ?_
    exact wp_md (wpt T True.intro)
  by_cases hc2 : x1 = 2
  · refine xtabIn (tgt := 188) d_GM_function_36 (w32_id hx1) 2 hc2 rfl rfl (by decide) ?_
    have T := T2 hc2
    refine wp_aload_n d_GM_function_188 rfl rfl (g_nz hX.1) ?_
    refine wp_iload_n d_GM_function_189 rfl rfl ?_
    refine xcV_V (md' := true) (As := [gI x1]) (st := []) d_GM_function_190 ca_GM_total ml_GM_424 im_GM_total se_GM_total gc_GM hX.1 (gm_o2 hX) hX.2.2.1 rfl (by decide) (by decide) rfl (fun _ => rfl) (fun _ => rfl) T (fun M7 T => ?_)
    refine wp_goto (tgt := 546) d_GM_function_193 (by decide) ?_
    exact wp_md (wpt T True.intro)
  by_cases hc3 : x1 = 3
  · refine xtabIn (tgt := 188) d_GM_function_36 (w32_id hx1) 3 hc3 rfl rfl (by decide) ?_
    have T := T3 hc3
    refine wp_aload_n d_GM_function_188 rfl rfl (g_nz hX.1) ?_
    refine wp_iload_n d_GM_function_189 rfl rfl ?_
    refine xcV_V (md' := true) (As := [gI x1]) (st := []) d_GM_function_190 ca_GM_total ml_GM_424 im_GM_total se_GM_total gc_GM hX.1 (gm_o2 hX) hX.2.2.1 rfl (by decide) (by decide) rfl (fun _ => rfl) (fun _ => rfl) T (fun M8 T => ?_)
    refine wp_goto (tgt := 546) d_GM_function_193 (by decide) ?_
    exact wp_md (wpt T True.intro)
  by_cases hc4 : x1 = 4
  · refine xtabIn (tgt := 188) d_GM_function_36 (w32_id hx1) 4 hc4 rfl rfl (by decide) ?_
    have T := T4 hc4
    refine wp_aload_n d_GM_function_188 rfl rfl (g_nz hX.1) ?_
    refine wp_iload_n d_GM_function_189 rfl rfl ?_
    refine xcV_V (md' := true) (As := [gI x1]) (st := []) d_GM_function_190 ca_GM_total ml_GM_424 im_GM_total se_GM_total gc_GM hX.1 (gm_o2 hX) hX.2.2.1 rfl (by decide) (by decide) rfl (fun _ => rfl) (fun _ => rfl) T (fun M9 T => ?_)
    refine wp_goto (tgt := 546) d_GM_function_193 (by decide) ?_
    exact wp_md (wpt T True.intro)
  by_cases hc5 : x1 = 5
  · refine xtabIn (tgt := 188) d_GM_function_36 (w32_id hx1) 5 hc5 rfl rfl (by decide) ?_
    have T := T5 hc5
    refine wp_aload_n d_GM_function_188 rfl rfl (g_nz hX.1) ?_
    refine wp_iload_n d_GM_function_189 rfl rfl ?_
    refine xcV_V (md' := true) (As := [gI x1]) (st := []) d_GM_function_190 ca_GM_total ml_GM_424 im_GM_total se_GM_total gc_GM hX.1 (gm_o2 hX) hX.2.2.1 rfl (by decide) (by decide) rfl (fun _ => rfl) (fun _ => rfl) T (fun M10 T => ?_)
    refine wp_goto (tgt := 546) d_GM_function_193 (by decide) ?_
    exact wp_md (wpt T True.intro)
  by_cases hc6 : x1 = 6
  · refine xtabIn (tgt := 188) d_GM_function_36 (w32_id hx1) 6 hc6 rfl rfl (by decide) ?_
    have T := T6 hc6
    refine wp_aload_n d_GM_function_188 rfl rfl (g_nz hX.1) ?_
    refine wp_iload_n d_GM_function_189 rfl rfl ?_
    refine xcV_V (md' := true) (As := [gI x1]) (st := []) d_GM_function_190 ca_GM_total ml_GM_424 im_GM_total se_GM_total gc_GM hX.1 (gm_o2 hX) hX.2.2.1 rfl (by decide) (by decide) rfl (fun _ => rfl) (fun _ => rfl) T (fun M11 T => ?_)
    refine wp_goto (tgt := 546) d_GM_function_193 (by decide) ?_
    exact wp_md (wpt T True.intro)
  by_cases hc7 : x1 = 7
  · refine xtabIn (tgt := 196) d_GM_function_36 (w32_id hx1) 7 hc7 rfl rfl (by decide) ?_
    have T := T7 hc7
    refine wp_aload_n d_GM_function_196 rfl rfl (g_nz hX.1) ?_
    refine wp_lload d_GM_function_197 rfl ?_
    refine wp_lconst1 d_GM_function_199 ?_
    refine xl_ne (tgt := 215) d_GM_function_200 d_GM_function_201 (by decide) (w64_id hx4) (w64_id (g64_c (x := 1) rfl)) (fun h13 => ?_) (fun h13 => ?_)
    · have T := T.1 h13
      exact wp_md (wpt T True.intro)
    · have T := T.2 h13
      refine wp_lload d_GM_function_204 rfl ?_
      refine wp_lconst1 d_GM_function_206 ?_
      refine xl_ne (tgt := 215) d_GM_function_207 d_GM_function_208 (by decide) (w64_id hs0) (w64_id (g64_c (x := 1) rfl)) (fun h12 => ?_) (fun h12 => ?_)
      · have T := T.1 h12
        exact wp_md (wpt T True.intro)
      · have T := T.2 h12
        refine wp_iconst d_GM_function_211 ?_
        refine wp_goto (tgt := 216) d_GM_function_212 (by decide) ?_
        exact wp_md (wpt T True.intro)
  by_cases hc8 : x1 = 8
  · refine xtabIn (tgt := 222) d_GM_function_36 (w32_id hx1) 8 hc8 rfl rfl (by decide) ?_
    have T := T8 hc8
    refine wp_aload_n d_GM_function_222 rfl rfl (g_nz hX.1) ?_
    refine wp_lload d_GM_function_223 rfl ?_
    refine wp_lconst1 d_GM_function_225 ?_
    refine xl_eq (tgt := 237) d_GM_function_226 d_GM_function_227 (by decide) (w64_id hx4) (w64_id (g64_c (x := 1) rfl)) (fun h15 => ?_) (fun h15 => ?_)
    · have T := T.1 h15
      exact wp_md (wpt T True.intro)
    · have T := T.2 h15
      refine wp_lload d_GM_function_230 rfl ?_
      refine wp_lconst1 d_GM_function_232 ?_
      refine xl_ne (tgt := 241) d_GM_function_233 d_GM_function_234 (by decide) (w64_id hs0) (w64_id (g64_c (x := 1) rfl)) (fun h14 => ?_) (fun h14 => ?_)
      · have T := T.1 h14
        refine wp_iconst d_GM_function_241 ?_
        exact wp_md (wpt T True.intro)
      · have T := T.2 h14
        exact wp_md (wpt T True.intro)
  by_cases hc9 : x1 = 9
  · refine xtabIn (tgt := 248) d_GM_function_36 (w32_id hx1) 9 hc9 rfl rfl (by decide) ?_
    have T := T9 hc9
    refine wp_aload_n d_GM_function_248 rfl rfl (g_nz hX.1) ?_
    refine wp_lload d_GM_function_249 rfl ?_
    refine wp_lconst0 d_GM_function_251 ?_
    refine xl_ne (tgt := 260) d_GM_function_252 d_GM_function_253 (by decide) (w64_id hx4) (w64_id (g64_c (x := 0) rfl)) (fun h16 => ?_) (fun h16 => ?_)
    · have T := T.1 h16
      refine wp_iconst d_GM_function_260 ?_
      exact wp_md (wpt T True.intro)
    · have T := T.2 h16
      refine wp_iconst d_GM_function_256 ?_
      refine wp_goto (tgt := 261) d_GM_function_257 (by decide) ?_
      exact wp_md (wpt T True.intro)
  by_cases hc10 : x1 = 10
  · refine xtabIn (tgt := 525) d_GM_function_36 (w32_id hx1) 10 hc10 rfl rfl (by decide) ?_
    have T := T10 hc10
    refine wp_iload_n d_GM_function_525 rfl rfl ?_
    refine wp_bipush d_GM_function_526 ⟨by decide, by decide⟩ ?_
    refine xi_ge (tgt := 540) d_GM_function_528 (by decide) (w32_id hx1) (w32_id (g32_c (x := 28) rfl)) (fun h19 => ?_) (fun h19 => ?_)
    · have T := T.1 h19
      refine wp_aload_n d_GM_function_540 rfl rfl (g_nz hX.1) ?_
      refine wp_iload_n d_GM_function_541 rfl rfl ?_
      refine wp_iload_n d_GM_function_542 rfl rfl ?_
      refine xcV_V (md' := true) (As := [gI x1, gI x2]) (st := []) d_GM_function_543 ca_GM_search ml_GM_448 im_GM_search se_GM_search gc_GM hX.1 (gm_o2 hX) hX.2.2.1 rfl (by decide) (by decide) rfl (fun _ => rfl) (fun _ => rfl) T (fun M17 T => ?_)
      exact wp_md (wpt T True.intro)
    · have T := T.2 h19
      refine wp_aload_n d_GM_function_531 rfl rfl (g_nz hX.1) ?_
      refine wp_iload_n d_GM_function_532 rfl rfl ?_
      refine wp_iload_n d_GM_function_533 rfl rfl ?_
      refine xcV_V (md' := true) (As := [gI x1, gI x2]) (st := []) d_GM_function_534 ca_GM_text ml_GM_445 im_GM_text se_GM_text gc_GM hX.1 (gm_o2 hX) hX.2.2.1 rfl (by decide) (by decide) rfl (fun _ => rfl) (fun _ => rfl) T (fun M18 T => ?_)
      refine wp_goto (tgt := 546) d_GM_function_537 (by decide) ?_
      exact wp_md (wpt T True.intro)
  by_cases hc11 : x1 = 11
  · refine xtabIn (tgt := 525) d_GM_function_36 (w32_id hx1) 11 hc11 rfl rfl (by decide) ?_
    have T := T11 hc11
    refine wp_iload_n d_GM_function_525 rfl rfl ?_
    refine wp_bipush d_GM_function_526 ⟨by decide, by decide⟩ ?_
    refine xi_ge (tgt := 540) d_GM_function_528 (by decide) (w32_id hx1) (w32_id (g32_c (x := 28) rfl)) (fun h22 => ?_) (fun h22 => ?_)
    · have T := T.1 h22
      refine wp_aload_n d_GM_function_540 rfl rfl (g_nz hX.1) ?_
      refine wp_iload_n d_GM_function_541 rfl rfl ?_
      refine wp_iload_n d_GM_function_542 rfl rfl ?_
      refine xcV_V (md' := true) (As := [gI x1, gI x2]) (st := []) d_GM_function_543 ca_GM_search ml_GM_448 im_GM_search se_GM_search gc_GM hX.1 (gm_o2 hX) hX.2.2.1 rfl (by decide) (by decide) rfl (fun _ => rfl) (fun _ => rfl) T (fun M20 T => ?_)
      exact wp_md (wpt T True.intro)
    · have T := T.2 h22
      refine wp_aload_n d_GM_function_531 rfl rfl (g_nz hX.1) ?_
      refine wp_iload_n d_GM_function_532 rfl rfl ?_
      refine wp_iload_n d_GM_function_533 rfl rfl ?_
      refine xcV_V (md' := true) (As := [gI x1, gI x2]) (st := []) d_GM_function_534 ca_GM_text ml_GM_445 im_GM_text se_GM_text gc_GM hX.1 (gm_o2 hX) hX.2.2.1 rfl (by decide) (by decide) rfl (fun _ => rfl) (fun _ => rfl) T (fun M21 T => ?_)
      refine wp_goto (tgt := 546) d_GM_function_537 (by decide) ?_
      exact wp_md (wpt T True.intro)
  by_cases hc12 : x1 = 12
  · refine xtabIn (tgt := 525) d_GM_function_36 (w32_id hx1) 12 hc12 rfl rfl (by decide) ?_
    have T := T12 hc12
    refine wp_iload_n d_GM_function_525 rfl rfl ?_
    refine wp_bipush d_GM_function_526 ⟨by decide, by decide⟩ ?_
    refine xi_ge (tgt := 540) d_GM_function_528 (by decide) (w32_id hx1) (w32_id (g32_c (x := 28) rfl)) (fun h25 => ?_) (fun h25 => ?_)
    · have T := T.1 h25
      refine wp_aload_n d_GM_function_540 rfl rfl (g_nz hX.1) ?_
      refine wp_iload_n d_GM_function_541 rfl rfl ?_
      refine wp_iload_n d_GM_function_542 rfl rfl ?_
      refine xcV_V (md' := true) (As := [gI x1, gI x2]) (st := []) d_GM_function_543 ca_GM_search ml_GM_448 im_GM_search se_GM_search gc_GM hX.1 (gm_o2 hX) hX.2.2.1 rfl (by decide) (by decide) rfl (fun _ => rfl) (fun _ => rfl) T (fun M23 T => ?_)
      exact wp_md (wpt T True.intro)
    · have T := T.2 h25
      refine wp_aload_n d_GM_function_531 rfl rfl (g_nz hX.1) ?_
      refine wp_iload_n d_GM_function_532 rfl rfl ?_
      refine wp_iload_n d_GM_function_533 rfl rfl ?_
      refine xcV_V (md' := true) (As := [gI x1, gI x2]) (st := []) d_GM_function_534 ca_GM_text ml_GM_445 im_GM_text se_GM_text gc_GM hX.1 (gm_o2 hX) hX.2.2.1 rfl (by decide) (by decide) rfl (fun _ => rfl) (fun _ => rfl) T (fun M24 T => ?_)
      refine wp_goto (tgt := 546) d_GM_function_537 (by decide) ?_
      exact wp_md (wpt T True.intro)
  by_cases hc13 : x1 = 13
  · refine xtabIn (tgt := 267) d_GM_function_36 (w32_id hx1) 13 hc13 rfl rfl (by decide) ?_
    have T := T13 hc13
    refine wp_aload_n d_GM_function_267 rfl rfl (g_nz hX.1) ?_
    refine wp_aload_n d_GM_function_268 rfl rfl (g_nz hX.1) ?_
    refine xgetR d_GM_function_269 gc_GM f_GM_116.1 f_GM_116.2.1 f_GM_116.2.2.1 hX.1 (gm_o2 hX) hX.2.2.1 f_GM_116.2.2.2.2.1 (gm_row hX 33 rfl).1 ?_
    refine wp_iload_n d_GM_function_272 rfl rfl ?_
    refine wp_iaload d_GM_function_273 (gm_row hX 33 rfl).2.2.1 (gm_row hX 33 rfl).2.2.2 (gm_row hX 33 rfl).2.1 (g32_n T.1 (by decide)) T.1.1 T.1.2 (fun h26 => ?_)
    have T := T.2 h26
    refine wp_iconst d_GM_function_274 ?_
    refine xi_ne (tgt := 282) d_GM_function_275 (by decide) (w32_id h26) (w32_id (g32_c (x := 4) rfl)) (fun h27 => ?_) (fun h27 => ?_)
    · have T := T.1 h27
      refine wp_iconst d_GM_function_282 ?_
      exact wp_md (wpt T True.intro)
    · have T := T.2 h27
      refine wp_iconst d_GM_function_278 ?_
      refine wp_goto (tgt := 283) d_GM_function_279 (by decide) ?_
      exact wp_md (wpt T True.intro)
  by_cases hc14 : x1 = 14
  · refine xtabIn (tgt := 289) d_GM_function_36 (w32_id hx1) 14 hc14 rfl rfl (by decide) ?_
    have T := T14 hc14
    refine wp_aload_n d_GM_function_289 rfl rfl (g_nz hX.1) ?_
    refine wp_aload_n d_GM_function_290 rfl rfl (g_nz hX.1) ?_
    refine xgetR d_GM_function_291 gc_GM f_GM_116.1 f_GM_116.2.1 f_GM_116.2.2.1 hX.1 (gm_o2 hX) hX.2.2.1 f_GM_116.2.2.2.2.1 (gm_row hX 33 rfl).1 ?_
    refine wp_iload_n d_GM_function_294 rfl rfl ?_
    refine wp_iaload d_GM_function_295 (gm_row hX 33 rfl).2.2.1 (gm_row hX 33 rfl).2.2.2 (gm_row hX 33 rfl).2.1 (g32_n T.1 (by decide)) T.1.1 T.1.2 (fun h28 => ?_)
    have T := T.2 h28
    refine wp_iconst d_GM_function_296 ?_
    refine xi_ne (tgt := 304) d_GM_function_297 (by decide) (w32_id h28) (w32_id (g32_c (x := 1) rfl)) (fun h29 => ?_) (fun h29 => ?_)
    · have T := T.1 h29
      refine wp_iconst d_GM_function_304 ?_
      exact wp_md (wpt T True.intro)
    · have T := T.2 h29
      refine wp_iconst d_GM_function_300 ?_
      refine wp_goto (tgt := 305) d_GM_function_301 (by decide) ?_
      exact wp_md (wpt T True.intro)
  by_cases hc15 : x1 = 15
  · refine xtabIn (tgt := 311) d_GM_function_36 (w32_id hx1) 15 hc15 rfl rfl (by decide) ?_
    have T := T15 hc15
    refine wp_aload_n d_GM_function_311 rfl rfl (g_nz hX.1) ?_
    refine wp_aload_n d_GM_function_312 rfl rfl (g_nz hX.1) ?_
    refine xgetR d_GM_function_313 gc_GM f_GM_116.1 f_GM_116.2.1 f_GM_116.2.2.1 hX.1 (gm_o2 hX) hX.2.2.1 f_GM_116.2.2.2.2.1 (gm_row hX 33 rfl).1 ?_
    refine wp_iload_n d_GM_function_316 rfl rfl ?_
    refine wp_iaload d_GM_function_317 (gm_row hX 33 rfl).2.2.1 (gm_row hX 33 rfl).2.2.2 (gm_row hX 33 rfl).2.1 (g32_n T.1 (by decide)) T.1.1 T.1.2 (fun h30 => ?_)
    have T := T.2 h30
    refine wp_iconst d_GM_function_318 ?_
    refine xi_ne (tgt := 326) d_GM_function_319 (by decide) (w32_id h30) (w32_id (g32_c (x := 2) rfl)) (fun h31 => ?_) (fun h31 => ?_)
    · have T := T.1 h31
      refine wp_iconst d_GM_function_326 ?_
      exact wp_md (wpt T True.intro)
    · have T := T.2 h31
      refine wp_iconst d_GM_function_322 ?_
      refine wp_goto (tgt := 327) d_GM_function_323 (by decide) ?_
      exact wp_md (wpt T True.intro)
  by_cases hc16 : x1 = 16
  · refine xtabIn (tgt := 333) d_GM_function_36 (w32_id hx1) 16 hc16 rfl rfl (by decide) ?_
    have T := T16 hc16
    refine wp_aload_n d_GM_function_333 rfl rfl (g_nz hX.1) ?_
    refine wp_aload_n d_GM_function_334 rfl rfl (g_nz hX.1) ?_
    refine xgetR d_GM_function_335 gc_GM f_GM_116.1 f_GM_116.2.1 f_GM_116.2.2.1 hX.1 (gm_o2 hX) hX.2.2.1 f_GM_116.2.2.2.2.1 (gm_row hX 33 rfl).1 ?_
    refine wp_iload_n d_GM_function_338 rfl rfl ?_
    refine wp_iaload d_GM_function_339 (gm_row hX 33 rfl).2.2.1 (gm_row hX 33 rfl).2.2.2 (gm_row hX 33 rfl).2.1 (g32_n T.1 (by decide)) T.1.1 T.1.2 (fun h32 => ?_)
    have T := T.2 h32
    refine xz_ne (tgt := 347) d_GM_function_340 (by decide) (w32_id h32) (fun h33 => ?_) (fun h33 => ?_)
    · have T := T.1 h33
      refine wp_iconst d_GM_function_347 ?_
      exact wp_md (wpt T True.intro)
    · have T := T.2 h33
      refine wp_iconst d_GM_function_343 ?_
      refine wp_goto (tgt := 348) d_GM_function_344 (by decide) ?_
      exact wp_md (wpt T True.intro)
  by_cases hc17 : x1 = 17
  · refine xtabIn (tgt := 354) d_GM_function_36 (w32_id hx1) 17 hc17 rfl rfl (by decide) ?_
    have T := T17 hc17
    refine wp_lload d_GM_function_354 rfl ?_
    refine wp_ldc2 (n := (-9223372036854775808)) d_GM_function_356 c_GM_170 rfl ?_
    refine xl_ne (tgt := 372) d_GM_function_359 d_GM_function_360 (by decide) (w64_id hx4) (w64_id (g64_c (x := (-9223372036854775808)) rfl)) (fun h39 => ?_) (fun h39 => ?_)
    · have T := T.1 h39
      refine wp_aload_n d_GM_function_372 rfl rfl (g_nz hX.1) ?_
      refine wp_iconst d_GM_function_373 ?_
      refine wp_lload d_GM_function_374 rfl ?_
      refine xcS_L (md' := true) (As := [gL x4]) (st := [gI 1, gR G o]) d_GM_function_376 ca_jMath_abs_2 ml_GM_431 sm_jMath_abs_2 rfl (by decide) (by simp only [List.map, gR_cat, gI_cat, gL_cat, List.sum_cons, List.sum_nil]; decide) rfl (fun _ => rfl) (fun _ => rfl) T (fun v35 M34 h36 T => ?_)
      refine xcV_V (md' := true) (As := [gI 1, gL v35]) (st := []) d_GM_function_379 ca_GM_push ml_GM_307 im_GM_push se_GM_push gc_GM hX.1 (gm_o2 hX) hX.2.2.1 rfl (by decide) (by decide) rfl (fun _ => rfl) (fun _ => rfl) T (fun M37 T => ?_)
      refine wp_goto (tgt := 546) d_GM_function_382 (by decide) ?_
      exact wp_md (wpt T True.intro)
    · have T := T.2 h39
      refine wp_aload_n d_GM_function_363 rfl rfl (g_nz hX.1) ?_
      refine wp_bipush d_GM_function_364 ⟨by decide, by decide⟩ ?_
      refine xcV_V (md' := true) (As := [gI 6]) (st := []) d_GM_function_366 ca_GM_fault ml_GM_314 im_GM_fault se_GM_fault gc_GM hX.1 (gm_o2 hX) hX.2.2.1 rfl (by decide) (by decide) rfl (fun _ => rfl) (fun _ => rfl) T (fun M38 T => ?_)
      refine wp_goto (tgt := 546) d_GM_function_369 (by decide) ?_
      exact wp_md (wpt T True.intro)
  by_cases hc18 : x1 = 18
  · refine xtabIn (tgt := 385) d_GM_function_36 (w32_id hx1) 18 hc18 rfl rfl (by decide) ?_
    have T := T18 hc18
    refine wp_aload_n d_GM_function_385 rfl rfl (g_nz hX.1) ?_
    refine wp_iconst d_GM_function_386 ?_
    refine wp_lload d_GM_function_387 rfl ?_
    refine xcS_I (md' := true) (As := [gL x4]) (st := [gI 1, gR G o]) d_GM_function_389 ca_jLong_signum ml_GM_435 sm_jLong_signum rfl (by decide) (by simp only [List.map, gR_cat, gI_cat, gL_cat, List.sum_cons, List.sum_nil]; decide) rfl (fun _ => rfl) (fun _ => rfl) T (fun v41 M40 h42 T => ?_)
    refine xi2l d_GM_function_392 (w32_id h42) ?_
    refine xcV_V (md' := true) (As := [gI 1, gL v41]) (st := []) d_GM_function_393 ca_GM_push ml_GM_307 im_GM_push se_GM_push gc_GM hX.1 (gm_o2 hX) hX.2.2.1 rfl (by decide) (by decide) rfl (fun _ => rfl) (fun _ => rfl) T (fun M43 T => ?_)
    refine wp_goto (tgt := 546) d_GM_function_396 (by decide) ?_
    exact wp_md (wpt T True.intro)
  by_cases hc19 : x1 = 19
  · refine xtabIn (tgt := 399) d_GM_function_36 (w32_id hx1) 19 hc19 rfl rfl (by decide) ?_
    have T := T19 hc19
    refine wp_lload d_GM_function_399 rfl ?_
    refine wp_lconst0 d_GM_function_401 ?_
    refine xl_ne (tgt := 414) d_GM_function_402 d_GM_function_403 (by decide) (w64_id hs0) (w64_id (g64_c (x := 0) rfl)) (fun h49 => ?_) (fun h49 => ?_)
    · have T := T.1 h49
      refine wp_aload_n d_GM_function_414 rfl rfl (g_nz hX.1) ?_
      refine wp_iconst d_GM_function_415 ?_
      refine wp_lload d_GM_function_416 rfl ?_
      refine wp_lload d_GM_function_418 rfl ?_
      refine xcS_L (md' := true) (As := [gL x4, gL s0]) (st := [gI 1, gR G o]) d_GM_function_420 ca_jMath_floorMod ml_GM_439 sm_jMath_floorMod rfl (by decide) (by simp only [List.map, gR_cat, gI_cat, gL_cat, List.sum_cons, List.sum_nil]; decide) rfl (fun _ => rfl) (fun _ => rfl) T (fun v45 M44 h46 T => ?_)
      refine xcV_V (md' := true) (As := [gI 1, gL v45]) (st := []) d_GM_function_423 ca_GM_push ml_GM_307 im_GM_push se_GM_push gc_GM hX.1 (gm_o2 hX) hX.2.2.1 rfl (by decide) (by decide) rfl (fun _ => rfl) (fun _ => rfl) T (fun M47 T => ?_)
      refine wp_goto (tgt := 546) d_GM_function_426 (by decide) ?_
      exact wp_md (wpt T True.intro)
    · have T := T.2 h49
      refine wp_aload_n d_GM_function_406 rfl rfl (g_nz hX.1) ?_
      refine wp_iconst d_GM_function_407 ?_
      refine xcV_V (md' := true) (As := [gI 5]) (st := []) d_GM_function_408 ca_GM_fault ml_GM_314 im_GM_fault se_GM_fault gc_GM hX.1 (gm_o2 hX) hX.2.2.1 rfl (by decide) (by decide) rfl (fun _ => rfl) (fun _ => rfl) T (fun M48 T => ?_)
      refine wp_goto (tgt := 546) d_GM_function_411 (by decide) ?_
      exact wp_md (wpt T True.intro)
  by_cases hc20 : x1 = 20
  · refine xtabIn (tgt := 525) d_GM_function_36 (w32_id hx1) 20 hc20 rfl rfl (by decide) ?_
    have T := T20 hc20
    refine wp_iload_n d_GM_function_525 rfl rfl ?_
    refine wp_bipush d_GM_function_526 ⟨by decide, by decide⟩ ?_
    refine xi_ge (tgt := 540) d_GM_function_528 (by decide) (w32_id hx1) (w32_id (g32_c (x := 28) rfl)) (fun h52 => ?_) (fun h52 => ?_)
    · have T := T.1 h52
      refine wp_aload_n d_GM_function_540 rfl rfl (g_nz hX.1) ?_
      refine wp_iload_n d_GM_function_541 rfl rfl ?_
      refine wp_iload_n d_GM_function_542 rfl rfl ?_
      refine xcV_V (md' := true) (As := [gI x1, gI x2]) (st := []) d_GM_function_543 ca_GM_search ml_GM_448 im_GM_search se_GM_search gc_GM hX.1 (gm_o2 hX) hX.2.2.1 rfl (by decide) (by decide) rfl (fun _ => rfl) (fun _ => rfl) T (fun M50 T => ?_)
      exact wp_md (wpt T True.intro)
    · have T := T.2 h52
      refine wp_aload_n d_GM_function_531 rfl rfl (g_nz hX.1) ?_
      refine wp_iload_n d_GM_function_532 rfl rfl ?_
      refine wp_iload_n d_GM_function_533 rfl rfl ?_
      refine xcV_V (md' := true) (As := [gI x1, gI x2]) (st := []) d_GM_function_534 ca_GM_text ml_GM_445 im_GM_text se_GM_text gc_GM hX.1 (gm_o2 hX) hX.2.2.1 rfl (by decide) (by decide) rfl (fun _ => rfl) (fun _ => rfl) T (fun M51 T => ?_)
      refine wp_goto (tgt := 546) d_GM_function_537 (by decide) ?_
      exact wp_md (wpt T True.intro)
  by_cases hc21 : x1 = 21
  · refine xtabIn (tgt := 525) d_GM_function_36 (w32_id hx1) 21 hc21 rfl rfl (by decide) ?_
    have T := T21 hc21
    refine wp_iload_n d_GM_function_525 rfl rfl ?_
    refine wp_bipush d_GM_function_526 ⟨by decide, by decide⟩ ?_
    refine xi_ge (tgt := 540) d_GM_function_528 (by decide) (w32_id hx1) (w32_id (g32_c (x := 28) rfl)) (fun h55 => ?_) (fun h55 => ?_)
    · have T := T.1 h55
      refine wp_aload_n d_GM_function_540 rfl rfl (g_nz hX.1) ?_
      refine wp_iload_n d_GM_function_541 rfl rfl ?_
      refine wp_iload_n d_GM_function_542 rfl rfl ?_
      refine xcV_V (md' := true) (As := [gI x1, gI x2]) (st := []) d_GM_function_543 ca_GM_search ml_GM_448 im_GM_search se_GM_search gc_GM hX.1 (gm_o2 hX) hX.2.2.1 rfl (by decide) (by decide) rfl (fun _ => rfl) (fun _ => rfl) T (fun M53 T => ?_)
      exact wp_md (wpt T True.intro)
    · have T := T.2 h55
      refine wp_aload_n d_GM_function_531 rfl rfl (g_nz hX.1) ?_
      refine wp_iload_n d_GM_function_532 rfl rfl ?_
      refine wp_iload_n d_GM_function_533 rfl rfl ?_
      refine xcV_V (md' := true) (As := [gI x1, gI x2]) (st := []) d_GM_function_534 ca_GM_text ml_GM_445 im_GM_text se_GM_text gc_GM hX.1 (gm_o2 hX) hX.2.2.1 rfl (by decide) (by decide) rfl (fun _ => rfl) (fun _ => rfl) T (fun M54 T => ?_)
      refine wp_goto (tgt := 546) d_GM_function_537 (by decide) ?_
      exact wp_md (wpt T True.intro)
  by_cases hc22 : x1 = 22
  · refine xtabIn (tgt := 525) d_GM_function_36 (w32_id hx1) 22 hc22 rfl rfl (by decide) ?_
    have T := T22 hc22
    refine wp_iload_n d_GM_function_525 rfl rfl ?_
    refine wp_bipush d_GM_function_526 ⟨by decide, by decide⟩ ?_
    refine xi_ge (tgt := 540) d_GM_function_528 (by decide) (w32_id hx1) (w32_id (g32_c (x := 28) rfl)) (fun h58 => ?_) (fun h58 => ?_)
    · have T := T.1 h58
      refine wp_aload_n d_GM_function_540 rfl rfl (g_nz hX.1) ?_
      refine wp_iload_n d_GM_function_541 rfl rfl ?_
      refine wp_iload_n d_GM_function_542 rfl rfl ?_
      refine xcV_V (md' := true) (As := [gI x1, gI x2]) (st := []) d_GM_function_543 ca_GM_search ml_GM_448 im_GM_search se_GM_search gc_GM hX.1 (gm_o2 hX) hX.2.2.1 rfl (by decide) (by decide) rfl (fun _ => rfl) (fun _ => rfl) T (fun M56 T => ?_)
      exact wp_md (wpt T True.intro)
    · have T := T.2 h58
      refine wp_aload_n d_GM_function_531 rfl rfl (g_nz hX.1) ?_
      refine wp_iload_n d_GM_function_532 rfl rfl ?_
      refine wp_iload_n d_GM_function_533 rfl rfl ?_
      refine xcV_V (md' := true) (As := [gI x1, gI x2]) (st := []) d_GM_function_534 ca_GM_text ml_GM_445 im_GM_text se_GM_text gc_GM hX.1 (gm_o2 hX) hX.2.2.1 rfl (by decide) (by decide) rfl (fun _ => rfl) (fun _ => rfl) T (fun M57 T => ?_)
      refine wp_goto (tgt := 546) d_GM_function_537 (by decide) ?_
      exact wp_md (wpt T True.intro)
  by_cases hc23 : x1 = 23
  · refine xtabIn (tgt := 525) d_GM_function_36 (w32_id hx1) 23 hc23 rfl rfl (by decide) ?_
    have T := T23 hc23
    refine wp_iload_n d_GM_function_525 rfl rfl ?_
    refine wp_bipush d_GM_function_526 ⟨by decide, by decide⟩ ?_
    refine xi_ge (tgt := 540) d_GM_function_528 (by decide) (w32_id hx1) (w32_id (g32_c (x := 28) rfl)) (fun h61 => ?_) (fun h61 => ?_)
    · have T := T.1 h61
      refine wp_aload_n d_GM_function_540 rfl rfl (g_nz hX.1) ?_
      refine wp_iload_n d_GM_function_541 rfl rfl ?_
      refine wp_iload_n d_GM_function_542 rfl rfl ?_
      refine xcV_V (md' := true) (As := [gI x1, gI x2]) (st := []) d_GM_function_543 ca_GM_search ml_GM_448 im_GM_search se_GM_search gc_GM hX.1 (gm_o2 hX) hX.2.2.1 rfl (by decide) (by decide) rfl (fun _ => rfl) (fun _ => rfl) T (fun M59 T => ?_)
      exact wp_md (wpt T True.intro)
    · have T := T.2 h61
      refine wp_aload_n d_GM_function_531 rfl rfl (g_nz hX.1) ?_
      refine wp_iload_n d_GM_function_532 rfl rfl ?_
      refine wp_iload_n d_GM_function_533 rfl rfl ?_
      refine xcV_V (md' := true) (As := [gI x1, gI x2]) (st := []) d_GM_function_534 ca_GM_text ml_GM_445 im_GM_text se_GM_text gc_GM hX.1 (gm_o2 hX) hX.2.2.1 rfl (by decide) (by decide) rfl (fun _ => rfl) (fun _ => rfl) T (fun M60 T => ?_)
      refine wp_goto (tgt := 546) d_GM_function_537 (by decide) ?_
      exact wp_md (wpt T True.intro)
  by_cases hc24 : x1 = 24
  · refine xtabIn (tgt := 525) d_GM_function_36 (w32_id hx1) 24 hc24 rfl rfl (by decide) ?_
    have T := T24 hc24
    refine wp_iload_n d_GM_function_525 rfl rfl ?_
    refine wp_bipush d_GM_function_526 ⟨by decide, by decide⟩ ?_
    refine xi_ge (tgt := 540) d_GM_function_528 (by decide) (w32_id hx1) (w32_id (g32_c (x := 28) rfl)) (fun h64 => ?_) (fun h64 => ?_)
    · have T := T.1 h64
      refine wp_aload_n d_GM_function_540 rfl rfl (g_nz hX.1) ?_
      refine wp_iload_n d_GM_function_541 rfl rfl ?_
      refine wp_iload_n d_GM_function_542 rfl rfl ?_
      refine xcV_V (md' := true) (As := [gI x1, gI x2]) (st := []) d_GM_function_543 ca_GM_search ml_GM_448 im_GM_search se_GM_search gc_GM hX.1 (gm_o2 hX) hX.2.2.1 rfl (by decide) (by decide) rfl (fun _ => rfl) (fun _ => rfl) T (fun M62 T => ?_)
      exact wp_md (wpt T True.intro)
    · have T := T.2 h64
      refine wp_aload_n d_GM_function_531 rfl rfl (g_nz hX.1) ?_
      refine wp_iload_n d_GM_function_532 rfl rfl ?_
      refine wp_iload_n d_GM_function_533 rfl rfl ?_
      refine xcV_V (md' := true) (As := [gI x1, gI x2]) (st := []) d_GM_function_534 ca_GM_text ml_GM_445 im_GM_text se_GM_text gc_GM hX.1 (gm_o2 hX) hX.2.2.1 rfl (by decide) (by decide) rfl (fun _ => rfl) (fun _ => rfl) T (fun M63 T => ?_)
      refine wp_goto (tgt := 546) d_GM_function_537 (by decide) ?_
      exact wp_md (wpt T True.intro)
  by_cases hc25 : x1 = 25
  · refine xtabIn (tgt := 525) d_GM_function_36 (w32_id hx1) 25 hc25 rfl rfl (by decide) ?_
    have T := T25 hc25
    refine wp_iload_n d_GM_function_525 rfl rfl ?_
    refine wp_bipush d_GM_function_526 ⟨by decide, by decide⟩ ?_
    refine xi_ge (tgt := 540) d_GM_function_528 (by decide) (w32_id hx1) (w32_id (g32_c (x := 28) rfl)) (fun h67 => ?_) (fun h67 => ?_)
    · have T := T.1 h67
      refine wp_aload_n d_GM_function_540 rfl rfl (g_nz hX.1) ?_
      refine wp_iload_n d_GM_function_541 rfl rfl ?_
      refine wp_iload_n d_GM_function_542 rfl rfl ?_
      refine xcV_V (md' := true) (As := [gI x1, gI x2]) (st := []) d_GM_function_543 ca_GM_search ml_GM_448 im_GM_search se_GM_search gc_GM hX.1 (gm_o2 hX) hX.2.2.1 rfl (by decide) (by decide) rfl (fun _ => rfl) (fun _ => rfl) T (fun M65 T => ?_)
      exact wp_md (wpt T True.intro)
    · have T := T.2 h67
      refine wp_aload_n d_GM_function_531 rfl rfl (g_nz hX.1) ?_
      refine wp_iload_n d_GM_function_532 rfl rfl ?_
      refine wp_iload_n d_GM_function_533 rfl rfl ?_
      refine xcV_V (md' := true) (As := [gI x1, gI x2]) (st := []) d_GM_function_534 ca_GM_text ml_GM_445 im_GM_text se_GM_text gc_GM hX.1 (gm_o2 hX) hX.2.2.1 rfl (by decide) (by decide) rfl (fun _ => rfl) (fun _ => rfl) T (fun M66 T => ?_)
      refine wp_goto (tgt := 546) d_GM_function_537 (by decide) ?_
      exact wp_md (wpt T True.intro)
  by_cases hc26 : x1 = 26
  · refine xtabIn (tgt := 525) d_GM_function_36 (w32_id hx1) 26 hc26 rfl rfl (by decide) ?_
    have T := T26 hc26
    refine wp_iload_n d_GM_function_525 rfl rfl ?_
    refine wp_bipush d_GM_function_526 ⟨by decide, by decide⟩ ?_
    refine xi_ge (tgt := 540) d_GM_function_528 (by decide) (w32_id hx1) (w32_id (g32_c (x := 28) rfl)) (fun h70 => ?_) (fun h70 => ?_)
    · have T := T.1 h70
      refine wp_aload_n d_GM_function_540 rfl rfl (g_nz hX.1) ?_
      refine wp_iload_n d_GM_function_541 rfl rfl ?_
      refine wp_iload_n d_GM_function_542 rfl rfl ?_
      refine xcV_V (md' := true) (As := [gI x1, gI x2]) (st := []) d_GM_function_543 ca_GM_search ml_GM_448 im_GM_search se_GM_search gc_GM hX.1 (gm_o2 hX) hX.2.2.1 rfl (by decide) (by decide) rfl (fun _ => rfl) (fun _ => rfl) T (fun M68 T => ?_)
      exact wp_md (wpt T True.intro)
    · have T := T.2 h70
      refine wp_aload_n d_GM_function_531 rfl rfl (g_nz hX.1) ?_
      refine wp_iload_n d_GM_function_532 rfl rfl ?_
      refine wp_iload_n d_GM_function_533 rfl rfl ?_
      refine xcV_V (md' := true) (As := [gI x1, gI x2]) (st := []) d_GM_function_534 ca_GM_text ml_GM_445 im_GM_text se_GM_text gc_GM hX.1 (gm_o2 hX) hX.2.2.1 rfl (by decide) (by decide) rfl (fun _ => rfl) (fun _ => rfl) T (fun M69 T => ?_)
      refine wp_goto (tgt := 546) d_GM_function_537 (by decide) ?_
      exact wp_md (wpt T True.intro)
  by_cases hc27 : x1 = 27
  · refine xtabIn (tgt := 525) d_GM_function_36 (w32_id hx1) 27 hc27 rfl rfl (by decide) ?_
    have T := T27 hc27
    refine wp_iload_n d_GM_function_525 rfl rfl ?_
    refine wp_bipush d_GM_function_526 ⟨by decide, by decide⟩ ?_
    refine xi_ge (tgt := 540) d_GM_function_528 (by decide) (w32_id hx1) (w32_id (g32_c (x := 28) rfl)) (fun h73 => ?_) (fun h73 => ?_)
    · have T := T.1 h73
      refine wp_aload_n d_GM_function_540 rfl rfl (g_nz hX.1) ?_
      refine wp_iload_n d_GM_function_541 rfl rfl ?_
      refine wp_iload_n d_GM_function_542 rfl rfl ?_
      refine xcV_V (md' := true) (As := [gI x1, gI x2]) (st := []) d_GM_function_543 ca_GM_search ml_GM_448 im_GM_search se_GM_search gc_GM hX.1 (gm_o2 hX) hX.2.2.1 rfl (by decide) (by decide) rfl (fun _ => rfl) (fun _ => rfl) T (fun M71 T => ?_)
      exact wp_md (wpt T True.intro)
    · have T := T.2 h73
      refine wp_aload_n d_GM_function_531 rfl rfl (g_nz hX.1) ?_
      refine wp_iload_n d_GM_function_532 rfl rfl ?_
      refine wp_iload_n d_GM_function_533 rfl rfl ?_
      refine xcV_V (md' := true) (As := [gI x1, gI x2]) (st := []) d_GM_function_534 ca_GM_text ml_GM_445 im_GM_text se_GM_text gc_GM hX.1 (gm_o2 hX) hX.2.2.1 rfl (by decide) (by decide) rfl (fun _ => rfl) (fun _ => rfl) T (fun M72 T => ?_)
      refine wp_goto (tgt := 546) d_GM_function_537 (by decide) ?_
      exact wp_md (wpt T True.intro)
  by_cases hc28 : x1 = 28
  · refine xtabIn (tgt := 429) d_GM_function_36 (w32_id hx1) 28 hc28 rfl rfl (by decide) ?_
    have T := T28 hc28
    refine wp_aload_n d_GM_function_429 rfl rfl (g_nz hX.1) ?_
    refine wp_iconst d_GM_function_430 ?_
    refine wp_aload_n d_GM_function_431 rfl rfl (g_nz hX.1) ?_
    refine xgetI d_GM_function_432 gc_GM f_GM_418.1 f_GM_418.2.1 f_GM_418.2.2.1 hX.1 (gm_o2 hX) hX.2.2.1 f_GM_418.2.2.2.2.1 (fun h74 => ?_)
    have T := T h74
    refine wp_iconst d_GM_function_435 ?_
    refine wp_iadd d_GM_function_436 ?_
    refine xi2l d_GM_function_437 rfl ?_
    refine xcV_V (md' := true) (As := [gI 1, gL (w32 ((M o 57) + 1))]) (st := []) d_GM_function_438 ca_GM_push ml_GM_307 im_GM_push se_GM_push gc_GM hX.1 (gm_o2 hX) hX.2.2.1 rfl (by decide) (by decide) rfl (fun _ => rfl) (fun _ => rfl) T (fun M75 T => ?_)
    refine wp_goto (tgt := 546) d_GM_function_441 (by decide) ?_
    exact wp_md (wpt T True.intro)
  by_cases hc29 : x1 = 29
  · refine xtabIn (tgt := 444) d_GM_function_36 (w32_id hx1) 29 hc29 rfl rfl (by decide) ?_
    have T := T29 hc29
    refine wp_aload_n d_GM_function_444 rfl rfl (g_nz hX.1) ?_
    refine wp_iconst d_GM_function_445 ?_
    refine wp_aload_n d_GM_function_446 rfl rfl (g_nz hX.1) ?_
    refine xgetI d_GM_function_447 gc_GM f_GM_412.1 f_GM_412.2.1 f_GM_412.2.2.1 hX.1 (gm_o2 hX) hX.2.2.1 f_GM_412.2.2.2.2.1 (fun h76 => ?_)
    have T := T h76
    refine wp_iconst d_GM_function_450 ?_
    refine wp_iadd d_GM_function_451 ?_
    refine xi2l d_GM_function_452 rfl ?_
    refine xcV_V (md' := true) (As := [gI 1, gL (w32 ((M o 56) + 1))]) (st := []) d_GM_function_453 ca_GM_push ml_GM_307 im_GM_push se_GM_push gc_GM hX.1 (gm_o2 hX) hX.2.2.1 rfl (by decide) (by decide) rfl (fun _ => rfl) (fun _ => rfl) T (fun M77 T => ?_)
    refine wp_goto (tgt := 546) d_GM_function_456 (by decide) ?_
    exact wp_md (wpt T True.intro)
  by_cases hc30 : x1 = 30
  · refine xtabIn (tgt := 459) d_GM_function_36 (w32_id hx1) 30 hc30 rfl rfl (by decide) ?_
    have T := T30 hc30
    refine wp_aload_n d_GM_function_459 rfl rfl (g_nz hX.1) ?_
    refine wp_iconst d_GM_function_460 ?_
    refine wp_aload_n d_GM_function_461 rfl rfl (g_nz hX.1) ?_
    refine xgetI d_GM_function_462 gc_GM f_GM_421.1 f_GM_421.2.1 f_GM_421.2.2.1 hX.1 (gm_o2 hX) hX.2.2.1 f_GM_421.2.2.2.2.1 (fun h78 => ?_)
    have T := T h78
    refine wp_aload_n d_GM_function_465 rfl rfl (g_nz hX.1) ?_
    refine xgetI d_GM_function_466 gc_GM f_GM_418.1 f_GM_418.2.1 f_GM_418.2.2.1 hX.1 (gm_o2 hX) hX.2.2.1 f_GM_418.2.2.2.2.1 (fun h79 => ?_)
    have T := T h79
    refine wp_isub d_GM_function_469 ?_
    refine wp_iconst d_GM_function_470 ?_
    refine wp_iadd d_GM_function_471 ?_
    refine xi2l d_GM_function_472 rfl ?_
    refine xcV_V (md' := true) (As := [gI 1, gL (w32 (((M o 59) - (M o 57)) + 1))]) (st := []) d_GM_function_473 ca_GM_push ml_GM_307 im_GM_push se_GM_push gc_GM hX.1 (gm_o2 hX) hX.2.2.1 rfl (by decide) (by decide) rfl (fun _ => rfl) (fun _ => rfl) T (fun M80 T => ?_)
    refine wp_goto (tgt := 546) d_GM_function_476 (by decide) ?_
    exact wp_md (wpt T True.intro)
  by_cases hc31 : x1 = 31
  · refine xtabIn (tgt := 479) d_GM_function_36 (w32_id hx1) 31 hc31 rfl rfl (by decide) ?_
    have T := T31 hc31
    refine wp_aload_n d_GM_function_479 rfl rfl (g_nz hX.1) ?_
    refine wp_iconst d_GM_function_480 ?_
    refine wp_aload_n d_GM_function_481 rfl rfl (g_nz hX.1) ?_
    refine xgetI d_GM_function_482 gc_GM f_GM_415.1 f_GM_415.2.1 f_GM_415.2.2.1 hX.1 (gm_o2 hX) hX.2.2.1 f_GM_415.2.2.2.2.1 (fun h81 => ?_)
    have T := T h81
    refine wp_aload_n d_GM_function_485 rfl rfl (g_nz hX.1) ?_
    refine xgetI d_GM_function_486 gc_GM f_GM_412.1 f_GM_412.2.1 f_GM_412.2.2.1 hX.1 (gm_o2 hX) hX.2.2.1 f_GM_412.2.2.2.2.1 (fun h82 => ?_)
    have T := T h82
    refine wp_isub d_GM_function_489 ?_
    refine wp_iconst d_GM_function_490 ?_
    refine wp_iadd d_GM_function_491 ?_
    refine xi2l d_GM_function_492 rfl ?_
    refine xcV_V (md' := true) (As := [gI 1, gL (w32 (((M o 58) - (M o 56)) + 1))]) (st := []) d_GM_function_493 ca_GM_push ml_GM_307 im_GM_push se_GM_push gc_GM hX.1 (gm_o2 hX) hX.2.2.1 rfl (by decide) (by decide) rfl (fun _ => rfl) (fun _ => rfl) T (fun M83 T => ?_)
    refine wp_goto (tgt := 546) d_GM_function_496 (by decide) ?_
    exact wp_md (wpt T True.intro)
  by_cases hc32 : x1 = 32
  · refine xtabIn (tgt := 499) d_GM_function_36 (w32_id hx1) 32 hc32 rfl rfl (by decide) ?_
    have T := T32 hc32
    refine wp_aload_n d_GM_function_499 rfl rfl (g_nz hX.1) ?_
    refine wp_bipush d_GM_function_500 ⟨by decide, by decide⟩ ?_
    refine xcV_V (md' := true) (As := [gI 7]) (st := []) d_GM_function_502 ca_GM_fault ml_GM_314 im_GM_fault se_GM_fault gc_GM hX.1 (gm_o2 hX) hX.2.2.1 rfl (by decide) (by decide) rfl (fun _ => rfl) (fun _ => rfl) T (fun M84 T => ?_)
    refine wp_goto (tgt := 546) d_GM_function_505 (by decide) ?_
    exact wp_md (wpt T True.intro)
  by_cases hc33 : x1 = 33
  · refine xtabIn (tgt := 508) d_GM_function_36 (w32_id hx1) 33 hc33 rfl rfl (by decide) ?_
    have T := T33 hc33
    refine wp_aload_n d_GM_function_508 rfl rfl (g_nz hX.1) ?_
    refine wp_lload d_GM_function_509 rfl ?_
    refine wp_aload_n d_GM_function_511 rfl rfl (g_nz hX.1) ?_
    refine xgetR d_GM_function_512 gc_GM f_GM_122.1 f_GM_122.2.1 f_GM_122.2.2.1 hX.1 (gm_o2 hX) hX.2.2.1 f_GM_122.2.2.2.2.1 (gm_row hX 35 rfl).1 ?_
    refine wp_iload_n d_GM_function_515 rfl rfl ?_
    refine wp_iconst d_GM_function_516 ?_
    refine wp_iadd d_GM_function_517 ?_
    refine wp_laload d_GM_function_518 (gm_row hX 35 rfl).2.2.1 (gm_row hX 35 rfl).2.2.2 (gm_row hX 35 rfl).2.1 (g32_n T.1 (by decide)) T.1.1 T.1.2 (fun h85 => ?_)
    have T := T.2 h85
    refine xcV_V (md' := true) (As := [gL s0, gL (M (o + 36) (Int.toNat (x2 + 2)))]) (st := []) d_GM_function_519 ca_GM_at ml_GM_443 im_GM_at se_GM_at gc_GM hX.1 (gm_o2 hX) hX.2.2.1 rfl (by decide) (by decide) rfl (fun _ => rfl) (fun _ => rfl) T (fun M86 T => ?_)
    refine wp_goto (tgt := 546) d_GM_function_522 (by decide) ?_
    exact wp_md (wpt T True.intro)
  refine xtabOut (tgt := 525) d_GM_function_36 (w32_id hx1) (by omega) (by decide) ?_
  have T := T34 ⟨hc0, hc1, hc2, hc3, hc4, hc5, hc6, hc7, hc8, hc9, hc10, hc11, hc12, hc13, hc14, hc15, hc16, hc17, hc18, hc19, hc20, hc21, hc22, hc23, hc24, hc25, hc26, hc27, hc28, hc29, hc30, hc31, hc32, hc33⟩
  refine wp_iload_n d_GM_function_525 rfl rfl ?_
  refine wp_bipush d_GM_function_526 ⟨by decide, by decide⟩ ?_
  refine xi_ge (tgt := 540) d_GM_function_528 (by decide) (w32_id hx1) (w32_id (g32_c (x := 28) rfl)) (fun h89 => ?_) (fun h89 => ?_)
  · have T := T.1 h89
    refine wp_aload_n d_GM_function_540 rfl rfl (g_nz hX.1) ?_
    refine wp_iload_n d_GM_function_541 rfl rfl ?_
    refine wp_iload_n d_GM_function_542 rfl rfl ?_
    refine xcV_V (md' := true) (As := [gI x1, gI x2]) (st := []) d_GM_function_543 ca_GM_search ml_GM_448 im_GM_search se_GM_search gc_GM hX.1 (gm_o2 hX) hX.2.2.1 rfl (by decide) (by decide) rfl (fun _ => rfl) (fun _ => rfl) T (fun M87 T => ?_)
    exact wp_md (wpt T True.intro)
  · have T := T.2 h89
    refine wp_aload_n d_GM_function_531 rfl rfl (g_nz hX.1) ?_
    refine wp_iload_n d_GM_function_532 rfl rfl ?_
    refine wp_iload_n d_GM_function_533 rfl rfl ?_
    refine xcV_V (md' := true) (As := [gI x1, gI x2]) (st := []) d_GM_function_534 ca_GM_text ml_GM_445 im_GM_text se_GM_text gc_GM hX.1 (gm_o2 hX) hX.2.2.1 rfl (by decide) (by decide) rfl (fun _ => rfl) (fun _ => rfl) T (fun M88 T => ?_)
    refine wp_goto (tgt := 546) d_GM_function_537 (by decide) ?_
    exact wp_md (wpt T True.intro)
set_option maxHeartbeats 4000000 in
theorem w_GM_function_546 {l : Launch} {G : gG} {d : Nat} {X : gX} {M : gM} {k : gM → Prop} {o : Nat} (hX : gmX X o)  (T : k M) : wp l G y_GM_function (gRm (d + 1)) true (kkV X k) true 546 [.unset, .unset, .unset, .unset, .unset, .unset, .unset, .unset] [] X M 0 0 := by
  exact wp_return d_GM_function_546 rfl (fun _ => rfl) (Nat.zero_le _) (Nat.zero_le _) (kV_mk T)
set_option maxHeartbeats 4000000 in
theorem w_GM_function_215 {l : Launch} {G : gG} {d : Nat} {X : gX} {M : gM} {k : gM → Prop} {o : Nat} (hX : gmX X o)  (T : wp l G y_GM_function (gRm (d + 1)) true (kkV X k) true 216 [.unset, .unset, .unset, .unset, .unset, .unset, .unset, .unset] [gI 0, gR G o] X M 0 0) : wp l G y_GM_function (gRm (d + 1)) true (kkV X k) true 215 [.unset, .unset, .unset, .unset, .unset, .unset, .unset, .unset] [gR G o] X M 0 0 := by
  refine wp_iconst d_GM_function_215 ?_
  exact wp_md (wpt T True.intro)
set_option maxHeartbeats 4000000 in
theorem w_GM_function_216 {l : Launch} {G : gG} {d : Nat} {X : gX} {M : gM} {k : gM → Prop} {o : Nat} (hX : gmX X o) {s0 : Int} (hs0 : g32 s0) (T : cV l G y_GM_yes (gRm d) true [gR G o, gI s0] X M (fun M90 => (wp l G y_GM_function (gRm (d + 1)) true (kkV X k) true 546 [.unset, .unset, .unset, .unset, .unset, .unset, .unset, .unset] [] X M90 0 0))) : wp l G y_GM_function (gRm (d + 1)) true (kkV X k) true 216 [.unset, .unset, .unset, .unset, .unset, .unset, .unset, .unset] [gI s0, gR G o] X M 0 0 := by
  refine xcV_V (md' := true) (As := [gI s0]) (st := []) d_GM_function_216 ca_GM_yes ml_GM_427 im_GM_yes se_GM_yes gc_GM hX.1 (gm_o2 hX) hX.2.2.1 rfl (by decide) (by decide) rfl (fun _ => rfl) (fun _ => rfl) T (fun M90 T => ?_)
  refine wp_goto (tgt := 546) d_GM_function_219 (by decide) ?_
  exact wp_md (wpt T True.intro)
set_option maxHeartbeats 4000000 in
theorem w_GM_function_237 {l : Launch} {G : gG} {d : Nat} {X : gX} {M : gM} {k : gM → Prop} {o : Nat} (hX : gmX X o)  (T : wp l G y_GM_function (gRm (d + 1)) true (kkV X k) true 242 [.unset, .unset, .unset, .unset, .unset, .unset, .unset, .unset] [gI 1, gR G o] X M 0 0) : wp l G y_GM_function (gRm (d + 1)) true (kkV X k) true 237 [.unset, .unset, .unset, .unset, .unset, .unset, .unset, .unset] [gR G o] X M 0 0 := by
  refine wp_iconst d_GM_function_237 ?_
  refine wp_goto (tgt := 242) d_GM_function_238 (by decide) ?_
  exact wp_md (wpt T True.intro)
set_option maxHeartbeats 4000000 in
theorem w_GM_function_242 {l : Launch} {G : gG} {d : Nat} {X : gX} {M : gM} {k : gM → Prop} {o : Nat} (hX : gmX X o) {s0 : Int} (hs0 : g32 s0) (T : cV l G y_GM_yes (gRm d) true [gR G o, gI s0] X M (fun M91 => (wp l G y_GM_function (gRm (d + 1)) true (kkV X k) true 546 [.unset, .unset, .unset, .unset, .unset, .unset, .unset, .unset] [] X M91 0 0))) : wp l G y_GM_function (gRm (d + 1)) true (kkV X k) true 242 [.unset, .unset, .unset, .unset, .unset, .unset, .unset, .unset] [gI s0, gR G o] X M 0 0 := by
  refine xcV_V (md' := true) (As := [gI s0]) (st := []) d_GM_function_242 ca_GM_yes ml_GM_427 im_GM_yes se_GM_yes gc_GM hX.1 (gm_o2 hX) hX.2.2.1 rfl (by decide) (by decide) rfl (fun _ => rfl) (fun _ => rfl) T (fun M91 T => ?_)
  refine wp_goto (tgt := 546) d_GM_function_245 (by decide) ?_
  exact wp_md (wpt T True.intro)
set_option maxHeartbeats 4000000 in
theorem w_GM_function_261 {l : Launch} {G : gG} {d : Nat} {X : gX} {M : gM} {k : gM → Prop} {o : Nat} (hX : gmX X o) {s0 : Int} (hs0 : g32 s0) (T : cV l G y_GM_yes (gRm d) true [gR G o, gI s0] X M (fun M92 => (wp l G y_GM_function (gRm (d + 1)) true (kkV X k) true 546 [.unset, .unset, .unset, .unset, .unset, .unset, .unset, .unset] [] X M92 0 0))) : wp l G y_GM_function (gRm (d + 1)) true (kkV X k) true 261 [.unset, .unset, .unset, .unset, .unset, .unset, .unset, .unset] [gI s0, gR G o] X M 0 0 := by
  refine xcV_V (md' := true) (As := [gI s0]) (st := []) d_GM_function_261 ca_GM_yes ml_GM_427 im_GM_yes se_GM_yes gc_GM hX.1 (gm_o2 hX) hX.2.2.1 rfl (by decide) (by decide) rfl (fun _ => rfl) (fun _ => rfl) T (fun M92 T => ?_)
  refine wp_goto (tgt := 546) d_GM_function_264 (by decide) ?_
  exact wp_md (wpt T True.intro)
set_option maxHeartbeats 4000000 in
theorem w_GM_function_283 {l : Launch} {G : gG} {d : Nat} {X : gX} {M : gM} {k : gM → Prop} {o : Nat} (hX : gmX X o) {s0 : Int} (hs0 : g32 s0) (T : cV l G y_GM_yes (gRm d) true [gR G o, gI s0] X M (fun M93 => (wp l G y_GM_function (gRm (d + 1)) true (kkV X k) true 546 [.unset, .unset, .unset, .unset, .unset, .unset, .unset, .unset] [] X M93 0 0))) : wp l G y_GM_function (gRm (d + 1)) true (kkV X k) true 283 [.unset, .unset, .unset, .unset, .unset, .unset, .unset, .unset] [gI s0, gR G o] X M 0 0 := by
  refine xcV_V (md' := true) (As := [gI s0]) (st := []) d_GM_function_283 ca_GM_yes ml_GM_427 im_GM_yes se_GM_yes gc_GM hX.1 (gm_o2 hX) hX.2.2.1 rfl (by decide) (by decide) rfl (fun _ => rfl) (fun _ => rfl) T (fun M93 T => ?_)
  refine wp_goto (tgt := 546) d_GM_function_286 (by decide) ?_
  exact wp_md (wpt T True.intro)
set_option maxHeartbeats 4000000 in
theorem w_GM_function_305 {l : Launch} {G : gG} {d : Nat} {X : gX} {M : gM} {k : gM → Prop} {o : Nat} (hX : gmX X o) {s0 : Int} (hs0 : g32 s0) (T : cV l G y_GM_yes (gRm d) true [gR G o, gI s0] X M (fun M94 => (wp l G y_GM_function (gRm (d + 1)) true (kkV X k) true 546 [.unset, .unset, .unset, .unset, .unset, .unset, .unset, .unset] [] X M94 0 0))) : wp l G y_GM_function (gRm (d + 1)) true (kkV X k) true 305 [.unset, .unset, .unset, .unset, .unset, .unset, .unset, .unset] [gI s0, gR G o] X M 0 0 := by
  refine xcV_V (md' := true) (As := [gI s0]) (st := []) d_GM_function_305 ca_GM_yes ml_GM_427 im_GM_yes se_GM_yes gc_GM hX.1 (gm_o2 hX) hX.2.2.1 rfl (by decide) (by decide) rfl (fun _ => rfl) (fun _ => rfl) T (fun M94 T => ?_)
  refine wp_goto (tgt := 546) d_GM_function_308 (by decide) ?_
  exact wp_md (wpt T True.intro)
set_option maxHeartbeats 4000000 in
theorem w_GM_function_327 {l : Launch} {G : gG} {d : Nat} {X : gX} {M : gM} {k : gM → Prop} {o : Nat} (hX : gmX X o) {s0 : Int} (hs0 : g32 s0) (T : cV l G y_GM_yes (gRm d) true [gR G o, gI s0] X M (fun M95 => (wp l G y_GM_function (gRm (d + 1)) true (kkV X k) true 546 [.unset, .unset, .unset, .unset, .unset, .unset, .unset, .unset] [] X M95 0 0))) : wp l G y_GM_function (gRm (d + 1)) true (kkV X k) true 327 [.unset, .unset, .unset, .unset, .unset, .unset, .unset, .unset] [gI s0, gR G o] X M 0 0 := by
  refine xcV_V (md' := true) (As := [gI s0]) (st := []) d_GM_function_327 ca_GM_yes ml_GM_427 im_GM_yes se_GM_yes gc_GM hX.1 (gm_o2 hX) hX.2.2.1 rfl (by decide) (by decide) rfl (fun _ => rfl) (fun _ => rfl) T (fun M95 T => ?_)
  refine wp_goto (tgt := 546) d_GM_function_330 (by decide) ?_
  exact wp_md (wpt T True.intro)
set_option maxHeartbeats 4000000 in
theorem w_GM_function_348 {l : Launch} {G : gG} {d : Nat} {X : gX} {M : gM} {k : gM → Prop} {o : Nat} (hX : gmX X o) {s0 : Int} (hs0 : g32 s0) (T : cV l G y_GM_yes (gRm d) true [gR G o, gI s0] X M (fun M96 => (wp l G y_GM_function (gRm (d + 1)) true (kkV X k) true 546 [.unset, .unset, .unset, .unset, .unset, .unset, .unset, .unset] [] X M96 0 0))) : wp l G y_GM_function (gRm (d + 1)) true (kkV X k) true 348 [.unset, .unset, .unset, .unset, .unset, .unset, .unset, .unset] [gI s0, gR G o] X M 0 0 := by
  refine xcV_V (md' := true) (As := [gI s0]) (st := []) d_GM_function_348 ca_GM_yes ml_GM_427 im_GM_yes se_GM_yes gc_GM hX.1 (gm_o2 hX) hX.2.2.1 rfl (by decide) (by decide) rfl (fun _ => rfl) (fun _ => rfl) T (fun M96 T => ?_)
  refine wp_goto (tgt := 546) d_GM_function_351 (by decide) ?_
  exact wp_md (wpt T True.intro)
theorem e_GM_function {l : Launch} {G : gG} {d : Nat} {X : gX} {M : gM} {k : gM → Prop} {o : Nat} {x1 : Int} {x2 : Int} {x3 : Int} (T : wp l G y_GM_function (gRm (d + 1)) true (kkV X k) false 0 [.val (gR G o), .val (gI x1), .val (gI x2), .val (gI x3), .unset, .unset, .unset, .unset] [] X M 0 0) : cV l G y_GM_function (gRm (d + 1)) true [gR G o, gI x1, gI x2, gI x3] X M k := cen_V (plainFor_of_name rfl) (by simp only [lg_sl_R, lg_sl_I, lg_sl_L, lg_sl_N, List.length_cons, List.length_nil]; decide) (by unfold gEn; simp only [lg_sl_R, lg_sl_I, lg_sl_L, lg_sl_N]; exact wpt T (And.intro rfl (And.intro rfl (And.intro rfl (And.intro rfl True.intro)))))
theorem d_GM_at_0 : decode prog_15_method_61_code 0 = .ok (.lload_n 1, 1) := by decide +kernel
theorem d_GM_at_1 : decode prog_15_method_61_code 1 = .ok (.lconst 1, 1) := by decide +kernel
theorem d_GM_at_2 : decode prog_15_method_61_code 2 = .ok (.lcmp, 1) := by decide +kernel
theorem d_GM_at_3 : decode prog_15_method_61_code 3 = .ok (.ifCond .lt 47, 3) := by decide +kernel
theorem d_GM_at_50 : decode prog_15_method_61_code 50 = .ok (.iconst 0, 1) := by decide +kernel
theorem d_GM_at_51 : decode prog_15_method_61_code 51 = .ok (.istore 5, 2) := by decide +kernel
theorem d_GM_at_53 : decode prog_15_method_61_code 53 = .ok (.iload 5, 2) := by decide +kernel
theorem d_GM_at_55 : decode prog_15_method_61_code 55 = .ok (.ifCond .eq 34, 3) := by decide +kernel
theorem d_GM_at_89 : decode prog_15_method_61_code 89 = .ok (.aload_n 0, 1) := by decide +kernel
theorem d_GM_at_90 : decode prog_15_method_61_code 90 = .ok (.iconst 2, 1) := by decide +kernel
theorem d_GM_at_91 : decode prog_15_method_61_code 91 = .ok (.invokevirtual 314, 3) := by decide +kernel
theorem d_GM_at_94 : decode prog_15_method_61_code 94 = .ok (.return_, 1) := by decide +kernel
theorem d_GM_at_58 : decode prog_15_method_61_code 58 = .ok (.aload_n 0, 1) := by decide +kernel
theorem d_GM_at_59 : decode prog_15_method_61_code 59 = .ok (.aload_n 0, 1) := by decide +kernel
theorem d_GM_at_60 : decode prog_15_method_61_code 60 = .ok (.getfield 412, 3) := by decide +kernel
theorem d_GM_at_63 : decode prog_15_method_61_code 63 = .ok (.i2l, 1) := by decide +kernel
theorem d_GM_at_64 : decode prog_15_method_61_code 64 = .ok (.lload_n 3, 1) := by decide +kernel
theorem d_GM_at_65 : decode prog_15_method_61_code 65 = .ok (.ladd, 1) := by decide +kernel
theorem d_GM_at_66 : decode prog_15_method_61_code 66 = .ok (.lconst 1, 1) := by decide +kernel
theorem d_GM_at_67 : decode prog_15_method_61_code 67 = .ok (.lsub, 1) := by decide +kernel
theorem d_GM_at_68 : decode prog_15_method_61_code 68 = .ok (.ldc2_w 451, 3) := by decide +kernel
theorem d_GM_at_71 : decode prog_15_method_61_code 71 = .ok (.aload_n 0, 1) := by decide +kernel
theorem d_GM_at_72 : decode prog_15_method_61_code 72 = .ok (.getfield 418, 3) := by decide +kernel
theorem d_GM_at_75 : decode prog_15_method_61_code 75 = .ok (.i2l, 1) := by decide +kernel
theorem d_GM_at_76 : decode prog_15_method_61_code 76 = .ok (.lload_n 1, 1) := by decide +kernel
theorem d_GM_at_77 : decode prog_15_method_61_code 77 = .ok (.ladd, 1) := by decide +kernel
theorem d_GM_at_78 : decode prog_15_method_61_code 78 = .ok (.lconst 1, 1) := by decide +kernel
theorem d_GM_at_79 : decode prog_15_method_61_code 79 = .ok (.lsub, 1) := by decide +kernel
theorem d_GM_at_80 : decode prog_15_method_61_code 80 = .ok (.lmul, 1) := by decide +kernel
theorem d_GM_at_81 : decode prog_15_method_61_code 81 = .ok (.ladd, 1) := by decide +kernel
theorem d_GM_at_82 : decode prog_15_method_61_code 82 = .ok (.l2i, 1) := by decide +kernel
theorem d_GM_at_83 : decode prog_15_method_61_code 83 = .ok (.invokevirtual 377, 3) := by decide +kernel
theorem d_GM_at_86 : decode prog_15_method_61_code 86 = .ok (.goto 8, 3) := by decide +kernel
theorem d_GM_at_6 : decode prog_15_method_61_code 6 = .ok (.lload_n 3, 1) := by decide +kernel
theorem d_GM_at_7 : decode prog_15_method_61_code 7 = .ok (.lconst 1, 1) := by decide +kernel
theorem d_GM_at_8 : decode prog_15_method_61_code 8 = .ok (.lcmp, 1) := by decide +kernel
theorem d_GM_at_9 : decode prog_15_method_61_code 9 = .ok (.ifCond .lt 41, 3) := by decide +kernel
theorem d_GM_at_12 : decode prog_15_method_61_code 12 = .ok (.lload_n 1, 1) := by decide +kernel
theorem d_GM_at_13 : decode prog_15_method_61_code 13 = .ok (.aload_n 0, 1) := by decide +kernel
theorem d_GM_at_14 : decode prog_15_method_61_code 14 = .ok (.getfield 421, 3) := by decide +kernel
theorem d_GM_at_17 : decode prog_15_method_61_code 17 = .ok (.aload_n 0, 1) := by decide +kernel
theorem d_GM_at_18 : decode prog_15_method_61_code 18 = .ok (.getfield 418, 3) := by decide +kernel
theorem d_GM_at_21 : decode prog_15_method_61_code 21 = .ok (.isub, 1) := by decide +kernel
theorem d_GM_at_22 : decode prog_15_method_61_code 22 = .ok (.iconst 1, 1) := by decide +kernel
theorem d_GM_at_23 : decode prog_15_method_61_code 23 = .ok (.iadd, 1) := by decide +kernel
theorem d_GM_at_24 : decode prog_15_method_61_code 24 = .ok (.i2l, 1) := by decide +kernel
theorem d_GM_at_25 : decode prog_15_method_61_code 25 = .ok (.lcmp, 1) := by decide +kernel
theorem d_GM_at_26 : decode prog_15_method_61_code 26 = .ok (.ifCond .gt 24, 3) := by decide +kernel
theorem d_GM_at_29 : decode prog_15_method_61_code 29 = .ok (.lload_n 3, 1) := by decide +kernel
theorem d_GM_at_30 : decode prog_15_method_61_code 30 = .ok (.aload_n 0, 1) := by decide +kernel
theorem d_GM_at_31 : decode prog_15_method_61_code 31 = .ok (.getfield 415, 3) := by decide +kernel
theorem d_GM_at_34 : decode prog_15_method_61_code 34 = .ok (.aload_n 0, 1) := by decide +kernel
theorem d_GM_at_35 : decode prog_15_method_61_code 35 = .ok (.getfield 412, 3) := by decide +kernel
theorem d_GM_at_38 : decode prog_15_method_61_code 38 = .ok (.isub, 1) := by decide +kernel
theorem d_GM_at_39 : decode prog_15_method_61_code 39 = .ok (.iconst 1, 1) := by decide +kernel
theorem d_GM_at_40 : decode prog_15_method_61_code 40 = .ok (.iadd, 1) := by decide +kernel
theorem d_GM_at_41 : decode prog_15_method_61_code 41 = .ok (.i2l, 1) := by decide +kernel
theorem d_GM_at_42 : decode prog_15_method_61_code 42 = .ok (.lcmp, 1) := by decide +kernel
theorem d_GM_at_43 : decode prog_15_method_61_code 43 = .ok (.ifCond .gt 7, 3) := by decide +kernel
theorem d_GM_at_46 : decode prog_15_method_61_code 46 = .ok (.iconst 1, 1) := by decide +kernel
theorem d_GM_at_47 : decode prog_15_method_61_code 47 = .ok (.goto 4, 3) := by decide +kernel
set_option maxHeartbeats 4000000 in
theorem w_GM_at_0 {l : Launch} {G : gG} {d : Nat} {X : gX} {M : gM} {k : gM → Prop} {o : Nat} (hX : gmX X o) {x1 : Int} (hx1 : g64 x1) {x3 : Int} (hx3 : g64 x3) (T : (x1 < 1 → (((0 : Int) = 0 → (cV l G y_GM_fault (gRm d) true [gR G o, gI 2] X M (fun M1 => (k M1)))) ∧ (¬ (0 : Int) = 0 → (g32 (M o 56) → (g32 (M o 57) → (cV l G y_GM_pushCell (gRm d) true [gR G o, gI ((((M o 56) + x3) - 1) + (26 * (((M o 57) + x1) - 1)))] X M (fun M4 => (k M4)))))))) ∧ (¬ x1 < 1 → ((x3 < 1 → (((0 : Int) = 0 → (cV l G y_GM_fault (gRm d) true [gR G o, gI 2] X M (fun M6 => (k M6)))) ∧ (¬ (0 : Int) = 0 → (g32 (M o 56) → (g32 (M o 57) → (cV l G y_GM_pushCell (gRm d) true [gR G o, gI ((((M o 56) + x3) - 1) + (26 * (((M o 57) + x1) - 1)))] X M (fun M9 => (k M9)))))))) ∧ (¬ x3 < 1 → (g32 (M o 59) → (g32 (M o 57) → (((w32 (((M o 59) - (M o 57)) + 1)) < x1 → (((0 : Int) = 0 → (cV l G y_GM_fault (gRm d) true [gR G o, gI 2] X M (fun M13 => (k M13)))) ∧ (¬ (0 : Int) = 0 → (g32 (M o 56) → (g32 (M o 57) → (cV l G y_GM_pushCell (gRm d) true [gR G o, gI ((((M o 56) + x3) - 1) + (26 * (((M o 57) + x1) - 1)))] X M (fun M16 => (k M16)))))))) ∧ (¬ (w32 (((M o 59) - (M o 57)) + 1)) < x1 → (g32 (M o 58) → (g32 (M o 56) → (((w32 (((M o 58) - (M o 56)) + 1)) < x3 → (((0 : Int) = 0 → (cV l G y_GM_fault (gRm d) true [gR G o, gI 2] X M (fun M20 => (k M20)))) ∧ (¬ (0 : Int) = 0 → (g32 (M o 56) → (g32 (M o 57) → (cV l G y_GM_pushCell (gRm d) true [gR G o, gI ((((M o 56) + x3) - 1) + (26 * (((M o 57) + x1) - 1)))] X M (fun M23 => (k M23)))))))) ∧ (¬ (w32 (((M o 58) - (M o 56)) + 1)) < x3 → (((1 : Int) = 0 → (cV l G y_GM_fault (gRm d) true [gR G o, gI 2] X M (fun M25 => (k M25)))) ∧ (¬ (1 : Int) = 0 → (g32 (M o 56) → (g32 (M o 57) → (cV l G y_GM_pushCell (gRm d) true [gR G o, gI ((((M o 56) + x3) - 1) + (26 * (((M o 57) + x1) - 1)))] X M (fun M28 => (k M28))))))))))))))))))) : wp l G y_GM_at (gRm (d + 1)) true (kkV X k) false 0 [.val (gR G o), .val (gL x1), .unset, .val (gL x3), .unset, .unset] [] X M 0 0 := by
  refine wp_lload_n d_GM_at_0 rfl rfl ?_
  refine wp_lconst1 d_GM_at_1 ?_
  refine xl_lt (tgt := 50) d_GM_at_2 d_GM_at_3 (by decide) (w64_id hx1) (w64_id (g64_c (x := 1) rfl)) (fun h33 => ?_) (fun h33 => ?_)
  · have T := T.1 h33
    refine wp_iconst d_GM_at_50 ?_
    refine wp_istore (L' := [.val (gR G o), .val (gL x1), .unset, .val (gL x3), .unset, .val (gI 0)]) d_GM_at_51 (by decide) rfl ?_
    refine wp_iload d_GM_at_53 rfl ?_
    refine xz_eq (tgt := 89) d_GM_at_55 (by decide) (w32_id (g32_c (x := 0) rfl)) (fun h5 => ?_) (fun h5 => ?_)
    · have T := T.1 h5
      refine wp_aload_n d_GM_at_89 rfl rfl (g_nz hX.1) ?_
      refine wp_iconst d_GM_at_90 ?_
      refine xcV_V (md' := true) (As := [gI 2]) (st := []) d_GM_at_91 ca_GM_fault ml_GM_314 im_GM_fault se_GM_fault gc_GM hX.1 (gm_o2 hX) hX.2.2.1 rfl (by decide) (by decide) rfl (fun _ => rfl) (fun _ => rfl) T (fun M1 T => ?_)
      exact wp_return d_GM_at_94 rfl (fun _ => rfl) (Nat.zero_le _) (Nat.zero_le _) (kV_mk T)
    · have T := T.2 h5
      refine wp_aload_n d_GM_at_58 rfl rfl (g_nz hX.1) ?_
      refine wp_aload_n d_GM_at_59 rfl rfl (g_nz hX.1) ?_
      refine xgetI d_GM_at_60 gc_GM f_GM_412.1 f_GM_412.2.1 f_GM_412.2.2.1 hX.1 (gm_o2 hX) hX.2.2.1 f_GM_412.2.2.2.2.1 (fun h2 => ?_)
      have T := T h2
      refine xi2l d_GM_at_63 (w32_id h2) ?_
      refine wp_lload_n d_GM_at_64 rfl rfl ?_
      refine wp_ladd d_GM_at_65 ?_
      refine wp_lconst1 d_GM_at_66 ?_
      refine wp_lsub d_GM_at_67 ?_
      refine wp_ldc2 (n := 26) d_GM_at_68 c_GM_451 rfl ?_
      refine wp_aload_n d_GM_at_71 rfl rfl (g_nz hX.1) ?_
      refine xgetI d_GM_at_72 gc_GM f_GM_418.1 f_GM_418.2.1 f_GM_418.2.2.1 hX.1 (gm_o2 hX) hX.2.2.1 f_GM_418.2.2.2.2.1 (fun h3 => ?_)
      have T := T h3
      refine xi2l d_GM_at_75 (w32_id h3) ?_
      refine wp_lload_n d_GM_at_76 rfl rfl ?_
      refine wp_ladd d_GM_at_77 ?_
      refine wp_lconst1 d_GM_at_78 ?_
      refine wp_lsub d_GM_at_79 ?_
      refine wp_lmul d_GM_at_80 ?_
      refine wp_ladd d_GM_at_81 ?_
      refine wp_l2i d_GM_at_82 ?_
      refine xcV_V (md' := true) (As := [gI ((((M o 56) + x3) - 1) + (26 * (((M o 57) + x1) - 1)))]) (st := []) d_GM_at_83 ca_GM_pushCell ml_GM_377 im_GM_pushCell se_GM_pushCell gc_GM hX.1 (gm_o2 hX) hX.2.2.1 rfl (by decide) (by decide) rfl (fun _ => rfl) (fun _ => rfl) T (fun M4 T => ?_)
      refine wp_goto (tgt := 94) d_GM_at_86 (by decide) ?_
      exact wp_return d_GM_at_94 rfl (fun _ => rfl) (Nat.zero_le _) (Nat.zero_le _) (kV_mk T)
  · have T := T.2 h33
    refine wp_lload_n d_GM_at_6 rfl rfl ?_
    refine wp_lconst1 d_GM_at_7 ?_
    refine xl_lt (tgt := 50) d_GM_at_8 d_GM_at_9 (by decide) (w64_id hx3) (w64_id (g64_c (x := 1) rfl)) (fun h32 => ?_) (fun h32 => ?_)
    · have T := T.1 h32
      refine wp_iconst d_GM_at_50 ?_
      refine wp_istore (L' := [.val (gR G o), .val (gL x1), .unset, .val (gL x3), .unset, .val (gI 0)]) d_GM_at_51 (by decide) rfl ?_
      refine wp_iload d_GM_at_53 rfl ?_
      refine xz_eq (tgt := 89) d_GM_at_55 (by decide) (w32_id (g32_c (x := 0) rfl)) (fun h10 => ?_) (fun h10 => ?_)
      · have T := T.1 h10
        refine wp_aload_n d_GM_at_89 rfl rfl (g_nz hX.1) ?_
        refine wp_iconst d_GM_at_90 ?_
        refine xcV_V (md' := true) (As := [gI 2]) (st := []) d_GM_at_91 ca_GM_fault ml_GM_314 im_GM_fault se_GM_fault gc_GM hX.1 (gm_o2 hX) hX.2.2.1 rfl (by decide) (by decide) rfl (fun _ => rfl) (fun _ => rfl) T (fun M6 T => ?_)
        exact wp_return d_GM_at_94 rfl (fun _ => rfl) (Nat.zero_le _) (Nat.zero_le _) (kV_mk T)
      · have T := T.2 h10
        refine wp_aload_n d_GM_at_58 rfl rfl (g_nz hX.1) ?_
        refine wp_aload_n d_GM_at_59 rfl rfl (g_nz hX.1) ?_
        refine xgetI d_GM_at_60 gc_GM f_GM_412.1 f_GM_412.2.1 f_GM_412.2.2.1 hX.1 (gm_o2 hX) hX.2.2.1 f_GM_412.2.2.2.2.1 (fun h7 => ?_)
        have T := T h7
        refine xi2l d_GM_at_63 (w32_id h7) ?_
        refine wp_lload_n d_GM_at_64 rfl rfl ?_
        refine wp_ladd d_GM_at_65 ?_
        refine wp_lconst1 d_GM_at_66 ?_
        refine wp_lsub d_GM_at_67 ?_
        refine wp_ldc2 (n := 26) d_GM_at_68 c_GM_451 rfl ?_
        refine wp_aload_n d_GM_at_71 rfl rfl (g_nz hX.1) ?_
        refine xgetI d_GM_at_72 gc_GM f_GM_418.1 f_GM_418.2.1 f_GM_418.2.2.1 hX.1 (gm_o2 hX) hX.2.2.1 f_GM_418.2.2.2.2.1 (fun h8 => ?_)
        have T := T h8
        refine xi2l d_GM_at_75 (w32_id h8) ?_
        refine wp_lload_n d_GM_at_76 rfl rfl ?_
        refine wp_ladd d_GM_at_77 ?_
        refine wp_lconst1 d_GM_at_78 ?_
        refine wp_lsub d_GM_at_79 ?_
        refine wp_lmul d_GM_at_80 ?_
        refine wp_ladd d_GM_at_81 ?_
        refine wp_l2i d_GM_at_82 ?_
        refine xcV_V (md' := true) (As := [gI ((((M o 56) + x3) - 1) + (26 * (((M o 57) + x1) - 1)))]) (st := []) d_GM_at_83 ca_GM_pushCell ml_GM_377 im_GM_pushCell se_GM_pushCell gc_GM hX.1 (gm_o2 hX) hX.2.2.1 rfl (by decide) (by decide) rfl (fun _ => rfl) (fun _ => rfl) T (fun M9 T => ?_)
        refine wp_goto (tgt := 94) d_GM_at_86 (by decide) ?_
        exact wp_return d_GM_at_94 rfl (fun _ => rfl) (Nat.zero_le _) (Nat.zero_le _) (kV_mk T)
    · have T := T.2 h32
      refine wp_lload_n d_GM_at_12 rfl rfl ?_
      refine wp_aload_n d_GM_at_13 rfl rfl (g_nz hX.1) ?_
      refine xgetI d_GM_at_14 gc_GM f_GM_421.1 f_GM_421.2.1 f_GM_421.2.2.1 hX.1 (gm_o2 hX) hX.2.2.1 f_GM_421.2.2.2.2.1 (fun h11 => ?_)
      have T := T h11
      refine wp_aload_n d_GM_at_17 rfl rfl (g_nz hX.1) ?_
      refine xgetI d_GM_at_18 gc_GM f_GM_418.1 f_GM_418.2.1 f_GM_418.2.2.1 hX.1 (gm_o2 hX) hX.2.2.1 f_GM_418.2.2.2.2.1 (fun h12 => ?_)
      have T := T h12
      refine wp_isub d_GM_at_21 ?_
      refine wp_iconst d_GM_at_22 ?_
      refine wp_iadd d_GM_at_23 ?_
      refine xi2l d_GM_at_24 rfl ?_
      refine xl_gt (tgt := 50) d_GM_at_25 d_GM_at_26 (by decide) (w64_id hx1) (w64_id (g64_32 (w32_ok _))) (fun h31 => ?_) (fun h31 => ?_)
      · have T := T.1 h31
        refine wp_iconst d_GM_at_50 ?_
        refine wp_istore (L' := [.val (gR G o), .val (gL x1), .unset, .val (gL x3), .unset, .val (gI 0)]) d_GM_at_51 (by decide) rfl ?_
        refine wp_iload d_GM_at_53 rfl ?_
        refine xz_eq (tgt := 89) d_GM_at_55 (by decide) (w32_id (g32_c (x := 0) rfl)) (fun h17 => ?_) (fun h17 => ?_)
        · have T := T.1 h17
          refine wp_aload_n d_GM_at_89 rfl rfl (g_nz hX.1) ?_
          refine wp_iconst d_GM_at_90 ?_
          refine xcV_V (md' := true) (As := [gI 2]) (st := []) d_GM_at_91 ca_GM_fault ml_GM_314 im_GM_fault se_GM_fault gc_GM hX.1 (gm_o2 hX) hX.2.2.1 rfl (by decide) (by decide) rfl (fun _ => rfl) (fun _ => rfl) T (fun M13 T => ?_)
          exact wp_return d_GM_at_94 rfl (fun _ => rfl) (Nat.zero_le _) (Nat.zero_le _) (kV_mk T)
        · have T := T.2 h17
          refine wp_aload_n d_GM_at_58 rfl rfl (g_nz hX.1) ?_
          refine wp_aload_n d_GM_at_59 rfl rfl (g_nz hX.1) ?_
          refine xgetI d_GM_at_60 gc_GM f_GM_412.1 f_GM_412.2.1 f_GM_412.2.2.1 hX.1 (gm_o2 hX) hX.2.2.1 f_GM_412.2.2.2.2.1 (fun h14 => ?_)
          have T := T h14
          refine xi2l d_GM_at_63 (w32_id h14) ?_
          refine wp_lload_n d_GM_at_64 rfl rfl ?_
          refine wp_ladd d_GM_at_65 ?_
          refine wp_lconst1 d_GM_at_66 ?_
          refine wp_lsub d_GM_at_67 ?_
          refine wp_ldc2 (n := 26) d_GM_at_68 c_GM_451 rfl ?_
          refine wp_aload_n d_GM_at_71 rfl rfl (g_nz hX.1) ?_
          refine xgetI d_GM_at_72 gc_GM f_GM_418.1 f_GM_418.2.1 f_GM_418.2.2.1 hX.1 (gm_o2 hX) hX.2.2.1 f_GM_418.2.2.2.2.1 (fun h15 => ?_)
          have T := T h15
          refine xi2l d_GM_at_75 (w32_id h15) ?_
          refine wp_lload_n d_GM_at_76 rfl rfl ?_
          refine wp_ladd d_GM_at_77 ?_
          refine wp_lconst1 d_GM_at_78 ?_
          refine wp_lsub d_GM_at_79 ?_
          refine wp_lmul d_GM_at_80 ?_
          refine wp_ladd d_GM_at_81 ?_
          refine wp_l2i d_GM_at_82 ?_
          refine xcV_V (md' := true) (As := [gI ((((M o 56) + x3) - 1) + (26 * (((M o 57) + x1) - 1)))]) (st := []) d_GM_at_83 ca_GM_pushCell ml_GM_377 im_GM_pushCell se_GM_pushCell gc_GM hX.1 (gm_o2 hX) hX.2.2.1 rfl (by decide) (by decide) rfl (fun _ => rfl) (fun _ => rfl) T (fun M16 T => ?_)
          refine wp_goto (tgt := 94) d_GM_at_86 (by decide) ?_
          exact wp_return d_GM_at_94 rfl (fun _ => rfl) (Nat.zero_le _) (Nat.zero_le _) (kV_mk T)
      · have T := T.2 h31
        refine wp_lload_n d_GM_at_29 rfl rfl ?_
        refine wp_aload_n d_GM_at_30 rfl rfl (g_nz hX.1) ?_
        refine xgetI d_GM_at_31 gc_GM f_GM_415.1 f_GM_415.2.1 f_GM_415.2.2.1 hX.1 (gm_o2 hX) hX.2.2.1 f_GM_415.2.2.2.2.1 (fun h18 => ?_)
        have T := T h18
        refine wp_aload_n d_GM_at_34 rfl rfl (g_nz hX.1) ?_
        refine xgetI d_GM_at_35 gc_GM f_GM_412.1 f_GM_412.2.1 f_GM_412.2.2.1 hX.1 (gm_o2 hX) hX.2.2.1 f_GM_412.2.2.2.2.1 (fun h19 => ?_)
        have T := T h19
        refine wp_isub d_GM_at_38 ?_
        refine wp_iconst d_GM_at_39 ?_
        refine wp_iadd d_GM_at_40 ?_
        refine xi2l d_GM_at_41 rfl ?_
        refine xl_gt (tgt := 50) d_GM_at_42 d_GM_at_43 (by decide) (w64_id hx3) (w64_id (g64_32 (w32_ok _))) (fun h30 => ?_) (fun h30 => ?_)
        · have T := T.1 h30
          refine wp_iconst d_GM_at_50 ?_
          refine wp_istore (L' := [.val (gR G o), .val (gL x1), .unset, .val (gL x3), .unset, .val (gI 0)]) d_GM_at_51 (by decide) rfl ?_
          refine wp_iload d_GM_at_53 rfl ?_
          refine xz_eq (tgt := 89) d_GM_at_55 (by decide) (w32_id (g32_c (x := 0) rfl)) (fun h24 => ?_) (fun h24 => ?_)
          · have T := T.1 h24
            refine wp_aload_n d_GM_at_89 rfl rfl (g_nz hX.1) ?_
            refine wp_iconst d_GM_at_90 ?_
            refine xcV_V (md' := true) (As := [gI 2]) (st := []) d_GM_at_91 ca_GM_fault ml_GM_314 im_GM_fault se_GM_fault gc_GM hX.1 (gm_o2 hX) hX.2.2.1 rfl (by decide) (by decide) rfl (fun _ => rfl) (fun _ => rfl) T (fun M20 T => ?_)
            exact wp_return d_GM_at_94 rfl (fun _ => rfl) (Nat.zero_le _) (Nat.zero_le _) (kV_mk T)
          · have T := T.2 h24
            refine wp_aload_n d_GM_at_58 rfl rfl (g_nz hX.1) ?_
            refine wp_aload_n d_GM_at_59 rfl rfl (g_nz hX.1) ?_
            refine xgetI d_GM_at_60 gc_GM f_GM_412.1 f_GM_412.2.1 f_GM_412.2.2.1 hX.1 (gm_o2 hX) hX.2.2.1 f_GM_412.2.2.2.2.1 (fun h21 => ?_)
            have T := T h21
            refine xi2l d_GM_at_63 (w32_id h21) ?_
            refine wp_lload_n d_GM_at_64 rfl rfl ?_
            refine wp_ladd d_GM_at_65 ?_
            refine wp_lconst1 d_GM_at_66 ?_
            refine wp_lsub d_GM_at_67 ?_
            refine wp_ldc2 (n := 26) d_GM_at_68 c_GM_451 rfl ?_
            refine wp_aload_n d_GM_at_71 rfl rfl (g_nz hX.1) ?_
            refine xgetI d_GM_at_72 gc_GM f_GM_418.1 f_GM_418.2.1 f_GM_418.2.2.1 hX.1 (gm_o2 hX) hX.2.2.1 f_GM_418.2.2.2.2.1 (fun h22 => ?_)
            have T := T h22
            refine xi2l d_GM_at_75 (w32_id h22) ?_
            refine wp_lload_n d_GM_at_76 rfl rfl ?_
            refine wp_ladd d_GM_at_77 ?_
            refine wp_lconst1 d_GM_at_78 ?_
            refine wp_lsub d_GM_at_79 ?_
            refine wp_lmul d_GM_at_80 ?_
            refine wp_ladd d_GM_at_81 ?_
            refine wp_l2i d_GM_at_82 ?_
            refine xcV_V (md' := true) (As := [gI ((((M o 56) + x3) - 1) + (26 * (((M o 57) + x1) - 1)))]) (st := []) d_GM_at_83 ca_GM_pushCell ml_GM_377 im_GM_pushCell se_GM_pushCell gc_GM hX.1 (gm_o2 hX) hX.2.2.1 rfl (by decide) (by decide) rfl (fun _ => rfl) (fun _ => rfl) T (fun M23 T => ?_)
            refine wp_goto (tgt := 94) d_GM_at_86 (by decide) ?_
            exact wp_return d_GM_at_94 rfl (fun _ => rfl) (Nat.zero_le _) (Nat.zero_le _) (kV_mk T)
        · have T := T.2 h30
          refine wp_iconst d_GM_at_46 ?_
          refine wp_goto (tgt := 51) d_GM_at_47 (by decide) ?_
          refine wp_istore (L' := [.val (gR G o), .val (gL x1), .unset, .val (gL x3), .unset, .val (gI 1)]) d_GM_at_51 (by decide) rfl ?_
          refine wp_iload d_GM_at_53 rfl ?_
          refine xz_eq (tgt := 89) d_GM_at_55 (by decide) (w32_id (g32_c (x := 1) rfl)) (fun h29 => ?_) (fun h29 => ?_)
          · have T := T.1 h29
            refine wp_aload_n d_GM_at_89 rfl rfl (g_nz hX.1) ?_
            refine wp_iconst d_GM_at_90 ?_
            refine xcV_V (md' := true) (As := [gI 2]) (st := []) d_GM_at_91 ca_GM_fault ml_GM_314 im_GM_fault se_GM_fault gc_GM hX.1 (gm_o2 hX) hX.2.2.1 rfl (by decide) (by decide) rfl (fun _ => rfl) (fun _ => rfl) T (fun M25 T => ?_)
            exact wp_return d_GM_at_94 rfl (fun _ => rfl) (Nat.zero_le _) (Nat.zero_le _) (kV_mk T)
          · have T := T.2 h29
            refine wp_aload_n d_GM_at_58 rfl rfl (g_nz hX.1) ?_
            refine wp_aload_n d_GM_at_59 rfl rfl (g_nz hX.1) ?_
            refine xgetI d_GM_at_60 gc_GM f_GM_412.1 f_GM_412.2.1 f_GM_412.2.2.1 hX.1 (gm_o2 hX) hX.2.2.1 f_GM_412.2.2.2.2.1 (fun h26 => ?_)
            have T := T h26
            refine xi2l d_GM_at_63 (w32_id h26) ?_
            refine wp_lload_n d_GM_at_64 rfl rfl ?_
            refine wp_ladd d_GM_at_65 ?_
            refine wp_lconst1 d_GM_at_66 ?_
            refine wp_lsub d_GM_at_67 ?_
            refine wp_ldc2 (n := 26) d_GM_at_68 c_GM_451 rfl ?_
            refine wp_aload_n d_GM_at_71 rfl rfl (g_nz hX.1) ?_
            refine xgetI d_GM_at_72 gc_GM f_GM_418.1 f_GM_418.2.1 f_GM_418.2.2.1 hX.1 (gm_o2 hX) hX.2.2.1 f_GM_418.2.2.2.2.1 (fun h27 => ?_)
            have T := T h27
            refine xi2l d_GM_at_75 (w32_id h27) ?_
            refine wp_lload_n d_GM_at_76 rfl rfl ?_
            refine wp_ladd d_GM_at_77 ?_
            refine wp_lconst1 d_GM_at_78 ?_
            refine wp_lsub d_GM_at_79 ?_
            refine wp_lmul d_GM_at_80 ?_
            refine wp_ladd d_GM_at_81 ?_
            refine wp_l2i d_GM_at_82 ?_
            refine xcV_V (md' := true) (As := [gI ((((M o 56) + x3) - 1) + (26 * (((M o 57) + x1) - 1)))]) (st := []) d_GM_at_83 ca_GM_pushCell ml_GM_377 im_GM_pushCell se_GM_pushCell gc_GM hX.1 (gm_o2 hX) hX.2.2.1 rfl (by decide) (by decide) rfl (fun _ => rfl) (fun _ => rfl) T (fun M28 T => ?_)
            refine wp_goto (tgt := 94) d_GM_at_86 (by decide) ?_
            exact wp_return d_GM_at_94 rfl (fun _ => rfl) (Nat.zero_le _) (Nat.zero_le _) (kV_mk T)
theorem e_GM_at {l : Launch} {G : gG} {d : Nat} {X : gX} {M : gM} {k : gM → Prop} {o : Nat} {x1 : Int} {x3 : Int} (T : wp l G y_GM_at (gRm (d + 1)) true (kkV X k) false 0 [.val (gR G o), .val (gL x1), .unset, .val (gL x3), .unset, .unset] [] X M 0 0) : cV l G y_GM_at (gRm (d + 1)) true [gR G o, gL x1, gL x3] X M k := cen_V (plainFor_of_name rfl) (by simp only [lg_sl_R, lg_sl_I, lg_sl_L, lg_sl_N, List.length_cons, List.length_nil]; decide) (by unfold gEn; simp only [lg_sl_R, lg_sl_I, lg_sl_L, lg_sl_N]; exact wpt T (And.intro rfl (And.intro rfl (And.intro rfl True.intro))))
