/-! Walks of the reference's methods, written by wip/whole/gen_model.py -/
theorem d_GM_eval_0 : decode prog_15_method_54_code 0 = .ok (.aload_n 0, 1) := by decide +kernel
theorem d_GM_eval_1 : decode prog_15_method_54_code 1 = .ok (.getfield 14, 3) := by decide +kernel
theorem d_GM_eval_4 : decode prog_15_method_54_code 4 = .ok (.iload_n 1, 1) := by decide +kernel
theorem d_GM_eval_5 : decode prog_15_method_54_code 5 = .ok (.iaload, 1) := by decide +kernel
theorem d_GM_eval_6 : decode prog_15_method_54_code 6 = .ok (.tableswitch 425 0 9 #[54, 82, 167, 425, 68, 218, 318, 391, 425, 205], 54) := by decide +kernel
theorem d_GM_eval_60 : decode prog_15_method_54_code 60 = .ok (.aload_n 0, 1) := by decide +kernel
theorem d_GM_eval_61 : decode prog_15_method_54_code 61 = .ok (.iconst 1, 1) := by decide +kernel
theorem d_GM_eval_62 : decode prog_15_method_54_code 62 = .ok (.aload_n 0, 1) := by decide +kernel
theorem d_GM_eval_63 : decode prog_15_method_54_code 63 = .ok (.getfield 27, 3) := by decide +kernel
theorem d_GM_eval_66 : decode prog_15_method_54_code 66 = .ok (.iload_n 1, 1) := by decide +kernel
theorem d_GM_eval_67 : decode prog_15_method_54_code 67 = .ok (.laload, 1) := by decide +kernel
theorem d_GM_eval_68 : decode prog_15_method_54_code 68 = .ok (.invokevirtual 307, 3) := by decide +kernel
theorem d_GM_eval_71 : decode prog_15_method_54_code 71 = .ok (.goto 365, 3) := by decide +kernel
theorem d_GM_eval_88 : decode prog_15_method_54_code 88 = .ok (.aload_n 0, 1) := by decide +kernel
theorem d_GM_eval_89 : decode prog_15_method_54_code 89 = .ok (.iconst 2, 1) := by decide +kernel
theorem d_GM_eval_90 : decode prog_15_method_54_code 90 = .ok (.lconst 0, 1) := by decide +kernel
theorem d_GM_eval_91 : decode prog_15_method_54_code 91 = .ok (.invokevirtual 307, 3) := by decide +kernel
theorem d_GM_eval_94 : decode prog_15_method_54_code 94 = .ok (.aload_n 0, 1) := by decide +kernel
theorem d_GM_eval_95 : decode prog_15_method_54_code 95 = .ok (.getfield 119, 3) := by decide +kernel
theorem d_GM_eval_98 : decode prog_15_method_54_code 98 = .ok (.aload_n 0, 1) := by decide +kernel
theorem d_GM_eval_99 : decode prog_15_method_54_code 99 = .ok (.getfield 304, 3) := by decide +kernel
theorem d_GM_eval_102 : decode prog_15_method_54_code 102 = .ok (.iconst 1, 1) := by decide +kernel
theorem d_GM_eval_103 : decode prog_15_method_54_code 103 = .ok (.isub, 1) := by decide +kernel
theorem d_GM_eval_104 : decode prog_15_method_54_code 104 = .ok (.aload_n 0, 1) := by decide +kernel
theorem d_GM_eval_105 : decode prog_15_method_54_code 105 = .ok (.getfield 21, 3) := by decide +kernel
theorem d_GM_eval_108 : decode prog_15_method_54_code 108 = .ok (.iload_n 1, 1) := by decide +kernel
theorem d_GM_eval_109 : decode prog_15_method_54_code 109 = .ok (.iaload, 1) := by decide +kernel
theorem d_GM_eval_110 : decode prog_15_method_54_code 110 = .ok (.aload_n 0, 1) := by decide +kernel
theorem d_GM_eval_111 : decode prog_15_method_54_code 111 = .ok (.getfield 18, 3) := by decide +kernel
theorem d_GM_eval_114 : decode prog_15_method_54_code 114 = .ok (.iload_n 1, 1) := by decide +kernel
theorem d_GM_eval_115 : decode prog_15_method_54_code 115 = .ok (.iaload, 1) := by decide +kernel
theorem d_GM_eval_116 : decode prog_15_method_54_code 116 = .ok (.isub, 1) := by decide +kernel
theorem d_GM_eval_117 : decode prog_15_method_54_code 117 = .ok (.iastore, 1) := by decide +kernel
theorem d_GM_eval_118 : decode prog_15_method_54_code 118 = .ok (.iconst 0, 1) := by decide +kernel
theorem d_GM_eval_119 : decode prog_15_method_54_code 119 = .ok (.istore_n 2, 1) := by decide +kernel
theorem d_GM_eval_173 : decode prog_15_method_54_code 173 = .ok (.aload_n 0, 1) := by decide +kernel
theorem d_GM_eval_174 : decode prog_15_method_54_code 174 = .ok (.aload_n 0, 1) := by decide +kernel
theorem d_GM_eval_175 : decode prog_15_method_54_code 175 = .ok (.getfield 18, 3) := by decide +kernel
theorem d_GM_eval_178 : decode prog_15_method_54_code 178 = .ok (.iload_n 1, 1) := by decide +kernel
theorem d_GM_eval_179 : decode prog_15_method_54_code 179 = .ok (.iaload, 1) := by decide +kernel
theorem d_GM_eval_180 : decode prog_15_method_54_code 180 = .ok (.invokevirtual 374, 3) := by decide +kernel
theorem d_GM_eval_183 : decode prog_15_method_54_code 183 = .ok (.ifCond .ge 11, 3) := by decide +kernel
theorem d_GM_eval_194 : decode prog_15_method_54_code 194 = .ok (.aload_n 0, 1) := by decide +kernel
theorem d_GM_eval_195 : decode prog_15_method_54_code 195 = .ok (.aload_n 0, 1) := by decide +kernel
theorem d_GM_eval_196 : decode prog_15_method_54_code 196 = .ok (.aload_n 0, 1) := by decide +kernel
theorem d_GM_eval_197 : decode prog_15_method_54_code 197 = .ok (.getfield 18, 3) := by decide +kernel
theorem d_GM_eval_200 : decode prog_15_method_54_code 200 = .ok (.iload_n 1, 1) := by decide +kernel
theorem d_GM_eval_201 : decode prog_15_method_54_code 201 = .ok (.iaload, 1) := by decide +kernel
theorem d_GM_eval_202 : decode prog_15_method_54_code 202 = .ok (.invokevirtual 374, 3) := by decide +kernel
theorem d_GM_eval_205 : decode prog_15_method_54_code 205 = .ok (.invokevirtual 377, 3) := by decide +kernel
theorem d_GM_eval_208 : decode prog_15_method_54_code 208 = .ok (.goto 228, 3) := by decide +kernel
theorem d_GM_eval_186 : decode prog_15_method_54_code 186 = .ok (.aload_n 0, 1) := by decide +kernel
theorem d_GM_eval_187 : decode prog_15_method_54_code 187 = .ok (.iconst 2, 1) := by decide +kernel
theorem d_GM_eval_188 : decode prog_15_method_54_code 188 = .ok (.invokevirtual 314, 3) := by decide +kernel
theorem d_GM_eval_191 : decode prog_15_method_54_code 191 = .ok (.goto 245, 3) := by decide +kernel
theorem d_GM_eval_431 : decode prog_15_method_54_code 431 = .ok (.aload_n 0, 1) := by decide +kernel
theorem d_GM_eval_432 : decode prog_15_method_54_code 432 = .ok (.iload_n 1, 1) := by decide +kernel
theorem d_GM_eval_433 : decode prog_15_method_54_code 433 = .ok (.invokevirtual 388, 3) := by decide +kernel
theorem d_GM_eval_74 : decode prog_15_method_54_code 74 = .ok (.aload_n 0, 1) := by decide +kernel
theorem d_GM_eval_75 : decode prog_15_method_54_code 75 = .ok (.iconst 3, 1) := by decide +kernel
theorem d_GM_eval_76 : decode prog_15_method_54_code 76 = .ok (.aload_n 0, 1) := by decide +kernel
theorem d_GM_eval_77 : decode prog_15_method_54_code 77 = .ok (.getfield 27, 3) := by decide +kernel
theorem d_GM_eval_80 : decode prog_15_method_54_code 80 = .ok (.iload_n 1, 1) := by decide +kernel
theorem d_GM_eval_81 : decode prog_15_method_54_code 81 = .ok (.laload, 1) := by decide +kernel
theorem d_GM_eval_82 : decode prog_15_method_54_code 82 = .ok (.invokevirtual 307, 3) := by decide +kernel
theorem d_GM_eval_85 : decode prog_15_method_54_code 85 = .ok (.goto 351, 3) := by decide +kernel
theorem d_GM_eval_224 : decode prog_15_method_54_code 224 = .ok (.aload_n 0, 1) := by decide +kernel
theorem d_GM_eval_225 : decode prog_15_method_54_code 225 = .ok (.aload_n 0, 1) := by decide +kernel
theorem d_GM_eval_226 : decode prog_15_method_54_code 226 = .ok (.getfield 18, 3) := by decide +kernel
theorem d_GM_eval_229 : decode prog_15_method_54_code 229 = .ok (.iload_n 1, 1) := by decide +kernel
theorem d_GM_eval_230 : decode prog_15_method_54_code 230 = .ok (.iaload, 1) := by decide +kernel
theorem d_GM_eval_231 : decode prog_15_method_54_code 231 = .ok (.invokevirtual 380, 3) := by decide +kernel
theorem d_GM_eval_234 : decode prog_15_method_54_code 234 = .ok (.aload_n 0, 1) := by decide +kernel
theorem d_GM_eval_235 : decode prog_15_method_54_code 235 = .ok (.iconst 1, 1) := by decide +kernel
theorem d_GM_eval_236 : decode prog_15_method_54_code 236 = .ok (.invokevirtual 335, 3) := by decide +kernel
theorem d_GM_eval_239 : decode prog_15_method_54_code 239 = .ok (.ifCond .eq 4, 3) := by decide +kernel
theorem d_GM_eval_243 : decode prog_15_method_54_code 243 = .ok (.aload_n 0, 1) := by decide +kernel
theorem d_GM_eval_244 : decode prog_15_method_54_code 244 = .ok (.aload_n 0, 1) := by decide +kernel
theorem d_GM_eval_245 : decode prog_15_method_54_code 245 = .ok (.getfield 304, 3) := by decide +kernel
theorem d_GM_eval_248 : decode prog_15_method_54_code 248 = .ok (.iconst 1, 1) := by decide +kernel
theorem d_GM_eval_249 : decode prog_15_method_54_code 249 = .ok (.isub, 1) := by decide +kernel
theorem d_GM_eval_250 : decode prog_15_method_54_code 250 = .ok (.invokevirtual 351, 3) := by decide +kernel
theorem d_GM_eval_253 : decode prog_15_method_54_code 253 = .ok (.ifCond .ne 15, 3) := by decide +kernel
theorem d_GM_eval_268 : decode prog_15_method_54_code 268 = .ok (.aload_n 0, 1) := by decide +kernel
theorem d_GM_eval_269 : decode prog_15_method_54_code 269 = .ok (.getfield 122, 3) := by decide +kernel
theorem d_GM_eval_272 : decode prog_15_method_54_code 272 = .ok (.aload_n 0, 1) := by decide +kernel
theorem d_GM_eval_273 : decode prog_15_method_54_code 273 = .ok (.getfield 304, 3) := by decide +kernel
theorem d_GM_eval_276 : decode prog_15_method_54_code 276 = .ok (.iconst 1, 1) := by decide +kernel
theorem d_GM_eval_277 : decode prog_15_method_54_code 277 = .ok (.isub, 1) := by decide +kernel
theorem d_GM_eval_278 : decode prog_15_method_54_code 278 = .ok (.laload, 1) := by decide +kernel
theorem d_GM_eval_279 : decode prog_15_method_54_code 279 = .ok (.ldc2_w 170, 3) := by decide +kernel
theorem d_GM_eval_282 : decode prog_15_method_54_code 282 = .ok (.lcmp, 1) := by decide +kernel
theorem d_GM_eval_283 : decode prog_15_method_54_code 283 = .ok (.ifCond .ne 15, 3) := by decide +kernel
theorem d_GM_eval_298 : decode prog_15_method_54_code 298 = .ok (.aload_n 0, 1) := by decide +kernel
theorem d_GM_eval_299 : decode prog_15_method_54_code 299 = .ok (.getfield 122, 3) := by decide +kernel
theorem d_GM_eval_302 : decode prog_15_method_54_code 302 = .ok (.aload_n 0, 1) := by decide +kernel
theorem d_GM_eval_303 : decode prog_15_method_54_code 303 = .ok (.getfield 304, 3) := by decide +kernel
theorem d_GM_eval_306 : decode prog_15_method_54_code 306 = .ok (.iconst 1, 1) := by decide +kernel
theorem d_GM_eval_307 : decode prog_15_method_54_code 307 = .ok (.isub, 1) := by decide +kernel
theorem d_GM_eval_308 : decode prog_15_method_54_code 308 = .ok (.aload_n 0, 1) := by decide +kernel
theorem d_GM_eval_309 : decode prog_15_method_54_code 309 = .ok (.getfield 122, 3) := by decide +kernel
theorem d_GM_eval_312 : decode prog_15_method_54_code 312 = .ok (.aload_n 0, 1) := by decide +kernel
theorem d_GM_eval_313 : decode prog_15_method_54_code 313 = .ok (.getfield 304, 3) := by decide +kernel
theorem d_GM_eval_316 : decode prog_15_method_54_code 316 = .ok (.iconst 1, 1) := by decide +kernel
theorem d_GM_eval_317 : decode prog_15_method_54_code 317 = .ok (.isub, 1) := by decide +kernel
theorem d_GM_eval_318 : decode prog_15_method_54_code 318 = .ok (.laload, 1) := by decide +kernel
theorem d_GM_eval_319 : decode prog_15_method_54_code 319 = .ok (.lneg, 1) := by decide +kernel
theorem d_GM_eval_320 : decode prog_15_method_54_code 320 = .ok (.lastore, 1) := by decide +kernel
theorem d_GM_eval_321 : decode prog_15_method_54_code 321 = .ok (.goto 115, 3) := by decide +kernel
theorem d_GM_eval_286 : decode prog_15_method_54_code 286 = .ok (.aload_n 0, 1) := by decide +kernel
theorem d_GM_eval_287 : decode prog_15_method_54_code 287 = .ok (.iconst 1, 1) := by decide +kernel
theorem d_GM_eval_288 : decode prog_15_method_54_code 288 = .ok (.iconst 4, 1) := by decide +kernel
theorem d_GM_eval_289 : decode prog_15_method_54_code 289 = .ok (.ldc2_w 364, 3) := by decide +kernel
theorem d_GM_eval_292 : decode prog_15_method_54_code 292 = .ok (.invokevirtual 347, 3) := by decide +kernel
theorem d_GM_eval_295 : decode prog_15_method_54_code 295 = .ok (.goto 141, 3) := by decide +kernel
theorem d_GM_eval_256 : decode prog_15_method_54_code 256 = .ok (.aload_n 0, 1) := by decide +kernel
theorem d_GM_eval_257 : decode prog_15_method_54_code 257 = .ok (.iconst 1, 1) := by decide +kernel
theorem d_GM_eval_258 : decode prog_15_method_54_code 258 = .ok (.iconst 4, 1) := by decide +kernel
theorem d_GM_eval_259 : decode prog_15_method_54_code 259 = .ok (.ldc2_w 354, 3) := by decide +kernel
theorem d_GM_eval_262 : decode prog_15_method_54_code 262 = .ok (.invokevirtual 347, 3) := by decide +kernel
theorem d_GM_eval_265 : decode prog_15_method_54_code 265 = .ok (.goto 171, 3) := by decide +kernel
theorem d_GM_eval_242 : decode prog_15_method_54_code 242 = .ok (.return_, 1) := by decide +kernel
theorem d_GM_eval_324 : decode prog_15_method_54_code 324 = .ok (.aload_n 0, 1) := by decide +kernel
theorem d_GM_eval_325 : decode prog_15_method_54_code 325 = .ok (.aload_n 0, 1) := by decide +kernel
theorem d_GM_eval_326 : decode prog_15_method_54_code 326 = .ok (.getfield 18, 3) := by decide +kernel
theorem d_GM_eval_329 : decode prog_15_method_54_code 329 = .ok (.iload_n 1, 1) := by decide +kernel
theorem d_GM_eval_330 : decode prog_15_method_54_code 330 = .ok (.iaload, 1) := by decide +kernel
theorem d_GM_eval_331 : decode prog_15_method_54_code 331 = .ok (.invokevirtual 380, 3) := by decide +kernel
theorem d_GM_eval_334 : decode prog_15_method_54_code 334 = .ok (.aload_n 0, 1) := by decide +kernel
theorem d_GM_eval_335 : decode prog_15_method_54_code 335 = .ok (.iconst 1, 1) := by decide +kernel
theorem d_GM_eval_336 : decode prog_15_method_54_code 336 = .ok (.invokevirtual 335, 3) := by decide +kernel
theorem d_GM_eval_339 : decode prog_15_method_54_code 339 = .ok (.ifCond .eq 4, 3) := by decide +kernel
theorem d_GM_eval_343 : decode prog_15_method_54_code 343 = .ok (.aload_n 0, 1) := by decide +kernel
theorem d_GM_eval_344 : decode prog_15_method_54_code 344 = .ok (.aload_n 0, 1) := by decide +kernel
theorem d_GM_eval_345 : decode prog_15_method_54_code 345 = .ok (.getfield 304, 3) := by decide +kernel
theorem d_GM_eval_348 : decode prog_15_method_54_code 348 = .ok (.iconst 1, 1) := by decide +kernel
theorem d_GM_eval_349 : decode prog_15_method_54_code 349 = .ok (.isub, 1) := by decide +kernel
theorem d_GM_eval_350 : decode prog_15_method_54_code 350 = .ok (.invokevirtual 351, 3) := by decide +kernel
theorem d_GM_eval_353 : decode prog_15_method_54_code 353 = .ok (.ifCond .ne 15, 3) := by decide +kernel
theorem d_GM_eval_368 : decode prog_15_method_54_code 368 = .ok (.aload_n 0, 1) := by decide +kernel
theorem d_GM_eval_369 : decode prog_15_method_54_code 369 = .ok (.getfield 122, 3) := by decide +kernel
theorem d_GM_eval_372 : decode prog_15_method_54_code 372 = .ok (.aload_n 0, 1) := by decide +kernel
theorem d_GM_eval_373 : decode prog_15_method_54_code 373 = .ok (.getfield 304, 3) := by decide +kernel
theorem d_GM_eval_376 : decode prog_15_method_54_code 376 = .ok (.iconst 1, 1) := by decide +kernel
theorem d_GM_eval_377 : decode prog_15_method_54_code 377 = .ok (.isub, 1) := by decide +kernel
theorem d_GM_eval_378 : decode prog_15_method_54_code 378 = .ok (.aload_n 0, 1) := by decide +kernel
theorem d_GM_eval_379 : decode prog_15_method_54_code 379 = .ok (.getfield 122, 3) := by decide +kernel
theorem d_GM_eval_382 : decode prog_15_method_54_code 382 = .ok (.aload_n 0, 1) := by decide +kernel
theorem d_GM_eval_383 : decode prog_15_method_54_code 383 = .ok (.getfield 304, 3) := by decide +kernel
theorem d_GM_eval_386 : decode prog_15_method_54_code 386 = .ok (.iconst 1, 1) := by decide +kernel
theorem d_GM_eval_387 : decode prog_15_method_54_code 387 = .ok (.isub, 1) := by decide +kernel
theorem d_GM_eval_388 : decode prog_15_method_54_code 388 = .ok (.laload, 1) := by decide +kernel
theorem d_GM_eval_389 : decode prog_15_method_54_code 389 = .ok (.ldc2_w 383, 3) := by decide +kernel
theorem d_GM_eval_392 : decode prog_15_method_54_code 392 = .ok (.ldiv, 1) := by decide +kernel
theorem d_GM_eval_393 : decode prog_15_method_54_code 393 = .ok (.lastore, 1) := by decide +kernel
theorem d_GM_eval_394 : decode prog_15_method_54_code 394 = .ok (.goto 42, 3) := by decide +kernel
theorem d_GM_eval_356 : decode prog_15_method_54_code 356 = .ok (.aload_n 0, 1) := by decide +kernel
theorem d_GM_eval_357 : decode prog_15_method_54_code 357 = .ok (.iconst 1, 1) := by decide +kernel
theorem d_GM_eval_358 : decode prog_15_method_54_code 358 = .ok (.iconst 4, 1) := by decide +kernel
theorem d_GM_eval_359 : decode prog_15_method_54_code 359 = .ok (.ldc2_w 354, 3) := by decide +kernel
theorem d_GM_eval_362 : decode prog_15_method_54_code 362 = .ok (.invokevirtual 347, 3) := by decide +kernel
theorem d_GM_eval_365 : decode prog_15_method_54_code 365 = .ok (.goto 71, 3) := by decide +kernel
theorem d_GM_eval_342 : decode prog_15_method_54_code 342 = .ok (.return_, 1) := by decide +kernel
theorem d_GM_eval_397 : decode prog_15_method_54_code 397 = .ok (.aload_n 0, 1) := by decide +kernel
theorem d_GM_eval_398 : decode prog_15_method_54_code 398 = .ok (.aload_n 0, 1) := by decide +kernel
theorem d_GM_eval_399 : decode prog_15_method_54_code 399 = .ok (.getfield 18, 3) := by decide +kernel
theorem d_GM_eval_402 : decode prog_15_method_54_code 402 = .ok (.iload_n 1, 1) := by decide +kernel
theorem d_GM_eval_403 : decode prog_15_method_54_code 403 = .ok (.iaload, 1) := by decide +kernel
theorem d_GM_eval_404 : decode prog_15_method_54_code 404 = .ok (.invokevirtual 380, 3) := by decide +kernel
theorem d_GM_eval_407 : decode prog_15_method_54_code 407 = .ok (.aload_n 0, 1) := by decide +kernel
theorem d_GM_eval_408 : decode prog_15_method_54_code 408 = .ok (.aload_n 0, 1) := by decide +kernel
theorem d_GM_eval_409 : decode prog_15_method_54_code 409 = .ok (.getfield 21, 3) := by decide +kernel
theorem d_GM_eval_412 : decode prog_15_method_54_code 412 = .ok (.iload_n 1, 1) := by decide +kernel
theorem d_GM_eval_413 : decode prog_15_method_54_code 413 = .ok (.iaload, 1) := by decide +kernel
theorem d_GM_eval_414 : decode prog_15_method_54_code 414 = .ok (.invokevirtual 380, 3) := by decide +kernel
theorem d_GM_eval_417 : decode prog_15_method_54_code 417 = .ok (.aload_n 0, 1) := by decide +kernel
theorem d_GM_eval_418 : decode prog_15_method_54_code 418 = .ok (.aload_n 0, 1) := by decide +kernel
theorem d_GM_eval_419 : decode prog_15_method_54_code 419 = .ok (.getfield 27, 3) := by decide +kernel
theorem d_GM_eval_422 : decode prog_15_method_54_code 422 = .ok (.iload_n 1, 1) := by decide +kernel
theorem d_GM_eval_423 : decode prog_15_method_54_code 423 = .ok (.laload, 1) := by decide +kernel
theorem d_GM_eval_424 : decode prog_15_method_54_code 424 = .ok (.l2i, 1) := by decide +kernel
theorem d_GM_eval_425 : decode prog_15_method_54_code 425 = .ok (.invokevirtual 385, 3) := by decide +kernel
theorem d_GM_eval_428 : decode prog_15_method_54_code 428 = .ok (.goto 8, 3) := by decide +kernel
theorem d_GM_eval_211 : decode prog_15_method_54_code 211 = .ok (.aload_n 0, 1) := by decide +kernel
theorem d_GM_eval_212 : decode prog_15_method_54_code 212 = .ok (.aload_n 0, 1) := by decide +kernel
theorem d_GM_eval_213 : decode prog_15_method_54_code 213 = .ok (.getfield 18, 3) := by decide +kernel
theorem d_GM_eval_216 : decode prog_15_method_54_code 216 = .ok (.iload_n 1, 1) := by decide +kernel
theorem d_GM_eval_217 : decode prog_15_method_54_code 217 = .ok (.iaload, 1) := by decide +kernel
theorem d_GM_eval_218 : decode prog_15_method_54_code 218 = .ok (.invokevirtual 380, 3) := by decide +kernel
theorem d_GM_eval_221 : decode prog_15_method_54_code 221 = .ok (.goto 215, 3) := by decide +kernel
theorem d_GM_eval_436 : decode prog_15_method_54_code 436 = .ok (.return_, 1) := by decide +kernel
theorem d_GM_eval_120 : decode prog_15_method_54_code 120 = .ok (.iload_n 2, 1) := by decide +kernel
theorem d_GM_eval_121 : decode prog_15_method_54_code 121 = .ok (.aload_n 0, 1) := by decide +kernel
theorem d_GM_eval_122 : decode prog_15_method_54_code 122 = .ok (.getfield 119, 3) := by decide +kernel
theorem d_GM_eval_125 : decode prog_15_method_54_code 125 = .ok (.aload_n 0, 1) := by decide +kernel
theorem d_GM_eval_126 : decode prog_15_method_54_code 126 = .ok (.getfield 304, 3) := by decide +kernel
theorem d_GM_eval_129 : decode prog_15_method_54_code 129 = .ok (.iconst 1, 1) := by decide +kernel
theorem d_GM_eval_130 : decode prog_15_method_54_code 130 = .ok (.isub, 1) := by decide +kernel
theorem d_GM_eval_131 : decode prog_15_method_54_code 131 = .ok (.iaload, 1) := by decide +kernel
theorem d_GM_eval_132 : decode prog_15_method_54_code 132 = .ok (.if_icmp .ge 38, 3) := by decide +kernel
theorem d_GM_eval_170 : decode prog_15_method_54_code 170 = .ok (.goto 266, 3) := by decide +kernel
theorem d_GM_eval_135 : decode prog_15_method_54_code 135 = .ok (.aload_n 0, 1) := by decide +kernel
theorem d_GM_eval_136 : decode prog_15_method_54_code 136 = .ok (.getfield 126, 3) := by decide +kernel
theorem d_GM_eval_139 : decode prog_15_method_54_code 139 = .ok (.bipush 64, 2) := by decide +kernel
theorem d_GM_eval_141 : decode prog_15_method_54_code 141 = .ok (.aload_n 0, 1) := by decide +kernel
theorem d_GM_eval_142 : decode prog_15_method_54_code 142 = .ok (.getfield 304, 3) := by decide +kernel
theorem d_GM_eval_145 : decode prog_15_method_54_code 145 = .ok (.iconst 1, 1) := by decide +kernel
theorem d_GM_eval_146 : decode prog_15_method_54_code 146 = .ok (.isub, 1) := by decide +kernel
theorem d_GM_eval_147 : decode prog_15_method_54_code 147 = .ok (.imul, 1) := by decide +kernel
theorem d_GM_eval_148 : decode prog_15_method_54_code 148 = .ok (.iload_n 2, 1) := by decide +kernel
theorem d_GM_eval_149 : decode prog_15_method_54_code 149 = .ok (.iadd, 1) := by decide +kernel
theorem d_GM_eval_150 : decode prog_15_method_54_code 150 = .ok (.aload_n 0, 1) := by decide +kernel
theorem d_GM_eval_151 : decode prog_15_method_54_code 151 = .ok (.getfield 8, 3) := by decide +kernel
theorem d_GM_eval_154 : decode prog_15_method_54_code 154 = .ok (.aload_n 0, 1) := by decide +kernel
theorem d_GM_eval_155 : decode prog_15_method_54_code 155 = .ok (.getfield 18, 3) := by decide +kernel
theorem d_GM_eval_158 : decode prog_15_method_54_code 158 = .ok (.iload_n 1, 1) := by decide +kernel
theorem d_GM_eval_159 : decode prog_15_method_54_code 159 = .ok (.iaload, 1) := by decide +kernel
theorem d_GM_eval_160 : decode prog_15_method_54_code 160 = .ok (.iload_n 2, 1) := by decide +kernel
theorem d_GM_eval_161 : decode prog_15_method_54_code 161 = .ok (.iadd, 1) := by decide +kernel
theorem d_GM_eval_162 : decode prog_15_method_54_code 162 = .ok (.baload, 1) := by decide +kernel
theorem d_GM_eval_163 : decode prog_15_method_54_code 163 = .ok (.bastore, 1) := by decide +kernel
theorem d_GM_eval_164 : decode prog_15_method_54_code 164 = .ok (.iinc 2 1, 3) := by decide +kernel
theorem d_GM_eval_167 : decode prog_15_method_54_code 167 = .ok (.goto (-47), 3) := by decide +kernel
set_option maxHeartbeats 4000000 in
theorem w_GM_eval_0 {l : Launch} {G : gG} {d : Nat} {X : gX} {M : gM} {k : gM → Prop} {o : Nat} (hX : gmX X o) {x1 : Int} (hx1 : g32 x1) (T : ((0 : Int) ≤ x1 ∧ x1 < 90000) ∧ (g32 (M (o + 2) (Int.toNat x1)) → ((M (o + 2) (Int.toNat x1) = 0 → (((0 : Int) ≤ x1 ∧ x1 < 90000) ∧ (g64 (M (o + 6) (Int.toNat x1)) → (cV l G y_GM_push (gRm d) true [gR G o, gI 1, gL (M (o + 6) (Int.toNat x1))] X M (fun M3 => (wp l G y_GM_eval (gRm (d + 1)) true (kkV X k) true 436 [.unset, .unset, .unset] [] X M3 0 0)))))) ∧ (M (o + 2) (Int.toNat x1) = 1 → (cV l G y_GM_push (gRm d) true [gR G o, gI 2, gL 0] X M (fun M4 => (g32 (M4 o 50) → (((0 : Int) ≤ x1 ∧ x1 < 90000) ∧ (g32 (M4 (o + 4) (Int.toNat x1)) → (((0 : Int) ≤ x1 ∧ x1 < 90000) ∧ (g32 (M4 (o + 3) (Int.toNat x1)) → (((0 : Int) ≤ (M4 o 50) - 1 ∧ (M4 o 50) - 1 < 1200) ∧ (wp l G y_GM_eval (gRm (d + 1)) true (kkV X k) true 120 [.val (gR G o), .val (gI x1), .val (gI 0)] [] X (gUp M4 (o + 35) (Int.toNat ((M4 o 50) - 1)) (w32 ((M4 (o + 4) (Int.toNat x1)) - (M4 (o + 3) (Int.toNat x1))))) 0 0)))))))))) ∧ (M (o + 2) (Int.toNat x1) = 2 → (((0 : Int) ≤ x1 ∧ x1 < 90000) ∧ (g32 (M (o + 3) (Int.toNat x1)) → (cI l G y_GM_refOf (gRm d) false [gR G o, gI (M (o + 3) (Int.toNat x1))] X M (fun v10 M9 => ((0 ≤ v10 → (((0 : Int) ≤ x1 ∧ x1 < 90000) ∧ (g32 (M9 (o + 3) (Int.toNat x1)) → (cI l G y_GM_refOf (gRm d) false [gR G o, gI (M9 (o + 3) (Int.toNat x1))] X M9 (fun v14 M13 => (cV l G y_GM_pushCell (gRm d) true [gR G o, gI v14] X M13 (fun M16 => (wp l G y_GM_eval (gRm (d + 1)) true (kkV X k) true 436 [.unset, .unset, .unset] [] X M16 0 0)))))))) ∧ (¬ 0 ≤ v10 → (cV l G y_GM_fault (gRm d) true [gR G o, gI 2] X M9 (fun M17 => (wp l G y_GM_eval (gRm (d + 1)) true (kkV X k) true 436 [.unset, .unset, .unset] [] X M17 0 0)))))))))) ∧ (M (o + 2) (Int.toNat x1) = 3 → (cV l G y_GM_call_2 (gRm d) true [gR G o, gI x1] X M (fun M19 => (wp l G y_GM_eval (gRm (d + 1)) true (kkV X k) true 436 [.unset, .unset, .unset] [] X M19 0 0)))) ∧ (M (o + 2) (Int.toNat x1) = 4 → (((0 : Int) ≤ x1 ∧ x1 < 90000) ∧ (g64 (M (o + 6) (Int.toNat x1)) → (cV l G y_GM_push (gRm d) true [gR G o, gI 3, gL (M (o + 6) (Int.toNat x1))] X M (fun M21 => (wp l G y_GM_eval (gRm (d + 1)) true (kkV X k) true 436 [.unset, .unset, .unset] [] X M21 0 0)))))) ∧ (M (o + 2) (Int.toNat x1) = 5 → (((0 : Int) ≤ x1 ∧ x1 < 90000) ∧ (g32 (M (o + 3) (Int.toNat x1)) → (cV l G y_GM_eval (gRm d) true [gR G o, gI (M (o + 3) (Int.toNat x1))] X M (fun M23 => (cZ l G y_GM_spoilt (gRm d) true [gR G o, gI 1] X M23 (fun v25 M24 => ((v25 = 0 → (g32 (M24 o 50) → (cZ l G y_GM_asNumber (gRm d) true [gR G o, gI ((M24 o 50) - 1)] X M24 (fun v29 M28 => ((¬ v29 = 0 → (g32 (M28 o 50) → (((0 : Int) ≤ (M28 o 50) - 1 ∧ (M28 o 50) - 1 < 1200) ∧ (g64 (M28 (o + 36) (Int.toNat ((M28 o 50) - 1))) → ((¬ M28 (o + 36) (Int.toNat ((M28 o 50) - 1)) = (-9223372036854775808) → (g32 (M28 o 50) → (g32 (M28 o 50) → (((0 : Int) ≤ (M28 o 50) - 1 ∧ (M28 o 50) - 1 < 1200) ∧ (g64 (M28 (o + 36) (Int.toNat ((M28 o 50) - 1))) → (((0 : Int) ≤ (M28 o 50) - 1 ∧ (M28 o 50) - 1 < 1200) ∧ (wp l G y_GM_eval (gRm (d + 1)) true (kkV X k) true 436 [.unset, .unset, .unset] [] X (gUp M28 (o + 36) (Int.toNat ((M28 o 50) - 1)) (w64 (-(M28 (o + 36) (Int.toNat ((M28 o 50) - 1)))))) 0 0))))))) ∧ (M28 (o + 36) (Int.toNat ((M28 o 50) - 1)) = (-9223372036854775808) → (cV l G y_GM_become (gRm d) true [gR G o, gI 1, gI 4, gL 6] X M28 (fun M36 => (wp l G y_GM_eval (gRm (d + 1)) true (kkV X k) true 436 [.unset, .unset, .unset] [] X M36 0 0))))))))) ∧ (v29 = 0 → (cV l G y_GM_become (gRm d) true [gR G o, gI 1, gI 4, gL 4] X M28 (fun M38 => (wp l G y_GM_eval (gRm (d + 1)) true (kkV X k) true 436 [.unset, .unset, .unset] [] X M38 0 0))))))))) ∧ (¬ v25 = 0 → (k M24)))))))))) ∧ (M (o + 2) (Int.toNat x1) = 6 → (((0 : Int) ≤ x1 ∧ x1 < 90000) ∧ (g32 (M (o + 3) (Int.toNat x1)) → (cV l G y_GM_eval (gRm d) true [gR G o, gI (M (o + 3) (Int.toNat x1))] X M (fun M42 => (cZ l G y_GM_spoilt (gRm d) true [gR G o, gI 1] X M42 (fun v44 M43 => ((v44 = 0 → (g32 (M43 o 50) → (cZ l G y_GM_asNumber (gRm d) true [gR G o, gI ((M43 o 50) - 1)] X M43 (fun v48 M47 => ((¬ v48 = 0 → (g32 (M47 o 50) → (g32 (M47 o 50) → (((0 : Int) ≤ (M47 o 50) - 1 ∧ (M47 o 50) - 1 < 1200) ∧ (g64 (M47 (o + 36) (Int.toNat ((M47 o 50) - 1))) → (((0 : Int) ≤ (M47 o 50) - 1 ∧ (M47 o 50) - 1 < 1200) ∧ (wp l G y_GM_eval (gRm (d + 1)) true (kkV X k) true 436 [.unset, .unset, .unset] [] X (gUp M47 (o + 36) (Int.toNat ((M47 o 50) - 1)) (w64 ((M47 (o + 36) (Int.toNat ((M47 o 50) - 1))).tdiv 100))) 0 0))))))) ∧ (v48 = 0 → (cV l G y_GM_become (gRm d) true [gR G o, gI 1, gI 4, gL 4] X M47 (fun M53 => (wp l G y_GM_eval (gRm (d + 1)) true (kkV X k) true 436 [.unset, .unset, .unset] [] X M53 0 0))))))))) ∧ (¬ v44 = 0 → (k M43)))))))))) ∧ (M (o + 2) (Int.toNat x1) = 7 → (((0 : Int) ≤ x1 ∧ x1 < 90000) ∧ (g32 (M (o + 3) (Int.toNat x1)) → (cV l G y_GM_eval (gRm d) true [gR G o, gI (M (o + 3) (Int.toNat x1))] X M (fun M57 => (((0 : Int) ≤ x1 ∧ x1 < 90000) ∧ (g32 (M57 (o + 4) (Int.toNat x1)) → (cV l G y_GM_eval (gRm d) true [gR G o, gI (M57 (o + 4) (Int.toNat x1))] X M57 (fun M59 => (((0 : Int) ≤ x1 ∧ x1 < 90000) ∧ (g64 (M59 (o + 6) (Int.toNat x1)) → (cV l G y_GM_two (gRm d) true [gR G o, gI (M59 (o + 6) (Int.toNat x1))] X M59 (fun M61 => (wp l G y_GM_eval (gRm (d + 1)) true (kkV X k) true 436 [.unset, .unset, .unset] [] X M61 0 0)))))))))))))) ∧ (M (o + 2) (Int.toNat x1) = 8 → (cV l G y_GM_call_2 (gRm d) true [gR G o, gI x1] X M (fun M62 => (wp l G y_GM_eval (gRm (d + 1)) true (kkV X k) true 436 [.unset, .unset, .unset] [] X M62 0 0)))) ∧ (M (o + 2) (Int.toNat x1) = 9 → (((0 : Int) ≤ x1 ∧ x1 < 90000) ∧ (g32 (M (o + 3) (Int.toNat x1)) → (cV l G y_GM_eval (gRm d) true [gR G o, gI (M (o + 3) (Int.toNat x1))] X M (fun M64 => (wp l G y_GM_eval (gRm (d + 1)) true (kkV X k) true 436 [.unset, .unset, .unset] [] X M64 0 0)))))) ∧ ((¬ M (o + 2) (Int.toNat x1) = 0 ∧ ¬ M (o + 2) (Int.toNat x1) = 1 ∧ ¬ M (o + 2) (Int.toNat x1) = 2 ∧ ¬ M (o + 2) (Int.toNat x1) = 3 ∧ ¬ M (o + 2) (Int.toNat x1) = 4 ∧ ¬ M (o + 2) (Int.toNat x1) = 5 ∧ ¬ M (o + 2) (Int.toNat x1) = 6 ∧ ¬ M (o + 2) (Int.toNat x1) = 7 ∧ ¬ M (o + 2) (Int.toNat x1) = 8 ∧ ¬ M (o + 2) (Int.toNat x1) = 9) → (cV l G y_GM_call_2 (gRm d) true [gR G o, gI x1] X M (fun M65 => (wp l G y_GM_eval (gRm (d + 1)) true (kkV X k) true 436 [.unset, .unset, .unset] [] X M65 0 0))))))) : wp l G y_GM_eval (gRm (d + 1)) true (kkV X k) false 0 [.val (gR G o), .val (gI x1), .unset] [] X M 0 0 := by
  refine wp_aload_n d_GM_eval_0 rfl rfl (g_nz hX.1) ?_
  refine xgetR d_GM_eval_1 gc_GM f_GM_14.1 f_GM_14.2.1 f_GM_14.2.2.1 hX.1 (gm_o2 hX) hX.2.2.1 f_GM_14.2.2.2.2.1 (gm_row hX 1 rfl).1 ?_
  refine wp_iload_n d_GM_eval_4 rfl rfl ?_
  refine wp_iaload d_GM_eval_5 (gm_row hX 1 rfl).2.2.1 (gm_row hX 1 rfl).2.2.2 (gm_row hX 1 rfl).2.1 (g32_n T.1 (by decide)) T.1.1 T.1.2 (fun h1 => ?_)
  have T := T.2 h1
  obtain ⟨T0, T1, T2, T3, T4, T5, T6, T7, T8, T9, T10⟩ := T
  by_cases hc0 : M (o + 2) (Int.toNat x1) = 0
  · refine xtabIn (tgt := 60) d_GM_eval_6 (w32_id h1) 0 hc0 rfl rfl (by decide) ?_
    have T := T0 hc0
    refine wp_aload_n d_GM_eval_60 rfl rfl (g_nz hX.1) ?_
    refine wp_iconst d_GM_eval_61 ?_
    refine wp_aload_n d_GM_eval_62 rfl rfl (g_nz hX.1) ?_
    refine xgetR d_GM_eval_63 gc_GM f_GM_27.1 f_GM_27.2.1 f_GM_27.2.2.1 hX.1 (gm_o2 hX) hX.2.2.1 f_GM_27.2.2.2.2.1 (gm_row hX 5 rfl).1 ?_
    refine wp_iload_n d_GM_eval_66 rfl rfl ?_
    refine wp_laload d_GM_eval_67 (gm_row hX 5 rfl).2.2.1 (gm_row hX 5 rfl).2.2.2 (gm_row hX 5 rfl).2.1 (g32_n T.1 (by decide)) T.1.1 T.1.2 (fun h2 => ?_)
    have T := T.2 h2
    refine xcV_V (md' := true) (As := [gI 1, gL (M (o + 6) (Int.toNat x1))]) (st := []) d_GM_eval_68 ca_GM_push ml_GM_307 im_GM_push se_GM_push gc_GM hX.1 (gm_o2 hX) hX.2.2.1 rfl (by decide) (by decide) rfl (fun _ => rfl) (fun _ => rfl) T (fun M3 T => ?_)
    refine wp_goto (tgt := 436) d_GM_eval_71 (by decide) ?_
    exact wp_md (wpt T True.intro)
  by_cases hc1 : M (o + 2) (Int.toNat x1) = 1
  · refine xtabIn (tgt := 88) d_GM_eval_6 (w32_id h1) 1 hc1 rfl rfl (by decide) ?_
    have T := T1 hc1
    refine wp_aload_n d_GM_eval_88 rfl rfl (g_nz hX.1) ?_
    refine wp_iconst d_GM_eval_89 ?_
    refine wp_lconst0 d_GM_eval_90 ?_
    refine xcV_V (md' := true) (As := [gI 2, gL 0]) (st := []) d_GM_eval_91 ca_GM_push ml_GM_307 im_GM_push se_GM_push gc_GM hX.1 (gm_o2 hX) hX.2.2.1 rfl (by decide) (by decide) rfl (fun _ => rfl) (fun _ => rfl) T (fun M4 T => ?_)
    refine wp_aload_n d_GM_eval_94 rfl rfl (g_nz hX.1) ?_
    refine xgetR d_GM_eval_95 gc_GM f_GM_119.1 f_GM_119.2.1 f_GM_119.2.2.1 hX.1 (gm_o2 hX) hX.2.2.1 f_GM_119.2.2.2.2.1 (gm_row hX 34 rfl).1 ?_
    refine wp_aload_n d_GM_eval_98 rfl rfl (g_nz hX.1) ?_
    refine xgetI d_GM_eval_99 gc_GM f_GM_304.1 f_GM_304.2.1 f_GM_304.2.2.1 hX.1 (gm_o2 hX) hX.2.2.1 f_GM_304.2.2.2.2.1 (fun h5 => ?_)
    have T := T h5
    refine wp_iconst d_GM_eval_102 ?_
    refine wp_isub d_GM_eval_103 ?_
    refine wp_aload_n d_GM_eval_104 rfl rfl (g_nz hX.1) ?_
    refine xgetR d_GM_eval_105 gc_GM f_GM_21.1 f_GM_21.2.1 f_GM_21.2.2.1 hX.1 (gm_o2 hX) hX.2.2.1 f_GM_21.2.2.2.2.1 (gm_row hX 3 rfl).1 ?_
    refine wp_iload_n d_GM_eval_108 rfl rfl ?_
    refine wp_iaload d_GM_eval_109 (gm_row hX 3 rfl).2.2.1 (gm_row hX 3 rfl).2.2.2 (gm_row hX 3 rfl).2.1 (g32_n T.1 (by decide)) T.1.1 T.1.2 (fun h6 => ?_)
    have T := T.2 h6
    refine wp_aload_n d_GM_eval_110 rfl rfl (g_nz hX.1) ?_
    refine xgetR d_GM_eval_111 gc_GM f_GM_18.1 f_GM_18.2.1 f_GM_18.2.2.1 hX.1 (gm_o2 hX) hX.2.2.1 f_GM_18.2.2.2.2.1 (gm_row hX 2 rfl).1 ?_
    refine wp_iload_n d_GM_eval_114 rfl rfl ?_
    refine wp_iaload d_GM_eval_115 (gm_row hX 2 rfl).2.2.1 (gm_row hX 2 rfl).2.2.2 (gm_row hX 2 rfl).2.1 (g32_n T.1 (by decide)) T.1.1 T.1.2 (fun h7 => ?_)
    have T := T.2 h7
    refine wp_isub d_GM_eval_116 ?_
    refine xiast d_GM_eval_117 (gm_row hX 34 rfl).2.2.1 (gm_row hX 34 rfl).2.2.2 (gm_row hX 34 rfl).2.1 (by decide) T.1 rfl ?_
    have T := T.2
    refine wp_iconst d_GM_eval_118 ?_
    refine wp_istore_n (L' := [.val (gR G o), .val (gI x1), .val (gI 0)]) d_GM_eval_119 rfl (by decide) rfl ?_
    exact wp_md (wpt T (And.intro rfl (And.intro rfl (And.intro rfl True.intro))))
  by_cases hc2 : M (o + 2) (Int.toNat x1) = 2
  · refine xtabIn (tgt := 173) d_GM_eval_6 (w32_id h1) 2 hc2 rfl rfl (by decide) ?_
    have T := T2 hc2
    refine wp_aload_n d_GM_eval_173 rfl rfl (g_nz hX.1) ?_
    refine wp_aload_n d_GM_eval_174 rfl rfl (g_nz hX.1) ?_
    refine xgetR d_GM_eval_175 gc_GM f_GM_18.1 f_GM_18.2.1 f_GM_18.2.2.1 hX.1 (gm_o2 hX) hX.2.2.1 f_GM_18.2.2.2.2.1 (gm_row hX 2 rfl).1 ?_
    refine wp_iload_n d_GM_eval_178 rfl rfl ?_
    refine wp_iaload d_GM_eval_179 (gm_row hX 2 rfl).2.2.1 (gm_row hX 2 rfl).2.2.2 (gm_row hX 2 rfl).2.1 (g32_n T.1 (by decide)) T.1.1 T.1.2 (fun h8 => ?_)
    have T := T.2 h8
    refine xcV_I (md' := false) (As := [gI (M (o + 3) (Int.toNat x1))]) (st := []) d_GM_eval_180 ca_GM_refOf ml_GM_374 im_GM_refOf se_GM_refOf gc_GM hX.1 (gm_o2 hX) hX.2.2.1 rfl (by decide) (by decide) rfl id id T (fun v10 M9 h11 T => ?_)
    refine xz_ge (tgt := 194) d_GM_eval_183 (by decide) (w32_id h11) (fun h18 => ?_) (fun h18 => ?_)
    · have T := T.1 h18
      refine wp_aload_n d_GM_eval_194 rfl rfl (g_nz hX.1) ?_
      refine wp_aload_n d_GM_eval_195 rfl rfl (g_nz hX.1) ?_
      refine wp_aload_n d_GM_eval_196 rfl rfl (g_nz hX.1) ?_
      refine xgetR d_GM_eval_197 gc_GM f_GM_18.1 f_GM_18.2.1 f_GM_18.2.2.1 hX.1 (gm_o2 hX) hX.2.2.1 f_GM_18.2.2.2.2.1 (gm_row hX 2 rfl).1 ?_
      refine wp_iload_n d_GM_eval_200 rfl rfl ?_
      refine wp_iaload d_GM_eval_201 (gm_row hX 2 rfl).2.2.1 (gm_row hX 2 rfl).2.2.2 (gm_row hX 2 rfl).2.1 (g32_n T.1 (by decide)) T.1.1 T.1.2 (fun h12 => ?_)
      have T := T.2 h12
      refine xcV_I (md' := false) (As := [gI (M9 (o + 3) (Int.toNat x1))]) (st := [gR G o]) d_GM_eval_202 ca_GM_refOf ml_GM_374 im_GM_refOf se_GM_refOf gc_GM hX.1 (gm_o2 hX) hX.2.2.1 rfl (by decide) (by simp only [List.map, gR_cat, gI_cat, gL_cat, List.sum_cons, List.sum_nil]; decide) rfl id id T (fun v14 M13 h15 T => ?_)
      refine xcV_V (md' := true) (As := [gI v14]) (st := []) d_GM_eval_205 ca_GM_pushCell ml_GM_377 im_GM_pushCell se_GM_pushCell gc_GM hX.1 (gm_o2 hX) hX.2.2.1 rfl (by decide) (by decide) rfl (fun _ => rfl) (fun _ => rfl) T (fun M16 T => ?_)
      refine wp_goto (tgt := 436) d_GM_eval_208 (by decide) ?_
      exact wp_md (wpt T True.intro)
    · have T := T.2 h18
      refine wp_aload_n d_GM_eval_186 rfl rfl (g_nz hX.1) ?_
      refine wp_iconst d_GM_eval_187 ?_
      refine xcV_V (md' := true) (As := [gI 2]) (st := []) d_GM_eval_188 ca_GM_fault ml_GM_314 im_GM_fault se_GM_fault gc_GM hX.1 (gm_o2 hX) hX.2.2.1 rfl (by decide) (by decide) rfl (fun _ => rfl) (fun _ => rfl) T (fun M17 T => ?_)
      refine wp_goto (tgt := 436) d_GM_eval_191 (by decide) ?_
      exact wp_md (wpt T True.intro)
  by_cases hc3 : M (o + 2) (Int.toNat x1) = 3
  · refine xtabIn (tgt := 431) d_GM_eval_6 (w32_id h1) 3 hc3 rfl rfl (by decide) ?_
    have T := T3 hc3
    refine wp_aload_n d_GM_eval_431 rfl rfl (g_nz hX.1) ?_
    refine wp_iload_n d_GM_eval_432 rfl rfl ?_
    refine xcV_V (md' := true) (As := [gI x1]) (st := []) d_GM_eval_433 ca_GM_call_2 ml_GM_388 im_GM_call_2 se_GM_call_2 gc_GM hX.1 (gm_o2 hX) hX.2.2.1 rfl (by decide) (by decide) rfl (fun _ => rfl) (fun _ => rfl) T (fun M19 T => ?_)
    exact wp_md (wpt T True.intro)
  by_cases hc4 : M (o + 2) (Int.toNat x1) = 4
  · refine xtabIn (tgt := 74) d_GM_eval_6 (w32_id h1) 4 hc4 rfl rfl (by decide) ?_
    have T := T4 hc4
    refine wp_aload_n d_GM_eval_74 rfl rfl (g_nz hX.1) ?_
    refine wp_iconst d_GM_eval_75 ?_
    refine wp_aload_n d_GM_eval_76 rfl rfl (g_nz hX.1) ?_
    refine xgetR d_GM_eval_77 gc_GM f_GM_27.1 f_GM_27.2.1 f_GM_27.2.2.1 hX.1 (gm_o2 hX) hX.2.2.1 f_GM_27.2.2.2.2.1 (gm_row hX 5 rfl).1 ?_
    refine wp_iload_n d_GM_eval_80 rfl rfl ?_
    refine wp_laload d_GM_eval_81 (gm_row hX 5 rfl).2.2.1 (gm_row hX 5 rfl).2.2.2 (gm_row hX 5 rfl).2.1 (g32_n T.1 (by decide)) T.1.1 T.1.2 (fun h20 => ?_)
    have T := T.2 h20
    refine xcV_V (md' := true) (As := [gI 3, gL (M (o + 6) (Int.toNat x1))]) (st := []) d_GM_eval_82 ca_GM_push ml_GM_307 im_GM_push se_GM_push gc_GM hX.1 (gm_o2 hX) hX.2.2.1 rfl (by decide) (by decide) rfl (fun _ => rfl) (fun _ => rfl) T (fun M21 T => ?_)
    refine wp_goto (tgt := 436) d_GM_eval_85 (by decide) ?_
    exact wp_md (wpt T True.intro)
  by_cases hc5 : M (o + 2) (Int.toNat x1) = 5
  · refine xtabIn (tgt := 224) d_GM_eval_6 (w32_id h1) 5 hc5 rfl rfl (by decide) ?_
    have T := T5 hc5
    refine wp_aload_n d_GM_eval_224 rfl rfl (g_nz hX.1) ?_
    refine wp_aload_n d_GM_eval_225 rfl rfl (g_nz hX.1) ?_
    refine xgetR d_GM_eval_226 gc_GM f_GM_18.1 f_GM_18.2.1 f_GM_18.2.2.1 hX.1 (gm_o2 hX) hX.2.2.1 f_GM_18.2.2.2.2.1 (gm_row hX 2 rfl).1 ?_
    refine wp_iload_n d_GM_eval_229 rfl rfl ?_
    refine wp_iaload d_GM_eval_230 (gm_row hX 2 rfl).2.2.1 (gm_row hX 2 rfl).2.2.2 (gm_row hX 2 rfl).2.1 (g32_n T.1 (by decide)) T.1.1 T.1.2 (fun h22 => ?_)
    have T := T.2 h22
    refine xcV_V (md' := true) (As := [gI (M (o + 3) (Int.toNat x1))]) (st := []) d_GM_eval_231 ca_GM_eval ml_GM_380 im_GM_eval se_GM_eval gc_GM hX.1 (gm_o2 hX) hX.2.2.1 rfl (by decide) (by decide) rfl (fun _ => rfl) (fun _ => rfl) T (fun M23 T => ?_)
    refine wp_aload_n d_GM_eval_234 rfl rfl (g_nz hX.1) ?_
    refine wp_iconst d_GM_eval_235 ?_
    refine xcV_Z (md' := true) (As := [gI 1]) (st := []) d_GM_eval_236 ca_GM_spoilt ml_GM_335 im_GM_spoilt se_GM_spoilt gc_GM hX.1 (gm_o2 hX) hX.2.2.1 rfl (by decide) (by decide) rfl (fun _ => rfl) (fun _ => rfl) T (fun v25 M24 h26 T => ?_)
    refine xz_eq (tgt := 243) d_GM_eval_239 (by decide) (w32_id (g32_z h26)) (fun h40 => ?_) (fun h40 => ?_)
    · have T := T.1 h40
      refine wp_aload_n d_GM_eval_243 rfl rfl (g_nz hX.1) ?_
      refine wp_aload_n d_GM_eval_244 rfl rfl (g_nz hX.1) ?_
      refine xgetI d_GM_eval_245 gc_GM f_GM_304.1 f_GM_304.2.1 f_GM_304.2.2.1 hX.1 (gm_o2 hX) hX.2.2.1 f_GM_304.2.2.2.2.1 (fun h27 => ?_)
      have T := T h27
      refine wp_iconst d_GM_eval_248 ?_
      refine wp_isub d_GM_eval_249 ?_
      refine xcV_Z (md' := true) (As := [gI ((M24 o 50) - 1)]) (st := []) d_GM_eval_250 ca_GM_asNumber ml_GM_351 im_GM_asNumber se_GM_asNumber gc_GM hX.1 (gm_o2 hX) hX.2.2.1 rfl (by decide) (by decide) rfl (fun _ => rfl) (fun _ => rfl) T (fun v29 M28 h30 T => ?_)
      refine xz_ne (tgt := 268) d_GM_eval_253 (by decide) (w32_id (g32_z h30)) (fun h39 => ?_) (fun h39 => ?_)
      · have T := T.1 h39
        refine wp_aload_n d_GM_eval_268 rfl rfl (g_nz hX.1) ?_
        refine xgetR d_GM_eval_269 gc_GM f_GM_122.1 f_GM_122.2.1 f_GM_122.2.2.1 hX.1 (gm_o2 hX) hX.2.2.1 f_GM_122.2.2.2.2.1 (gm_row hX 35 rfl).1 ?_
        refine wp_aload_n d_GM_eval_272 rfl rfl (g_nz hX.1) ?_
        refine xgetI d_GM_eval_273 gc_GM f_GM_304.1 f_GM_304.2.1 f_GM_304.2.2.1 hX.1 (gm_o2 hX) hX.2.2.1 f_GM_304.2.2.2.2.1 (fun h31 => ?_)
        have T := T h31
        refine wp_iconst d_GM_eval_276 ?_
        refine wp_isub d_GM_eval_277 ?_
        refine wp_laload d_GM_eval_278 (gm_row hX 35 rfl).2.2.1 (gm_row hX 35 rfl).2.2.2 (gm_row hX 35 rfl).2.1 (g32_n T.1 (by decide)) T.1.1 T.1.2 (fun h32 => ?_)
        have T := T.2 h32
        refine wp_ldc2 (n := (-9223372036854775808)) d_GM_eval_279 c_GM_170 rfl ?_
        refine xl_ne (tgt := 298) d_GM_eval_282 d_GM_eval_283 (by decide) (w64_id h32) (w64_id (g64_c (x := (-9223372036854775808)) rfl)) (fun h37 => ?_) (fun h37 => ?_)
        · have T := T.1 h37
          refine wp_aload_n d_GM_eval_298 rfl rfl (g_nz hX.1) ?_
          refine xgetR d_GM_eval_299 gc_GM f_GM_122.1 f_GM_122.2.1 f_GM_122.2.2.1 hX.1 (gm_o2 hX) hX.2.2.1 f_GM_122.2.2.2.2.1 (gm_row hX 35 rfl).1 ?_
          refine wp_aload_n d_GM_eval_302 rfl rfl (g_nz hX.1) ?_
          refine xgetI d_GM_eval_303 gc_GM f_GM_304.1 f_GM_304.2.1 f_GM_304.2.2.1 hX.1 (gm_o2 hX) hX.2.2.1 f_GM_304.2.2.2.2.1 (fun h33 => ?_)
          have T := T h33
          refine wp_iconst d_GM_eval_306 ?_
          refine wp_isub d_GM_eval_307 ?_
          refine wp_aload_n d_GM_eval_308 rfl rfl (g_nz hX.1) ?_
          refine xgetR d_GM_eval_309 gc_GM f_GM_122.1 f_GM_122.2.1 f_GM_122.2.2.1 hX.1 (gm_o2 hX) hX.2.2.1 f_GM_122.2.2.2.2.1 (gm_row hX 35 rfl).1 ?_
          refine wp_aload_n d_GM_eval_312 rfl rfl (g_nz hX.1) ?_
          refine xgetI d_GM_eval_313 gc_GM f_GM_304.1 f_GM_304.2.1 f_GM_304.2.2.1 hX.1 (gm_o2 hX) hX.2.2.1 f_GM_304.2.2.2.2.1 (fun h34 => ?_)
          have T := T h34
          refine wp_iconst d_GM_eval_316 ?_
          refine wp_isub d_GM_eval_317 ?_
          refine wp_laload d_GM_eval_318 (gm_row hX 35 rfl).2.2.1 (gm_row hX 35 rfl).2.2.2 (gm_row hX 35 rfl).2.1 (g32_n T.1 (by decide)) T.1.1 T.1.2 (fun h35 => ?_)
          have T := T.2 h35
          refine wp_lneg d_GM_eval_319 ?_
          refine xlast d_GM_eval_320 (gm_row hX 35 rfl).2.2.1 (gm_row hX 35 rfl).2.2.2 (gm_row hX 35 rfl).2.1 (by decide) T.1 rfl ?_
          have T := T.2
          refine wp_goto (tgt := 436) d_GM_eval_321 (by decide) ?_
          exact wp_md (wpt T True.intro)
        · have T := T.2 h37
          refine wp_aload_n d_GM_eval_286 rfl rfl (g_nz hX.1) ?_
          refine wp_iconst d_GM_eval_287 ?_
          refine wp_iconst d_GM_eval_288 ?_
          refine wp_ldc2 (n := 6) d_GM_eval_289 c_GM_364 rfl ?_
          refine xcV_V (md' := true) (As := [gI 1, gI 4, gL 6]) (st := []) d_GM_eval_292 ca_GM_become ml_GM_347 im_GM_become se_GM_become gc_GM hX.1 (gm_o2 hX) hX.2.2.1 rfl (by decide) (by decide) rfl (fun _ => rfl) (fun _ => rfl) T (fun M36 T => ?_)
          refine wp_goto (tgt := 436) d_GM_eval_295 (by decide) ?_
          exact wp_md (wpt T True.intro)
      · have T := T.2 h39
        refine wp_aload_n d_GM_eval_256 rfl rfl (g_nz hX.1) ?_
        refine wp_iconst d_GM_eval_257 ?_
        refine wp_iconst d_GM_eval_258 ?_
        refine wp_ldc2 (n := 4) d_GM_eval_259 c_GM_354 rfl ?_
        refine xcV_V (md' := true) (As := [gI 1, gI 4, gL 4]) (st := []) d_GM_eval_262 ca_GM_become ml_GM_347 im_GM_become se_GM_become gc_GM hX.1 (gm_o2 hX) hX.2.2.1 rfl (by decide) (by decide) rfl (fun _ => rfl) (fun _ => rfl) T (fun M38 T => ?_)
        refine wp_goto (tgt := 436) d_GM_eval_265 (by decide) ?_
        exact wp_md (wpt T True.intro)
    · have T := T.2 h40
      exact wp_return d_GM_eval_242 rfl (fun _ => rfl) (Nat.zero_le _) (Nat.zero_le _) (kV_mk T)
  by_cases hc6 : M (o + 2) (Int.toNat x1) = 6
  · refine xtabIn (tgt := 324) d_GM_eval_6 (w32_id h1) 6 hc6 rfl rfl (by decide) ?_
    have T := T6 hc6
    refine wp_aload_n d_GM_eval_324 rfl rfl (g_nz hX.1) ?_
    refine wp_aload_n d_GM_eval_325 rfl rfl (g_nz hX.1) ?_
    refine xgetR d_GM_eval_326 gc_GM f_GM_18.1 f_GM_18.2.1 f_GM_18.2.2.1 hX.1 (gm_o2 hX) hX.2.2.1 f_GM_18.2.2.2.2.1 (gm_row hX 2 rfl).1 ?_
    refine wp_iload_n d_GM_eval_329 rfl rfl ?_
    refine wp_iaload d_GM_eval_330 (gm_row hX 2 rfl).2.2.1 (gm_row hX 2 rfl).2.2.2 (gm_row hX 2 rfl).2.1 (g32_n T.1 (by decide)) T.1.1 T.1.2 (fun h41 => ?_)
    have T := T.2 h41
    refine xcV_V (md' := true) (As := [gI (M (o + 3) (Int.toNat x1))]) (st := []) d_GM_eval_331 ca_GM_eval ml_GM_380 im_GM_eval se_GM_eval gc_GM hX.1 (gm_o2 hX) hX.2.2.1 rfl (by decide) (by decide) rfl (fun _ => rfl) (fun _ => rfl) T (fun M42 T => ?_)
    refine wp_aload_n d_GM_eval_334 rfl rfl (g_nz hX.1) ?_
    refine wp_iconst d_GM_eval_335 ?_
    refine xcV_Z (md' := true) (As := [gI 1]) (st := []) d_GM_eval_336 ca_GM_spoilt ml_GM_335 im_GM_spoilt se_GM_spoilt gc_GM hX.1 (gm_o2 hX) hX.2.2.1 rfl (by decide) (by decide) rfl (fun _ => rfl) (fun _ => rfl) T (fun v44 M43 h45 T => ?_)
    refine xz_eq (tgt := 343) d_GM_eval_339 (by decide) (w32_id (g32_z h45)) (fun h55 => ?_) (fun h55 => ?_)
    · have T := T.1 h55
      refine wp_aload_n d_GM_eval_343 rfl rfl (g_nz hX.1) ?_
      refine wp_aload_n d_GM_eval_344 rfl rfl (g_nz hX.1) ?_
      refine xgetI d_GM_eval_345 gc_GM f_GM_304.1 f_GM_304.2.1 f_GM_304.2.2.1 hX.1 (gm_o2 hX) hX.2.2.1 f_GM_304.2.2.2.2.1 (fun h46 => ?_)
      have T := T h46
      refine wp_iconst d_GM_eval_348 ?_
      refine wp_isub d_GM_eval_349 ?_
      refine xcV_Z (md' := true) (As := [gI ((M43 o 50) - 1)]) (st := []) d_GM_eval_350 ca_GM_asNumber ml_GM_351 im_GM_asNumber se_GM_asNumber gc_GM hX.1 (gm_o2 hX) hX.2.2.1 rfl (by decide) (by decide) rfl (fun _ => rfl) (fun _ => rfl) T (fun v48 M47 h49 T => ?_)
      refine xz_ne (tgt := 368) d_GM_eval_353 (by decide) (w32_id (g32_z h49)) (fun h54 => ?_) (fun h54 => ?_)
      · have T := T.1 h54
        refine wp_aload_n d_GM_eval_368 rfl rfl (g_nz hX.1) ?_
        refine xgetR d_GM_eval_369 gc_GM f_GM_122.1 f_GM_122.2.1 f_GM_122.2.2.1 hX.1 (gm_o2 hX) hX.2.2.1 f_GM_122.2.2.2.2.1 (gm_row hX 35 rfl).1 ?_
        refine wp_aload_n d_GM_eval_372 rfl rfl (g_nz hX.1) ?_
        refine xgetI d_GM_eval_373 gc_GM f_GM_304.1 f_GM_304.2.1 f_GM_304.2.2.1 hX.1 (gm_o2 hX) hX.2.2.1 f_GM_304.2.2.2.2.1 (fun h50 => ?_)
        have T := T h50
        refine wp_iconst d_GM_eval_376 ?_
        refine wp_isub d_GM_eval_377 ?_
        refine wp_aload_n d_GM_eval_378 rfl rfl (g_nz hX.1) ?_
        refine xgetR d_GM_eval_379 gc_GM f_GM_122.1 f_GM_122.2.1 f_GM_122.2.2.1 hX.1 (gm_o2 hX) hX.2.2.1 f_GM_122.2.2.2.2.1 (gm_row hX 35 rfl).1 ?_
        refine wp_aload_n d_GM_eval_382 rfl rfl (g_nz hX.1) ?_
        refine xgetI d_GM_eval_383 gc_GM f_GM_304.1 f_GM_304.2.1 f_GM_304.2.2.1 hX.1 (gm_o2 hX) hX.2.2.1 f_GM_304.2.2.2.2.1 (fun h51 => ?_)
        have T := T h51
        refine wp_iconst d_GM_eval_386 ?_
        refine wp_isub d_GM_eval_387 ?_
        refine wp_laload d_GM_eval_388 (gm_row hX 35 rfl).2.2.1 (gm_row hX 35 rfl).2.2.2 (gm_row hX 35 rfl).2.1 (g32_n T.1 (by decide)) T.1.1 T.1.2 (fun h52 => ?_)
        have T := T.2 h52
        refine wp_ldc2 (n := 100) d_GM_eval_389 c_GM_383 rfl ?_
        refine xldiv d_GM_eval_392 (w64_id h52) (w64_id (g64_c (x := 100) rfl)) (by decide) ?_
        refine xlast d_GM_eval_393 (gm_row hX 35 rfl).2.2.1 (gm_row hX 35 rfl).2.2.2 (gm_row hX 35 rfl).2.1 (by decide) T.1 rfl ?_
        have T := T.2
        refine wp_goto (tgt := 436) d_GM_eval_394 (by decide) ?_
        exact wp_md (wpt T True.intro)
      · have T := T.2 h54
        refine wp_aload_n d_GM_eval_356 rfl rfl (g_nz hX.1) ?_
        refine wp_iconst d_GM_eval_357 ?_
        refine wp_iconst d_GM_eval_358 ?_
        refine wp_ldc2 (n := 4) d_GM_eval_359 c_GM_354 rfl ?_
        refine xcV_V (md' := true) (As := [gI 1, gI 4, gL 4]) (st := []) d_GM_eval_362 ca_GM_become ml_GM_347 im_GM_become se_GM_become gc_GM hX.1 (gm_o2 hX) hX.2.2.1 rfl (by decide) (by decide) rfl (fun _ => rfl) (fun _ => rfl) T (fun M53 T => ?_)
        refine wp_goto (tgt := 436) d_GM_eval_365 (by decide) ?_
        exact wp_md (wpt T True.intro)
    · have T := T.2 h55
      exact wp_return d_GM_eval_342 rfl (fun _ => rfl) (Nat.zero_le _) (Nat.zero_le _) (kV_mk T)
  by_cases hc7 : M (o + 2) (Int.toNat x1) = 7
  · refine xtabIn (tgt := 397) d_GM_eval_6 (w32_id h1) 7 hc7 rfl rfl (by decide) ?_
    have T := T7 hc7
    refine wp_aload_n d_GM_eval_397 rfl rfl (g_nz hX.1) ?_
    refine wp_aload_n d_GM_eval_398 rfl rfl (g_nz hX.1) ?_
    refine xgetR d_GM_eval_399 gc_GM f_GM_18.1 f_GM_18.2.1 f_GM_18.2.2.1 hX.1 (gm_o2 hX) hX.2.2.1 f_GM_18.2.2.2.2.1 (gm_row hX 2 rfl).1 ?_
    refine wp_iload_n d_GM_eval_402 rfl rfl ?_
    refine wp_iaload d_GM_eval_403 (gm_row hX 2 rfl).2.2.1 (gm_row hX 2 rfl).2.2.2 (gm_row hX 2 rfl).2.1 (g32_n T.1 (by decide)) T.1.1 T.1.2 (fun h56 => ?_)
    have T := T.2 h56
    refine xcV_V (md' := true) (As := [gI (M (o + 3) (Int.toNat x1))]) (st := []) d_GM_eval_404 ca_GM_eval ml_GM_380 im_GM_eval se_GM_eval gc_GM hX.1 (gm_o2 hX) hX.2.2.1 rfl (by decide) (by decide) rfl (fun _ => rfl) (fun _ => rfl) T (fun M57 T => ?_)
    refine wp_aload_n d_GM_eval_407 rfl rfl (g_nz hX.1) ?_
    refine wp_aload_n d_GM_eval_408 rfl rfl (g_nz hX.1) ?_
    refine xgetR d_GM_eval_409 gc_GM f_GM_21.1 f_GM_21.2.1 f_GM_21.2.2.1 hX.1 (gm_o2 hX) hX.2.2.1 f_GM_21.2.2.2.2.1 (gm_row hX 3 rfl).1 ?_
    refine wp_iload_n d_GM_eval_412 rfl rfl ?_
    refine wp_iaload d_GM_eval_413 (gm_row hX 3 rfl).2.2.1 (gm_row hX 3 rfl).2.2.2 (gm_row hX 3 rfl).2.1 (g32_n T.1 (by decide)) T.1.1 T.1.2 (fun h58 => ?_)
    have T := T.2 h58
    refine xcV_V (md' := true) (As := [gI (M57 (o + 4) (Int.toNat x1))]) (st := []) d_GM_eval_414 ca_GM_eval ml_GM_380 im_GM_eval se_GM_eval gc_GM hX.1 (gm_o2 hX) hX.2.2.1 rfl (by decide) (by decide) rfl (fun _ => rfl) (fun _ => rfl) T (fun M59 T => ?_)
    refine wp_aload_n d_GM_eval_417 rfl rfl (g_nz hX.1) ?_
    refine wp_aload_n d_GM_eval_418 rfl rfl (g_nz hX.1) ?_
    refine xgetR d_GM_eval_419 gc_GM f_GM_27.1 f_GM_27.2.1 f_GM_27.2.2.1 hX.1 (gm_o2 hX) hX.2.2.1 f_GM_27.2.2.2.2.1 (gm_row hX 5 rfl).1 ?_
    refine wp_iload_n d_GM_eval_422 rfl rfl ?_
    refine wp_laload d_GM_eval_423 (gm_row hX 5 rfl).2.2.1 (gm_row hX 5 rfl).2.2.2 (gm_row hX 5 rfl).2.1 (g32_n T.1 (by decide)) T.1.1 T.1.2 (fun h60 => ?_)
    have T := T.2 h60
    refine wp_l2i d_GM_eval_424 ?_
    refine xcV_V (md' := true) (As := [gI (M59 (o + 6) (Int.toNat x1))]) (st := []) d_GM_eval_425 ca_GM_two ml_GM_385 im_GM_two se_GM_two gc_GM hX.1 (gm_o2 hX) hX.2.2.1 rfl (by decide) (by decide) rfl (fun _ => rfl) (fun _ => rfl) T (fun M61 T => ?_)
    refine wp_goto (tgt := 436) d_GM_eval_428 (by decide) ?_
    exact wp_md (wpt T True.intro)
  by_cases hc8 : M (o + 2) (Int.toNat x1) = 8
  · refine xtabIn (tgt := 431) d_GM_eval_6 (w32_id h1) 8 hc8 rfl rfl (by decide) ?_
    have T := T8 hc8
    refine wp_aload_n d_GM_eval_431 rfl rfl (g_nz hX.1) ?_
    refine wp_iload_n d_GM_eval_432 rfl rfl ?_
    refine xcV_V (md' := true) (As := [gI x1]) (st := []) d_GM_eval_433 ca_GM_call_2 ml_GM_388 im_GM_call_2 se_GM_call_2 gc_GM hX.1 (gm_o2 hX) hX.2.2.1 rfl (by decide) (by decide) rfl (fun _ => rfl) (fun _ => rfl) T (fun M62 T => ?_)
    exact wp_md (wpt T True.intro)
  by_cases hc9 : M (o + 2) (Int.toNat x1) = 9
  · refine xtabIn (tgt := 211) d_GM_eval_6 (w32_id h1) 9 hc9 rfl rfl (by decide) ?_
    have T := T9 hc9
    refine wp_aload_n d_GM_eval_211 rfl rfl (g_nz hX.1) ?_
    refine wp_aload_n d_GM_eval_212 rfl rfl (g_nz hX.1) ?_
    refine xgetR d_GM_eval_213 gc_GM f_GM_18.1 f_GM_18.2.1 f_GM_18.2.2.1 hX.1 (gm_o2 hX) hX.2.2.1 f_GM_18.2.2.2.2.1 (gm_row hX 2 rfl).1 ?_
    refine wp_iload_n d_GM_eval_216 rfl rfl ?_
    refine wp_iaload d_GM_eval_217 (gm_row hX 2 rfl).2.2.1 (gm_row hX 2 rfl).2.2.2 (gm_row hX 2 rfl).2.1 (g32_n T.1 (by decide)) T.1.1 T.1.2 (fun h63 => ?_)
    have T := T.2 h63
    refine xcV_V (md' := true) (As := [gI (M (o + 3) (Int.toNat x1))]) (st := []) d_GM_eval_218 ca_GM_eval ml_GM_380 im_GM_eval se_GM_eval gc_GM hX.1 (gm_o2 hX) hX.2.2.1 rfl (by decide) (by decide) rfl (fun _ => rfl) (fun _ => rfl) T (fun M64 T => ?_)
    refine wp_goto (tgt := 436) d_GM_eval_221 (by decide) ?_
    exact wp_md (wpt T True.intro)
  refine xtabOut (tgt := 431) d_GM_eval_6 (w32_id h1) (by omega) (by decide) ?_
  have T := T10 ⟨hc0, hc1, hc2, hc3, hc4, hc5, hc6, hc7, hc8, hc9⟩
  refine wp_aload_n d_GM_eval_431 rfl rfl (g_nz hX.1) ?_
  refine wp_iload_n d_GM_eval_432 rfl rfl ?_
  refine xcV_V (md' := true) (As := [gI x1]) (st := []) d_GM_eval_433 ca_GM_call_2 ml_GM_388 im_GM_call_2 se_GM_call_2 gc_GM hX.1 (gm_o2 hX) hX.2.2.1 rfl (by decide) (by decide) rfl (fun _ => rfl) (fun _ => rfl) T (fun M65 T => ?_)
  exact wp_md (wpt T True.intro)
set_option maxHeartbeats 4000000 in
theorem w_GM_eval_436 {l : Launch} {G : gG} {d : Nat} {X : gX} {M : gM} {k : gM → Prop} {o : Nat} (hX : gmX X o)  (T : k M) : wp l G y_GM_eval (gRm (d + 1)) true (kkV X k) true 436 [.unset, .unset, .unset] [] X M 0 0 := by
  exact wp_return d_GM_eval_436 rfl (fun _ => rfl) (Nat.zero_le _) (Nat.zero_le _) (kV_mk T)
set_option maxHeartbeats 4000000 in
theorem w_GM_eval_120 {l : Launch} {G : gG} {d : Nat} {X : gX} {M : gM} {k : gM → Prop} {o : Nat} (hX : gmX X o) {x1 : Int} (hx1 : g32 x1) {x2 : Int} (hx2 : g32 x2) (T : g32 (M o 50) → (((0 : Int) ≤ (M o 50) - 1 ∧ (M o 50) - 1 < 1200) ∧ (g32 (M (o + 35) (Int.toNat ((M o 50) - 1))) → ((M (o + 35) (Int.toNat ((M o 50) - 1)) ≤ x2 → (wp l G y_GM_eval (gRm (d + 1)) true (kkV X k) true 436 [.unset, .unset, .unset] [] X M 0 0)) ∧ (¬ M (o + 35) (Int.toNat ((M o 50) - 1)) ≤ x2 → (g32 (M o 50) → (((0 : Int) ≤ x1 ∧ x1 < 90000) ∧ (g32 (M (o + 3) (Int.toNat x1)) → (((0 : Int) ≤ (M (o + 3) (Int.toNat x1)) + x2 ∧ (M (o + 3) (Int.toNat x1)) + x2 < 90000) ∧ ((-128 ≤ M (o + 1) (Int.toNat ((M (o + 3) (Int.toNat x1)) + x2)) ∧ M (o + 1) (Int.toNat ((M (o + 3) (Int.toNat x1)) + x2)) < 128) → (((0 : Int) ≤ (64 * ((M o 50) - 1)) + x2 ∧ (64 * ((M o 50) - 1)) + x2 < 76800) ∧ (wp l G y_GM_eval (gRm (d + 1)) true (kkV X k) true 120 [.val (gR G o), .val (gI x1), .val (gI (w32 (x2 + 1)))] [] X (gUp M (o + 37) (Int.toNat ((64 * ((M o 50) - 1)) + x2)) (gByte (M (o + 1) (Int.toNat ((M (o + 3) (Int.toNat x1)) + x2))))) 0 0)))))))))))) : wp l G y_GM_eval (gRm (d + 1)) true (kkV X k) true 120 [.val (gR G o), .val (gI x1), .val (gI x2)] [] X M 0 0 := by
  refine wp_iload_n d_GM_eval_120 rfl rfl ?_
  refine wp_aload_n d_GM_eval_121 rfl rfl (g_nz hX.1) ?_
  refine xgetR d_GM_eval_122 gc_GM f_GM_119.1 f_GM_119.2.1 f_GM_119.2.2.1 hX.1 (gm_o2 hX) hX.2.2.1 f_GM_119.2.2.2.2.1 (gm_row hX 34 rfl).1 ?_
  refine wp_aload_n d_GM_eval_125 rfl rfl (g_nz hX.1) ?_
  refine xgetI d_GM_eval_126 gc_GM f_GM_304.1 f_GM_304.2.1 f_GM_304.2.2.1 hX.1 (gm_o2 hX) hX.2.2.1 f_GM_304.2.2.2.2.1 (fun h66 => ?_)
  have T := T h66
  refine wp_iconst d_GM_eval_129 ?_
  refine wp_isub d_GM_eval_130 ?_
  refine wp_iaload d_GM_eval_131 (gm_row hX 34 rfl).2.2.1 (gm_row hX 34 rfl).2.2.2 (gm_row hX 34 rfl).2.1 (g32_n T.1 (by decide)) T.1.1 T.1.2 (fun h67 => ?_)
  have T := T.2 h67
  refine xi_ge (tgt := 170) d_GM_eval_132 (by decide) (w32_id hx2) (w32_id h67) (fun h71 => ?_) (fun h71 => ?_)
  · have T := T.1 h71
    refine wp_goto (tgt := 436) d_GM_eval_170 (by decide) ?_
    exact wp_md (wpt T True.intro)
  · have T := T.2 h71
    refine wp_aload_n d_GM_eval_135 rfl rfl (g_nz hX.1) ?_
    refine xgetR d_GM_eval_136 gc_GM f_GM_126.1 f_GM_126.2.1 f_GM_126.2.2.1 hX.1 (gm_o2 hX) hX.2.2.1 f_GM_126.2.2.2.2.1 (gm_row hX 36 rfl).1 ?_
    refine wp_bipush d_GM_eval_139 ⟨by decide, by decide⟩ ?_
    refine wp_aload_n d_GM_eval_141 rfl rfl (g_nz hX.1) ?_
    refine xgetI d_GM_eval_142 gc_GM f_GM_304.1 f_GM_304.2.1 f_GM_304.2.2.1 hX.1 (gm_o2 hX) hX.2.2.1 f_GM_304.2.2.2.2.1 (fun h68 => ?_)
    have T := T h68
    refine wp_iconst d_GM_eval_145 ?_
    refine wp_isub d_GM_eval_146 ?_
    refine wp_imul d_GM_eval_147 ?_
    refine wp_iload_n d_GM_eval_148 rfl rfl ?_
    refine wp_iadd d_GM_eval_149 ?_
    refine wp_aload_n d_GM_eval_150 rfl rfl (g_nz hX.1) ?_
    refine xgetR d_GM_eval_151 gc_GM f_GM_8.1 f_GM_8.2.1 f_GM_8.2.2.1 hX.1 (gm_o2 hX) hX.2.2.1 f_GM_8.2.2.2.2.1 (gm_row hX 0 rfl).1 ?_
    refine wp_aload_n d_GM_eval_154 rfl rfl (g_nz hX.1) ?_
    refine xgetR d_GM_eval_155 gc_GM f_GM_18.1 f_GM_18.2.1 f_GM_18.2.2.1 hX.1 (gm_o2 hX) hX.2.2.1 f_GM_18.2.2.2.2.1 (gm_row hX 2 rfl).1 ?_
    refine wp_iload_n d_GM_eval_158 rfl rfl ?_
    refine wp_iaload d_GM_eval_159 (gm_row hX 2 rfl).2.2.1 (gm_row hX 2 rfl).2.2.2 (gm_row hX 2 rfl).2.1 (g32_n T.1 (by decide)) T.1.1 T.1.2 (fun h69 => ?_)
    have T := T.2 h69
    refine wp_iload_n d_GM_eval_160 rfl rfl ?_
    refine wp_iadd d_GM_eval_161 ?_
    refine wp_baload d_GM_eval_162 (gm_row hX 0 rfl).2.2.1 (gm_row hX 0 rfl).2.2.2 (gm_row hX 0 rfl).2.1 (g32_n T.1 (by decide)) T.1.1 T.1.2 (fun h70 => ?_)
    have T := T.2 h70
    refine xbast d_GM_eval_163 (gm_row hX 36 rfl).2.2.1 (gm_row hX 36 rfl).2.2.2 (gm_row hX 36 rfl).2.1 (by decide) T.1 ?_
    have T := T.2
    refine wp_iinc (L' := [.val (gR G o), .val (gI x1), .val (gI (x2 + 1))]) d_GM_eval_164 rfl (by decide) rfl ?_
    refine wp_goto (tgt := 120) d_GM_eval_167 (by decide) ?_
    exact wp_md (wpt T (And.intro rfl (And.intro rfl (And.intro (gI_w _) True.intro))))
theorem e_GM_eval {l : Launch} {G : gG} {d : Nat} {X : gX} {M : gM} {k : gM → Prop} {o : Nat} {x1 : Int} (T : wp l G y_GM_eval (gRm (d + 1)) true (kkV X k) false 0 [.val (gR G o), .val (gI x1), .unset] [] X M 0 0) : cV l G y_GM_eval (gRm (d + 1)) true [gR G o, gI x1] X M k := cen_V (plainFor_of_name rfl) (by simp only [lg_sl_R, lg_sl_I, lg_sl_L, lg_sl_N, List.length_cons, List.length_nil]; decide) (by unfold gEn; simp only [lg_sl_R, lg_sl_I, lg_sl_L, lg_sl_N]; exact wpt T (And.intro rfl (And.intro rfl True.intro)))
theorem d_GM_box_0 : decode prog_15_method_57_code 0 = .ok (.aload_n 0, 1) := by decide +kernel
theorem d_GM_box_1 : decode prog_15_method_57_code 1 = .ok (.aload_n 0, 1) := by decide +kernel
theorem d_GM_box_2 : decode prog_15_method_57_code 2 = .ok (.getfield 18, 3) := by decide +kernel
theorem d_GM_box_5 : decode prog_15_method_57_code 5 = .ok (.iload_n 1, 1) := by decide +kernel
theorem d_GM_box_6 : decode prog_15_method_57_code 6 = .ok (.iaload, 1) := by decide +kernel
theorem d_GM_box_7 : decode prog_15_method_57_code 7 = .ok (.invokevirtual 374, 3) := by decide +kernel
theorem d_GM_box_10 : decode prog_15_method_57_code 10 = .ok (.istore_n 2, 1) := by decide +kernel
theorem d_GM_box_11 : decode prog_15_method_57_code 11 = .ok (.aload_n 0, 1) := by decide +kernel
theorem d_GM_box_12 : decode prog_15_method_57_code 12 = .ok (.getfield 14, 3) := by decide +kernel
theorem d_GM_box_15 : decode prog_15_method_57_code 15 = .ok (.iload_n 1, 1) := by decide +kernel
theorem d_GM_box_16 : decode prog_15_method_57_code 16 = .ok (.iaload, 1) := by decide +kernel
theorem d_GM_box_17 : decode prog_15_method_57_code 17 = .ok (.iconst 3, 1) := by decide +kernel
theorem d_GM_box_18 : decode prog_15_method_57_code 18 = .ok (.if_icmp .ne 18, 3) := by decide +kernel
theorem d_GM_box_36 : decode prog_15_method_57_code 36 = .ok (.iload_n 2, 1) := by decide +kernel
theorem d_GM_box_37 : decode prog_15_method_57_code 37 = .ok (.istore_n 3, 1) := by decide +kernel
theorem d_GM_box_38 : decode prog_15_method_57_code 38 = .ok (.aload_n 0, 1) := by decide +kernel
theorem d_GM_box_39 : decode prog_15_method_57_code 39 = .ok (.aload_n 0, 1) := by decide +kernel
theorem d_GM_box_40 : decode prog_15_method_57_code 40 = .ok (.iload_n 2, 1) := by decide +kernel
theorem d_GM_box_41 : decode prog_15_method_57_code 41 = .ok (.iload_n 3, 1) := by decide +kernel
theorem d_GM_box_42 : decode prog_15_method_57_code 42 = .ok (.iconst 1, 1) := by decide +kernel
theorem d_GM_box_43 : decode prog_15_method_57_code 43 = .ok (.invokevirtual 292, 3) := by decide +kernel
theorem d_GM_box_46 : decode prog_15_method_57_code 46 = .ok (.putfield 412, 3) := by decide +kernel
theorem d_GM_box_49 : decode prog_15_method_57_code 49 = .ok (.aload_n 0, 1) := by decide +kernel
theorem d_GM_box_50 : decode prog_15_method_57_code 50 = .ok (.aload_n 0, 1) := by decide +kernel
theorem d_GM_box_51 : decode prog_15_method_57_code 51 = .ok (.iload_n 2, 1) := by decide +kernel
theorem d_GM_box_52 : decode prog_15_method_57_code 52 = .ok (.iload_n 3, 1) := by decide +kernel
theorem d_GM_box_53 : decode prog_15_method_57_code 53 = .ok (.iconst 1, 1) := by decide +kernel
theorem d_GM_box_54 : decode prog_15_method_57_code 54 = .ok (.invokevirtual 288, 3) := by decide +kernel
theorem d_GM_box_57 : decode prog_15_method_57_code 57 = .ok (.putfield 415, 3) := by decide +kernel
theorem d_GM_box_60 : decode prog_15_method_57_code 60 = .ok (.aload_n 0, 1) := by decide +kernel
theorem d_GM_box_61 : decode prog_15_method_57_code 61 = .ok (.aload_n 0, 1) := by decide +kernel
theorem d_GM_box_62 : decode prog_15_method_57_code 62 = .ok (.iload_n 2, 1) := by decide +kernel
theorem d_GM_box_63 : decode prog_15_method_57_code 63 = .ok (.iload_n 3, 1) := by decide +kernel
theorem d_GM_box_64 : decode prog_15_method_57_code 64 = .ok (.iconst 0, 1) := by decide +kernel
theorem d_GM_box_65 : decode prog_15_method_57_code 65 = .ok (.invokevirtual 292, 3) := by decide +kernel
theorem d_GM_box_68 : decode prog_15_method_57_code 68 = .ok (.putfield 418, 3) := by decide +kernel
theorem d_GM_box_71 : decode prog_15_method_57_code 71 = .ok (.aload_n 0, 1) := by decide +kernel
theorem d_GM_box_72 : decode prog_15_method_57_code 72 = .ok (.aload_n 0, 1) := by decide +kernel
theorem d_GM_box_73 : decode prog_15_method_57_code 73 = .ok (.iload_n 2, 1) := by decide +kernel
theorem d_GM_box_74 : decode prog_15_method_57_code 74 = .ok (.iload_n 3, 1) := by decide +kernel
theorem d_GM_box_75 : decode prog_15_method_57_code 75 = .ok (.iconst 0, 1) := by decide +kernel
theorem d_GM_box_76 : decode prog_15_method_57_code 76 = .ok (.invokevirtual 288, 3) := by decide +kernel
theorem d_GM_box_79 : decode prog_15_method_57_code 79 = .ok (.putfield 421, 3) := by decide +kernel
theorem d_GM_box_82 : decode prog_15_method_57_code 82 = .ok (.return_, 1) := by decide +kernel
theorem d_GM_box_21 : decode prog_15_method_57_code 21 = .ok (.aload_n 0, 1) := by decide +kernel
theorem d_GM_box_22 : decode prog_15_method_57_code 22 = .ok (.aload_n 0, 1) := by decide +kernel
theorem d_GM_box_23 : decode prog_15_method_57_code 23 = .ok (.getfield 18, 3) := by decide +kernel
theorem d_GM_box_26 : decode prog_15_method_57_code 26 = .ok (.iload_n 1, 1) := by decide +kernel
theorem d_GM_box_27 : decode prog_15_method_57_code 27 = .ok (.iaload, 1) := by decide +kernel
theorem d_GM_box_28 : decode prog_15_method_57_code 28 = .ok (.iconst 1, 1) := by decide +kernel
theorem d_GM_box_29 : decode prog_15_method_57_code 29 = .ok (.iadd, 1) := by decide +kernel
theorem d_GM_box_30 : decode prog_15_method_57_code 30 = .ok (.invokevirtual 374, 3) := by decide +kernel
theorem d_GM_box_33 : decode prog_15_method_57_code 33 = .ok (.goto 4, 3) := by decide +kernel
set_option maxHeartbeats 4000000 in
theorem w_GM_box_0 {l : Launch} {G : gG} {d : Nat} {X : gX} {M : gM} {k : gM → Prop} {o : Nat} (hX : gmX X o) {x1 : Int} (hx1 : g32 x1) (T : ((0 : Int) ≤ x1 ∧ x1 < 90000) ∧ (g32 (M (o + 3) (Int.toNat x1)) → (cI l G y_GM_refOf (gRm d) false [gR G o, gI (M (o + 3) (Int.toNat x1))] X M (fun v3 M2 => (((0 : Int) ≤ x1 ∧ x1 < 90000) ∧ (g32 (M2 (o + 2) (Int.toNat x1)) → ((¬ M2 (o + 2) (Int.toNat x1) = 3 → (cI l G y_GM_low (gRm d) false [gR G o, gI v3, gI v3, gI 1] X M2 (fun v7 M6 => (cI l G y_GM_high (gRm d) false [gR G o, gI v3, gI v3, gI 1] X (gUp M6 o 56 v7) (fun v10 M9 => (cI l G y_GM_low (gRm d) false [gR G o, gI v3, gI v3, gI 0] X (gUp M9 o 58 v10) (fun v13 M12 => (cI l G y_GM_high (gRm d) false [gR G o, gI v3, gI v3, gI 0] X (gUp M12 o 57 v13) (fun v16 M15 => (k (gUp M15 o 59 v16))))))))))) ∧ (M2 (o + 2) (Int.toNat x1) = 3 → (((0 : Int) ≤ x1 ∧ x1 < 90000) ∧ (g32 (M2 (o + 3) (Int.toNat x1)) → (cI l G y_GM_refOf (gRm d) false [gR G o, gI ((M2 (o + 3) (Int.toNat x1)) + 1)] X M2 (fun v20 M19 => (cI l G y_GM_low (gRm d) false [gR G o, gI v3, gI v20, gI 1] X M19 (fun v23 M22 => (cI l G y_GM_high (gRm d) false [gR G o, gI v3, gI v20, gI 1] X (gUp M22 o 56 v23) (fun v26 M25 => (cI l G y_GM_low (gRm d) false [gR G o, gI v3, gI v20, gI 0] X (gUp M25 o 58 v26) (fun v29 M28 => (cI l G y_GM_high (gRm d) false [gR G o, gI v3, gI v20, gI 0] X (gUp M28 o 57 v29) (fun v32 M31 => (k (gUp M31 o 59 v32)))))))))))))))))))))) : wp l G y_GM_box (gRm (d + 1)) true (kkV X k) false 0 [.val (gR G o), .val (gI x1), .unset, .unset] [] X M 0 0 := by
  refine wp_aload_n d_GM_box_0 rfl rfl (g_nz hX.1) ?_
  refine wp_aload_n d_GM_box_1 rfl rfl (g_nz hX.1) ?_
  refine xgetR d_GM_box_2 gc_GM f_GM_18.1 f_GM_18.2.1 f_GM_18.2.2.1 hX.1 (gm_o2 hX) hX.2.2.1 f_GM_18.2.2.2.2.1 (gm_row hX 2 rfl).1 ?_
  refine wp_iload_n d_GM_box_5 rfl rfl ?_
  refine wp_iaload d_GM_box_6 (gm_row hX 2 rfl).2.2.1 (gm_row hX 2 rfl).2.2.2 (gm_row hX 2 rfl).2.1 (g32_n T.1 (by decide)) T.1.1 T.1.2 (fun h1 => ?_)
  have T := T.2 h1
  refine xcV_I (md' := false) (As := [gI (M (o + 3) (Int.toNat x1))]) (st := []) d_GM_box_7 ca_GM_refOf ml_GM_374 im_GM_refOf se_GM_refOf gc_GM hX.1 (gm_o2 hX) hX.2.2.1 rfl (by decide) (by decide) rfl id id T (fun v3 M2 h4 T => ?_)
  refine wp_istore_n (L' := [.val (gR G o), .val (gI x1), .val (gI v3), .unset]) d_GM_box_10 rfl (by decide) rfl ?_
  refine wp_aload_n d_GM_box_11 rfl rfl (g_nz hX.1) ?_
  refine xgetR d_GM_box_12 gc_GM f_GM_14.1 f_GM_14.2.1 f_GM_14.2.2.1 hX.1 (gm_o2 hX) hX.2.2.1 f_GM_14.2.2.2.2.1 (gm_row hX 1 rfl).1 ?_
  refine wp_iload_n d_GM_box_15 rfl rfl ?_
  refine wp_iaload d_GM_box_16 (gm_row hX 1 rfl).2.2.1 (gm_row hX 1 rfl).2.2.2 (gm_row hX 1 rfl).2.1 (g32_n T.1 (by decide)) T.1.1 T.1.2 (fun h5 => ?_)
  have T := T.2 h5
  refine wp_iconst d_GM_box_17 ?_
  refine xi_ne (tgt := 36) d_GM_box_18 (by decide) (w32_id h5) (w32_id (g32_c (x := 3) rfl)) (fun h34 => ?_) (fun h34 => ?_)
  · have T := T.1 h34
    refine wp_iload_n d_GM_box_36 rfl rfl ?_
    refine wp_istore_n (L' := [.val (gR G o), .val (gI x1), .val (gI v3), .val (gI v3)]) d_GM_box_37 rfl (by decide) rfl ?_
    refine wp_aload_n d_GM_box_38 rfl rfl (g_nz hX.1) ?_
    refine wp_aload_n d_GM_box_39 rfl rfl (g_nz hX.1) ?_
    refine wp_iload_n d_GM_box_40 rfl rfl ?_
    refine wp_iload_n d_GM_box_41 rfl rfl ?_
    refine wp_iconst d_GM_box_42 ?_
    refine xcV_I (md' := false) (As := [gI v3, gI v3, gI 1]) (st := [gR G o]) d_GM_box_43 ca_GM_low ml_GM_292 im_GM_low se_GM_low gc_GM hX.1 (gm_o2 hX) hX.2.2.1 rfl (by decide) (by simp only [List.map, gR_cat, gI_cat, gL_cat, List.sum_cons, List.sum_nil]; decide) rfl id id T (fun v7 M6 h8 T => ?_)
    refine xputI d_GM_box_46 gc_GM f_GM_412.1 f_GM_412.2.1 f_GM_412.2.2.1 hX.1 (gm_o2 hX) hX.2.2.1 f_GM_412.2.2.2.1 f_GM_412.2.2.2.2.1 f_GM_412.2.2.2.2.2 (w32_id h8) ?_
    refine wp_aload_n d_GM_box_49 rfl rfl (g_nz hX.1) ?_
    refine wp_aload_n d_GM_box_50 rfl rfl (g_nz hX.1) ?_
    refine wp_iload_n d_GM_box_51 rfl rfl ?_
    refine wp_iload_n d_GM_box_52 rfl rfl ?_
    refine wp_iconst d_GM_box_53 ?_
    refine xcV_I (md' := true) (As := [gI v3, gI v3, gI 1]) (st := [gR G o]) d_GM_box_54 ca_GM_high ml_GM_288 im_GM_high se_GM_high gc_GM hX.1 (gm_o2 hX) hX.2.2.1 rfl (by decide) (by simp only [List.map, gR_cat, gI_cat, gL_cat, List.sum_cons, List.sum_nil]; decide) rfl (fun _ => rfl) (fun _ => rfl) T (fun v10 M9 h11 T => ?_)
    refine xputI d_GM_box_57 gc_GM f_GM_415.1 f_GM_415.2.1 f_GM_415.2.2.1 hX.1 (gm_o2 hX) hX.2.2.1 f_GM_415.2.2.2.1 f_GM_415.2.2.2.2.1 f_GM_415.2.2.2.2.2 (w32_id h11) ?_
    refine wp_aload_n d_GM_box_60 rfl rfl (g_nz hX.1) ?_
    refine wp_aload_n d_GM_box_61 rfl rfl (g_nz hX.1) ?_
    refine wp_iload_n d_GM_box_62 rfl rfl ?_
    refine wp_iload_n d_GM_box_63 rfl rfl ?_
    refine wp_iconst d_GM_box_64 ?_
    refine xcV_I (md' := true) (As := [gI v3, gI v3, gI 0]) (st := [gR G o]) d_GM_box_65 ca_GM_low ml_GM_292 im_GM_low se_GM_low gc_GM hX.1 (gm_o2 hX) hX.2.2.1 rfl (by decide) (by simp only [List.map, gR_cat, gI_cat, gL_cat, List.sum_cons, List.sum_nil]; decide) rfl (fun _ => rfl) (fun _ => rfl) T (fun v13 M12 h14 T => ?_)
    refine xputI d_GM_box_68 gc_GM f_GM_418.1 f_GM_418.2.1 f_GM_418.2.2.1 hX.1 (gm_o2 hX) hX.2.2.1 f_GM_418.2.2.2.1 f_GM_418.2.2.2.2.1 f_GM_418.2.2.2.2.2 (w32_id h14) ?_
    refine wp_aload_n d_GM_box_71 rfl rfl (g_nz hX.1) ?_
    refine wp_aload_n d_GM_box_72 rfl rfl (g_nz hX.1) ?_
    refine wp_iload_n d_GM_box_73 rfl rfl ?_
    refine wp_iload_n d_GM_box_74 rfl rfl ?_
    refine wp_iconst d_GM_box_75 ?_
    refine xcV_I (md' := true) (As := [gI v3, gI v3, gI 0]) (st := [gR G o]) d_GM_box_76 ca_GM_high ml_GM_288 im_GM_high se_GM_high gc_GM hX.1 (gm_o2 hX) hX.2.2.1 rfl (by decide) (by simp only [List.map, gR_cat, gI_cat, gL_cat, List.sum_cons, List.sum_nil]; decide) rfl (fun _ => rfl) (fun _ => rfl) T (fun v16 M15 h17 T => ?_)
    refine xputI d_GM_box_79 gc_GM f_GM_421.1 f_GM_421.2.1 f_GM_421.2.2.1 hX.1 (gm_o2 hX) hX.2.2.1 f_GM_421.2.2.2.1 f_GM_421.2.2.2.2.1 f_GM_421.2.2.2.2.2 (w32_id h17) ?_
    exact wp_return d_GM_box_82 rfl (fun _ => rfl) (Nat.zero_le _) (Nat.zero_le _) (kV_mk T)
  · have T := T.2 h34
    refine wp_aload_n d_GM_box_21 rfl rfl (g_nz hX.1) ?_
    refine wp_aload_n d_GM_box_22 rfl rfl (g_nz hX.1) ?_
    refine xgetR d_GM_box_23 gc_GM f_GM_18.1 f_GM_18.2.1 f_GM_18.2.2.1 hX.1 (gm_o2 hX) hX.2.2.1 f_GM_18.2.2.2.2.1 (gm_row hX 2 rfl).1 ?_
    refine wp_iload_n d_GM_box_26 rfl rfl ?_
    refine wp_iaload d_GM_box_27 (gm_row hX 2 rfl).2.2.1 (gm_row hX 2 rfl).2.2.2 (gm_row hX 2 rfl).2.1 (g32_n T.1 (by decide)) T.1.1 T.1.2 (fun h18 => ?_)
    have T := T.2 h18
    refine wp_iconst d_GM_box_28 ?_
    refine wp_iadd d_GM_box_29 ?_
    refine xcV_I (md' := false) (As := [gI ((M2 (o + 3) (Int.toNat x1)) + 1)]) (st := []) d_GM_box_30 ca_GM_refOf ml_GM_374 im_GM_refOf se_GM_refOf gc_GM hX.1 (gm_o2 hX) hX.2.2.1 rfl (by decide) (by decide) rfl id id T (fun v20 M19 h21 T => ?_)
    refine wp_goto (tgt := 37) d_GM_box_33 (by decide) ?_
    refine wp_istore_n (L' := [.val (gR G o), .val (gI x1), .val (gI v3), .val (gI v20)]) d_GM_box_37 rfl (by decide) rfl ?_
    refine wp_aload_n d_GM_box_38 rfl rfl (g_nz hX.1) ?_
    refine wp_aload_n d_GM_box_39 rfl rfl (g_nz hX.1) ?_
    refine wp_iload_n d_GM_box_40 rfl rfl ?_
    refine wp_iload_n d_GM_box_41 rfl rfl ?_
    refine wp_iconst d_GM_box_42 ?_
    refine xcV_I (md' := false) (As := [gI v3, gI v20, gI 1]) (st := [gR G o]) d_GM_box_43 ca_GM_low ml_GM_292 im_GM_low se_GM_low gc_GM hX.1 (gm_o2 hX) hX.2.2.1 rfl (by decide) (by simp only [List.map, gR_cat, gI_cat, gL_cat, List.sum_cons, List.sum_nil]; decide) rfl id id T (fun v23 M22 h24 T => ?_)
    refine xputI d_GM_box_46 gc_GM f_GM_412.1 f_GM_412.2.1 f_GM_412.2.2.1 hX.1 (gm_o2 hX) hX.2.2.1 f_GM_412.2.2.2.1 f_GM_412.2.2.2.2.1 f_GM_412.2.2.2.2.2 (w32_id h24) ?_
    refine wp_aload_n d_GM_box_49 rfl rfl (g_nz hX.1) ?_
    refine wp_aload_n d_GM_box_50 rfl rfl (g_nz hX.1) ?_
    refine wp_iload_n d_GM_box_51 rfl rfl ?_
    refine wp_iload_n d_GM_box_52 rfl rfl ?_
    refine wp_iconst d_GM_box_53 ?_
    refine xcV_I (md' := true) (As := [gI v3, gI v20, gI 1]) (st := [gR G o]) d_GM_box_54 ca_GM_high ml_GM_288 im_GM_high se_GM_high gc_GM hX.1 (gm_o2 hX) hX.2.2.1 rfl (by decide) (by simp only [List.map, gR_cat, gI_cat, gL_cat, List.sum_cons, List.sum_nil]; decide) rfl (fun _ => rfl) (fun _ => rfl) T (fun v26 M25 h27 T => ?_)
    refine xputI d_GM_box_57 gc_GM f_GM_415.1 f_GM_415.2.1 f_GM_415.2.2.1 hX.1 (gm_o2 hX) hX.2.2.1 f_GM_415.2.2.2.1 f_GM_415.2.2.2.2.1 f_GM_415.2.2.2.2.2 (w32_id h27) ?_
    refine wp_aload_n d_GM_box_60 rfl rfl (g_nz hX.1) ?_
    refine wp_aload_n d_GM_box_61 rfl rfl (g_nz hX.1) ?_
    refine wp_iload_n d_GM_box_62 rfl rfl ?_
    refine wp_iload_n d_GM_box_63 rfl rfl ?_
    refine wp_iconst d_GM_box_64 ?_
    refine xcV_I (md' := true) (As := [gI v3, gI v20, gI 0]) (st := [gR G o]) d_GM_box_65 ca_GM_low ml_GM_292 im_GM_low se_GM_low gc_GM hX.1 (gm_o2 hX) hX.2.2.1 rfl (by decide) (by simp only [List.map, gR_cat, gI_cat, gL_cat, List.sum_cons, List.sum_nil]; decide) rfl (fun _ => rfl) (fun _ => rfl) T (fun v29 M28 h30 T => ?_)
    refine xputI d_GM_box_68 gc_GM f_GM_418.1 f_GM_418.2.1 f_GM_418.2.2.1 hX.1 (gm_o2 hX) hX.2.2.1 f_GM_418.2.2.2.1 f_GM_418.2.2.2.2.1 f_GM_418.2.2.2.2.2 (w32_id h30) ?_
    refine wp_aload_n d_GM_box_71 rfl rfl (g_nz hX.1) ?_
    refine wp_aload_n d_GM_box_72 rfl rfl (g_nz hX.1) ?_
    refine wp_iload_n d_GM_box_73 rfl rfl ?_
    refine wp_iload_n d_GM_box_74 rfl rfl ?_
    refine wp_iconst d_GM_box_75 ?_
    refine xcV_I (md' := true) (As := [gI v3, gI v20, gI 0]) (st := [gR G o]) d_GM_box_76 ca_GM_high ml_GM_288 im_GM_high se_GM_high gc_GM hX.1 (gm_o2 hX) hX.2.2.1 rfl (by decide) (by simp only [List.map, gR_cat, gI_cat, gL_cat, List.sum_cons, List.sum_nil]; decide) rfl (fun _ => rfl) (fun _ => rfl) T (fun v32 M31 h33 T => ?_)
    refine xputI d_GM_box_79 gc_GM f_GM_421.1 f_GM_421.2.1 f_GM_421.2.2.1 hX.1 (gm_o2 hX) hX.2.2.1 f_GM_421.2.2.2.1 f_GM_421.2.2.2.2.1 f_GM_421.2.2.2.2.2 (w32_id h33) ?_
    exact wp_return d_GM_box_82 rfl (fun _ => rfl) (Nat.zero_le _) (Nat.zero_le _) (kV_mk T)
theorem e_GM_box {l : Launch} {G : gG} {d : Nat} {X : gX} {M : gM} {k : gM → Prop} {o : Nat} {x1 : Int} (T : wp l G y_GM_box (gRm (d + 1)) true (kkV X k) false 0 [.val (gR G o), .val (gI x1), .unset, .unset] [] X M 0 0) : cV l G y_GM_box (gRm (d + 1)) true [gR G o, gI x1] X M k := cen_V (plainFor_of_name rfl) (by simp only [lg_sl_R, lg_sl_I, lg_sl_L, lg_sl_N, List.length_cons, List.length_nil]; decide) (by unfold gEn; simp only [lg_sl_R, lg_sl_I, lg_sl_L, lg_sl_N]; exact wpt T (And.intro rfl (And.intro rfl True.intro)))
theorem d_GM_choose_0 : decode prog_15_method_58_code 0 = .ok (.aload_n 0, 1) := by decide +kernel
theorem d_GM_choose_1 : decode prog_15_method_58_code 1 = .ok (.iload_n 2, 1) := by decide +kernel
theorem d_GM_choose_2 : decode prog_15_method_58_code 2 = .ok (.invokevirtual 380, 3) := by decide +kernel
theorem d_GM_choose_5 : decode prog_15_method_58_code 5 = .ok (.aload_n 0, 1) := by decide +kernel
theorem d_GM_choose_6 : decode prog_15_method_58_code 6 = .ok (.getfield 304, 3) := by decide +kernel
theorem d_GM_choose_9 : decode prog_15_method_58_code 9 = .ok (.iconst 1, 1) := by decide +kernel
theorem d_GM_choose_10 : decode prog_15_method_58_code 10 = .ok (.isub, 1) := by decide +kernel
theorem d_GM_choose_11 : decode prog_15_method_58_code 11 = .ok (.istore_n 3, 1) := by decide +kernel
theorem d_GM_choose_12 : decode prog_15_method_58_code 12 = .ok (.iload_n 1, 1) := by decide +kernel
theorem d_GM_choose_13 : decode prog_15_method_58_code 13 = .ok (.bipush 11, 2) := by decide +kernel
theorem d_GM_choose_15 : decode prog_15_method_58_code 15 = .ok (.if_icmp .ne 33, 3) := by decide +kernel
theorem d_GM_choose_48 : decode prog_15_method_58_code 48 = .ok (.aload_n 0, 1) := by decide +kernel
theorem d_GM_choose_49 : decode prog_15_method_58_code 49 = .ok (.iload_n 3, 1) := by decide +kernel
theorem d_GM_choose_50 : decode prog_15_method_58_code 50 = .ok (.invokevirtual 311, 3) := by decide +kernel
theorem d_GM_choose_53 : decode prog_15_method_58_code 53 = .ok (.ifCond .eq 4, 3) := by decide +kernel
theorem d_GM_choose_57 : decode prog_15_method_58_code 57 = .ok (.iload_n 1, 1) := by decide +kernel
theorem d_GM_choose_58 : decode prog_15_method_58_code 58 = .ok (.bipush 10, 2) := by decide +kernel
theorem d_GM_choose_60 : decode prog_15_method_58_code 60 = .ok (.if_icmp .ne 11, 3) := by decide +kernel
theorem d_GM_choose_71 : decode prog_15_method_58_code 71 = .ok (.aload_n 0, 1) := by decide +kernel
theorem d_GM_choose_72 : decode prog_15_method_58_code 72 = .ok (.iload_n 3, 1) := by decide +kernel
theorem d_GM_choose_73 : decode prog_15_method_58_code 73 = .ok (.invokevirtual 351, 3) := by decide +kernel
theorem d_GM_choose_76 : decode prog_15_method_58_code 76 = .ok (.istore 4, 2) := by decide +kernel
theorem d_GM_choose_78 : decode prog_15_method_58_code 78 = .ok (.aload_n 0, 1) := by decide +kernel
theorem d_GM_choose_79 : decode prog_15_method_58_code 79 = .ok (.getfield 122, 3) := by decide +kernel
theorem d_GM_choose_82 : decode prog_15_method_58_code 82 = .ok (.iload_n 3, 1) := by decide +kernel
theorem d_GM_choose_83 : decode prog_15_method_58_code 83 = .ok (.laload, 1) := by decide +kernel
theorem d_GM_choose_84 : decode prog_15_method_58_code 84 = .ok (.lstore 5, 2) := by decide +kernel
theorem d_GM_choose_86 : decode prog_15_method_58_code 86 = .ok (.iload_n 1, 1) := by decide +kernel
theorem d_GM_choose_87 : decode prog_15_method_58_code 87 = .ok (.bipush 10, 2) := by decide +kernel
theorem d_GM_choose_89 : decode prog_15_method_58_code 89 = .ok (.if_icmp .ne 19, 3) := by decide +kernel
theorem d_GM_choose_92 : decode prog_15_method_58_code 92 = .ok (.lload 5, 2) := by decide +kernel
theorem d_GM_choose_94 : decode prog_15_method_58_code 94 = .ok (.lconst 1, 1) := by decide +kernel
theorem d_GM_choose_95 : decode prog_15_method_58_code 95 = .ok (.lcmp, 1) := by decide +kernel
theorem d_GM_choose_96 : decode prog_15_method_58_code 96 = .ok (.ifCond .ne 7, 3) := by decide +kernel
theorem d_GM_choose_103 : decode prog_15_method_58_code 103 = .ok (.ldc2_w 329, 3) := by decide +kernel
theorem d_GM_choose_106 : decode prog_15_method_58_code 106 = .ok (.lstore 5, 2) := by decide +kernel
theorem d_GM_choose_99 : decode prog_15_method_58_code 99 = .ok (.lconst 1, 1) := by decide +kernel
theorem d_GM_choose_100 : decode prog_15_method_58_code 100 = .ok (.goto 6, 3) := by decide +kernel
theorem d_GM_choose_63 : decode prog_15_method_58_code 63 = .ok (.aload_n 0, 1) := by decide +kernel
theorem d_GM_choose_64 : decode prog_15_method_58_code 64 = .ok (.iload_n 3, 1) := by decide +kernel
theorem d_GM_choose_65 : decode prog_15_method_58_code 65 = .ok (.invokevirtual 403, 3) := by decide +kernel
theorem d_GM_choose_68 : decode prog_15_method_58_code 68 = .ok (.goto 8, 3) := by decide +kernel
theorem d_GM_choose_56 : decode prog_15_method_58_code 56 = .ok (.return_, 1) := by decide +kernel
theorem d_GM_choose_18 : decode prog_15_method_58_code 18 = .ok (.aload_n 0, 1) := by decide +kernel
theorem d_GM_choose_19 : decode prog_15_method_58_code 19 = .ok (.iload_n 3, 1) := by decide +kernel
theorem d_GM_choose_20 : decode prog_15_method_58_code 20 = .ok (.invokevirtual 311, 3) := by decide +kernel
theorem d_GM_choose_23 : decode prog_15_method_58_code 23 = .ok (.ifCond .ne 4, 3) := by decide +kernel
theorem d_GM_choose_27 : decode prog_15_method_58_code 27 = .ok (.aload_n 0, 1) := by decide +kernel
theorem d_GM_choose_28 : decode prog_15_method_58_code 28 = .ok (.dup, 1) := by decide +kernel
theorem d_GM_choose_29 : decode prog_15_method_58_code 29 = .ok (.getfield 304, 3) := by decide +kernel
theorem d_GM_choose_32 : decode prog_15_method_58_code 32 = .ok (.iconst 1, 1) := by decide +kernel
theorem d_GM_choose_33 : decode prog_15_method_58_code 33 = .ok (.isub, 1) := by decide +kernel
theorem d_GM_choose_34 : decode prog_15_method_58_code 34 = .ok (.putfield 304, 3) := by decide +kernel
theorem d_GM_choose_37 : decode prog_15_method_58_code 37 = .ok (.aload_n 0, 1) := by decide +kernel
theorem d_GM_choose_38 : decode prog_15_method_58_code 38 = .ok (.aload_n 0, 1) := by decide +kernel
theorem d_GM_choose_39 : decode prog_15_method_58_code 39 = .ok (.getfield 24, 3) := by decide +kernel
theorem d_GM_choose_42 : decode prog_15_method_58_code 42 = .ok (.iload_n 2, 1) := by decide +kernel
theorem d_GM_choose_43 : decode prog_15_method_58_code 43 = .ok (.iaload, 1) := by decide +kernel
theorem d_GM_choose_44 : decode prog_15_method_58_code 44 = .ok (.invokevirtual 380, 3) := by decide +kernel
theorem d_GM_choose_47 : decode prog_15_method_58_code 47 = .ok (.return_, 1) := by decide +kernel
theorem d_GM_choose_26 : decode prog_15_method_58_code 26 = .ok (.return_, 1) := by decide +kernel
theorem d_GM_choose_108 : decode prog_15_method_58_code 108 = .ok (.iload 4, 2) := by decide +kernel
theorem d_GM_choose_110 : decode prog_15_method_58_code 110 = .ok (.ifCond .eq 28, 3) := by decide +kernel
theorem d_GM_choose_138 : decode prog_15_method_58_code 138 = .ok (.aload_n 0, 1) := by decide +kernel
theorem d_GM_choose_139 : decode prog_15_method_58_code 139 = .ok (.iconst 1, 1) := by decide +kernel
theorem d_GM_choose_140 : decode prog_15_method_58_code 140 = .ok (.iconst 4, 1) := by decide +kernel
theorem d_GM_choose_141 : decode prog_15_method_58_code 141 = .ok (.ldc2_w 354, 3) := by decide +kernel
theorem d_GM_choose_144 : decode prog_15_method_58_code 144 = .ok (.invokevirtual 347, 3) := by decide +kernel
theorem d_GM_choose_147 : decode prog_15_method_58_code 147 = .ok (.return_, 1) := by decide +kernel
theorem d_GM_choose_113 : decode prog_15_method_58_code 113 = .ok (.lload 5, 2) := by decide +kernel
theorem d_GM_choose_115 : decode prog_15_method_58_code 115 = .ok (.lconst 1, 1) := by decide +kernel
theorem d_GM_choose_116 : decode prog_15_method_58_code 116 = .ok (.lcmp, 1) := by decide +kernel
theorem d_GM_choose_117 : decode prog_15_method_58_code 117 = .ok (.ifCond .lt 21, 3) := by decide +kernel
theorem d_GM_choose_120 : decode prog_15_method_58_code 120 = .ok (.lload 5, 2) := by decide +kernel
theorem d_GM_choose_122 : decode prog_15_method_58_code 122 = .ok (.iload_n 1, 1) := by decide +kernel
theorem d_GM_choose_123 : decode prog_15_method_58_code 123 = .ok (.bipush 10, 2) := by decide +kernel
theorem d_GM_choose_125 : decode prog_15_method_58_code 125 = .ok (.if_icmp .ne 7, 3) := by decide +kernel
theorem d_GM_choose_132 : decode prog_15_method_58_code 132 = .ok (.iconst 3, 1) := by decide +kernel
theorem d_GM_choose_133 : decode prog_15_method_58_code 133 = .ok (.i2l, 1) := by decide +kernel
theorem d_GM_choose_134 : decode prog_15_method_58_code 134 = .ok (.lcmp, 1) := by decide +kernel
theorem d_GM_choose_135 : decode prog_15_method_58_code 135 = .ok (.ifCond .le 13, 3) := by decide +kernel
theorem d_GM_choose_148 : decode prog_15_method_58_code 148 = .ok (.aload_n 0, 1) := by decide +kernel
theorem d_GM_choose_149 : decode prog_15_method_58_code 149 = .ok (.dup, 1) := by decide +kernel
theorem d_GM_choose_150 : decode prog_15_method_58_code 150 = .ok (.getfield 304, 3) := by decide +kernel
theorem d_GM_choose_153 : decode prog_15_method_58_code 153 = .ok (.iconst 1, 1) := by decide +kernel
theorem d_GM_choose_154 : decode prog_15_method_58_code 154 = .ok (.isub, 1) := by decide +kernel
theorem d_GM_choose_155 : decode prog_15_method_58_code 155 = .ok (.putfield 304, 3) := by decide +kernel
theorem d_GM_choose_158 : decode prog_15_method_58_code 158 = .ok (.iload_n 2, 1) := by decide +kernel
theorem d_GM_choose_159 : decode prog_15_method_58_code 159 = .ok (.istore 7, 2) := by decide +kernel
theorem d_GM_choose_161 : decode prog_15_method_58_code 161 = .ok (.iconst 0, 1) := by decide +kernel
theorem d_GM_choose_162 : decode prog_15_method_58_code 162 = .ok (.istore 8, 2) := by decide +kernel
theorem d_GM_choose_128 : decode prog_15_method_58_code 128 = .ok (.iconst 2, 1) := by decide +kernel
theorem d_GM_choose_129 : decode prog_15_method_58_code 129 = .ok (.goto 4, 3) := by decide +kernel
theorem d_GM_choose_164 : decode prog_15_method_58_code 164 = .ok (.iload 8, 2) := by decide +kernel
theorem d_GM_choose_166 : decode prog_15_method_58_code 166 = .ok (.i2l, 1) := by decide +kernel
theorem d_GM_choose_167 : decode prog_15_method_58_code 167 = .ok (.lload 5, 2) := by decide +kernel
theorem d_GM_choose_169 : decode prog_15_method_58_code 169 = .ok (.lcmp, 1) := by decide +kernel
theorem d_GM_choose_170 : decode prog_15_method_58_code 170 = .ok (.ifCond .ge 18, 3) := by decide +kernel
theorem d_GM_choose_188 : decode prog_15_method_58_code 188 = .ok (.aload_n 0, 1) := by decide +kernel
theorem d_GM_choose_189 : decode prog_15_method_58_code 189 = .ok (.iload 7, 2) := by decide +kernel
theorem d_GM_choose_191 : decode prog_15_method_58_code 191 = .ok (.invokevirtual 380, 3) := by decide +kernel
theorem d_GM_choose_194 : decode prog_15_method_58_code 194 = .ok (.return_, 1) := by decide +kernel
theorem d_GM_choose_173 : decode prog_15_method_58_code 173 = .ok (.aload_n 0, 1) := by decide +kernel
theorem d_GM_choose_174 : decode prog_15_method_58_code 174 = .ok (.getfield 24, 3) := by decide +kernel
theorem d_GM_choose_177 : decode prog_15_method_58_code 177 = .ok (.iload 7, 2) := by decide +kernel
theorem d_GM_choose_179 : decode prog_15_method_58_code 179 = .ok (.iaload, 1) := by decide +kernel
theorem d_GM_choose_180 : decode prog_15_method_58_code 180 = .ok (.istore 7, 2) := by decide +kernel
theorem d_GM_choose_182 : decode prog_15_method_58_code 182 = .ok (.iinc 8 1, 3) := by decide +kernel
theorem d_GM_choose_185 : decode prog_15_method_58_code 185 = .ok (.goto (-21), 3) := by decide +kernel
set_option maxHeartbeats 4000000 in
theorem w_GM_choose_0 {l : Launch} {G : gG} {d : Nat} {X : gX} {M : gM} {k : gM → Prop} {o : Nat} (hX : gmX X o) {x1 : Int} (hx1 : g32 x1) {x2 : Int} (hx2 : g32 x2) (T : cV l G y_GM_eval (gRm d) true [gR G o, gI x2] X M (fun M1 => (g32 (M1 o 50) → ((¬ x1 = 11 → (cZ l G y_GM_isFault (gRm d) false [gR G o, gI ((M1 o 50) - 1)] X M1 (fun v4 M3 => ((v4 = 0 → ((¬ x1 = 10 → (cZ l G y_GM_asNumber (gRm d) true [gR G o, gI ((M1 o 50) - 1)] X M3 (fun v7 M6 => (((0 : Int) ≤ (M1 o 50) - 1 ∧ (M1 o 50) - 1 < 1200) ∧ (g64 (M6 (o + 36) (Int.toNat ((M1 o 50) - 1))) → ((¬ x1 = 10 → (wp l G y_GM_choose (gRm (d + 1)) true (kkV X k) true 108 [.val (gR G o), .val (gI x1), .val (gI x2), .unset, .val (gI v7), .val (gL (M6 (o + 36) (Int.toNat ((M1 o 50) - 1)))), .unset, .unset, .unset] [] X M6 0 0)) ∧ (x1 = 10 → ((¬ M6 (o + 36) (Int.toNat ((M1 o 50) - 1)) = 1 → (wp l G y_GM_choose (gRm (d + 1)) true (kkV X k) true 108 [.val (gR G o), .val (gI x1), .val (gI x2), .unset, .val (gI v7), .val (gL 2), .unset, .unset, .unset] [] X M6 0 0)) ∧ (M6 (o + 36) (Int.toNat ((M1 o 50) - 1)) = 1 → (wp l G y_GM_choose (gRm (d + 1)) true (kkV X k) true 108 [.val (gR G o), .val (gI x1), .val (gI x2), .unset, .val (gI v7), .val (gL 1), .unset, .unset, .unset] [] X M6 0 0)))))))))) ∧ (x1 = 10 → (cZ l G y_GM_asTruth (gRm d) true [gR G o, gI ((M1 o 50) - 1)] X M3 (fun v13 M12 => (((0 : Int) ≤ (M1 o 50) - 1 ∧ (M1 o 50) - 1 < 1200) ∧ (g64 (M12 (o + 36) (Int.toNat ((M1 o 50) - 1))) → ((¬ x1 = 10 → (wp l G y_GM_choose (gRm (d + 1)) true (kkV X k) true 108 [.val (gR G o), .val (gI x1), .val (gI x2), .unset, .val (gI v13), .val (gL (M12 (o + 36) (Int.toNat ((M1 o 50) - 1)))), .unset, .unset, .unset] [] X M12 0 0)) ∧ (x1 = 10 → ((¬ M12 (o + 36) (Int.toNat ((M1 o 50) - 1)) = 1 → (wp l G y_GM_choose (gRm (d + 1)) true (kkV X k) true 108 [.val (gR G o), .val (gI x1), .val (gI x2), .unset, .val (gI v13), .val (gL 2), .unset, .unset, .unset] [] X M12 0 0)) ∧ (M12 (o + 36) (Int.toNat ((M1 o 50) - 1)) = 1 → (wp l G y_GM_choose (gRm (d + 1)) true (kkV X k) true 108 [.val (gR G o), .val (gI x1), .val (gI x2), .unset, .val (gI v13), .val (gL 1), .unset, .unset, .unset] [] X M12 0 0)))))))))))) ∧ (¬ v4 = 0 → (k M3)))))) ∧ (x1 = 11 → (cZ l G y_GM_isFault (gRm d) false [gR G o, gI ((M1 o 50) - 1)] X M1 (fun v21 M20 => ((¬ v21 = 0 → (g32 (M20 o 50) → (((0 : Int) ≤ x2 ∧ x2 < 90000) ∧ (g32 ((gUp M20 o 50 (w32 ((M20 o 50) - 1))) (o + 5) (Int.toNat x2)) → (cV l G y_GM_eval (gRm d) true [gR G o, gI ((gUp M20 o 50 (w32 ((M20 o 50) - 1))) (o + 5) (Int.toNat x2))] X (gUp M20 o 50 (w32 ((M20 o 50) - 1))) (fun M25 => (k M25))))))) ∧ (v21 = 0 → (k M20)))))))))) : wp l G y_GM_choose (gRm (d + 1)) true (kkV X k) false 0 [.val (gR G o), .val (gI x1), .val (gI x2), .unset, .unset, .unset, .unset, .unset, .unset] [] X M 0 0 := by
  refine wp_aload_n d_GM_choose_0 rfl rfl (g_nz hX.1) ?_
  refine wp_iload_n d_GM_choose_1 rfl rfl ?_
  refine xcV_V (md' := true) (As := [gI x2]) (st := []) d_GM_choose_2 ca_GM_eval ml_GM_380 im_GM_eval se_GM_eval gc_GM hX.1 (gm_o2 hX) hX.2.2.1 rfl (by decide) (by decide) rfl (fun _ => rfl) (fun _ => rfl) T (fun M1 T => ?_)
  refine wp_aload_n d_GM_choose_5 rfl rfl (g_nz hX.1) ?_
  refine xgetI d_GM_choose_6 gc_GM f_GM_304.1 f_GM_304.2.1 f_GM_304.2.2.1 hX.1 (gm_o2 hX) hX.2.2.1 f_GM_304.2.2.2.2.1 (fun h2 => ?_)
  have T := T h2
  refine wp_iconst d_GM_choose_9 ?_
  refine wp_isub d_GM_choose_10 ?_
  refine wp_istore_n (L' := [.val (gR G o), .val (gI x1), .val (gI x2), .val (gI ((M1 o 50) - 1)), .unset, .unset, .unset, .unset, .unset]) d_GM_choose_11 rfl (by decide) rfl ?_
  refine wp_iload_n d_GM_choose_12 rfl rfl ?_
  refine wp_bipush d_GM_choose_13 ⟨by decide, by decide⟩ ?_
  refine xi_ne (tgt := 48) d_GM_choose_15 (by decide) (w32_id hx1) (w32_id (g32_c (x := 11) rfl)) (fun h27 => ?_) (fun h27 => ?_)
  · have T := T.1 h27
    refine wp_aload_n d_GM_choose_48 rfl rfl (g_nz hX.1) ?_
    refine wp_iload_n d_GM_choose_49 rfl rfl ?_
    refine xcV_Z (md' := true) (As := [gI ((M1 o 50) - 1)]) (st := []) d_GM_choose_50 ca_GM_isFault ml_GM_311 im_GM_isFault se_GM_isFault gc_GM hX.1 (gm_o2 hX) hX.2.2.1 rfl (by decide) (by decide) rfl (fun _ => rfl) (fun _ => rfl) T (fun v4 M3 h5 T => ?_)
    refine xz_eq (tgt := 57) d_GM_choose_53 (by decide) (w32_id (g32_z h5)) (fun h19 => ?_) (fun h19 => ?_)
    · have T := T.1 h19
      refine wp_iload_n d_GM_choose_57 rfl rfl ?_
      refine wp_bipush d_GM_choose_58 ⟨by decide, by decide⟩ ?_
      refine xi_ne (tgt := 71) d_GM_choose_60 (by decide) (w32_id hx1) (w32_id (g32_c (x := 10) rfl)) (fun h18 => ?_) (fun h18 => ?_)
      · have T := T.1 h18
        refine wp_aload_n d_GM_choose_71 rfl rfl (g_nz hX.1) ?_
        refine wp_iload_n d_GM_choose_72 rfl rfl ?_
        refine xcV_Z (md' := true) (As := [gI ((M1 o 50) - 1)]) (st := []) d_GM_choose_73 ca_GM_asNumber ml_GM_351 im_GM_asNumber se_GM_asNumber gc_GM hX.1 (gm_o2 hX) hX.2.2.1 rfl (by decide) (by decide) rfl (fun _ => rfl) (fun _ => rfl) T (fun v7 M6 h8 T => ?_)
        refine wp_istore (L' := [.val (gR G o), .val (gI x1), .val (gI x2), .val (gI ((M1 o 50) - 1)), .val (gI v7), .unset, .unset, .unset, .unset]) d_GM_choose_76 (by decide) rfl ?_
        refine wp_aload_n d_GM_choose_78 rfl rfl (g_nz hX.1) ?_
        refine xgetR d_GM_choose_79 gc_GM f_GM_122.1 f_GM_122.2.1 f_GM_122.2.2.1 hX.1 (gm_o2 hX) hX.2.2.1 f_GM_122.2.2.2.2.1 (gm_row hX 35 rfl).1 ?_
        refine wp_iload_n d_GM_choose_82 rfl rfl ?_
        refine wp_laload d_GM_choose_83 (gm_row hX 35 rfl).2.2.1 (gm_row hX 35 rfl).2.2.2 (gm_row hX 35 rfl).2.1 (g32_n T.1 (by decide)) T.1.1 T.1.2 (fun h9 => ?_)
        have T := T.2 h9
        refine wp_lstore (L' := [.val (gR G o), .val (gI x1), .val (gI x2), .val (gI ((M1 o 50) - 1)), .val (gI v7), .val (gL (M6 (o + 36) (Int.toNat ((M1 o 50) - 1)))), .unset, .unset, .unset]) d_GM_choose_84 (by decide) rfl ?_
        refine wp_iload_n d_GM_choose_86 rfl rfl ?_
        refine wp_bipush d_GM_choose_87 ⟨by decide, by decide⟩ ?_
        refine xi_ne (tgt := 108) d_GM_choose_89 (by decide) (w32_id hx1) (w32_id (g32_c (x := 10) rfl)) (fun h11 => ?_) (fun h11 => ?_)
        · have T := T.1 h11
          exact wp_md (wpt T (And.intro rfl (And.intro rfl (And.intro rfl (And.intro rfl (And.intro rfl True.intro))))))
        · have T := T.2 h11
          refine wp_lload d_GM_choose_92 rfl ?_
          refine wp_lconst1 d_GM_choose_94 ?_
          refine xl_ne (tgt := 103) d_GM_choose_95 d_GM_choose_96 (by decide) (w64_id h9) (w64_id (g64_c (x := 1) rfl)) (fun h10 => ?_) (fun h10 => ?_)
          · have T := T.1 h10
            refine wp_ldc2 (n := 2) d_GM_choose_103 c_GM_329 rfl ?_
            refine wp_lstore (L' := [.val (gR G o), .val (gI x1), .val (gI x2), .val (gI ((M1 o 50) - 1)), .val (gI v7), .val (gL 2), .unset, .unset, .unset]) d_GM_choose_106 (by decide) rfl ?_
            exact wp_md (wpt T (And.intro rfl (And.intro rfl (And.intro rfl (And.intro rfl (And.intro rfl True.intro))))))
          · have T := T.2 h10
            refine wp_lconst1 d_GM_choose_99 ?_
            refine wp_goto (tgt := 106) d_GM_choose_100 (by decide) ?_
            refine wp_lstore (L' := [.val (gR G o), .val (gI x1), .val (gI x2), .val (gI ((M1 o 50) - 1)), .val (gI v7), .val (gL 1), .unset, .unset, .unset]) d_GM_choose_106 (by decide) rfl ?_
            exact wp_md (wpt T (And.intro rfl (And.intro rfl (And.intro rfl (And.intro rfl (And.intro rfl True.intro))))))
      · have T := T.2 h18
        refine wp_aload_n d_GM_choose_63 rfl rfl (g_nz hX.1) ?_
        refine wp_iload_n d_GM_choose_64 rfl rfl ?_
        refine xcV_Z (md' := true) (As := [gI ((M1 o 50) - 1)]) (st := []) d_GM_choose_65 ca_GM_asTruth ml_GM_403 im_GM_asTruth se_GM_asTruth gc_GM hX.1 (gm_o2 hX) hX.2.2.1 rfl (by decide) (by decide) rfl (fun _ => rfl) (fun _ => rfl) T (fun v13 M12 h14 T => ?_)
        refine wp_goto (tgt := 76) d_GM_choose_68 (by decide) ?_
        refine wp_istore (L' := [.val (gR G o), .val (gI x1), .val (gI x2), .val (gI ((M1 o 50) - 1)), .val (gI v13), .unset, .unset, .unset, .unset]) d_GM_choose_76 (by decide) rfl ?_
        refine wp_aload_n d_GM_choose_78 rfl rfl (g_nz hX.1) ?_
        refine xgetR d_GM_choose_79 gc_GM f_GM_122.1 f_GM_122.2.1 f_GM_122.2.2.1 hX.1 (gm_o2 hX) hX.2.2.1 f_GM_122.2.2.2.2.1 (gm_row hX 35 rfl).1 ?_
        refine wp_iload_n d_GM_choose_82 rfl rfl ?_
        refine wp_laload d_GM_choose_83 (gm_row hX 35 rfl).2.2.1 (gm_row hX 35 rfl).2.2.2 (gm_row hX 35 rfl).2.1 (g32_n T.1 (by decide)) T.1.1 T.1.2 (fun h15 => ?_)
        have T := T.2 h15
        refine wp_lstore (L' := [.val (gR G o), .val (gI x1), .val (gI x2), .val (gI ((M1 o 50) - 1)), .val (gI v13), .val (gL (M12 (o + 36) (Int.toNat ((M1 o 50) - 1)))), .unset, .unset, .unset]) d_GM_choose_84 (by decide) rfl ?_
        refine wp_iload_n d_GM_choose_86 rfl rfl ?_
        refine wp_bipush d_GM_choose_87 ⟨by decide, by decide⟩ ?_
        refine xi_ne (tgt := 108) d_GM_choose_89 (by decide) (w32_id hx1) (w32_id (g32_c (x := 10) rfl)) (fun h17 => ?_) (fun h17 => ?_)
        · have T := T.1 h17
          exact wp_md (wpt T (And.intro rfl (And.intro rfl (And.intro rfl (And.intro rfl (And.intro rfl True.intro))))))
        · have T := T.2 h17
          refine wp_lload d_GM_choose_92 rfl ?_
          refine wp_lconst1 d_GM_choose_94 ?_
          refine xl_ne (tgt := 103) d_GM_choose_95 d_GM_choose_96 (by decide) (w64_id h15) (w64_id (g64_c (x := 1) rfl)) (fun h16 => ?_) (fun h16 => ?_)
          · have T := T.1 h16
            refine wp_ldc2 (n := 2) d_GM_choose_103 c_GM_329 rfl ?_
            refine wp_lstore (L' := [.val (gR G o), .val (gI x1), .val (gI x2), .val (gI ((M1 o 50) - 1)), .val (gI v13), .val (gL 2), .unset, .unset, .unset]) d_GM_choose_106 (by decide) rfl ?_
            exact wp_md (wpt T (And.intro rfl (And.intro rfl (And.intro rfl (And.intro rfl (And.intro rfl True.intro))))))
          · have T := T.2 h16
            refine wp_lconst1 d_GM_choose_99 ?_
            refine wp_goto (tgt := 106) d_GM_choose_100 (by decide) ?_
            refine wp_lstore (L' := [.val (gR G o), .val (gI x1), .val (gI x2), .val (gI ((M1 o 50) - 1)), .val (gI v13), .val (gL 1), .unset, .unset, .unset]) d_GM_choose_106 (by decide) rfl ?_
            exact wp_md (wpt T (And.intro rfl (And.intro rfl (And.intro rfl (And.intro rfl (And.intro rfl True.intro))))))
    · have T := T.2 h19
      exact wp_return d_GM_choose_56 rfl (fun _ => rfl) (Nat.zero_le _) (Nat.zero_le _) (kV_mk T)
  · have T := T.2 h27
    refine wp_aload_n d_GM_choose_18 rfl rfl (g_nz hX.1) ?_
    refine wp_iload_n d_GM_choose_19 rfl rfl ?_
    refine xcV_Z (md' := true) (As := [gI ((M1 o 50) - 1)]) (st := []) d_GM_choose_20 ca_GM_isFault ml_GM_311 im_GM_isFault se_GM_isFault gc_GM hX.1 (gm_o2 hX) hX.2.2.1 rfl (by decide) (by decide) rfl (fun _ => rfl) (fun _ => rfl) T (fun v21 M20 h22 T => ?_)
    refine xz_ne (tgt := 27) d_GM_choose_23 (by decide) (w32_id (g32_z h22)) (fun h26 => ?_) (fun h26 => ?_)
    · have T := T.1 h26
      refine wp_aload_n d_GM_choose_27 rfl rfl (g_nz hX.1) ?_
      refine wp_dup d_GM_choose_28 (gR_cat _) ?_
      refine xgetI d_GM_choose_29 gc_GM f_GM_304.1 f_GM_304.2.1 f_GM_304.2.2.1 hX.1 (gm_o2 hX) hX.2.2.1 f_GM_304.2.2.2.2.1 (fun h23 => ?_)
      have T := T h23
      refine wp_iconst d_GM_choose_32 ?_
      refine wp_isub d_GM_choose_33 ?_
      refine xputI d_GM_choose_34 gc_GM f_GM_304.1 f_GM_304.2.1 f_GM_304.2.2.1 hX.1 (gm_o2 hX) hX.2.2.1 f_GM_304.2.2.2.1 f_GM_304.2.2.2.2.1 f_GM_304.2.2.2.2.2 rfl ?_
      refine wp_aload_n d_GM_choose_37 rfl rfl (g_nz hX.1) ?_
      refine wp_aload_n d_GM_choose_38 rfl rfl (g_nz hX.1) ?_
      refine xgetR d_GM_choose_39 gc_GM f_GM_24.1 f_GM_24.2.1 f_GM_24.2.2.1 hX.1 (gm_o2 hX) hX.2.2.1 f_GM_24.2.2.2.2.1 (gm_row hX 4 rfl).1 ?_
      refine wp_iload_n d_GM_choose_42 rfl rfl ?_
      refine wp_iaload d_GM_choose_43 (gm_row hX 4 rfl).2.2.1 (gm_row hX 4 rfl).2.2.2 (gm_row hX 4 rfl).2.1 (g32_n T.1 (by decide)) T.1.1 T.1.2 (fun h24 => ?_)
      have T := T.2 h24
      refine xcV_V (md' := true) (As := [gI ((gUp M20 o 50 (w32 ((M20 o 50) - 1))) (o + 5) (Int.toNat x2))]) (st := []) d_GM_choose_44 ca_GM_eval ml_GM_380 im_GM_eval se_GM_eval gc_GM hX.1 (gm_o2 hX) hX.2.2.1 rfl (by decide) (by decide) rfl (fun _ => rfl) (fun _ => rfl) T (fun M25 T => ?_)
      exact wp_return d_GM_choose_47 rfl (fun _ => rfl) (Nat.zero_le _) (Nat.zero_le _) (kV_mk T)
    · have T := T.2 h26
      exact wp_return d_GM_choose_26 rfl (fun _ => rfl) (Nat.zero_le _) (Nat.zero_le _) (kV_mk T)
set_option maxHeartbeats 4000000 in
theorem w_GM_choose_108 {l : Launch} {G : gG} {d : Nat} {X : gX} {M : gM} {k : gM → Prop} {o : Nat} (hX : gmX X o) {x1 : Int} (hx1 : g32 x1) {x2 : Int} (hx2 : g32 x2) {x4 : Int} (hx4 : g32 x4) {x5 : Int} (hx5 : g64 x5) (T : (x4 = 0 → (cV l G y_GM_become (gRm d) true [gR G o, gI 1, gI 4, gL 4] X M (fun M28 => (k M28)))) ∧ (¬ x4 = 0 → ((x5 < 1 → (cV l G y_GM_become (gRm d) true [gR G o, gI 1, gI 4, gL 4] X M (fun M29 => (k M29)))) ∧ (¬ x5 < 1 → ((¬ x1 = 10 → ((x5 ≤ 3 → (g32 (M o 50) → (wp l G y_GM_choose (gRm (d + 1)) true (kkV X k) true 164 [.val (gR G o), .unset, .unset, .unset, .unset, .val (gL x5), .unset, .val (gI x2), .val (gI 0)] [] X (gUp M o 50 (w32 ((M o 50) - 1))) 0 0))) ∧ (¬ x5 ≤ 3 → (cV l G y_GM_become (gRm d) true [gR G o, gI 1, gI 4, gL 4] X M (fun M31 => (k M31)))))) ∧ (x1 = 10 → ((x5 ≤ 2 → (g32 (M o 50) → (wp l G y_GM_choose (gRm (d + 1)) true (kkV X k) true 164 [.val (gR G o), .unset, .unset, .unset, .unset, .val (gL x5), .unset, .val (gI x2), .val (gI 0)] [] X (gUp M o 50 (w32 ((M o 50) - 1))) 0 0))) ∧ (¬ x5 ≤ 2 → (cV l G y_GM_become (gRm d) true [gR G o, gI 1, gI 4, gL 4] X M (fun M34 => (k M34))))))))))) : wp l G y_GM_choose (gRm (d + 1)) true (kkV X k) true 108 [.val (gR G o), .val (gI x1), .val (gI x2), .unset, .val (gI x4), .val (gL x5), .unset, .unset, .unset] [] X M 0 0 := by
  refine wp_iload d_GM_choose_108 rfl ?_
  refine xz_eq (tgt := 138) d_GM_choose_110 (by decide) (w32_id hx4) (fun h38 => ?_) (fun h38 => ?_)
  · have T := T.1 h38
    refine wp_aload_n d_GM_choose_138 rfl rfl (g_nz hX.1) ?_
    refine wp_iconst d_GM_choose_139 ?_
    refine wp_iconst d_GM_choose_140 ?_
    refine wp_ldc2 (n := 4) d_GM_choose_141 c_GM_354 rfl ?_
    refine xcV_V (md' := true) (As := [gI 1, gI 4, gL 4]) (st := []) d_GM_choose_144 ca_GM_become ml_GM_347 im_GM_become se_GM_become gc_GM hX.1 (gm_o2 hX) hX.2.2.1 rfl (by decide) (by decide) rfl (fun _ => rfl) (fun _ => rfl) T (fun M28 T => ?_)
    exact wp_return d_GM_choose_147 rfl (fun _ => rfl) (Nat.zero_le _) (Nat.zero_le _) (kV_mk T)
  · have T := T.2 h38
    refine wp_lload d_GM_choose_113 rfl ?_
    refine wp_lconst1 d_GM_choose_115 ?_
    refine xl_lt (tgt := 138) d_GM_choose_116 d_GM_choose_117 (by decide) (w64_id hx5) (w64_id (g64_c (x := 1) rfl)) (fun h37 => ?_) (fun h37 => ?_)
    · have T := T.1 h37
      refine wp_aload_n d_GM_choose_138 rfl rfl (g_nz hX.1) ?_
      refine wp_iconst d_GM_choose_139 ?_
      refine wp_iconst d_GM_choose_140 ?_
      refine wp_ldc2 (n := 4) d_GM_choose_141 c_GM_354 rfl ?_
      refine xcV_V (md' := true) (As := [gI 1, gI 4, gL 4]) (st := []) d_GM_choose_144 ca_GM_become ml_GM_347 im_GM_become se_GM_become gc_GM hX.1 (gm_o2 hX) hX.2.2.1 rfl (by decide) (by decide) rfl (fun _ => rfl) (fun _ => rfl) T (fun M29 T => ?_)
      exact wp_return d_GM_choose_147 rfl (fun _ => rfl) (Nat.zero_le _) (Nat.zero_le _) (kV_mk T)
    · have T := T.2 h37
      refine wp_lload d_GM_choose_120 rfl ?_
      refine wp_iload_n d_GM_choose_122 rfl rfl ?_
      refine wp_bipush d_GM_choose_123 ⟨by decide, by decide⟩ ?_
      refine xi_ne (tgt := 132) d_GM_choose_125 (by decide) (w32_id hx1) (w32_id (g32_c (x := 10) rfl)) (fun h36 => ?_) (fun h36 => ?_)
      · have T := T.1 h36
        refine wp_iconst d_GM_choose_132 ?_
        refine xi2l d_GM_choose_133 (w32_id (g32_c (x := 3) rfl)) ?_
        refine xl_le (tgt := 148) d_GM_choose_134 d_GM_choose_135 (by decide) (w64_id hx5) (w64_id (g64_32 (g32_c (x := 3) rfl))) (fun h32 => ?_) (fun h32 => ?_)
        · have T := T.1 h32
          refine wp_aload_n d_GM_choose_148 rfl rfl (g_nz hX.1) ?_
          refine wp_dup d_GM_choose_149 (gR_cat _) ?_
          refine xgetI d_GM_choose_150 gc_GM f_GM_304.1 f_GM_304.2.1 f_GM_304.2.2.1 hX.1 (gm_o2 hX) hX.2.2.1 f_GM_304.2.2.2.2.1 (fun h30 => ?_)
          have T := T h30
          refine wp_iconst d_GM_choose_153 ?_
          refine wp_isub d_GM_choose_154 ?_
          refine xputI d_GM_choose_155 gc_GM f_GM_304.1 f_GM_304.2.1 f_GM_304.2.2.1 hX.1 (gm_o2 hX) hX.2.2.1 f_GM_304.2.2.2.1 f_GM_304.2.2.2.2.1 f_GM_304.2.2.2.2.2 rfl ?_
          refine wp_iload_n d_GM_choose_158 rfl rfl ?_
          refine wp_istore (L' := [.val (gR G o), .val (gI x1), .val (gI x2), .unset, .val (gI x4), .val (gL x5), .unset, .val (gI x2), .unset]) d_GM_choose_159 (by decide) rfl ?_
          refine wp_iconst d_GM_choose_161 ?_
          refine wp_istore (L' := [.val (gR G o), .val (gI x1), .val (gI x2), .unset, .val (gI x4), .val (gL x5), .unset, .val (gI x2), .val (gI 0)]) d_GM_choose_162 (by decide) rfl ?_
          exact wp_md (wpt T (And.intro rfl (And.intro rfl (And.intro rfl (And.intro rfl True.intro)))))
        · have T := T.2 h32
          refine wp_aload_n d_GM_choose_138 rfl rfl (g_nz hX.1) ?_
          refine wp_iconst d_GM_choose_139 ?_
          refine wp_iconst d_GM_choose_140 ?_
          refine wp_ldc2 (n := 4) d_GM_choose_141 c_GM_354 rfl ?_
          refine xcV_V (md' := true) (As := [gI 1, gI 4, gL 4]) (st := []) d_GM_choose_144 ca_GM_become ml_GM_347 im_GM_become se_GM_become gc_GM hX.1 (gm_o2 hX) hX.2.2.1 rfl (by decide) (by decide) rfl (fun _ => rfl) (fun _ => rfl) T (fun M31 T => ?_)
          exact wp_return d_GM_choose_147 rfl (fun _ => rfl) (Nat.zero_le _) (Nat.zero_le _) (kV_mk T)
      · have T := T.2 h36
        refine wp_iconst d_GM_choose_128 ?_
        refine wp_goto (tgt := 133) d_GM_choose_129 (by decide) ?_
        refine xi2l d_GM_choose_133 (w32_id (g32_c (x := 2) rfl)) ?_
        refine xl_le (tgt := 148) d_GM_choose_134 d_GM_choose_135 (by decide) (w64_id hx5) (w64_id (g64_32 (g32_c (x := 2) rfl))) (fun h35 => ?_) (fun h35 => ?_)
        · have T := T.1 h35
          refine wp_aload_n d_GM_choose_148 rfl rfl (g_nz hX.1) ?_
          refine wp_dup d_GM_choose_149 (gR_cat _) ?_
          refine xgetI d_GM_choose_150 gc_GM f_GM_304.1 f_GM_304.2.1 f_GM_304.2.2.1 hX.1 (gm_o2 hX) hX.2.2.1 f_GM_304.2.2.2.2.1 (fun h33 => ?_)
          have T := T h33
          refine wp_iconst d_GM_choose_153 ?_
          refine wp_isub d_GM_choose_154 ?_
          refine xputI d_GM_choose_155 gc_GM f_GM_304.1 f_GM_304.2.1 f_GM_304.2.2.1 hX.1 (gm_o2 hX) hX.2.2.1 f_GM_304.2.2.2.1 f_GM_304.2.2.2.2.1 f_GM_304.2.2.2.2.2 rfl ?_
          refine wp_iload_n d_GM_choose_158 rfl rfl ?_
          refine wp_istore (L' := [.val (gR G o), .val (gI x1), .val (gI x2), .unset, .val (gI x4), .val (gL x5), .unset, .val (gI x2), .unset]) d_GM_choose_159 (by decide) rfl ?_
          refine wp_iconst d_GM_choose_161 ?_
          refine wp_istore (L' := [.val (gR G o), .val (gI x1), .val (gI x2), .unset, .val (gI x4), .val (gL x5), .unset, .val (gI x2), .val (gI 0)]) d_GM_choose_162 (by decide) rfl ?_
          exact wp_md (wpt T (And.intro rfl (And.intro rfl (And.intro rfl (And.intro rfl True.intro)))))
        · have T := T.2 h35
          refine wp_aload_n d_GM_choose_138 rfl rfl (g_nz hX.1) ?_
          refine wp_iconst d_GM_choose_139 ?_
          refine wp_iconst d_GM_choose_140 ?_
          refine wp_ldc2 (n := 4) d_GM_choose_141 c_GM_354 rfl ?_
          refine xcV_V (md' := true) (As := [gI 1, gI 4, gL 4]) (st := []) d_GM_choose_144 ca_GM_become ml_GM_347 im_GM_become se_GM_become gc_GM hX.1 (gm_o2 hX) hX.2.2.1 rfl (by decide) (by decide) rfl (fun _ => rfl) (fun _ => rfl) T (fun M34 T => ?_)
          exact wp_return d_GM_choose_147 rfl (fun _ => rfl) (Nat.zero_le _) (Nat.zero_le _) (kV_mk T)
set_option maxHeartbeats 4000000 in
theorem w_GM_choose_164 {l : Launch} {G : gG} {d : Nat} {X : gX} {M : gM} {k : gM → Prop} {o : Nat} (hX : gmX X o) {x5 : Int} (hx5 : g64 x5) {x7 : Int} (hx7 : g32 x7) {x8 : Int} (hx8 : g32 x8) (T : (x5 ≤ x8 → (cV l G y_GM_eval (gRm d) true [gR G o, gI x7] X M (fun M39 => (k M39)))) ∧ (¬ x5 ≤ x8 → (((0 : Int) ≤ x7 ∧ x7 < 90000) ∧ (g32 (M (o + 5) (Int.toNat x7)) → (wp l G y_GM_choose (gRm (d + 1)) true (kkV X k) true 164 [.val (gR G o), .unset, .unset, .unset, .unset, .val (gL x5), .unset, .val (gI (M (o + 5) (Int.toNat x7))), .val (gI (w32 (x8 + 1)))] [] X M 0 0))))) : wp l G y_GM_choose (gRm (d + 1)) true (kkV X k) true 164 [.val (gR G o), .unset, .unset, .unset, .unset, .val (gL x5), .unset, .val (gI x7), .val (gI x8)] [] X M 0 0 := by
  refine wp_iload d_GM_choose_164 rfl ?_
  refine xi2l d_GM_choose_166 (w32_id hx8) ?_
  refine wp_lload d_GM_choose_167 rfl ?_
  refine xl_ge (tgt := 188) d_GM_choose_169 d_GM_choose_170 (by decide) (w64_id (g64_32 hx8)) (w64_id hx5) (fun h41 => ?_) (fun h41 => ?_)
  · have T := T.1 h41
    refine wp_aload_n d_GM_choose_188 rfl rfl (g_nz hX.1) ?_
    refine wp_iload d_GM_choose_189 rfl ?_
    refine xcV_V (md' := true) (As := [gI x7]) (st := []) d_GM_choose_191 ca_GM_eval ml_GM_380 im_GM_eval se_GM_eval gc_GM hX.1 (gm_o2 hX) hX.2.2.1 rfl (by decide) (by decide) rfl (fun _ => rfl) (fun _ => rfl) T (fun M39 T => ?_)
    exact wp_return d_GM_choose_194 rfl (fun _ => rfl) (Nat.zero_le _) (Nat.zero_le _) (kV_mk T)
  · have T := T.2 h41
    refine wp_aload_n d_GM_choose_173 rfl rfl (g_nz hX.1) ?_
    refine xgetR d_GM_choose_174 gc_GM f_GM_24.1 f_GM_24.2.1 f_GM_24.2.2.1 hX.1 (gm_o2 hX) hX.2.2.1 f_GM_24.2.2.2.2.1 (gm_row hX 4 rfl).1 ?_
    refine wp_iload d_GM_choose_177 rfl ?_
    refine wp_iaload d_GM_choose_179 (gm_row hX 4 rfl).2.2.1 (gm_row hX 4 rfl).2.2.2 (gm_row hX 4 rfl).2.1 (g32_n T.1 (by decide)) T.1.1 T.1.2 (fun h40 => ?_)
    have T := T.2 h40
    refine wp_istore (L' := [.val (gR G o), .unset, .unset, .unset, .unset, .val (gL x5), .unset, .val (gI (M (o + 5) (Int.toNat x7))), .val (gI x8)]) d_GM_choose_180 (by decide) rfl ?_
    refine wp_iinc (L' := [.val (gR G o), .unset, .unset, .unset, .unset, .val (gL x5), .unset, .val (gI (M (o + 5) (Int.toNat x7))), .val (gI (x8 + 1))]) d_GM_choose_182 rfl (by decide) rfl ?_
    refine wp_goto (tgt := 164) d_GM_choose_185 (by decide) ?_
    exact wp_md (wpt T (And.intro rfl (And.intro rfl (And.intro rfl (And.intro (gI_w _) True.intro)))))
theorem e_GM_choose {l : Launch} {G : gG} {d : Nat} {X : gX} {M : gM} {k : gM → Prop} {o : Nat} {x1 : Int} {x2 : Int} (T : wp l G y_GM_choose (gRm (d + 1)) true (kkV X k) false 0 [.val (gR G o), .val (gI x1), .val (gI x2), .unset, .unset, .unset, .unset, .unset, .unset] [] X M 0 0) : cV l G y_GM_choose (gRm (d + 1)) true [gR G o, gI x1, gI x2] X M k := cen_V (plainFor_of_name rfl) (by simp only [lg_sl_R, lg_sl_I, lg_sl_L, lg_sl_N, List.length_cons, List.length_nil]; decide) (by unfold gEn; simp only [lg_sl_R, lg_sl_I, lg_sl_L, lg_sl_N]; exact wpt T (And.intro rfl (And.intro rfl (And.intro rfl True.intro))))
theorem d_GM_yes_0 : decode prog_15_method_59_code 0 = .ok (.aload_n 0, 1) := by decide +kernel
theorem d_GM_yes_1 : decode prog_15_method_59_code 1 = .ok (.iconst 3, 1) := by decide +kernel
theorem d_GM_yes_2 : decode prog_15_method_59_code 2 = .ok (.iload_n 1, 1) := by decide +kernel
theorem d_GM_yes_3 : decode prog_15_method_59_code 3 = .ok (.ifCond .eq 7, 3) := by decide +kernel
theorem d_GM_yes_10 : decode prog_15_method_59_code 10 = .ok (.lconst 0, 1) := by decide +kernel
theorem d_GM_yes_11 : decode prog_15_method_59_code 11 = .ok (.invokevirtual 307, 3) := by decide +kernel
theorem d_GM_yes_14 : decode prog_15_method_59_code 14 = .ok (.return_, 1) := by decide +kernel
theorem d_GM_yes_6 : decode prog_15_method_59_code 6 = .ok (.lconst 1, 1) := by decide +kernel
theorem d_GM_yes_7 : decode prog_15_method_59_code 7 = .ok (.goto 4, 3) := by decide +kernel
set_option maxHeartbeats 4000000 in
theorem w_GM_yes_0 {l : Launch} {G : gG} {d : Nat} {X : gX} {M : gM} {k : gM → Prop} {o : Nat} (hX : gmX X o) {x1 : Int} (hx1 : 0 ≤ x1 ∧ x1 ≤ 1) (T : (x1 = 0 → (cV l G y_GM_push (gRm d) true [gR G o, gI 3, gL 0] X M (fun M1 => (k M1)))) ∧ (¬ x1 = 0 → (cV l G y_GM_push (gRm d) true [gR G o, gI 3, gL 1] X M (fun M2 => (k M2))))) : wp l G y_GM_yes (gRm (d + 1)) true (kkV X k) false 0 [.val (gR G o), .val (gI x1)] [] X M 0 0 := by
  refine wp_aload_n d_GM_yes_0 rfl rfl (g_nz hX.1) ?_
  refine wp_iconst d_GM_yes_1 ?_
  refine wp_iload_n d_GM_yes_2 rfl rfl ?_
  refine xz_eq (tgt := 10) d_GM_yes_3 (by decide) (w32_id (g32_z hx1)) (fun h3 => ?_) (fun h3 => ?_)
  · have T := T.1 h3
    refine wp_lconst0 d_GM_yes_10 ?_
    refine xcV_V (md' := true) (As := [gI 3, gL 0]) (st := []) d_GM_yes_11 ca_GM_push ml_GM_307 im_GM_push se_GM_push gc_GM hX.1 (gm_o2 hX) hX.2.2.1 rfl (by decide) (by decide) rfl (fun _ => rfl) (fun _ => rfl) T (fun M1 T => ?_)
    exact wp_return d_GM_yes_14 rfl (fun _ => rfl) (Nat.zero_le _) (Nat.zero_le _) (kV_mk T)
  · have T := T.2 h3
    refine wp_lconst1 d_GM_yes_6 ?_
    refine wp_goto (tgt := 11) d_GM_yes_7 (by decide) ?_
    refine xcV_V (md' := true) (As := [gI 3, gL 1]) (st := []) d_GM_yes_11 ca_GM_push ml_GM_307 im_GM_push se_GM_push gc_GM hX.1 (gm_o2 hX) hX.2.2.1 rfl (by decide) (by decide) rfl (fun _ => rfl) (fun _ => rfl) T (fun M2 T => ?_)
    exact wp_return d_GM_yes_14 rfl (fun _ => rfl) (Nat.zero_le _) (Nat.zero_le _) (kV_mk T)
theorem e_GM_yes {l : Launch} {G : gG} {d : Nat} {X : gX} {M : gM} {k : gM → Prop} {o : Nat} {x1 : Int} (T : wp l G y_GM_yes (gRm (d + 1)) true (kkV X k) false 0 [.val (gR G o), .val (gI x1)] [] X M 0 0) : cV l G y_GM_yes (gRm (d + 1)) true [gR G o, gI x1] X M k := cen_V (plainFor_of_name rfl) (by simp only [lg_sl_R, lg_sl_I, lg_sl_L, lg_sl_N, List.length_cons, List.length_nil]; decide) (by unfold gEn; simp only [lg_sl_R, lg_sl_I, lg_sl_L, lg_sl_N]; exact wpt T (And.intro rfl (And.intro rfl True.intro)))
