/-! Walks of the reference's methods, written by wip/whole/gen_model.py -/
theorem d_GM_total_0 : decode prog_15_method_62_code 0 = .ok (.iload_n 1, 1) := by decide +kernel
theorem d_GM_total_1 : decode prog_15_method_62_code 1 = .ok (.iconst 1, 1) := by decide +kernel
theorem d_GM_total_2 : decode prog_15_method_62_code 2 = .ok (.if_icmp .ne 7, 3) := by decide +kernel
theorem d_GM_total_9 : decode prog_15_method_62_code 9 = .ok (.lconst 0, 1) := by decide +kernel
theorem d_GM_total_10 : decode prog_15_method_62_code 10 = .ok (.lstore_n 2, 1) := by decide +kernel
theorem d_GM_total_11 : decode prog_15_method_62_code 11 = .ok (.lconst 0, 1) := by decide +kernel
theorem d_GM_total_12 : decode prog_15_method_62_code 12 = .ok (.lstore 4, 2) := by decide +kernel
theorem d_GM_total_14 : decode prog_15_method_62_code 14 = .ok (.lconst 0, 1) := by decide +kernel
theorem d_GM_total_15 : decode prog_15_method_62_code 15 = .ok (.lstore 6, 2) := by decide +kernel
theorem d_GM_total_17 : decode prog_15_method_62_code 17 = .ok (.lconst 0, 1) := by decide +kernel
theorem d_GM_total_18 : decode prog_15_method_62_code 18 = .ok (.lstore 8, 2) := by decide +kernel
theorem d_GM_total_20 : decode prog_15_method_62_code 20 = .ok (.lconst 0, 1) := by decide +kernel
theorem d_GM_total_21 : decode prog_15_method_62_code 21 = .ok (.lstore 10, 2) := by decide +kernel
theorem d_GM_total_23 : decode prog_15_method_62_code 23 = .ok (.lconst 0, 1) := by decide +kernel
theorem d_GM_total_24 : decode prog_15_method_62_code 24 = .ok (.lstore 12, 2) := by decide +kernel
theorem d_GM_total_26 : decode prog_15_method_62_code 26 = .ok (.iconst 1, 1) := by decide +kernel
theorem d_GM_total_27 : decode prog_15_method_62_code 27 = .ok (.istore 14, 2) := by decide +kernel
theorem d_GM_total_29 : decode prog_15_method_62_code 29 = .ok (.aload_n 0, 1) := by decide +kernel
theorem d_GM_total_30 : decode prog_15_method_62_code 30 = .ok (.getfield 418, 3) := by decide +kernel
theorem d_GM_total_33 : decode prog_15_method_62_code 33 = .ok (.istore 15, 2) := by decide +kernel
theorem d_GM_total_5 : decode prog_15_method_62_code 5 = .ok (.lconst 1, 1) := by decide +kernel
theorem d_GM_total_6 : decode prog_15_method_62_code 6 = .ok (.goto 4, 3) := by decide +kernel
theorem d_GM_total_35 : decode prog_15_method_62_code 35 = .ok (.iload 15, 2) := by decide +kernel
theorem d_GM_total_37 : decode prog_15_method_62_code 37 = .ok (.aload_n 0, 1) := by decide +kernel
theorem d_GM_total_38 : decode prog_15_method_62_code 38 = .ok (.getfield 421, 3) := by decide +kernel
theorem d_GM_total_41 : decode prog_15_method_62_code 41 = .ok (.if_icmp .gt 208, 3) := by decide +kernel
theorem d_GM_total_249 : decode prog_15_method_62_code 249 = .ok (.iload_n 1, 1) := by decide +kernel
theorem d_GM_total_250 : decode prog_15_method_62_code 250 = .ok (.iconst 5, 1) := by decide +kernel
theorem d_GM_total_251 : decode prog_15_method_62_code 251 = .ok (.if_icmp .ne 13, 3) := by decide +kernel
theorem d_GM_total_264 : decode prog_15_method_62_code 264 = .ok (.iload_n 1, 1) := by decide +kernel
theorem d_GM_total_265 : decode prog_15_method_62_code 265 = .ok (.bipush 6, 2) := by decide +kernel
theorem d_GM_total_267 : decode prog_15_method_62_code 267 = .ok (.if_icmp .ne 13, 3) := by decide +kernel
theorem d_GM_total_280 : decode prog_15_method_62_code 280 = .ok (.lload 12, 2) := by decide +kernel
theorem d_GM_total_282 : decode prog_15_method_62_code 282 = .ok (.lconst 0, 1) := by decide +kernel
theorem d_GM_total_283 : decode prog_15_method_62_code 283 = .ok (.lcmp, 1) := by decide +kernel
theorem d_GM_total_284 : decode prog_15_method_62_code 284 = .ok (.ifCond .le 13, 3) := by decide +kernel
theorem d_GM_total_297 : decode prog_15_method_62_code 297 = .ok (.iload_n 1, 1) := by decide +kernel
theorem d_GM_total_298 : decode prog_15_method_62_code 298 = .ok (.iconst 2, 1) := by decide +kernel
theorem d_GM_total_299 : decode prog_15_method_62_code 299 = .ok (.if_icmp .ne 13, 3) := by decide +kernel
theorem d_GM_total_312 : decode prog_15_method_62_code 312 = .ok (.iload_n 1, 1) := by decide +kernel
theorem d_GM_total_313 : decode prog_15_method_62_code 313 = .ok (.iconst 3, 1) := by decide +kernel
theorem d_GM_total_314 : decode prog_15_method_62_code 314 = .ok (.if_icmp .ne 13, 3) := by decide +kernel
theorem d_GM_total_327 : decode prog_15_method_62_code 327 = .ok (.iload 14, 2) := by decide +kernel
theorem d_GM_total_329 : decode prog_15_method_62_code 329 = .ok (.ifCond .ne 12, 3) := by decide +kernel
theorem d_GM_total_341 : decode prog_15_method_62_code 341 = .ok (.iload_n 1, 1) := by decide +kernel
theorem d_GM_total_342 : decode prog_15_method_62_code 342 = .ok (.iconst 4, 1) := by decide +kernel
theorem d_GM_total_343 : decode prog_15_method_62_code 343 = .ok (.if_icmp .ne 18, 3) := by decide +kernel
theorem d_GM_total_361 : decode prog_15_method_62_code 361 = .ok (.aload_n 0, 1) := by decide +kernel
theorem d_GM_total_362 : decode prog_15_method_62_code 362 = .ok (.iconst 1, 1) := by decide +kernel
theorem d_GM_total_363 : decode prog_15_method_62_code 363 = .ok (.iload_n 1, 1) := by decide +kernel
theorem d_GM_total_364 : decode prog_15_method_62_code 364 = .ok (.iconst 4, 1) := by decide +kernel
theorem d_GM_total_365 : decode prog_15_method_62_code 365 = .ok (.if_icmp .ne 10, 3) := by decide +kernel
theorem d_GM_total_375 : decode prog_15_method_62_code 375 = .ok (.lload_n 2, 1) := by decide +kernel
theorem d_GM_total_376 : decode prog_15_method_62_code 376 = .ok (.invokevirtual 307, 3) := by decide +kernel
theorem d_GM_total_379 : decode prog_15_method_62_code 379 = .ok (.return_, 1) := by decide +kernel
theorem d_GM_total_368 : decode prog_15_method_62_code 368 = .ok (.lload_n 2, 1) := by decide +kernel
theorem d_GM_total_369 : decode prog_15_method_62_code 369 = .ok (.lload 8, 2) := by decide +kernel
theorem d_GM_total_371 : decode prog_15_method_62_code 371 = .ok (.ldiv, 1) := by decide +kernel
theorem d_GM_total_372 : decode prog_15_method_62_code 372 = .ok (.goto 4, 3) := by decide +kernel
theorem d_GM_total_346 : decode prog_15_method_62_code 346 = .ok (.lload 8, 2) := by decide +kernel
theorem d_GM_total_348 : decode prog_15_method_62_code 348 = .ok (.lconst 0, 1) := by decide +kernel
theorem d_GM_total_349 : decode prog_15_method_62_code 349 = .ok (.lcmp, 1) := by decide +kernel
theorem d_GM_total_350 : decode prog_15_method_62_code 350 = .ok (.ifCond .ne 11, 3) := by decide +kernel
theorem d_GM_total_353 : decode prog_15_method_62_code 353 = .ok (.aload_n 0, 1) := by decide +kernel
theorem d_GM_total_354 : decode prog_15_method_62_code 354 = .ok (.iconst 5, 1) := by decide +kernel
theorem d_GM_total_355 : decode prog_15_method_62_code 355 = .ok (.invokevirtual 314, 3) := by decide +kernel
theorem d_GM_total_358 : decode prog_15_method_62_code 358 = .ok (.goto 21, 3) := by decide +kernel
theorem d_GM_total_332 : decode prog_15_method_62_code 332 = .ok (.aload_n 0, 1) := by decide +kernel
theorem d_GM_total_333 : decode prog_15_method_62_code 333 = .ok (.bipush 6, 2) := by decide +kernel
theorem d_GM_total_335 : decode prog_15_method_62_code 335 = .ok (.invokevirtual 314, 3) := by decide +kernel
theorem d_GM_total_338 : decode prog_15_method_62_code 338 = .ok (.goto 41, 3) := by decide +kernel
theorem d_GM_total_317 : decode prog_15_method_62_code 317 = .ok (.aload_n 0, 1) := by decide +kernel
theorem d_GM_total_318 : decode prog_15_method_62_code 318 = .ok (.iconst 1, 1) := by decide +kernel
theorem d_GM_total_319 : decode prog_15_method_62_code 319 = .ok (.lload 6, 2) := by decide +kernel
theorem d_GM_total_321 : decode prog_15_method_62_code 321 = .ok (.invokevirtual 307, 3) := by decide +kernel
theorem d_GM_total_324 : decode prog_15_method_62_code 324 = .ok (.goto 55, 3) := by decide +kernel
theorem d_GM_total_302 : decode prog_15_method_62_code 302 = .ok (.aload_n 0, 1) := by decide +kernel
theorem d_GM_total_303 : decode prog_15_method_62_code 303 = .ok (.iconst 1, 1) := by decide +kernel
theorem d_GM_total_304 : decode prog_15_method_62_code 304 = .ok (.lload 4, 2) := by decide +kernel
theorem d_GM_total_306 : decode prog_15_method_62_code 306 = .ok (.invokevirtual 307, 3) := by decide +kernel
theorem d_GM_total_309 : decode prog_15_method_62_code 309 = .ok (.goto 70, 3) := by decide +kernel
theorem d_GM_total_287 : decode prog_15_method_62_code 287 = .ok (.aload_n 0, 1) := by decide +kernel
theorem d_GM_total_288 : decode prog_15_method_62_code 288 = .ok (.lload 12, 2) := by decide +kernel
theorem d_GM_total_290 : decode prog_15_method_62_code 290 = .ok (.l2i, 1) := by decide +kernel
theorem d_GM_total_291 : decode prog_15_method_62_code 291 = .ok (.invokevirtual 314, 3) := by decide +kernel
theorem d_GM_total_294 : decode prog_15_method_62_code 294 = .ok (.goto 85, 3) := by decide +kernel
theorem d_GM_total_270 : decode prog_15_method_62_code 270 = .ok (.aload_n 0, 1) := by decide +kernel
theorem d_GM_total_271 : decode prog_15_method_62_code 271 = .ok (.iconst 1, 1) := by decide +kernel
theorem d_GM_total_272 : decode prog_15_method_62_code 272 = .ok (.lload 10, 2) := by decide +kernel
theorem d_GM_total_274 : decode prog_15_method_62_code 274 = .ok (.invokevirtual 307, 3) := by decide +kernel
theorem d_GM_total_277 : decode prog_15_method_62_code 277 = .ok (.goto 102, 3) := by decide +kernel
theorem d_GM_total_254 : decode prog_15_method_62_code 254 = .ok (.aload_n 0, 1) := by decide +kernel
theorem d_GM_total_255 : decode prog_15_method_62_code 255 = .ok (.iconst 1, 1) := by decide +kernel
theorem d_GM_total_256 : decode prog_15_method_62_code 256 = .ok (.lload 8, 2) := by decide +kernel
theorem d_GM_total_258 : decode prog_15_method_62_code 258 = .ok (.invokevirtual 307, 3) := by decide +kernel
theorem d_GM_total_261 : decode prog_15_method_62_code 261 = .ok (.goto 118, 3) := by decide +kernel
theorem d_GM_total_44 : decode prog_15_method_62_code 44 = .ok (.aload_n 0, 1) := by decide +kernel
theorem d_GM_total_45 : decode prog_15_method_62_code 45 = .ok (.getfield 412, 3) := by decide +kernel
theorem d_GM_total_48 : decode prog_15_method_62_code 48 = .ok (.istore 16, 2) := by decide +kernel
theorem d_GM_total_50 : decode prog_15_method_62_code 50 = .ok (.iload 16, 2) := by decide +kernel
theorem d_GM_total_52 : decode prog_15_method_62_code 52 = .ok (.aload_n 0, 1) := by decide +kernel
theorem d_GM_total_53 : decode prog_15_method_62_code 53 = .ok (.getfield 415, 3) := by decide +kernel
theorem d_GM_total_56 : decode prog_15_method_62_code 56 = .ok (.if_icmp .gt 187, 3) := by decide +kernel
theorem d_GM_total_243 : decode prog_15_method_62_code 243 = .ok (.iinc 15 1, 3) := by decide +kernel
theorem d_GM_total_246 : decode prog_15_method_62_code 246 = .ok (.goto (-211), 3) := by decide +kernel
theorem d_GM_total_59 : decode prog_15_method_62_code 59 = .ok (.iload 16, 2) := by decide +kernel
theorem d_GM_total_61 : decode prog_15_method_62_code 61 = .ok (.bipush 26, 2) := by decide +kernel
theorem d_GM_total_63 : decode prog_15_method_62_code 63 = .ok (.iload 15, 2) := by decide +kernel
theorem d_GM_total_65 : decode prog_15_method_62_code 65 = .ok (.imul, 1) := by decide +kernel
theorem d_GM_total_66 : decode prog_15_method_62_code 66 = .ok (.iadd, 1) := by decide +kernel
theorem d_GM_total_67 : decode prog_15_method_62_code 67 = .ok (.istore 17, 2) := by decide +kernel
theorem d_GM_total_69 : decode prog_15_method_62_code 69 = .ok (.aload_n 0, 1) := by decide +kernel
theorem d_GM_total_70 : decode prog_15_method_62_code 70 = .ok (.getfield 91, 3) := by decide +kernel
theorem d_GM_total_73 : decode prog_15_method_62_code 73 = .ok (.iload 17, 2) := by decide +kernel
theorem d_GM_total_75 : decode prog_15_method_62_code 75 = .ok (.iaload, 1) := by decide +kernel
theorem d_GM_total_76 : decode prog_15_method_62_code 76 = .ok (.iconst 4, 1) := by decide +kernel
theorem d_GM_total_77 : decode prog_15_method_62_code 77 = .ok (.if_icmp .ne 19, 3) := by decide +kernel
theorem d_GM_total_80 : decode prog_15_method_62_code 80 = .ok (.lload 12, 2) := by decide +kernel
theorem d_GM_total_82 : decode prog_15_method_62_code 82 = .ok (.lconst 0, 1) := by decide +kernel
theorem d_GM_total_83 : decode prog_15_method_62_code 83 = .ok (.lcmp, 1) := by decide +kernel
theorem d_GM_total_84 : decode prog_15_method_62_code 84 = .ok (.ifCond .ne 12, 3) := by decide +kernel
theorem d_GM_total_87 : decode prog_15_method_62_code 87 = .ok (.aload_n 0, 1) := by decide +kernel
theorem d_GM_total_88 : decode prog_15_method_62_code 88 = .ok (.getfield 103, 3) := by decide +kernel
theorem d_GM_total_91 : decode prog_15_method_62_code 91 = .ok (.iload 17, 2) := by decide +kernel
theorem d_GM_total_93 : decode prog_15_method_62_code 93 = .ok (.laload, 1) := by decide +kernel
theorem d_GM_total_94 : decode prog_15_method_62_code 94 = .ok (.lstore 12, 2) := by decide +kernel
theorem d_GM_total_96 : decode prog_15_method_62_code 96 = .ok (.aload_n 0, 1) := by decide +kernel
theorem d_GM_total_97 : decode prog_15_method_62_code 97 = .ok (.getfield 91, 3) := by decide +kernel
theorem d_GM_total_100 : decode prog_15_method_62_code 100 = .ok (.iload 17, 2) := by decide +kernel
theorem d_GM_total_102 : decode prog_15_method_62_code 102 = .ok (.iaload, 1) := by decide +kernel
theorem d_GM_total_103 : decode prog_15_method_62_code 103 = .ok (.ifCond .eq 9, 3) := by decide +kernel
theorem d_GM_total_106 : decode prog_15_method_62_code 106 = .ok (.lload 10, 2) := by decide +kernel
theorem d_GM_total_108 : decode prog_15_method_62_code 108 = .ok (.lconst 1, 1) := by decide +kernel
theorem d_GM_total_109 : decode prog_15_method_62_code 109 = .ok (.ladd, 1) := by decide +kernel
theorem d_GM_total_110 : decode prog_15_method_62_code 110 = .ok (.lstore 10, 2) := by decide +kernel
theorem d_GM_total_112 : decode prog_15_method_62_code 112 = .ok (.aload_n 0, 1) := by decide +kernel
theorem d_GM_total_113 : decode prog_15_method_62_code 113 = .ok (.getfield 91, 3) := by decide +kernel
theorem d_GM_total_116 : decode prog_15_method_62_code 116 = .ok (.iload 17, 2) := by decide +kernel
theorem d_GM_total_118 : decode prog_15_method_62_code 118 = .ok (.iaload, 1) := by decide +kernel
theorem d_GM_total_119 : decode prog_15_method_62_code 119 = .ok (.iconst 1, 1) := by decide +kernel
theorem d_GM_total_120 : decode prog_15_method_62_code 120 = .ok (.if_icmp .eq 6, 3) := by decide +kernel
theorem d_GM_total_126 : decode prog_15_method_62_code 126 = .ok (.aload_n 0, 1) := by decide +kernel
theorem d_GM_total_127 : decode prog_15_method_62_code 127 = .ok (.getfield 103, 3) := by decide +kernel
theorem d_GM_total_130 : decode prog_15_method_62_code 130 = .ok (.iload 17, 2) := by decide +kernel
theorem d_GM_total_132 : decode prog_15_method_62_code 132 = .ok (.laload, 1) := by decide +kernel
theorem d_GM_total_133 : decode prog_15_method_62_code 133 = .ok (.lstore 18, 2) := by decide +kernel
theorem d_GM_total_135 : decode prog_15_method_62_code 135 = .ok (.lload 8, 2) := by decide +kernel
theorem d_GM_total_137 : decode prog_15_method_62_code 137 = .ok (.lconst 0, 1) := by decide +kernel
theorem d_GM_total_138 : decode prog_15_method_62_code 138 = .ok (.lcmp, 1) := by decide +kernel
theorem d_GM_total_139 : decode prog_15_method_62_code 139 = .ok (.ifCond .eq 11, 3) := by decide +kernel
theorem d_GM_total_142 : decode prog_15_method_62_code 142 = .ok (.lload 18, 2) := by decide +kernel
theorem d_GM_total_144 : decode prog_15_method_62_code 144 = .ok (.lload 4, 2) := by decide +kernel
theorem d_GM_total_146 : decode prog_15_method_62_code 146 = .ok (.lcmp, 1) := by decide +kernel
theorem d_GM_total_147 : decode prog_15_method_62_code 147 = .ok (.ifCond .ge 7, 3) := by decide +kernel
theorem d_GM_total_123 : decode prog_15_method_62_code 123 = .ok (.goto 114, 3) := by decide +kernel
theorem d_GM_total_237 : decode prog_15_method_62_code 237 = .ok (.iinc 16 1, 3) := by decide +kernel
theorem d_GM_total_240 : decode prog_15_method_62_code 240 = .ok (.goto (-190), 3) := by decide +kernel
theorem d_GM_total_150 : decode prog_15_method_62_code 150 = .ok (.lload 18, 2) := by decide +kernel
theorem d_GM_total_152 : decode prog_15_method_62_code 152 = .ok (.lstore 4, 2) := by decide +kernel
theorem d_GM_total_154 : decode prog_15_method_62_code 154 = .ok (.lload 8, 2) := by decide +kernel
theorem d_GM_total_156 : decode prog_15_method_62_code 156 = .ok (.lconst 0, 1) := by decide +kernel
theorem d_GM_total_157 : decode prog_15_method_62_code 157 = .ok (.lcmp, 1) := by decide +kernel
theorem d_GM_total_158 : decode prog_15_method_62_code 158 = .ok (.ifCond .eq 11, 3) := by decide +kernel
theorem d_GM_total_161 : decode prog_15_method_62_code 161 = .ok (.lload 18, 2) := by decide +kernel
theorem d_GM_total_163 : decode prog_15_method_62_code 163 = .ok (.lload 6, 2) := by decide +kernel
theorem d_GM_total_165 : decode prog_15_method_62_code 165 = .ok (.lcmp, 1) := by decide +kernel
theorem d_GM_total_166 : decode prog_15_method_62_code 166 = .ok (.ifCond .le 7, 3) := by decide +kernel
theorem d_GM_total_169 : decode prog_15_method_62_code 169 = .ok (.lload 18, 2) := by decide +kernel
theorem d_GM_total_171 : decode prog_15_method_62_code 171 = .ok (.lstore 6, 2) := by decide +kernel
theorem d_GM_total_173 : decode prog_15_method_62_code 173 = .ok (.lload 8, 2) := by decide +kernel
theorem d_GM_total_175 : decode prog_15_method_62_code 175 = .ok (.lconst 1, 1) := by decide +kernel
theorem d_GM_total_176 : decode prog_15_method_62_code 176 = .ok (.ladd, 1) := by decide +kernel
theorem d_GM_total_177 : decode prog_15_method_62_code 177 = .ok (.lstore 8, 2) := by decide +kernel
theorem d_GM_total_179 : decode prog_15_method_62_code 179 = .ok (.iload_n 1, 1) := by decide +kernel
theorem d_GM_total_180 : decode prog_15_method_62_code 180 = .ok (.iconst 1, 1) := by decide +kernel
theorem d_GM_total_181 : decode prog_15_method_62_code 181 = .ok (.if_icmp .eq 12, 3) := by decide +kernel
theorem d_GM_total_184 : decode prog_15_method_62_code 184 = .ok (.iload_n 1, 1) := by decide +kernel
theorem d_GM_total_185 : decode prog_15_method_62_code 185 = .ok (.ifCond .eq 8, 3) := by decide +kernel
theorem d_GM_total_188 : decode prog_15_method_62_code 188 = .ok (.iload_n 1, 1) := by decide +kernel
theorem d_GM_total_189 : decode prog_15_method_62_code 189 = .ok (.iconst 4, 1) := by decide +kernel
theorem d_GM_total_190 : decode prog_15_method_62_code 190 = .ok (.if_icmp .ne 47, 3) := by decide +kernel
theorem d_GM_total_193 : decode prog_15_method_62_code 193 = .ok (.iload 14, 2) := by decide +kernel
theorem d_GM_total_195 : decode prog_15_method_62_code 195 = .ok (.ifCond .eq 29, 3) := by decide +kernel
theorem d_GM_total_224 : decode prog_15_method_62_code 224 = .ok (.iconst 0, 1) := by decide +kernel
theorem d_GM_total_225 : decode prog_15_method_62_code 225 = .ok (.istore 14, 2) := by decide +kernel
theorem d_GM_total_227 : decode prog_15_method_62_code 227 = .ok (.iload 14, 2) := by decide +kernel
theorem d_GM_total_229 : decode prog_15_method_62_code 229 = .ok (.ifCond .eq 8, 3) := by decide +kernel
theorem d_GM_total_232 : decode prog_15_method_62_code 232 = .ok (.aload_n 0, 1) := by decide +kernel
theorem d_GM_total_233 : decode prog_15_method_62_code 233 = .ok (.getfield 324, 3) := by decide +kernel
theorem d_GM_total_236 : decode prog_15_method_62_code 236 = .ok (.lstore_n 2, 1) := by decide +kernel
theorem d_GM_total_198 : decode prog_15_method_62_code 198 = .ok (.aload_n 0, 1) := by decide +kernel
theorem d_GM_total_199 : decode prog_15_method_62_code 199 = .ok (.iload_n 1, 1) := by decide +kernel
theorem d_GM_total_200 : decode prog_15_method_62_code 200 = .ok (.iconst 1, 1) := by decide +kernel
theorem d_GM_total_201 : decode prog_15_method_62_code 201 = .ok (.if_icmp .ne 8, 3) := by decide +kernel
theorem d_GM_total_209 : decode prog_15_method_62_code 209 = .ok (.bipush 43, 2) := by decide +kernel
theorem d_GM_total_211 : decode prog_15_method_62_code 211 = .ok (.lload_n 2, 1) := by decide +kernel
theorem d_GM_total_212 : decode prog_15_method_62_code 212 = .ok (.lload 18, 2) := by decide +kernel
theorem d_GM_total_214 : decode prog_15_method_62_code 214 = .ok (.invokevirtual 331, 3) := by decide +kernel
theorem d_GM_total_217 : decode prog_15_method_62_code 217 = .ok (.ifCond .eq 7, 3) := by decide +kernel
theorem d_GM_total_220 : decode prog_15_method_62_code 220 = .ok (.iconst 1, 1) := by decide +kernel
theorem d_GM_total_221 : decode prog_15_method_62_code 221 = .ok (.goto 4, 3) := by decide +kernel
theorem d_GM_total_204 : decode prog_15_method_62_code 204 = .ok (.bipush 42, 2) := by decide +kernel
theorem d_GM_total_206 : decode prog_15_method_62_code 206 = .ok (.goto 5, 3) := by decide +kernel
set_option maxHeartbeats 4000000 in
theorem w_GM_total_0 {l : Launch} {G : gG} {d : Nat} {X : gX} {M : gM} {k : gM → Prop} {o : Nat} (hX : gmX X o) {x1 : Int} (hx1 : g32 x1) (T : (¬ x1 = 1 → (g32 (M o 57) → (wp l G y_GM_total (gRm (d + 1)) true (kkV X k) true 35 [.val (gR G o), .val (gI x1), .val (gL 0), .unset, .val (gL 0), .unset, .val (gL 0), .unset, .val (gL 0), .unset, .val (gL 0), .unset, .val (gL 0), .unset, .val (gI 1), .val (gI (M o 57)), .unset, .unset, .unset, .unset] [] X M 0 0))) ∧ (x1 = 1 → (g32 (M o 57) → (wp l G y_GM_total (gRm (d + 1)) true (kkV X k) true 35 [.val (gR G o), .val (gI x1), .val (gL 1), .unset, .val (gL 0), .unset, .val (gL 0), .unset, .val (gL 0), .unset, .val (gL 0), .unset, .val (gL 0), .unset, .val (gI 1), .val (gI (M o 57)), .unset, .unset, .unset, .unset] [] X M 0 0)))) : wp l G y_GM_total (gRm (d + 1)) true (kkV X k) false 0 [.val (gR G o), .val (gI x1), .unset, .unset, .unset, .unset, .unset, .unset, .unset, .unset, .unset, .unset, .unset, .unset, .unset, .unset, .unset, .unset, .unset, .unset] [] X M 0 0 := by
  refine wp_iload_n d_GM_total_0 rfl rfl ?_
  refine wp_iconst d_GM_total_1 ?_
  refine xi_ne (tgt := 9) d_GM_total_2 (by decide) (w32_id hx1) (w32_id (g32_c (x := 1) rfl)) (fun h3 => ?_) (fun h3 => ?_)
  · have T := T.1 h3
    refine wp_lconst0 d_GM_total_9 ?_
    refine wp_lstore_n (L' := [.val (gR G o), .val (gI x1), .val (gL 0), .unset, .unset, .unset, .unset, .unset, .unset, .unset, .unset, .unset, .unset, .unset, .unset, .unset, .unset, .unset, .unset, .unset]) d_GM_total_10 rfl (by decide) rfl ?_
    refine wp_lconst0 d_GM_total_11 ?_
    refine wp_lstore (L' := [.val (gR G o), .val (gI x1), .val (gL 0), .unset, .val (gL 0), .unset, .unset, .unset, .unset, .unset, .unset, .unset, .unset, .unset, .unset, .unset, .unset, .unset, .unset, .unset]) d_GM_total_12 (by decide) rfl ?_
    refine wp_lconst0 d_GM_total_14 ?_
    refine wp_lstore (L' := [.val (gR G o), .val (gI x1), .val (gL 0), .unset, .val (gL 0), .unset, .val (gL 0), .unset, .unset, .unset, .unset, .unset, .unset, .unset, .unset, .unset, .unset, .unset, .unset, .unset]) d_GM_total_15 (by decide) rfl ?_
    refine wp_lconst0 d_GM_total_17 ?_
    refine wp_lstore (L' := [.val (gR G o), .val (gI x1), .val (gL 0), .unset, .val (gL 0), .unset, .val (gL 0), .unset, .val (gL 0), .unset, .unset, .unset, .unset, .unset, .unset, .unset, .unset, .unset, .unset, .unset]) d_GM_total_18 (by decide) rfl ?_
    refine wp_lconst0 d_GM_total_20 ?_
    refine wp_lstore (L' := [.val (gR G o), .val (gI x1), .val (gL 0), .unset, .val (gL 0), .unset, .val (gL 0), .unset, .val (gL 0), .unset, .val (gL 0), .unset, .unset, .unset, .unset, .unset, .unset, .unset, .unset, .unset]) d_GM_total_21 (by decide) rfl ?_
    refine wp_lconst0 d_GM_total_23 ?_
    refine wp_lstore (L' := [.val (gR G o), .val (gI x1), .val (gL 0), .unset, .val (gL 0), .unset, .val (gL 0), .unset, .val (gL 0), .unset, .val (gL 0), .unset, .val (gL 0), .unset, .unset, .unset, .unset, .unset, .unset, .unset]) d_GM_total_24 (by decide) rfl ?_
    refine wp_iconst d_GM_total_26 ?_
    refine wp_istore (L' := [.val (gR G o), .val (gI x1), .val (gL 0), .unset, .val (gL 0), .unset, .val (gL 0), .unset, .val (gL 0), .unset, .val (gL 0), .unset, .val (gL 0), .unset, .val (gI 1), .unset, .unset, .unset, .unset, .unset]) d_GM_total_27 (by decide) rfl ?_
    refine wp_aload_n d_GM_total_29 rfl rfl (g_nz hX.1) ?_
    refine xgetI d_GM_total_30 gc_GM f_GM_418.1 f_GM_418.2.1 f_GM_418.2.2.1 hX.1 (gm_o2 hX) hX.2.2.1 f_GM_418.2.2.2.2.1 (fun h1 => ?_)
    have T := T h1
    refine wp_istore (L' := [.val (gR G o), .val (gI x1), .val (gL 0), .unset, .val (gL 0), .unset, .val (gL 0), .unset, .val (gL 0), .unset, .val (gL 0), .unset, .val (gL 0), .unset, .val (gI 1), .val (gI (M o 57)), .unset, .unset, .unset, .unset]) d_GM_total_33 (by decide) rfl ?_
    exact wp_md (wpt T (And.intro rfl (And.intro rfl (And.intro rfl (And.intro rfl (And.intro rfl (And.intro rfl (And.intro rfl (And.intro rfl (And.intro rfl (And.intro rfl True.intro)))))))))))
  · have T := T.2 h3
    refine wp_lconst1 d_GM_total_5 ?_
    refine wp_goto (tgt := 10) d_GM_total_6 (by decide) ?_
    refine wp_lstore_n (L' := [.val (gR G o), .val (gI x1), .val (gL 1), .unset, .unset, .unset, .unset, .unset, .unset, .unset, .unset, .unset, .unset, .unset, .unset, .unset, .unset, .unset, .unset, .unset]) d_GM_total_10 rfl (by decide) rfl ?_
    refine wp_lconst0 d_GM_total_11 ?_
    refine wp_lstore (L' := [.val (gR G o), .val (gI x1), .val (gL 1), .unset, .val (gL 0), .unset, .unset, .unset, .unset, .unset, .unset, .unset, .unset, .unset, .unset, .unset, .unset, .unset, .unset, .unset]) d_GM_total_12 (by decide) rfl ?_
    refine wp_lconst0 d_GM_total_14 ?_
    refine wp_lstore (L' := [.val (gR G o), .val (gI x1), .val (gL 1), .unset, .val (gL 0), .unset, .val (gL 0), .unset, .unset, .unset, .unset, .unset, .unset, .unset, .unset, .unset, .unset, .unset, .unset, .unset]) d_GM_total_15 (by decide) rfl ?_
    refine wp_lconst0 d_GM_total_17 ?_
    refine wp_lstore (L' := [.val (gR G o), .val (gI x1), .val (gL 1), .unset, .val (gL 0), .unset, .val (gL 0), .unset, .val (gL 0), .unset, .unset, .unset, .unset, .unset, .unset, .unset, .unset, .unset, .unset, .unset]) d_GM_total_18 (by decide) rfl ?_
    refine wp_lconst0 d_GM_total_20 ?_
    refine wp_lstore (L' := [.val (gR G o), .val (gI x1), .val (gL 1), .unset, .val (gL 0), .unset, .val (gL 0), .unset, .val (gL 0), .unset, .val (gL 0), .unset, .unset, .unset, .unset, .unset, .unset, .unset, .unset, .unset]) d_GM_total_21 (by decide) rfl ?_
    refine wp_lconst0 d_GM_total_23 ?_
    refine wp_lstore (L' := [.val (gR G o), .val (gI x1), .val (gL 1), .unset, .val (gL 0), .unset, .val (gL 0), .unset, .val (gL 0), .unset, .val (gL 0), .unset, .val (gL 0), .unset, .unset, .unset, .unset, .unset, .unset, .unset]) d_GM_total_24 (by decide) rfl ?_
    refine wp_iconst d_GM_total_26 ?_
    refine wp_istore (L' := [.val (gR G o), .val (gI x1), .val (gL 1), .unset, .val (gL 0), .unset, .val (gL 0), .unset, .val (gL 0), .unset, .val (gL 0), .unset, .val (gL 0), .unset, .val (gI 1), .unset, .unset, .unset, .unset, .unset]) d_GM_total_27 (by decide) rfl ?_
    refine wp_aload_n d_GM_total_29 rfl rfl (g_nz hX.1) ?_
    refine xgetI d_GM_total_30 gc_GM f_GM_418.1 f_GM_418.2.1 f_GM_418.2.2.1 hX.1 (gm_o2 hX) hX.2.2.1 f_GM_418.2.2.2.2.1 (fun h2 => ?_)
    have T := T h2
    refine wp_istore (L' := [.val (gR G o), .val (gI x1), .val (gL 1), .unset, .val (gL 0), .unset, .val (gL 0), .unset, .val (gL 0), .unset, .val (gL 0), .unset, .val (gL 0), .unset, .val (gI 1), .val (gI (M o 57)), .unset, .unset, .unset, .unset]) d_GM_total_33 (by decide) rfl ?_
    exact wp_md (wpt T (And.intro rfl (And.intro rfl (And.intro rfl (And.intro rfl (And.intro rfl (And.intro rfl (And.intro rfl (And.intro rfl (And.intro rfl (And.intro rfl True.intro)))))))))))
set_option maxHeartbeats 4000000 in
theorem w_GM_total_35 {l : Launch} {G : gG} {d : Nat} {X : gX} {M : gM} {k : gM → Prop} {o : Nat} (hX : gmX X o) {x1 : Int} (hx1 : g32 x1) {x2 : Int} (hx2 : g64 x2) {x4 : Int} (hx4 : g64 x4) {x6 : Int} (hx6 : g64 x6) {x8 : Int} (hx8 : g64 x8) {x10 : Int} (hx10 : g64 x10) {x12 : Int} (hx12 : g64 x12) {x14 : Int} (hx14 : g32 x14) {x15 : Int} (hx15 : g32 x15) (T : g32 (M o 59) → ((M o 59 < x15 → ((¬ x1 = 5 → ((¬ x1 = 6 → ((x12 ≤ 0 → ((¬ x1 = 2 → ((¬ x1 = 3 → ((¬ x14 = 0 → ((¬ x1 = 4 → ((¬ x1 = 4 → (cV l G y_GM_push (gRm d) true [gR G o, gI 1, gL x2] X M (fun M5 => (k M5)))) ∧ (x1 = 4 → ((x8 ≠ 0) ∧ (cV l G y_GM_push (gRm d) true [gR G o, gI 1, gL (x2.tdiv x8)] X M (fun M6 => (k M6))))))) ∧ (x1 = 4 → ((¬ x8 = 0 → ((¬ x1 = 4 → (cV l G y_GM_push (gRm d) true [gR G o, gI 1, gL x2] X M (fun M8 => (k M8)))) ∧ (x1 = 4 → ((x8 ≠ 0) ∧ (cV l G y_GM_push (gRm d) true [gR G o, gI 1, gL (x2.tdiv x8)] X M (fun M9 => (k M9))))))) ∧ (x8 = 0 → (cV l G y_GM_fault (gRm d) true [gR G o, gI 5] X M (fun M11 => (k M11)))))))) ∧ (x14 = 0 → (cV l G y_GM_fault (gRm d) true [gR G o, gI 6] X M (fun M14 => (k M14)))))) ∧ (x1 = 3 → (cV l G y_GM_push (gRm d) true [gR G o, gI 1, gL x6] X M (fun M16 => (k M16)))))) ∧ (x1 = 2 → (cV l G y_GM_push (gRm d) true [gR G o, gI 1, gL x4] X M (fun M18 => (k M18)))))) ∧ (¬ x12 ≤ 0 → (cV l G y_GM_fault (gRm d) true [gR G o, gI x12] X M (fun M20 => (k M20)))))) ∧ (x1 = 6 → (cV l G y_GM_push (gRm d) true [gR G o, gI 1, gL x10] X M (fun M22 => (k M22)))))) ∧ (x1 = 5 → (cV l G y_GM_push (gRm d) true [gR G o, gI 1, gL x8] X M (fun M24 => (k M24)))))) ∧ (¬ M o 59 < x15 → (g32 (M o 56) → (wp l G y_GM_total (gRm (d + 1)) true (kkV X k) true 50 [.val (gR G o), .val (gI x1), .val (gL x2), .unset, .val (gL x4), .unset, .val (gL x6), .unset, .val (gL x8), .unset, .val (gL x10), .unset, .val (gL x12), .unset, .val (gI x14), .val (gI x15), .val (gI (M o 56)), .unset, .unset, .unset] [] X M 0 0))))) : wp l G y_GM_total (gRm (d + 1)) true (kkV X k) true 35 [.val (gR G o), .val (gI x1), .val (gL x2), .unset, .val (gL x4), .unset, .val (gL x6), .unset, .val (gL x8), .unset, .val (gL x10), .unset, .val (gL x12), .unset, .val (gI x14), .val (gI x15), .unset, .unset, .unset, .unset] [] X M 0 0 := by
  refine wp_iload d_GM_total_35 rfl ?_
  refine wp_aload_n d_GM_total_37 rfl rfl (g_nz hX.1) ?_
  refine xgetI d_GM_total_38 gc_GM f_GM_421.1 f_GM_421.2.1 f_GM_421.2.2.1 hX.1 (gm_o2 hX) hX.2.2.1 f_GM_421.2.2.2.2.1 (fun h4 => ?_)
  have T := T h4
  refine xi_gt (tgt := 249) d_GM_total_41 (by decide) (w32_id hx15) (w32_id h4) (fun h27 => ?_) (fun h27 => ?_)
  · have T := T.1 h27
    refine wp_iload_n d_GM_total_249 rfl rfl ?_
    refine wp_iconst d_GM_total_250 ?_
    refine xi_ne (tgt := 264) d_GM_total_251 (by decide) (w32_id hx1) (w32_id (g32_c (x := 5) rfl)) (fun h25 => ?_) (fun h25 => ?_)
    · have T := T.1 h25
      refine wp_iload_n d_GM_total_264 rfl rfl ?_
      refine wp_bipush d_GM_total_265 ⟨by decide, by decide⟩ ?_
      refine xi_ne (tgt := 280) d_GM_total_267 (by decide) (w32_id hx1) (w32_id (g32_c (x := 6) rfl)) (fun h23 => ?_) (fun h23 => ?_)
      · have T := T.1 h23
        refine wp_lload d_GM_total_280 rfl ?_
        refine wp_lconst0 d_GM_total_282 ?_
        refine xl_le (tgt := 297) d_GM_total_283 d_GM_total_284 (by decide) (w64_id hx12) (w64_id (g64_c (x := 0) rfl)) (fun h21 => ?_) (fun h21 => ?_)
        · have T := T.1 h21
          refine wp_iload_n d_GM_total_297 rfl rfl ?_
          refine wp_iconst d_GM_total_298 ?_
          refine xi_ne (tgt := 312) d_GM_total_299 (by decide) (w32_id hx1) (w32_id (g32_c (x := 2) rfl)) (fun h19 => ?_) (fun h19 => ?_)
          · have T := T.1 h19
            refine wp_iload_n d_GM_total_312 rfl rfl ?_
            refine wp_iconst d_GM_total_313 ?_
            refine xi_ne (tgt := 327) d_GM_total_314 (by decide) (w32_id hx1) (w32_id (g32_c (x := 3) rfl)) (fun h17 => ?_) (fun h17 => ?_)
            · have T := T.1 h17
              refine wp_iload d_GM_total_327 rfl ?_
              refine xz_ne (tgt := 341) d_GM_total_329 (by decide) (w32_id hx14) (fun h15 => ?_) (fun h15 => ?_)
              · have T := T.1 h15
                refine wp_iload_n d_GM_total_341 rfl rfl ?_
                refine wp_iconst d_GM_total_342 ?_
                refine xi_ne (tgt := 361) d_GM_total_343 (by decide) (w32_id hx1) (w32_id (g32_c (x := 4) rfl)) (fun h13 => ?_) (fun h13 => ?_)
                · have T := T.1 h13
                  refine wp_aload_n d_GM_total_361 rfl rfl (g_nz hX.1) ?_
                  refine wp_iconst d_GM_total_362 ?_
                  refine wp_iload_n d_GM_total_363 rfl rfl ?_
                  refine wp_iconst d_GM_total_364 ?_
                  refine xi_ne (tgt := 375) d_GM_total_365 (by decide) (w32_id hx1) (w32_id (g32_c (x := 4) rfl)) (fun h7 => ?_) (fun h7 => ?_)
                  · have T := T.1 h7
                    refine wp_lload_n d_GM_total_375 rfl rfl ?_
                    refine xcV_V (md' := true) (As := [gI 1, gL x2]) (st := []) d_GM_total_376 ca_GM_push ml_GM_307 im_GM_push se_GM_push gc_GM hX.1 (gm_o2 hX) hX.2.2.1 rfl (by decide) (by decide) rfl (fun _ => rfl) (fun _ => rfl) T (fun M5 T => ?_)
                    exact wp_return d_GM_total_379 rfl (fun _ => rfl) (Nat.zero_le _) (Nat.zero_le _) (kV_mk T)
                  · have T := T.2 h7
                    refine wp_lload_n d_GM_total_368 rfl rfl ?_
                    refine wp_lload d_GM_total_369 rfl ?_
                    refine xldiv d_GM_total_371 (w64_id hx2) (w64_id hx8) T.1 ?_
                    have T := T.2
                    refine wp_goto (tgt := 376) d_GM_total_372 (by decide) ?_
                    refine xcV_V (md' := true) (As := [gI 1, gL (x2.tdiv x8)]) (st := []) d_GM_total_376 ca_GM_push ml_GM_307 im_GM_push se_GM_push gc_GM hX.1 (gm_o2 hX) hX.2.2.1 rfl (by decide) (by decide) rfl (fun _ => rfl) (fun _ => rfl) T (fun M6 T => ?_)
                    exact wp_return d_GM_total_379 rfl (fun _ => rfl) (Nat.zero_le _) (Nat.zero_le _) (kV_mk T)
                · have T := T.2 h13
                  refine wp_lload d_GM_total_346 rfl ?_
                  refine wp_lconst0 d_GM_total_348 ?_
                  refine xl_ne (tgt := 361) d_GM_total_349 d_GM_total_350 (by decide) (w64_id hx8) (w64_id (g64_c (x := 0) rfl)) (fun h12 => ?_) (fun h12 => ?_)
                  · have T := T.1 h12
                    refine wp_aload_n d_GM_total_361 rfl rfl (g_nz hX.1) ?_
                    refine wp_iconst d_GM_total_362 ?_
                    refine wp_iload_n d_GM_total_363 rfl rfl ?_
                    refine wp_iconst d_GM_total_364 ?_
                    refine xi_ne (tgt := 375) d_GM_total_365 (by decide) (w32_id hx1) (w32_id (g32_c (x := 4) rfl)) (fun h10 => ?_) (fun h10 => ?_)
                    · have T := T.1 h10
                      refine wp_lload_n d_GM_total_375 rfl rfl ?_
                      refine xcV_V (md' := true) (As := [gI 1, gL x2]) (st := []) d_GM_total_376 ca_GM_push ml_GM_307 im_GM_push se_GM_push gc_GM hX.1 (gm_o2 hX) hX.2.2.1 rfl (by decide) (by decide) rfl (fun _ => rfl) (fun _ => rfl) T (fun M8 T => ?_)
                      exact wp_return d_GM_total_379 rfl (fun _ => rfl) (Nat.zero_le _) (Nat.zero_le _) (kV_mk T)
                    · have T := T.2 h10
                      refine wp_lload_n d_GM_total_368 rfl rfl ?_
                      refine wp_lload d_GM_total_369 rfl ?_
                      refine xldiv d_GM_total_371 (w64_id hx2) (w64_id hx8) T.1 ?_
                      have T := T.2
                      refine wp_goto (tgt := 376) d_GM_total_372 (by decide) ?_
                      refine xcV_V (md' := true) (As := [gI 1, gL (x2.tdiv x8)]) (st := []) d_GM_total_376 ca_GM_push ml_GM_307 im_GM_push se_GM_push gc_GM hX.1 (gm_o2 hX) hX.2.2.1 rfl (by decide) (by decide) rfl (fun _ => rfl) (fun _ => rfl) T (fun M9 T => ?_)
                      exact wp_return d_GM_total_379 rfl (fun _ => rfl) (Nat.zero_le _) (Nat.zero_le _) (kV_mk T)
                  · have T := T.2 h12
                    refine wp_aload_n d_GM_total_353 rfl rfl (g_nz hX.1) ?_
                    refine wp_iconst d_GM_total_354 ?_
                    refine xcV_V (md' := true) (As := [gI 5]) (st := []) d_GM_total_355 ca_GM_fault ml_GM_314 im_GM_fault se_GM_fault gc_GM hX.1 (gm_o2 hX) hX.2.2.1 rfl (by decide) (by decide) rfl (fun _ => rfl) (fun _ => rfl) T (fun M11 T => ?_)
                    refine wp_goto (tgt := 379) d_GM_total_358 (by decide) ?_
                    exact wp_return d_GM_total_379 rfl (fun _ => rfl) (Nat.zero_le _) (Nat.zero_le _) (kV_mk T)
              · have T := T.2 h15
                refine wp_aload_n d_GM_total_332 rfl rfl (g_nz hX.1) ?_
                refine wp_bipush d_GM_total_333 ⟨by decide, by decide⟩ ?_
                refine xcV_V (md' := true) (As := [gI 6]) (st := []) d_GM_total_335 ca_GM_fault ml_GM_314 im_GM_fault se_GM_fault gc_GM hX.1 (gm_o2 hX) hX.2.2.1 rfl (by decide) (by decide) rfl (fun _ => rfl) (fun _ => rfl) T (fun M14 T => ?_)
                refine wp_goto (tgt := 379) d_GM_total_338 (by decide) ?_
                exact wp_return d_GM_total_379 rfl (fun _ => rfl) (Nat.zero_le _) (Nat.zero_le _) (kV_mk T)
            · have T := T.2 h17
              refine wp_aload_n d_GM_total_317 rfl rfl (g_nz hX.1) ?_
              refine wp_iconst d_GM_total_318 ?_
              refine wp_lload d_GM_total_319 rfl ?_
              refine xcV_V (md' := true) (As := [gI 1, gL x6]) (st := []) d_GM_total_321 ca_GM_push ml_GM_307 im_GM_push se_GM_push gc_GM hX.1 (gm_o2 hX) hX.2.2.1 rfl (by decide) (by decide) rfl (fun _ => rfl) (fun _ => rfl) T (fun M16 T => ?_)
              refine wp_goto (tgt := 379) d_GM_total_324 (by decide) ?_
              exact wp_return d_GM_total_379 rfl (fun _ => rfl) (Nat.zero_le _) (Nat.zero_le _) (kV_mk T)
          · have T := T.2 h19
            refine wp_aload_n d_GM_total_302 rfl rfl (g_nz hX.1) ?_
            refine wp_iconst d_GM_total_303 ?_
            refine wp_lload d_GM_total_304 rfl ?_
            refine xcV_V (md' := true) (As := [gI 1, gL x4]) (st := []) d_GM_total_306 ca_GM_push ml_GM_307 im_GM_push se_GM_push gc_GM hX.1 (gm_o2 hX) hX.2.2.1 rfl (by decide) (by decide) rfl (fun _ => rfl) (fun _ => rfl) T (fun M18 T => ?_)
            refine wp_goto (tgt := 379) d_GM_total_309 (by decide) ?_
            exact wp_return d_GM_total_379 rfl (fun _ => rfl) (Nat.zero_le _) (Nat.zero_le _) (kV_mk T)
        · have T := T.2 h21
          refine wp_aload_n d_GM_total_287 rfl rfl (g_nz hX.1) ?_
          refine wp_lload d_GM_total_288 rfl ?_
          refine wp_l2i d_GM_total_290 ?_
          refine xcV_V (md' := true) (As := [gI x12]) (st := []) d_GM_total_291 ca_GM_fault ml_GM_314 im_GM_fault se_GM_fault gc_GM hX.1 (gm_o2 hX) hX.2.2.1 rfl (by decide) (by decide) rfl (fun _ => rfl) (fun _ => rfl) T (fun M20 T => ?_)
          refine wp_goto (tgt := 379) d_GM_total_294 (by decide) ?_
          exact wp_return d_GM_total_379 rfl (fun _ => rfl) (Nat.zero_le _) (Nat.zero_le _) (kV_mk T)
      · have T := T.2 h23
        refine wp_aload_n d_GM_total_270 rfl rfl (g_nz hX.1) ?_
        refine wp_iconst d_GM_total_271 ?_
        refine wp_lload d_GM_total_272 rfl ?_
        refine xcV_V (md' := true) (As := [gI 1, gL x10]) (st := []) d_GM_total_274 ca_GM_push ml_GM_307 im_GM_push se_GM_push gc_GM hX.1 (gm_o2 hX) hX.2.2.1 rfl (by decide) (by decide) rfl (fun _ => rfl) (fun _ => rfl) T (fun M22 T => ?_)
        refine wp_goto (tgt := 379) d_GM_total_277 (by decide) ?_
        exact wp_return d_GM_total_379 rfl (fun _ => rfl) (Nat.zero_le _) (Nat.zero_le _) (kV_mk T)
    · have T := T.2 h25
      refine wp_aload_n d_GM_total_254 rfl rfl (g_nz hX.1) ?_
      refine wp_iconst d_GM_total_255 ?_
      refine wp_lload d_GM_total_256 rfl ?_
      refine xcV_V (md' := true) (As := [gI 1, gL x8]) (st := []) d_GM_total_258 ca_GM_push ml_GM_307 im_GM_push se_GM_push gc_GM hX.1 (gm_o2 hX) hX.2.2.1 rfl (by decide) (by decide) rfl (fun _ => rfl) (fun _ => rfl) T (fun M24 T => ?_)
      refine wp_goto (tgt := 379) d_GM_total_261 (by decide) ?_
      exact wp_return d_GM_total_379 rfl (fun _ => rfl) (Nat.zero_le _) (Nat.zero_le _) (kV_mk T)
  · have T := T.2 h27
    refine wp_aload_n d_GM_total_44 rfl rfl (g_nz hX.1) ?_
    refine xgetI d_GM_total_45 gc_GM f_GM_412.1 f_GM_412.2.1 f_GM_412.2.2.1 hX.1 (gm_o2 hX) hX.2.2.1 f_GM_412.2.2.2.2.1 (fun h26 => ?_)
    have T := T h26
    refine wp_istore (L' := [.val (gR G o), .val (gI x1), .val (gL x2), .unset, .val (gL x4), .unset, .val (gL x6), .unset, .val (gL x8), .unset, .val (gL x10), .unset, .val (gL x12), .unset, .val (gI x14), .val (gI x15), .val (gI (M o 56)), .unset, .unset, .unset]) d_GM_total_48 (by decide) rfl ?_
    exact wp_md (wpt T (And.intro rfl (And.intro rfl (And.intro rfl (And.intro rfl (And.intro rfl (And.intro rfl (And.intro rfl (And.intro rfl (And.intro rfl (And.intro rfl (And.intro rfl True.intro))))))))))))
set_option maxHeartbeats 4000000 in
theorem w_GM_total_50 {l : Launch} {G : gG} {d : Nat} {X : gX} {M : gM} {k : gM → Prop} {o : Nat} (hX : gmX X o) {x1 : Int} (hx1 : g32 x1) {x2 : Int} (hx2 : g64 x2) {x4 : Int} (hx4 : g64 x4) {x6 : Int} (hx6 : g64 x6) {x8 : Int} (hx8 : g64 x8) {x10 : Int} (hx10 : g64 x10) {x12 : Int} (hx12 : g64 x12) {x14 : Int} (hx14 : g32 x14) {x15 : Int} (hx15 : g32 x15) {x16 : Int} (hx16 : g32 x16) (T : g32 (M o 58) → ((M o 58 < x16 → (wp l G y_GM_total (gRm (d + 1)) true (kkV X k) true 35 [.val (gR G o), .val (gI x1), .val (gL x2), .unset, .val (gL x4), .unset, .val (gL x6), .unset, .val (gL x8), .unset, .val (gL x10), .unset, .val (gL x12), .unset, .val (gI x14), .val (gI (w32 (x15 + 1))), .unset, .unset, .unset, .unset] [] X M 0 0)) ∧ (¬ M o 58 < x16 → (((0 : Int) ≤ x16 + (26 * x15) ∧ x16 + (26 * x15) < 5200) ∧ (g32 (M (o + 26) (Int.toNat (x16 + (26 * x15)))) → ((¬ M (o + 26) (Int.toNat (x16 + (26 * x15))) = 4 → (wp l G y_GM_total (gRm (d + 1)) true (kkV X k) true 96 [.val (gR G o), .val (gI x1), .val (gL x2), .unset, .val (gL x4), .unset, .val (gL x6), .unset, .val (gL x8), .unset, .val (gL x10), .unset, .val (gL x12), .unset, .val (gI x14), .val (gI x15), .val (gI x16), .val (gI (w32 (x16 + (26 * x15)))), .unset, .unset] [] X M 0 0)) ∧ (M (o + 26) (Int.toNat (x16 + (26 * x15))) = 4 → ((¬ x12 = 0 → (wp l G y_GM_total (gRm (d + 1)) true (kkV X k) true 96 [.val (gR G o), .val (gI x1), .val (gL x2), .unset, .val (gL x4), .unset, .val (gL x6), .unset, .val (gL x8), .unset, .val (gL x10), .unset, .val (gL x12), .unset, .val (gI x14), .val (gI x15), .val (gI x16), .val (gI (w32 (x16 + (26 * x15)))), .unset, .unset] [] X M 0 0)) ∧ (x12 = 0 → (((0 : Int) ≤ x16 + (26 * x15) ∧ x16 + (26 * x15) < 5200) ∧ (g64 (M (o + 30) (Int.toNat (x16 + (26 * x15)))) → (wp l G y_GM_total (gRm (d + 1)) true (kkV X k) true 96 [.val (gR G o), .val (gI x1), .val (gL x2), .unset, .val (gL x4), .unset, .val (gL x6), .unset, .val (gL x8), .unset, .val (gL x10), .unset, .val (gL (M (o + 30) (Int.toNat (x16 + (26 * x15))))), .unset, .val (gI x14), .val (gI x15), .val (gI x16), .val (gI (w32 (x16 + (26 * x15)))), .unset, .unset] [] X M 0 0)))))))))))) : wp l G y_GM_total (gRm (d + 1)) true (kkV X k) true 50 [.val (gR G o), .val (gI x1), .val (gL x2), .unset, .val (gL x4), .unset, .val (gL x6), .unset, .val (gL x8), .unset, .val (gL x10), .unset, .val (gL x12), .unset, .val (gI x14), .val (gI x15), .val (gI x16), .unset, .unset, .unset] [] X M 0 0 := by
  refine wp_iload d_GM_total_50 rfl ?_
  refine wp_aload_n d_GM_total_52 rfl rfl (g_nz hX.1) ?_
  refine xgetI d_GM_total_53 gc_GM f_GM_415.1 f_GM_415.2.1 f_GM_415.2.2.1 hX.1 (gm_o2 hX) hX.2.2.1 f_GM_415.2.2.2.2.1 (fun h28 => ?_)
  have T := T h28
  refine xi_gt (tgt := 243) d_GM_total_56 (by decide) (w32_id hx16) (w32_id h28) (fun h33 => ?_) (fun h33 => ?_)
  · have T := T.1 h33
    refine wp_iinc (L' := [.val (gR G o), .val (gI x1), .val (gL x2), .unset, .val (gL x4), .unset, .val (gL x6), .unset, .val (gL x8), .unset, .val (gL x10), .unset, .val (gL x12), .unset, .val (gI x14), .val (gI (x15 + 1)), .val (gI x16), .unset, .unset, .unset]) d_GM_total_243 rfl (by decide) rfl ?_
    refine wp_goto (tgt := 35) d_GM_total_246 (by decide) ?_
    exact wp_md (wpt T (And.intro rfl (And.intro rfl (And.intro rfl (And.intro rfl (And.intro rfl (And.intro rfl (And.intro rfl (And.intro rfl (And.intro rfl (And.intro (gI_w _) True.intro)))))))))))
  · have T := T.2 h33
    refine wp_iload d_GM_total_59 rfl ?_
    refine wp_bipush d_GM_total_61 ⟨by decide, by decide⟩ ?_
    refine wp_iload d_GM_total_63 rfl ?_
    refine wp_imul d_GM_total_65 ?_
    refine wp_iadd d_GM_total_66 ?_
    refine wp_istore (L' := [.val (gR G o), .val (gI x1), .val (gL x2), .unset, .val (gL x4), .unset, .val (gL x6), .unset, .val (gL x8), .unset, .val (gL x10), .unset, .val (gL x12), .unset, .val (gI x14), .val (gI x15), .val (gI x16), .val (gI (x16 + (26 * x15))), .unset, .unset]) d_GM_total_67 (by decide) rfl ?_
    refine wp_aload_n d_GM_total_69 rfl rfl (g_nz hX.1) ?_
    refine xgetR d_GM_total_70 gc_GM f_GM_91.1 f_GM_91.2.1 f_GM_91.2.2.1 hX.1 (gm_o2 hX) hX.2.2.1 f_GM_91.2.2.2.2.1 (gm_row hX 25 rfl).1 ?_
    refine wp_iload d_GM_total_73 rfl ?_
    refine wp_iaload d_GM_total_75 (gm_row hX 25 rfl).2.2.1 (gm_row hX 25 rfl).2.2.2 (gm_row hX 25 rfl).2.1 (g32_n T.1 (by decide)) T.1.1 T.1.2 (fun h29 => ?_)
    have T := T.2 h29
    refine wp_iconst d_GM_total_76 ?_
    refine xi_ne (tgt := 96) d_GM_total_77 (by decide) (w32_id h29) (w32_id (g32_c (x := 4) rfl)) (fun h32 => ?_) (fun h32 => ?_)
    · have T := T.1 h32
      exact wp_md (wpt T (And.intro rfl (And.intro rfl (And.intro rfl (And.intro rfl (And.intro rfl (And.intro rfl (And.intro rfl (And.intro rfl (And.intro rfl (And.intro rfl (And.intro rfl (And.intro (gI_w _) True.intro)))))))))))))
    · have T := T.2 h32
      refine wp_lload d_GM_total_80 rfl ?_
      refine wp_lconst0 d_GM_total_82 ?_
      refine xl_ne (tgt := 96) d_GM_total_83 d_GM_total_84 (by decide) (w64_id hx12) (w64_id (g64_c (x := 0) rfl)) (fun h31 => ?_) (fun h31 => ?_)
      · have T := T.1 h31
        exact wp_md (wpt T (And.intro rfl (And.intro rfl (And.intro rfl (And.intro rfl (And.intro rfl (And.intro rfl (And.intro rfl (And.intro rfl (And.intro rfl (And.intro rfl (And.intro rfl (And.intro (gI_w _) True.intro)))))))))))))
      · have T := T.2 h31
        refine wp_aload_n d_GM_total_87 rfl rfl (g_nz hX.1) ?_
        refine xgetR d_GM_total_88 gc_GM f_GM_103.1 f_GM_103.2.1 f_GM_103.2.2.1 hX.1 (gm_o2 hX) hX.2.2.1 f_GM_103.2.2.2.2.1 (gm_row hX 29 rfl).1 ?_
        refine wp_iload d_GM_total_91 rfl ?_
        refine wp_laload d_GM_total_93 (gm_row hX 29 rfl).2.2.1 (gm_row hX 29 rfl).2.2.2 (gm_row hX 29 rfl).2.1 (g32_n T.1 (by decide)) T.1.1 T.1.2 (fun h30 => ?_)
        have T := T.2 h30
        refine wp_lstore (L' := [.val (gR G o), .val (gI x1), .val (gL x2), .unset, .val (gL x4), .unset, .val (gL x6), .unset, .val (gL x8), .unset, .val (gL x10), .unset, .val (gL (M (o + 30) (Int.toNat (x16 + (26 * x15))))), .unset, .val (gI x14), .val (gI x15), .val (gI x16), .val (gI (x16 + (26 * x15))), .unset, .unset]) d_GM_total_94 (by decide) rfl ?_
        exact wp_md (wpt T (And.intro rfl (And.intro rfl (And.intro rfl (And.intro rfl (And.intro rfl (And.intro rfl (And.intro rfl (And.intro rfl (And.intro rfl (And.intro rfl (And.intro rfl (And.intro (gI_w _) True.intro)))))))))))))
set_option maxHeartbeats 4000000 in
theorem w_GM_total_96 {l : Launch} {G : gG} {d : Nat} {X : gX} {M : gM} {k : gM → Prop} {o : Nat} (hX : gmX X o) {x1 : Int} (hx1 : g32 x1) {x2 : Int} (hx2 : g64 x2) {x4 : Int} (hx4 : g64 x4) {x6 : Int} (hx6 : g64 x6) {x8 : Int} (hx8 : g64 x8) {x10 : Int} (hx10 : g64 x10) {x12 : Int} (hx12 : g64 x12) {x14 : Int} (hx14 : g32 x14) {x15 : Int} (hx15 : g32 x15) {x16 : Int} (hx16 : g32 x16) {x17 : Int} (hx17 : g32 x17) (T : ((0 : Int) ≤ x17 ∧ x17 < 5200) ∧ (g32 (M (o + 26) (Int.toNat x17)) → ((M (o + 26) (Int.toNat x17) = 0 → (wp l G y_GM_total (gRm (d + 1)) true (kkV X k) true 112 [.val (gR G o), .val (gI x1), .val (gL x2), .unset, .val (gL x4), .unset, .val (gL x6), .unset, .val (gL x8), .unset, .val (gL x10), .unset, .val (gL x12), .unset, .val (gI x14), .val (gI x15), .val (gI x16), .val (gI x17), .unset, .unset] [] X M 0 0)) ∧ (¬ M (o + 26) (Int.toNat x17) = 0 → (wp l G y_GM_total (gRm (d + 1)) true (kkV X k) true 112 [.val (gR G o), .val (gI x1), .val (gL x2), .unset, .val (gL x4), .unset, .val (gL x6), .unset, .val (gL x8), .unset, .val (gL (w64 (x10 + 1))), .unset, .val (gL x12), .unset, .val (gI x14), .val (gI x15), .val (gI x16), .val (gI x17), .unset, .unset] [] X M 0 0))))) : wp l G y_GM_total (gRm (d + 1)) true (kkV X k) true 96 [.val (gR G o), .val (gI x1), .val (gL x2), .unset, .val (gL x4), .unset, .val (gL x6), .unset, .val (gL x8), .unset, .val (gL x10), .unset, .val (gL x12), .unset, .val (gI x14), .val (gI x15), .val (gI x16), .val (gI x17), .unset, .unset] [] X M 0 0 := by
  refine wp_aload_n d_GM_total_96 rfl rfl (g_nz hX.1) ?_
  refine xgetR d_GM_total_97 gc_GM f_GM_91.1 f_GM_91.2.1 f_GM_91.2.2.1 hX.1 (gm_o2 hX) hX.2.2.1 f_GM_91.2.2.2.2.1 (gm_row hX 25 rfl).1 ?_
  refine wp_iload d_GM_total_100 rfl ?_
  refine wp_iaload d_GM_total_102 (gm_row hX 25 rfl).2.2.1 (gm_row hX 25 rfl).2.2.2 (gm_row hX 25 rfl).2.1 (g32_n T.1 (by decide)) T.1.1 T.1.2 (fun h34 => ?_)
  have T := T.2 h34
  refine xz_eq (tgt := 112) d_GM_total_103 (by decide) (w32_id h34) (fun h35 => ?_) (fun h35 => ?_)
  · have T := T.1 h35
    exact wp_md (wpt T (And.intro rfl (And.intro rfl (And.intro rfl (And.intro rfl (And.intro rfl (And.intro rfl (And.intro rfl (And.intro rfl (And.intro rfl (And.intro rfl (And.intro rfl (And.intro rfl True.intro)))))))))))))
  · have T := T.2 h35
    refine wp_lload d_GM_total_106 rfl ?_
    refine wp_lconst1 d_GM_total_108 ?_
    refine wp_ladd d_GM_total_109 ?_
    refine wp_lstore (L' := [.val (gR G o), .val (gI x1), .val (gL x2), .unset, .val (gL x4), .unset, .val (gL x6), .unset, .val (gL x8), .unset, .val (gL (x10 + 1)), .unset, .val (gL x12), .unset, .val (gI x14), .val (gI x15), .val (gI x16), .val (gI x17), .unset, .unset]) d_GM_total_110 (by decide) rfl ?_
    exact wp_md (wpt T (And.intro rfl (And.intro rfl (And.intro rfl (And.intro rfl (And.intro rfl (And.intro rfl (And.intro (gL_w _) (And.intro rfl (And.intro rfl (And.intro rfl (And.intro rfl (And.intro rfl True.intro)))))))))))))
set_option maxHeartbeats 4000000 in
theorem w_GM_total_112 {l : Launch} {G : gG} {d : Nat} {X : gX} {M : gM} {k : gM → Prop} {o : Nat} (hX : gmX X o) {x1 : Int} (hx1 : g32 x1) {x2 : Int} (hx2 : g64 x2) {x4 : Int} (hx4 : g64 x4) {x6 : Int} (hx6 : g64 x6) {x8 : Int} (hx8 : g64 x8) {x10 : Int} (hx10 : g64 x10) {x12 : Int} (hx12 : g64 x12) {x14 : Int} (hx14 : g32 x14) {x15 : Int} (hx15 : g32 x15) {x16 : Int} (hx16 : g32 x16) {x17 : Int} (hx17 : g32 x17) (T : ((0 : Int) ≤ x17 ∧ x17 < 5200) ∧ (g32 (M (o + 26) (Int.toNat x17)) → ((M (o + 26) (Int.toNat x17) = 1 → (((0 : Int) ≤ x17 ∧ x17 < 5200) ∧ (g64 (M (o + 30) (Int.toNat x17)) → ((x8 = 0 → (wp l G y_GM_total (gRm (d + 1)) true (kkV X k) true 150 [.val (gR G o), .val (gI x1), .val (gL x2), .unset, .unset, .unset, .val (gL x6), .unset, .val (gL x8), .unset, .val (gL x10), .unset, .val (gL x12), .unset, .val (gI x14), .val (gI x15), .val (gI x16), .unset, .val (gL (M (o + 30) (Int.toNat x17))), .unset] [] X M 0 0)) ∧ (¬ x8 = 0 → ((x4 ≤ M (o + 30) (Int.toNat x17) → (wp l G y_GM_total (gRm (d + 1)) true (kkV X k) true 154 [.val (gR G o), .val (gI x1), .val (gL x2), .unset, .val (gL x4), .unset, .val (gL x6), .unset, .val (gL x8), .unset, .val (gL x10), .unset, .val (gL x12), .unset, .val (gI x14), .val (gI x15), .val (gI x16), .unset, .val (gL (M (o + 30) (Int.toNat x17))), .unset] [] X M 0 0)) ∧ (¬ x4 ≤ M (o + 30) (Int.toNat x17) → (wp l G y_GM_total (gRm (d + 1)) true (kkV X k) true 150 [.val (gR G o), .val (gI x1), .val (gL x2), .unset, .unset, .unset, .val (gL x6), .unset, .val (gL x8), .unset, .val (gL x10), .unset, .val (gL x12), .unset, .val (gI x14), .val (gI x15), .val (gI x16), .unset, .val (gL (M (o + 30) (Int.toNat x17))), .unset] [] X M 0 0)))))))) ∧ (¬ M (o + 26) (Int.toNat x17) = 1 → (wp l G y_GM_total (gRm (d + 1)) true (kkV X k) true 50 [.val (gR G o), .val (gI x1), .val (gL x2), .unset, .val (gL x4), .unset, .val (gL x6), .unset, .val (gL x8), .unset, .val (gL x10), .unset, .val (gL x12), .unset, .val (gI x14), .val (gI x15), .val (gI (w32 (x16 + 1))), .unset, .unset, .unset] [] X M 0 0))))) : wp l G y_GM_total (gRm (d + 1)) true (kkV X k) true 112 [.val (gR G o), .val (gI x1), .val (gL x2), .unset, .val (gL x4), .unset, .val (gL x6), .unset, .val (gL x8), .unset, .val (gL x10), .unset, .val (gL x12), .unset, .val (gI x14), .val (gI x15), .val (gI x16), .val (gI x17), .unset, .unset] [] X M 0 0 := by
  refine wp_aload_n d_GM_total_112 rfl rfl (g_nz hX.1) ?_
  refine xgetR d_GM_total_113 gc_GM f_GM_91.1 f_GM_91.2.1 f_GM_91.2.2.1 hX.1 (gm_o2 hX) hX.2.2.1 f_GM_91.2.2.2.2.1 (gm_row hX 25 rfl).1 ?_
  refine wp_iload d_GM_total_116 rfl ?_
  refine wp_iaload d_GM_total_118 (gm_row hX 25 rfl).2.2.1 (gm_row hX 25 rfl).2.2.2 (gm_row hX 25 rfl).2.1 (g32_n T.1 (by decide)) T.1.1 T.1.2 (fun h36 => ?_)
  have T := T.2 h36
  refine wp_iconst d_GM_total_119 ?_
  refine xi_eq (tgt := 126) d_GM_total_120 (by decide) (w32_id h36) (w32_id (g32_c (x := 1) rfl)) (fun h40 => ?_) (fun h40 => ?_)
  · have T := T.1 h40
    refine wp_aload_n d_GM_total_126 rfl rfl (g_nz hX.1) ?_
    refine xgetR d_GM_total_127 gc_GM f_GM_103.1 f_GM_103.2.1 f_GM_103.2.2.1 hX.1 (gm_o2 hX) hX.2.2.1 f_GM_103.2.2.2.2.1 (gm_row hX 29 rfl).1 ?_
    refine wp_iload d_GM_total_130 rfl ?_
    refine wp_laload d_GM_total_132 (gm_row hX 29 rfl).2.2.1 (gm_row hX 29 rfl).2.2.2 (gm_row hX 29 rfl).2.1 (g32_n T.1 (by decide)) T.1.1 T.1.2 (fun h37 => ?_)
    have T := T.2 h37
    refine wp_lstore (L' := [.val (gR G o), .val (gI x1), .val (gL x2), .unset, .val (gL x4), .unset, .val (gL x6), .unset, .val (gL x8), .unset, .val (gL x10), .unset, .val (gL x12), .unset, .val (gI x14), .val (gI x15), .val (gI x16), .val (gI x17), .val (gL (M (o + 30) (Int.toNat x17))), .unset]) d_GM_total_133 (by decide) rfl ?_
    refine wp_lload d_GM_total_135 rfl ?_
    refine wp_lconst0 d_GM_total_137 ?_
    refine xl_eq (tgt := 150) d_GM_total_138 d_GM_total_139 (by decide) (w64_id hx8) (w64_id (g64_c (x := 0) rfl)) (fun h39 => ?_) (fun h39 => ?_)
    · have T := T.1 h39
      exact wp_md (wpt T (And.intro rfl (And.intro rfl (And.intro rfl (And.intro rfl (And.intro rfl (And.intro rfl (And.intro rfl (And.intro rfl (And.intro rfl (And.intro rfl (And.intro rfl True.intro))))))))))))
    · have T := T.2 h39
      refine wp_lload d_GM_total_142 rfl ?_
      refine wp_lload d_GM_total_144 rfl ?_
      refine xl_ge (tgt := 154) d_GM_total_146 d_GM_total_147 (by decide) (w64_id h37) (w64_id hx4) (fun h38 => ?_) (fun h38 => ?_)
      · have T := T.1 h38
        exact wp_md (wpt T (And.intro rfl (And.intro rfl (And.intro rfl (And.intro rfl (And.intro rfl (And.intro rfl (And.intro rfl (And.intro rfl (And.intro rfl (And.intro rfl (And.intro rfl (And.intro rfl True.intro)))))))))))))
      · have T := T.2 h38
        exact wp_md (wpt T (And.intro rfl (And.intro rfl (And.intro rfl (And.intro rfl (And.intro rfl (And.intro rfl (And.intro rfl (And.intro rfl (And.intro rfl (And.intro rfl (And.intro rfl True.intro))))))))))))
  · have T := T.2 h40
    refine wp_goto (tgt := 237) d_GM_total_123 (by decide) ?_
    refine wp_iinc (L' := [.val (gR G o), .val (gI x1), .val (gL x2), .unset, .val (gL x4), .unset, .val (gL x6), .unset, .val (gL x8), .unset, .val (gL x10), .unset, .val (gL x12), .unset, .val (gI x14), .val (gI x15), .val (gI (x16 + 1)), .val (gI x17), .unset, .unset]) d_GM_total_237 rfl (by decide) rfl ?_
    refine wp_goto (tgt := 50) d_GM_total_240 (by decide) ?_
    exact wp_md (wpt T (And.intro rfl (And.intro rfl (And.intro rfl (And.intro rfl (And.intro rfl (And.intro rfl (And.intro rfl (And.intro rfl (And.intro rfl (And.intro rfl (And.intro (gI_w _) True.intro))))))))))))
set_option maxHeartbeats 4000000 in
theorem w_GM_total_150 {l : Launch} {G : gG} {d : Nat} {X : gX} {M : gM} {k : gM → Prop} {o : Nat} (hX : gmX X o) {x1 : Int} (hx1 : g32 x1) {x2 : Int} (hx2 : g64 x2) {x6 : Int} (hx6 : g64 x6) {x8 : Int} (hx8 : g64 x8) {x10 : Int} (hx10 : g64 x10) {x12 : Int} (hx12 : g64 x12) {x14 : Int} (hx14 : g32 x14) {x15 : Int} (hx15 : g32 x15) {x16 : Int} (hx16 : g32 x16) {x18 : Int} (hx18 : g64 x18) (T : wp l G y_GM_total (gRm (d + 1)) true (kkV X k) true 154 [.val (gR G o), .val (gI x1), .val (gL x2), .unset, .val (gL x18), .unset, .val (gL x6), .unset, .val (gL x8), .unset, .val (gL x10), .unset, .val (gL x12), .unset, .val (gI x14), .val (gI x15), .val (gI x16), .unset, .val (gL x18), .unset] [] X M 0 0) : wp l G y_GM_total (gRm (d + 1)) true (kkV X k) true 150 [.val (gR G o), .val (gI x1), .val (gL x2), .unset, .unset, .unset, .val (gL x6), .unset, .val (gL x8), .unset, .val (gL x10), .unset, .val (gL x12), .unset, .val (gI x14), .val (gI x15), .val (gI x16), .unset, .val (gL x18), .unset] [] X M 0 0 := by
  refine wp_lload d_GM_total_150 rfl ?_
  refine wp_lstore (L' := [.val (gR G o), .val (gI x1), .val (gL x2), .unset, .val (gL x18), .unset, .val (gL x6), .unset, .val (gL x8), .unset, .val (gL x10), .unset, .val (gL x12), .unset, .val (gI x14), .val (gI x15), .val (gI x16), .unset, .val (gL x18), .unset]) d_GM_total_152 (by decide) rfl ?_
  exact wp_md (wpt T (And.intro rfl (And.intro rfl (And.intro rfl (And.intro rfl (And.intro rfl (And.intro rfl (And.intro rfl (And.intro rfl (And.intro rfl (And.intro rfl (And.intro rfl (And.intro rfl True.intro)))))))))))))
set_option maxHeartbeats 4000000 in
theorem w_GM_total_154 {l : Launch} {G : gG} {d : Nat} {X : gX} {M : gM} {k : gM → Prop} {o : Nat} (hX : gmX X o) {x1 : Int} (hx1 : g32 x1) {x2 : Int} (hx2 : g64 x2) {x4 : Int} (hx4 : g64 x4) {x6 : Int} (hx6 : g64 x6) {x8 : Int} (hx8 : g64 x8) {x10 : Int} (hx10 : g64 x10) {x12 : Int} (hx12 : g64 x12) {x14 : Int} (hx14 : g32 x14) {x15 : Int} (hx15 : g32 x15) {x16 : Int} (hx16 : g32 x16) {x18 : Int} (hx18 : g64 x18) (T : (x8 = 0 → (wp l G y_GM_total (gRm (d + 1)) true (kkV X k) true 169 [.val (gR G o), .val (gI x1), .val (gL x2), .unset, .val (gL x4), .unset, .unset, .unset, .val (gL x8), .unset, .val (gL x10), .unset, .val (gL x12), .unset, .val (gI x14), .val (gI x15), .val (gI x16), .unset, .val (gL x18), .unset] [] X M 0 0)) ∧ (¬ x8 = 0 → ((x18 ≤ x6 → (wp l G y_GM_total (gRm (d + 1)) true (kkV X k) true 173 [.val (gR G o), .val (gI x1), .val (gL x2), .unset, .val (gL x4), .unset, .val (gL x6), .unset, .val (gL x8), .unset, .val (gL x10), .unset, .val (gL x12), .unset, .val (gI x14), .val (gI x15), .val (gI x16), .unset, .val (gL x18), .unset] [] X M 0 0)) ∧ (¬ x18 ≤ x6 → (wp l G y_GM_total (gRm (d + 1)) true (kkV X k) true 169 [.val (gR G o), .val (gI x1), .val (gL x2), .unset, .val (gL x4), .unset, .unset, .unset, .val (gL x8), .unset, .val (gL x10), .unset, .val (gL x12), .unset, .val (gI x14), .val (gI x15), .val (gI x16), .unset, .val (gL x18), .unset] [] X M 0 0))))) : wp l G y_GM_total (gRm (d + 1)) true (kkV X k) true 154 [.val (gR G o), .val (gI x1), .val (gL x2), .unset, .val (gL x4), .unset, .val (gL x6), .unset, .val (gL x8), .unset, .val (gL x10), .unset, .val (gL x12), .unset, .val (gI x14), .val (gI x15), .val (gI x16), .unset, .val (gL x18), .unset] [] X M 0 0 := by
  refine wp_lload d_GM_total_154 rfl ?_
  refine wp_lconst0 d_GM_total_156 ?_
  refine xl_eq (tgt := 169) d_GM_total_157 d_GM_total_158 (by decide) (w64_id hx8) (w64_id (g64_c (x := 0) rfl)) (fun h42 => ?_) (fun h42 => ?_)
  · have T := T.1 h42
    exact wp_md (wpt T (And.intro rfl (And.intro rfl (And.intro rfl (And.intro rfl (And.intro rfl (And.intro rfl (And.intro rfl (And.intro rfl (And.intro rfl (And.intro rfl (And.intro rfl True.intro))))))))))))
  · have T := T.2 h42
    refine wp_lload d_GM_total_161 rfl ?_
    refine wp_lload d_GM_total_163 rfl ?_
    refine xl_le (tgt := 173) d_GM_total_165 d_GM_total_166 (by decide) (w64_id hx18) (w64_id hx6) (fun h41 => ?_) (fun h41 => ?_)
    · have T := T.1 h41
      exact wp_md (wpt T (And.intro rfl (And.intro rfl (And.intro rfl (And.intro rfl (And.intro rfl (And.intro rfl (And.intro rfl (And.intro rfl (And.intro rfl (And.intro rfl (And.intro rfl (And.intro rfl True.intro)))))))))))))
    · have T := T.2 h41
      exact wp_md (wpt T (And.intro rfl (And.intro rfl (And.intro rfl (And.intro rfl (And.intro rfl (And.intro rfl (And.intro rfl (And.intro rfl (And.intro rfl (And.intro rfl (And.intro rfl True.intro))))))))))))
set_option maxHeartbeats 4000000 in
theorem w_GM_total_169 {l : Launch} {G : gG} {d : Nat} {X : gX} {M : gM} {k : gM → Prop} {o : Nat} (hX : gmX X o) {x1 : Int} (hx1 : g32 x1) {x2 : Int} (hx2 : g64 x2) {x4 : Int} (hx4 : g64 x4) {x8 : Int} (hx8 : g64 x8) {x10 : Int} (hx10 : g64 x10) {x12 : Int} (hx12 : g64 x12) {x14 : Int} (hx14 : g32 x14) {x15 : Int} (hx15 : g32 x15) {x16 : Int} (hx16 : g32 x16) {x18 : Int} (hx18 : g64 x18) (T : wp l G y_GM_total (gRm (d + 1)) true (kkV X k) true 173 [.val (gR G o), .val (gI x1), .val (gL x2), .unset, .val (gL x4), .unset, .val (gL x18), .unset, .val (gL x8), .unset, .val (gL x10), .unset, .val (gL x12), .unset, .val (gI x14), .val (gI x15), .val (gI x16), .unset, .val (gL x18), .unset] [] X M 0 0) : wp l G y_GM_total (gRm (d + 1)) true (kkV X k) true 169 [.val (gR G o), .val (gI x1), .val (gL x2), .unset, .val (gL x4), .unset, .unset, .unset, .val (gL x8), .unset, .val (gL x10), .unset, .val (gL x12), .unset, .val (gI x14), .val (gI x15), .val (gI x16), .unset, .val (gL x18), .unset] [] X M 0 0 := by
  refine wp_lload d_GM_total_169 rfl ?_
  refine wp_lstore (L' := [.val (gR G o), .val (gI x1), .val (gL x2), .unset, .val (gL x4), .unset, .val (gL x18), .unset, .val (gL x8), .unset, .val (gL x10), .unset, .val (gL x12), .unset, .val (gI x14), .val (gI x15), .val (gI x16), .unset, .val (gL x18), .unset]) d_GM_total_171 (by decide) rfl ?_
  exact wp_md (wpt T (And.intro rfl (And.intro rfl (And.intro rfl (And.intro rfl (And.intro rfl (And.intro rfl (And.intro rfl (And.intro rfl (And.intro rfl (And.intro rfl (And.intro rfl (And.intro rfl True.intro)))))))))))))
set_option maxHeartbeats 4000000 in
theorem w_GM_total_173 {l : Launch} {G : gG} {d : Nat} {X : gX} {M : gM} {k : gM → Prop} {o : Nat} (hX : gmX X o) {x1 : Int} (hx1 : g32 x1) {x2 : Int} (hx2 : g64 x2) {x4 : Int} (hx4 : g64 x4) {x6 : Int} (hx6 : g64 x6) {x8 : Int} (hx8 : g64 x8) {x10 : Int} (hx10 : g64 x10) {x12 : Int} (hx12 : g64 x12) {x14 : Int} (hx14 : g32 x14) {x15 : Int} (hx15 : g32 x15) {x16 : Int} (hx16 : g32 x16) {x18 : Int} (hx18 : g64 x18) (T : (x1 = 1 → (wp l G y_GM_total (gRm (d + 1)) true (kkV X k) true 193 [.val (gR G o), .val (gI x1), .val (gL x2), .unset, .val (gL x4), .unset, .val (gL x6), .unset, .val (gL (w64 (x8 + 1))), .unset, .val (gL x10), .unset, .val (gL x12), .unset, .val (gI x14), .val (gI x15), .val (gI x16), .unset, .val (gL x18), .unset] [] X M 0 0)) ∧ (¬ x1 = 1 → ((x1 = 0 → (wp l G y_GM_total (gRm (d + 1)) true (kkV X k) true 193 [.val (gR G o), .val (gI x1), .val (gL x2), .unset, .val (gL x4), .unset, .val (gL x6), .unset, .val (gL (w64 (x8 + 1))), .unset, .val (gL x10), .unset, .val (gL x12), .unset, .val (gI x14), .val (gI x15), .val (gI x16), .unset, .val (gL x18), .unset] [] X M 0 0)) ∧ (¬ x1 = 0 → ((¬ x1 = 4 → (wp l G y_GM_total (gRm (d + 1)) true (kkV X k) true 50 [.val (gR G o), .val (gI x1), .val (gL x2), .unset, .val (gL x4), .unset, .val (gL x6), .unset, .val (gL (w64 (x8 + 1))), .unset, .val (gL x10), .unset, .val (gL x12), .unset, .val (gI x14), .val (gI x15), .val (gI (w32 (x16 + 1))), .unset, .unset, .unset] [] X M 0 0)) ∧ (x1 = 4 → (wp l G y_GM_total (gRm (d + 1)) true (kkV X k) true 193 [.val (gR G o), .val (gI x1), .val (gL x2), .unset, .val (gL x4), .unset, .val (gL x6), .unset, .val (gL (w64 (x8 + 1))), .unset, .val (gL x10), .unset, .val (gL x12), .unset, .val (gI x14), .val (gI x15), .val (gI x16), .unset, .val (gL x18), .unset] [] X M 0 0))))))) : wp l G y_GM_total (gRm (d + 1)) true (kkV X k) true 173 [.val (gR G o), .val (gI x1), .val (gL x2), .unset, .val (gL x4), .unset, .val (gL x6), .unset, .val (gL x8), .unset, .val (gL x10), .unset, .val (gL x12), .unset, .val (gI x14), .val (gI x15), .val (gI x16), .unset, .val (gL x18), .unset] [] X M 0 0 := by
  refine wp_lload d_GM_total_173 rfl ?_
  refine wp_lconst1 d_GM_total_175 ?_
  refine wp_ladd d_GM_total_176 ?_
  refine wp_lstore (L' := [.val (gR G o), .val (gI x1), .val (gL x2), .unset, .val (gL x4), .unset, .val (gL x6), .unset, .val (gL (x8 + 1)), .unset, .val (gL x10), .unset, .val (gL x12), .unset, .val (gI x14), .val (gI x15), .val (gI x16), .unset, .val (gL x18), .unset]) d_GM_total_177 (by decide) rfl ?_
  refine wp_iload_n d_GM_total_179 rfl rfl ?_
  refine wp_iconst d_GM_total_180 ?_
  refine xi_eq (tgt := 193) d_GM_total_181 (by decide) (w32_id hx1) (w32_id (g32_c (x := 1) rfl)) (fun h45 => ?_) (fun h45 => ?_)
  · have T := T.1 h45
    exact wp_md (wpt T (And.intro rfl (And.intro rfl (And.intro rfl (And.intro rfl (And.intro rfl (And.intro (gL_w _) (And.intro rfl (And.intro rfl (And.intro rfl (And.intro rfl (And.intro rfl (And.intro rfl True.intro)))))))))))))
  · have T := T.2 h45
    refine wp_iload_n d_GM_total_184 rfl rfl ?_
    refine xz_eq (tgt := 193) d_GM_total_185 (by decide) (w32_id hx1) (fun h44 => ?_) (fun h44 => ?_)
    · have T := T.1 h44
      exact wp_md (wpt T (And.intro rfl (And.intro rfl (And.intro rfl (And.intro rfl (And.intro rfl (And.intro (gL_w _) (And.intro rfl (And.intro rfl (And.intro rfl (And.intro rfl (And.intro rfl (And.intro rfl True.intro)))))))))))))
    · have T := T.2 h44
      refine wp_iload_n d_GM_total_188 rfl rfl ?_
      refine wp_iconst d_GM_total_189 ?_
      refine xi_ne (tgt := 237) d_GM_total_190 (by decide) (w32_id hx1) (w32_id (g32_c (x := 4) rfl)) (fun h43 => ?_) (fun h43 => ?_)
      · have T := T.1 h43
        refine wp_iinc (L' := [.val (gR G o), .val (gI x1), .val (gL x2), .unset, .val (gL x4), .unset, .val (gL x6), .unset, .val (gL (x8 + 1)), .unset, .val (gL x10), .unset, .val (gL x12), .unset, .val (gI x14), .val (gI x15), .val (gI (x16 + 1)), .unset, .val (gL x18), .unset]) d_GM_total_237 rfl (by decide) rfl ?_
        refine wp_goto (tgt := 50) d_GM_total_240 (by decide) ?_
        exact wp_md (wpt T (And.intro rfl (And.intro rfl (And.intro rfl (And.intro rfl (And.intro rfl (And.intro (gL_w _) (And.intro rfl (And.intro rfl (And.intro rfl (And.intro rfl (And.intro (gI_w _) True.intro))))))))))))
      · have T := T.2 h43
        exact wp_md (wpt T (And.intro rfl (And.intro rfl (And.intro rfl (And.intro rfl (And.intro rfl (And.intro (gL_w _) (And.intro rfl (And.intro rfl (And.intro rfl (And.intro rfl (And.intro rfl (And.intro rfl True.intro)))))))))))))
set_option maxHeartbeats 4000000 in
theorem w_GM_total_193 {l : Launch} {G : gG} {d : Nat} {X : gX} {M : gM} {k : gM → Prop} {o : Nat} (hX : gmX X o) {x1 : Int} (hx1 : g32 x1) {x2 : Int} (hx2 : g64 x2) {x4 : Int} (hx4 : g64 x4) {x6 : Int} (hx6 : g64 x6) {x8 : Int} (hx8 : g64 x8) {x10 : Int} (hx10 : g64 x10) {x12 : Int} (hx12 : g64 x12) {x14 : Int} (hx14 : g32 x14) {x15 : Int} (hx15 : g32 x15) {x16 : Int} (hx16 : g32 x16) {x18 : Int} (hx18 : g64 x18) (T : (x14 = 0 → (((0 : Int) = 0 → (wp l G y_GM_total (gRm (d + 1)) true (kkV X k) true 50 [.val (gR G o), .val (gI x1), .val (gL x2), .unset, .val (gL x4), .unset, .val (gL x6), .unset, .val (gL x8), .unset, .val (gL x10), .unset, .val (gL x12), .unset, .val (gI 0), .val (gI x15), .val (gI (w32 (x16 + 1))), .unset, .unset, .unset] [] X M 0 0)) ∧ (¬ (0 : Int) = 0 → (g64 (M o 54) → (wp l G y_GM_total (gRm (d + 1)) true (kkV X k) true 50 [.val (gR G o), .val (gI x1), .val (gL (M o 54)), .unset, .val (gL x4), .unset, .val (gL x6), .unset, .val (gL x8), .unset, .val (gL x10), .unset, .val (gL x12), .unset, .val (gI 0), .val (gI x15), .val (gI (w32 (x16 + 1))), .unset, .unset, .unset] [] X M 0 0))))) ∧ (¬ x14 = 0 → ((¬ x1 = 1 → (cZ l G y_GM_reckon (gRm d) true [gR G o, gI 43, gL x2, gL x18] X M (fun v49 M48 => ((v49 = 0 → (((0 : Int) = 0 → (wp l G y_GM_total (gRm (d + 1)) true (kkV X k) true 50 [.val (gR G o), .val (gI x1), .val (gL x2), .unset, .val (gL x4), .unset, .val (gL x6), .unset, .val (gL x8), .unset, .val (gL x10), .unset, .val (gL x12), .unset, .val (gI 0), .val (gI x15), .val (gI (w32 (x16 + 1))), .unset, .unset, .unset] [] X M48 0 0)) ∧ (¬ (0 : Int) = 0 → (g64 (M48 o 54) → (wp l G y_GM_total (gRm (d + 1)) true (kkV X k) true 50 [.val (gR G o), .val (gI x1), .val (gL (M48 o 54)), .unset, .val (gL x4), .unset, .val (gL x6), .unset, .val (gL x8), .unset, .val (gL x10), .unset, .val (gL x12), .unset, .val (gI 0), .val (gI x15), .val (gI (w32 (x16 + 1))), .unset, .unset, .unset] [] X M48 0 0))))) ∧ (¬ v49 = 0 → (((1 : Int) = 0 → (wp l G y_GM_total (gRm (d + 1)) true (kkV X k) true 50 [.val (gR G o), .val (gI x1), .val (gL x2), .unset, .val (gL x4), .unset, .val (gL x6), .unset, .val (gL x8), .unset, .val (gL x10), .unset, .val (gL x12), .unset, .val (gI 1), .val (gI x15), .val (gI (w32 (x16 + 1))), .unset, .unset, .unset] [] X M48 0 0)) ∧ (¬ (1 : Int) = 0 → (g64 (M48 o 54) → (wp l G y_GM_total (gRm (d + 1)) true (kkV X k) true 50 [.val (gR G o), .val (gI x1), .val (gL (M48 o 54)), .unset, .val (gL x4), .unset, .val (gL x6), .unset, .val (gL x8), .unset, .val (gL x10), .unset, .val (gL x12), .unset, .val (gI 1), .val (gI x15), .val (gI (w32 (x16 + 1))), .unset, .unset, .unset] [] X M48 0 0))))))))) ∧ (x1 = 1 → (cZ l G y_GM_reckon (gRm d) true [gR G o, gI 42, gL x2, gL x18] X M (fun v57 M56 => ((v57 = 0 → (((0 : Int) = 0 → (wp l G y_GM_total (gRm (d + 1)) true (kkV X k) true 50 [.val (gR G o), .val (gI x1), .val (gL x2), .unset, .val (gL x4), .unset, .val (gL x6), .unset, .val (gL x8), .unset, .val (gL x10), .unset, .val (gL x12), .unset, .val (gI 0), .val (gI x15), .val (gI (w32 (x16 + 1))), .unset, .unset, .unset] [] X M56 0 0)) ∧ (¬ (0 : Int) = 0 → (g64 (M56 o 54) → (wp l G y_GM_total (gRm (d + 1)) true (kkV X k) true 50 [.val (gR G o), .val (gI x1), .val (gL (M56 o 54)), .unset, .val (gL x4), .unset, .val (gL x6), .unset, .val (gL x8), .unset, .val (gL x10), .unset, .val (gL x12), .unset, .val (gI 0), .val (gI x15), .val (gI (w32 (x16 + 1))), .unset, .unset, .unset] [] X M56 0 0))))) ∧ (¬ v57 = 0 → (((1 : Int) = 0 → (wp l G y_GM_total (gRm (d + 1)) true (kkV X k) true 50 [.val (gR G o), .val (gI x1), .val (gL x2), .unset, .val (gL x4), .unset, .val (gL x6), .unset, .val (gL x8), .unset, .val (gL x10), .unset, .val (gL x12), .unset, .val (gI 1), .val (gI x15), .val (gI (w32 (x16 + 1))), .unset, .unset, .unset] [] X M56 0 0)) ∧ (¬ (1 : Int) = 0 → (g64 (M56 o 54) → (wp l G y_GM_total (gRm (d + 1)) true (kkV X k) true 50 [.val (gR G o), .val (gI x1), .val (gL (M56 o 54)), .unset, .val (gL x4), .unset, .val (gL x6), .unset, .val (gL x8), .unset, .val (gL x10), .unset, .val (gL x12), .unset, .val (gI 1), .val (gI x15), .val (gI (w32 (x16 + 1))), .unset, .unset, .unset] [] X M56 0 0)))))))))))) : wp l G y_GM_total (gRm (d + 1)) true (kkV X k) true 193 [.val (gR G o), .val (gI x1), .val (gL x2), .unset, .val (gL x4), .unset, .val (gL x6), .unset, .val (gL x8), .unset, .val (gL x10), .unset, .val (gL x12), .unset, .val (gI x14), .val (gI x15), .val (gI x16), .unset, .val (gL x18), .unset] [] X M 0 0 := by
  refine wp_iload d_GM_total_193 rfl ?_
  refine xz_eq (tgt := 224) d_GM_total_195 (by decide) (w32_id hx14) (fun h65 => ?_) (fun h65 => ?_)
  · have T := T.1 h65
    refine wp_iconst d_GM_total_224 ?_
    refine wp_istore (L' := [.val (gR G o), .val (gI x1), .val (gL x2), .unset, .val (gL x4), .unset, .val (gL x6), .unset, .val (gL x8), .unset, .val (gL x10), .unset, .val (gL x12), .unset, .val (gI 0), .val (gI x15), .val (gI x16), .unset, .val (gL x18), .unset]) d_GM_total_225 (by decide) rfl ?_
    refine wp_iload d_GM_total_227 rfl ?_
    refine xz_eq (tgt := 237) d_GM_total_229 (by decide) (w32_id (g32_c (x := 0) rfl)) (fun h47 => ?_) (fun h47 => ?_)
    · have T := T.1 h47
      refine wp_iinc (L' := [.val (gR G o), .val (gI x1), .val (gL x2), .unset, .val (gL x4), .unset, .val (gL x6), .unset, .val (gL x8), .unset, .val (gL x10), .unset, .val (gL x12), .unset, .val (gI 0), .val (gI x15), .val (gI (x16 + 1)), .unset, .val (gL x18), .unset]) d_GM_total_237 rfl (by decide) rfl ?_
      refine wp_goto (tgt := 50) d_GM_total_240 (by decide) ?_
      exact wp_md (wpt T (And.intro rfl (And.intro rfl (And.intro rfl (And.intro rfl (And.intro rfl (And.intro rfl (And.intro rfl (And.intro rfl (And.intro rfl (And.intro rfl (And.intro (gI_w _) True.intro))))))))))))
    · have T := T.2 h47
      refine wp_aload_n d_GM_total_232 rfl rfl (g_nz hX.1) ?_
      refine xgetJ d_GM_total_233 gc_GM f_GM_324.1 f_GM_324.2.1 f_GM_324.2.2.1 hX.1 (gm_o2 hX) hX.2.2.1 f_GM_324.2.2.2.2.1 (fun h46 => ?_)
      have T := T h46
      refine wp_lstore_n (L' := [.val (gR G o), .val (gI x1), .val (gL (M o 54)), .unset, .val (gL x4), .unset, .val (gL x6), .unset, .val (gL x8), .unset, .val (gL x10), .unset, .val (gL x12), .unset, .val (gI 0), .val (gI x15), .val (gI x16), .unset, .val (gL x18), .unset]) d_GM_total_236 rfl (by decide) rfl ?_
      refine wp_iinc (L' := [.val (gR G o), .val (gI x1), .val (gL (M o 54)), .unset, .val (gL x4), .unset, .val (gL x6), .unset, .val (gL x8), .unset, .val (gL x10), .unset, .val (gL x12), .unset, .val (gI 0), .val (gI x15), .val (gI (x16 + 1)), .unset, .val (gL x18), .unset]) d_GM_total_237 rfl (by decide) rfl ?_
      refine wp_goto (tgt := 50) d_GM_total_240 (by decide) ?_
      exact wp_md (wpt T (And.intro rfl (And.intro rfl (And.intro rfl (And.intro rfl (And.intro rfl (And.intro rfl (And.intro rfl (And.intro rfl (And.intro rfl (And.intro rfl (And.intro (gI_w _) True.intro))))))))))))
  · have T := T.2 h65
    refine wp_aload_n d_GM_total_198 rfl rfl (g_nz hX.1) ?_
    refine wp_iload_n d_GM_total_199 rfl rfl ?_
    refine wp_iconst d_GM_total_200 ?_
    refine xi_ne (tgt := 209) d_GM_total_201 (by decide) (w32_id hx1) (w32_id (g32_c (x := 1) rfl)) (fun h64 => ?_) (fun h64 => ?_)
    · have T := T.1 h64
      refine wp_bipush d_GM_total_209 ⟨by decide, by decide⟩ ?_
      refine wp_lload_n d_GM_total_211 rfl rfl ?_
      refine wp_lload d_GM_total_212 rfl ?_
      refine xcV_Z (md' := true) (As := [gI 43, gL x2, gL x18]) (st := []) d_GM_total_214 ca_GM_reckon ml_GM_331 im_GM_reckon se_GM_reckon gc_GM hX.1 (gm_o2 hX) hX.2.2.1 rfl (by decide) (by decide) rfl (fun _ => rfl) (fun _ => rfl) T (fun v49 M48 h50 T => ?_)
      refine xz_eq (tgt := 224) d_GM_total_217 (by decide) (w32_id (g32_z h50)) (fun h55 => ?_) (fun h55 => ?_)
      · have T := T.1 h55
        refine wp_iconst d_GM_total_224 ?_
        refine wp_istore (L' := [.val (gR G o), .val (gI x1), .val (gL x2), .unset, .val (gL x4), .unset, .val (gL x6), .unset, .val (gL x8), .unset, .val (gL x10), .unset, .val (gL x12), .unset, .val (gI 0), .val (gI x15), .val (gI x16), .unset, .val (gL x18), .unset]) d_GM_total_225 (by decide) rfl ?_
        refine wp_iload d_GM_total_227 rfl ?_
        refine xz_eq (tgt := 237) d_GM_total_229 (by decide) (w32_id (g32_c (x := 0) rfl)) (fun h52 => ?_) (fun h52 => ?_)
        · have T := T.1 h52
          refine wp_iinc (L' := [.val (gR G o), .val (gI x1), .val (gL x2), .unset, .val (gL x4), .unset, .val (gL x6), .unset, .val (gL x8), .unset, .val (gL x10), .unset, .val (gL x12), .unset, .val (gI 0), .val (gI x15), .val (gI (x16 + 1)), .unset, .val (gL x18), .unset]) d_GM_total_237 rfl (by decide) rfl ?_
          refine wp_goto (tgt := 50) d_GM_total_240 (by decide) ?_
          exact wp_md (wpt T (And.intro rfl (And.intro rfl (And.intro rfl (And.intro rfl (And.intro rfl (And.intro rfl (And.intro rfl (And.intro rfl (And.intro rfl (And.intro rfl (And.intro (gI_w _) True.intro))))))))))))
        · have T := T.2 h52
          refine wp_aload_n d_GM_total_232 rfl rfl (g_nz hX.1) ?_
          refine xgetJ d_GM_total_233 gc_GM f_GM_324.1 f_GM_324.2.1 f_GM_324.2.2.1 hX.1 (gm_o2 hX) hX.2.2.1 f_GM_324.2.2.2.2.1 (fun h51 => ?_)
          have T := T h51
          refine wp_lstore_n (L' := [.val (gR G o), .val (gI x1), .val (gL (M48 o 54)), .unset, .val (gL x4), .unset, .val (gL x6), .unset, .val (gL x8), .unset, .val (gL x10), .unset, .val (gL x12), .unset, .val (gI 0), .val (gI x15), .val (gI x16), .unset, .val (gL x18), .unset]) d_GM_total_236 rfl (by decide) rfl ?_
          refine wp_iinc (L' := [.val (gR G o), .val (gI x1), .val (gL (M48 o 54)), .unset, .val (gL x4), .unset, .val (gL x6), .unset, .val (gL x8), .unset, .val (gL x10), .unset, .val (gL x12), .unset, .val (gI 0), .val (gI x15), .val (gI (x16 + 1)), .unset, .val (gL x18), .unset]) d_GM_total_237 rfl (by decide) rfl ?_
          refine wp_goto (tgt := 50) d_GM_total_240 (by decide) ?_
          exact wp_md (wpt T (And.intro rfl (And.intro rfl (And.intro rfl (And.intro rfl (And.intro rfl (And.intro rfl (And.intro rfl (And.intro rfl (And.intro rfl (And.intro rfl (And.intro (gI_w _) True.intro))))))))))))
      · have T := T.2 h55
        refine wp_iconst d_GM_total_220 ?_
        refine wp_goto (tgt := 225) d_GM_total_221 (by decide) ?_
        refine wp_istore (L' := [.val (gR G o), .val (gI x1), .val (gL x2), .unset, .val (gL x4), .unset, .val (gL x6), .unset, .val (gL x8), .unset, .val (gL x10), .unset, .val (gL x12), .unset, .val (gI 1), .val (gI x15), .val (gI x16), .unset, .val (gL x18), .unset]) d_GM_total_225 (by decide) rfl ?_
        refine wp_iload d_GM_total_227 rfl ?_
        refine xz_eq (tgt := 237) d_GM_total_229 (by decide) (w32_id (g32_c (x := 1) rfl)) (fun h54 => ?_) (fun h54 => ?_)
        · have T := T.1 h54
          refine wp_iinc (L' := [.val (gR G o), .val (gI x1), .val (gL x2), .unset, .val (gL x4), .unset, .val (gL x6), .unset, .val (gL x8), .unset, .val (gL x10), .unset, .val (gL x12), .unset, .val (gI 1), .val (gI x15), .val (gI (x16 + 1)), .unset, .val (gL x18), .unset]) d_GM_total_237 rfl (by decide) rfl ?_
          refine wp_goto (tgt := 50) d_GM_total_240 (by decide) ?_
          exact wp_md (wpt T (And.intro rfl (And.intro rfl (And.intro rfl (And.intro rfl (And.intro rfl (And.intro rfl (And.intro rfl (And.intro rfl (And.intro rfl (And.intro rfl (And.intro (gI_w _) True.intro))))))))))))
        · have T := T.2 h54
          refine wp_aload_n d_GM_total_232 rfl rfl (g_nz hX.1) ?_
          refine xgetJ d_GM_total_233 gc_GM f_GM_324.1 f_GM_324.2.1 f_GM_324.2.2.1 hX.1 (gm_o2 hX) hX.2.2.1 f_GM_324.2.2.2.2.1 (fun h53 => ?_)
          have T := T h53
          refine wp_lstore_n (L' := [.val (gR G o), .val (gI x1), .val (gL (M48 o 54)), .unset, .val (gL x4), .unset, .val (gL x6), .unset, .val (gL x8), .unset, .val (gL x10), .unset, .val (gL x12), .unset, .val (gI 1), .val (gI x15), .val (gI x16), .unset, .val (gL x18), .unset]) d_GM_total_236 rfl (by decide) rfl ?_
          refine wp_iinc (L' := [.val (gR G o), .val (gI x1), .val (gL (M48 o 54)), .unset, .val (gL x4), .unset, .val (gL x6), .unset, .val (gL x8), .unset, .val (gL x10), .unset, .val (gL x12), .unset, .val (gI 1), .val (gI x15), .val (gI (x16 + 1)), .unset, .val (gL x18), .unset]) d_GM_total_237 rfl (by decide) rfl ?_
          refine wp_goto (tgt := 50) d_GM_total_240 (by decide) ?_
          exact wp_md (wpt T (And.intro rfl (And.intro rfl (And.intro rfl (And.intro rfl (And.intro rfl (And.intro rfl (And.intro rfl (And.intro rfl (And.intro rfl (And.intro rfl (And.intro (gI_w _) True.intro))))))))))))
    · have T := T.2 h64
      refine wp_bipush d_GM_total_204 ⟨by decide, by decide⟩ ?_
      refine wp_goto (tgt := 211) d_GM_total_206 (by decide) ?_
      refine wp_lload_n d_GM_total_211 rfl rfl ?_
      refine wp_lload d_GM_total_212 rfl ?_
      refine xcV_Z (md' := true) (As := [gI 42, gL x2, gL x18]) (st := []) d_GM_total_214 ca_GM_reckon ml_GM_331 im_GM_reckon se_GM_reckon gc_GM hX.1 (gm_o2 hX) hX.2.2.1 rfl (by decide) (by decide) rfl (fun _ => rfl) (fun _ => rfl) T (fun v57 M56 h58 T => ?_)
      refine xz_eq (tgt := 224) d_GM_total_217 (by decide) (w32_id (g32_z h58)) (fun h63 => ?_) (fun h63 => ?_)
      · have T := T.1 h63
        refine wp_iconst d_GM_total_224 ?_
        refine wp_istore (L' := [.val (gR G o), .val (gI x1), .val (gL x2), .unset, .val (gL x4), .unset, .val (gL x6), .unset, .val (gL x8), .unset, .val (gL x10), .unset, .val (gL x12), .unset, .val (gI 0), .val (gI x15), .val (gI x16), .unset, .val (gL x18), .unset]) d_GM_total_225 (by decide) rfl ?_
        refine wp_iload d_GM_total_227 rfl ?_
        refine xz_eq (tgt := 237) d_GM_total_229 (by decide) (w32_id (g32_c (x := 0) rfl)) (fun h60 => ?_) (fun h60 => ?_)
        · have T := T.1 h60
          refine wp_iinc (L' := [.val (gR G o), .val (gI x1), .val (gL x2), .unset, .val (gL x4), .unset, .val (gL x6), .unset, .val (gL x8), .unset, .val (gL x10), .unset, .val (gL x12), .unset, .val (gI 0), .val (gI x15), .val (gI (x16 + 1)), .unset, .val (gL x18), .unset]) d_GM_total_237 rfl (by decide) rfl ?_
          refine wp_goto (tgt := 50) d_GM_total_240 (by decide) ?_
          exact wp_md (wpt T (And.intro rfl (And.intro rfl (And.intro rfl (And.intro rfl (And.intro rfl (And.intro rfl (And.intro rfl (And.intro rfl (And.intro rfl (And.intro rfl (And.intro (gI_w _) True.intro))))))))))))
        · have T := T.2 h60
          refine wp_aload_n d_GM_total_232 rfl rfl (g_nz hX.1) ?_
          refine xgetJ d_GM_total_233 gc_GM f_GM_324.1 f_GM_324.2.1 f_GM_324.2.2.1 hX.1 (gm_o2 hX) hX.2.2.1 f_GM_324.2.2.2.2.1 (fun h59 => ?_)
          have T := T h59
          refine wp_lstore_n (L' := [.val (gR G o), .val (gI x1), .val (gL (M56 o 54)), .unset, .val (gL x4), .unset, .val (gL x6), .unset, .val (gL x8), .unset, .val (gL x10), .unset, .val (gL x12), .unset, .val (gI 0), .val (gI x15), .val (gI x16), .unset, .val (gL x18), .unset]) d_GM_total_236 rfl (by decide) rfl ?_
          refine wp_iinc (L' := [.val (gR G o), .val (gI x1), .val (gL (M56 o 54)), .unset, .val (gL x4), .unset, .val (gL x6), .unset, .val (gL x8), .unset, .val (gL x10), .unset, .val (gL x12), .unset, .val (gI 0), .val (gI x15), .val (gI (x16 + 1)), .unset, .val (gL x18), .unset]) d_GM_total_237 rfl (by decide) rfl ?_
          refine wp_goto (tgt := 50) d_GM_total_240 (by decide) ?_
          exact wp_md (wpt T (And.intro rfl (And.intro rfl (And.intro rfl (And.intro rfl (And.intro rfl (And.intro rfl (And.intro rfl (And.intro rfl (And.intro rfl (And.intro rfl (And.intro (gI_w _) True.intro))))))))))))
      · have T := T.2 h63
        refine wp_iconst d_GM_total_220 ?_
        refine wp_goto (tgt := 225) d_GM_total_221 (by decide) ?_
        refine wp_istore (L' := [.val (gR G o), .val (gI x1), .val (gL x2), .unset, .val (gL x4), .unset, .val (gL x6), .unset, .val (gL x8), .unset, .val (gL x10), .unset, .val (gL x12), .unset, .val (gI 1), .val (gI x15), .val (gI x16), .unset, .val (gL x18), .unset]) d_GM_total_225 (by decide) rfl ?_
        refine wp_iload d_GM_total_227 rfl ?_
        refine xz_eq (tgt := 237) d_GM_total_229 (by decide) (w32_id (g32_c (x := 1) rfl)) (fun h62 => ?_) (fun h62 => ?_)
        · have T := T.1 h62
          refine wp_iinc (L' := [.val (gR G o), .val (gI x1), .val (gL x2), .unset, .val (gL x4), .unset, .val (gL x6), .unset, .val (gL x8), .unset, .val (gL x10), .unset, .val (gL x12), .unset, .val (gI 1), .val (gI x15), .val (gI (x16 + 1)), .unset, .val (gL x18), .unset]) d_GM_total_237 rfl (by decide) rfl ?_
          refine wp_goto (tgt := 50) d_GM_total_240 (by decide) ?_
          exact wp_md (wpt T (And.intro rfl (And.intro rfl (And.intro rfl (And.intro rfl (And.intro rfl (And.intro rfl (And.intro rfl (And.intro rfl (And.intro rfl (And.intro rfl (And.intro (gI_w _) True.intro))))))))))))
        · have T := T.2 h62
          refine wp_aload_n d_GM_total_232 rfl rfl (g_nz hX.1) ?_
          refine xgetJ d_GM_total_233 gc_GM f_GM_324.1 f_GM_324.2.1 f_GM_324.2.2.1 hX.1 (gm_o2 hX) hX.2.2.1 f_GM_324.2.2.2.2.1 (fun h61 => ?_)
          have T := T h61
          refine wp_lstore_n (L' := [.val (gR G o), .val (gI x1), .val (gL (M56 o 54)), .unset, .val (gL x4), .unset, .val (gL x6), .unset, .val (gL x8), .unset, .val (gL x10), .unset, .val (gL x12), .unset, .val (gI 1), .val (gI x15), .val (gI x16), .unset, .val (gL x18), .unset]) d_GM_total_236 rfl (by decide) rfl ?_
          refine wp_iinc (L' := [.val (gR G o), .val (gI x1), .val (gL (M56 o 54)), .unset, .val (gL x4), .unset, .val (gL x6), .unset, .val (gL x8), .unset, .val (gL x10), .unset, .val (gL x12), .unset, .val (gI 1), .val (gI x15), .val (gI (x16 + 1)), .unset, .val (gL x18), .unset]) d_GM_total_237 rfl (by decide) rfl ?_
          refine wp_goto (tgt := 50) d_GM_total_240 (by decide) ?_
          exact wp_md (wpt T (And.intro rfl (And.intro rfl (And.intro rfl (And.intro rfl (And.intro rfl (And.intro rfl (And.intro rfl (And.intro rfl (And.intro rfl (And.intro rfl (And.intro (gI_w _) True.intro))))))))))))
theorem e_GM_total {l : Launch} {G : gG} {d : Nat} {X : gX} {M : gM} {k : gM → Prop} {o : Nat} {x1 : Int} (T : wp l G y_GM_total (gRm (d + 1)) true (kkV X k) false 0 [.val (gR G o), .val (gI x1), .unset, .unset, .unset, .unset, .unset, .unset, .unset, .unset, .unset, .unset, .unset, .unset, .unset, .unset, .unset, .unset, .unset, .unset] [] X M 0 0) : cV l G y_GM_total (gRm (d + 1)) true [gR G o, gI x1] X M k := cen_V (plainFor_of_name rfl) (by simp only [lg_sl_R, lg_sl_I, lg_sl_L, lg_sl_N, List.length_cons, List.length_nil]; decide) (by unfold gEn; simp only [lg_sl_R, lg_sl_I, lg_sl_L, lg_sl_N]; exact wpt T (And.intro rfl (And.intro rfl True.intro)))
theorem d_GM_byteAt_0 : decode prog_15_method_63_code 0 = .ok (.aload_n 0, 1) := by decide +kernel
theorem d_GM_byteAt_1 : decode prog_15_method_63_code 1 = .ok (.getfield 126, 3) := by decide +kernel
theorem d_GM_byteAt_4 : decode prog_15_method_63_code 4 = .ok (.bipush 64, 2) := by decide +kernel
theorem d_GM_byteAt_6 : decode prog_15_method_63_code 6 = .ok (.iload_n 1, 1) := by decide +kernel
theorem d_GM_byteAt_7 : decode prog_15_method_63_code 7 = .ok (.imul, 1) := by decide +kernel
theorem d_GM_byteAt_8 : decode prog_15_method_63_code 8 = .ok (.iload_n 2, 1) := by decide +kernel
theorem d_GM_byteAt_9 : decode prog_15_method_63_code 9 = .ok (.iadd, 1) := by decide +kernel
theorem d_GM_byteAt_10 : decode prog_15_method_63_code 10 = .ok (.baload, 1) := by decide +kernel
theorem d_GM_byteAt_11 : decode prog_15_method_63_code 11 = .ok (.ireturn, 1) := by decide +kernel
set_option maxHeartbeats 4000000 in
theorem w_GM_byteAt_0 {l : Launch} {G : gG} {d : Nat} {X : gX} {M : gM} {k : Int → gM → Prop} {o : Nat} (hX : gmX X o) {x1 : Int} (hx1 : g32 x1) {x2 : Int} (hx2 : g32 x2) (T : ((0 : Int) ≤ (64 * x1) + x2 ∧ (64 * x1) + x2 < 76800) ∧ ((-128 ≤ M (o + 37) (Int.toNat ((64 * x1) + x2)) ∧ M (o + 37) (Int.toNat ((64 * x1) + x2)) < 128) → (k (M (o + 37) (Int.toNat ((64 * x1) + x2))) M))) : wp l G y_GM_byteAt (gRm d) false (kkI X k) false 0 [.val (gR G o), .val (gI x1), .val (gI x2)] [] X M 0 0 := by
  refine wp_aload_n d_GM_byteAt_0 rfl rfl (g_nz hX.1) ?_
  refine xgetR d_GM_byteAt_1 gc_GM f_GM_126.1 f_GM_126.2.1 f_GM_126.2.2.1 hX.1 (gm_o2 hX) hX.2.2.1 f_GM_126.2.2.2.2.1 (gm_row hX 36 rfl).1 ?_
  refine wp_bipush d_GM_byteAt_4 ⟨by decide, by decide⟩ ?_
  refine wp_iload_n d_GM_byteAt_6 rfl rfl ?_
  refine wp_imul d_GM_byteAt_7 ?_
  refine wp_iload_n d_GM_byteAt_8 rfl rfl ?_
  refine wp_iadd d_GM_byteAt_9 ?_
  refine wp_baload d_GM_byteAt_10 (gm_row hX 36 rfl).2.2.1 (gm_row hX 36 rfl).2.2.2 (gm_row hX 36 rfl).2.1 (g32_n T.1 (by decide)) T.1.1 T.1.2 (fun h1 => ?_)
  have T := T.2 h1
  exact wp_ireturn d_GM_byteAt_11 rfl id (Nat.zero_le _) (Nat.zero_le _) (kI_mk (g32_b h1) T)
theorem e_GM_byteAt {l : Launch} {G : gG} {d : Nat} {X : gX} {M : gM} {k : Int → gM → Prop} {o : Nat} {x1 : Int} {x2 : Int} (T : wp l G y_GM_byteAt (gRm d) false (kkI X k) false 0 [.val (gR G o), .val (gI x1), .val (gI x2)] [] X M 0 0) : cI l G y_GM_byteAt (gRm d) false [gR G o, gI x1, gI x2] X M k := cen_I (plainFor_of_name rfl) (by simp only [lg_sl_R, lg_sl_I, lg_sl_L, lg_sl_N, List.length_cons, List.length_nil]; decide) (by unfold gEn; simp only [lg_sl_R, lg_sl_I, lg_sl_L, lg_sl_N]; exact wpt T (And.intro rfl (And.intro rfl (And.intro rfl True.intro))))
theorem d_GM_piece_0 : decode prog_15_method_64_code 0 = .ok (.aload_n 0, 1) := by decide +kernel
theorem d_GM_piece_1 : decode prog_15_method_64_code 1 = .ok (.getfield 119, 3) := by decide +kernel
theorem d_GM_piece_4 : decode prog_15_method_64_code 4 = .ok (.iload_n 1, 1) := by decide +kernel
theorem d_GM_piece_5 : decode prog_15_method_64_code 5 = .ok (.iaload, 1) := by decide +kernel
theorem d_GM_piece_6 : decode prog_15_method_64_code 6 = .ok (.i2l, 1) := by decide +kernel
theorem d_GM_piece_7 : decode prog_15_method_64_code 7 = .ok (.lload 4, 2) := by decide +kernel
theorem d_GM_piece_9 : decode prog_15_method_64_code 9 = .ok (.ldc2_w 453, 3) := by decide +kernel
theorem d_GM_piece_12 : decode prog_15_method_64_code 12 = .ok (.lcmp, 1) := by decide +kernel
theorem d_GM_piece_13 : decode prog_15_method_64_code 13 = .ok (.ifCond .le 9, 3) := by decide +kernel
theorem d_GM_piece_22 : decode prog_15_method_64_code 22 = .ok (.lload_n 2, 1) := by decide +kernel
theorem d_GM_piece_23 : decode prog_15_method_64_code 23 = .ok (.lload 4, 2) := by decide +kernel
theorem d_GM_piece_25 : decode prog_15_method_64_code 25 = .ok (.ladd, 1) := by decide +kernel
theorem d_GM_piece_26 : decode prog_15_method_64_code 26 = .ok (.invokestatic 455, 3) := by decide +kernel
theorem d_GM_piece_29 : decode prog_15_method_64_code 29 = .ok (.lstore 6, 2) := by decide +kernel
theorem d_GM_piece_31 : decode prog_15_method_64_code 31 = .ok (.lconst 0, 1) := by decide +kernel
theorem d_GM_piece_32 : decode prog_15_method_64_code 32 = .ok (.lload 6, 2) := by decide +kernel
theorem d_GM_piece_34 : decode prog_15_method_64_code 34 = .ok (.lload_n 2, 1) := by decide +kernel
theorem d_GM_piece_35 : decode prog_15_method_64_code 35 = .ok (.lsub, 1) := by decide +kernel
theorem d_GM_piece_36 : decode prog_15_method_64_code 36 = .ok (.invokestatic 457, 3) := by decide +kernel
theorem d_GM_piece_39 : decode prog_15_method_64_code 39 = .ok (.l2i, 1) := by decide +kernel
theorem d_GM_piece_40 : decode prog_15_method_64_code 40 = .ok (.istore 8, 2) := by decide +kernel
theorem d_GM_piece_42 : decode prog_15_method_64_code 42 = .ok (.aload_n 0, 1) := by decide +kernel
theorem d_GM_piece_43 : decode prog_15_method_64_code 43 = .ok (.iconst 2, 1) := by decide +kernel
theorem d_GM_piece_44 : decode prog_15_method_64_code 44 = .ok (.lconst 0, 1) := by decide +kernel
theorem d_GM_piece_45 : decode prog_15_method_64_code 45 = .ok (.invokevirtual 307, 3) := by decide +kernel
theorem d_GM_piece_48 : decode prog_15_method_64_code 48 = .ok (.aload_n 0, 1) := by decide +kernel
theorem d_GM_piece_49 : decode prog_15_method_64_code 49 = .ok (.getfield 119, 3) := by decide +kernel
theorem d_GM_piece_52 : decode prog_15_method_64_code 52 = .ok (.aload_n 0, 1) := by decide +kernel
theorem d_GM_piece_53 : decode prog_15_method_64_code 53 = .ok (.getfield 304, 3) := by decide +kernel
theorem d_GM_piece_56 : decode prog_15_method_64_code 56 = .ok (.iconst 1, 1) := by decide +kernel
theorem d_GM_piece_57 : decode prog_15_method_64_code 57 = .ok (.isub, 1) := by decide +kernel
theorem d_GM_piece_58 : decode prog_15_method_64_code 58 = .ok (.iload 8, 2) := by decide +kernel
theorem d_GM_piece_60 : decode prog_15_method_64_code 60 = .ok (.iastore, 1) := by decide +kernel
theorem d_GM_piece_61 : decode prog_15_method_64_code 61 = .ok (.iconst 0, 1) := by decide +kernel
theorem d_GM_piece_62 : decode prog_15_method_64_code 62 = .ok (.istore 9, 2) := by decide +kernel
theorem d_GM_piece_16 : decode prog_15_method_64_code 16 = .ok (.ldc2_w 453, 3) := by decide +kernel
theorem d_GM_piece_19 : decode prog_15_method_64_code 19 = .ok (.goto 7, 3) := by decide +kernel
theorem d_GM_piece_64 : decode prog_15_method_64_code 64 = .ok (.iload 9, 2) := by decide +kernel
theorem d_GM_piece_66 : decode prog_15_method_64_code 66 = .ok (.iload 8, 2) := by decide +kernel
theorem d_GM_piece_68 : decode prog_15_method_64_code 68 = .ok (.if_icmp .ge 41, 3) := by decide +kernel
theorem d_GM_piece_109 : decode prog_15_method_64_code 109 = .ok (.return_, 1) := by decide +kernel
theorem d_GM_piece_71 : decode prog_15_method_64_code 71 = .ok (.aload_n 0, 1) := by decide +kernel
theorem d_GM_piece_72 : decode prog_15_method_64_code 72 = .ok (.getfield 126, 3) := by decide +kernel
theorem d_GM_piece_75 : decode prog_15_method_64_code 75 = .ok (.bipush 64, 2) := by decide +kernel
theorem d_GM_piece_77 : decode prog_15_method_64_code 77 = .ok (.aload_n 0, 1) := by decide +kernel
theorem d_GM_piece_78 : decode prog_15_method_64_code 78 = .ok (.getfield 304, 3) := by decide +kernel
theorem d_GM_piece_81 : decode prog_15_method_64_code 81 = .ok (.iconst 1, 1) := by decide +kernel
theorem d_GM_piece_82 : decode prog_15_method_64_code 82 = .ok (.isub, 1) := by decide +kernel
theorem d_GM_piece_83 : decode prog_15_method_64_code 83 = .ok (.imul, 1) := by decide +kernel
theorem d_GM_piece_84 : decode prog_15_method_64_code 84 = .ok (.iload 9, 2) := by decide +kernel
theorem d_GM_piece_86 : decode prog_15_method_64_code 86 = .ok (.iadd, 1) := by decide +kernel
theorem d_GM_piece_87 : decode prog_15_method_64_code 87 = .ok (.aload_n 0, 1) := by decide +kernel
theorem d_GM_piece_88 : decode prog_15_method_64_code 88 = .ok (.getfield 126, 3) := by decide +kernel
theorem d_GM_piece_91 : decode prog_15_method_64_code 91 = .ok (.bipush 64, 2) := by decide +kernel
theorem d_GM_piece_93 : decode prog_15_method_64_code 93 = .ok (.iload_n 1, 1) := by decide +kernel
theorem d_GM_piece_94 : decode prog_15_method_64_code 94 = .ok (.imul, 1) := by decide +kernel
theorem d_GM_piece_95 : decode prog_15_method_64_code 95 = .ok (.lload_n 2, 1) := by decide +kernel
theorem d_GM_piece_96 : decode prog_15_method_64_code 96 = .ok (.l2i, 1) := by decide +kernel
theorem d_GM_piece_97 : decode prog_15_method_64_code 97 = .ok (.iadd, 1) := by decide +kernel
theorem d_GM_piece_98 : decode prog_15_method_64_code 98 = .ok (.iload 9, 2) := by decide +kernel
theorem d_GM_piece_100 : decode prog_15_method_64_code 100 = .ok (.iadd, 1) := by decide +kernel
theorem d_GM_piece_101 : decode prog_15_method_64_code 101 = .ok (.baload, 1) := by decide +kernel
theorem d_GM_piece_102 : decode prog_15_method_64_code 102 = .ok (.bastore, 1) := by decide +kernel
theorem d_GM_piece_103 : decode prog_15_method_64_code 103 = .ok (.iinc 9 1, 3) := by decide +kernel
theorem d_GM_piece_106 : decode prog_15_method_64_code 106 = .ok (.goto (-42), 3) := by decide +kernel
set_option maxHeartbeats 4000000 in
theorem w_GM_piece_0 {l : Launch} {G : gG} {d : Nat} {X : gX} {M : gM} {k : gM → Prop} {o : Nat} (hX : gmX X o) {x1 : Int} (hx1 : g32 x1) {x2 : Int} (hx2 : g64 x2) {x4 : Int} (hx4 : g64 x4) (T : ((0 : Int) ≤ x1 ∧ x1 < 1200) ∧ (g32 (M (o + 35) (Int.toNat x1)) → ((x4 ≤ 64 → (cL l G y_jMath_min_2 (gRm d) false [gL (M (o + 35) (Int.toNat x1)), gL (x2 + x4)] X M (fun v3 M2 => (cL l G y_jMath_max_2 (gRm d) false [gL 0, gL (v3 - x2)] X M2 (fun v6 M5 => (cV l G y_GM_push (gRm d) true [gR G o, gI 2, gL 0] X M5 (fun M8 => (g32 (M8 o 50) → (((0 : Int) ≤ (M8 o 50) - 1 ∧ (M8 o 50) - 1 < 1200) ∧ (wp l G y_GM_piece (gRm (d + 1)) true (kkV X k) true 64 [.val (gR G o), .val (gI x1), .val (gL x2), .unset, .unset, .unset, .unset, .unset, .val (gI (w32 v6)), .val (gI 0)] [] X (gUp M8 (o + 35) (Int.toNat ((M8 o 50) - 1)) (w32 v6)) 0 0)))))))))) ∧ (¬ x4 ≤ 64 → (cL l G y_jMath_min_2 (gRm d) false [gL (M (o + 35) (Int.toNat x1)), gL 64] X M (fun v11 M10 => (cL l G y_jMath_max_2 (gRm d) false [gL 0, gL (v11 - x2)] X M10 (fun v14 M13 => (cV l G y_GM_push (gRm d) true [gR G o, gI 2, gL 0] X M13 (fun M16 => (g32 (M16 o 50) → (((0 : Int) ≤ (M16 o 50) - 1 ∧ (M16 o 50) - 1 < 1200) ∧ (wp l G y_GM_piece (gRm (d + 1)) true (kkV X k) true 64 [.val (gR G o), .val (gI x1), .val (gL x2), .unset, .unset, .unset, .unset, .unset, .val (gI (w32 v14)), .val (gI 0)] [] X (gUp M16 (o + 35) (Int.toNat ((M16 o 50) - 1)) (w32 v14)) 0 0))))))))))))) : wp l G y_GM_piece (gRm (d + 1)) true (kkV X k) false 0 [.val (gR G o), .val (gI x1), .val (gL x2), .unset, .val (gL x4), .unset, .unset, .unset, .unset, .unset] [] X M 0 0 := by
  refine wp_aload_n d_GM_piece_0 rfl rfl (g_nz hX.1) ?_
  refine xgetR d_GM_piece_1 gc_GM f_GM_119.1 f_GM_119.2.1 f_GM_119.2.2.1 hX.1 (gm_o2 hX) hX.2.2.1 f_GM_119.2.2.2.2.1 (gm_row hX 34 rfl).1 ?_
  refine wp_iload_n d_GM_piece_4 rfl rfl ?_
  refine wp_iaload d_GM_piece_5 (gm_row hX 34 rfl).2.2.1 (gm_row hX 34 rfl).2.2.2 (gm_row hX 34 rfl).2.1 (g32_n T.1 (by decide)) T.1.1 T.1.2 (fun h1 => ?_)
  have T := T.2 h1
  refine xi2l d_GM_piece_6 (w32_id h1) ?_
  refine wp_lload d_GM_piece_7 rfl ?_
  refine wp_ldc2 (n := 64) d_GM_piece_9 c_GM_453 rfl ?_
  refine xl_le (tgt := 22) d_GM_piece_12 d_GM_piece_13 (by decide) (w64_id hx4) (w64_id (g64_c (x := 64) rfl)) (fun h18 => ?_) (fun h18 => ?_)
  · have T := T.1 h18
    refine wp_lload_n d_GM_piece_22 rfl rfl ?_
    refine wp_lload d_GM_piece_23 rfl ?_
    refine wp_ladd d_GM_piece_25 ?_
    refine xcS_L (md' := false) (As := [gL (M (o + 35) (Int.toNat x1)), gL (x2 + x4)]) (st := []) d_GM_piece_26 ca_jMath_min_2 ml_GM_455 sm_jMath_min_2 rfl (by decide) (by decide) rfl id id T (fun v3 M2 h4 T => ?_)
    refine wp_lstore (L' := [.val (gR G o), .val (gI x1), .val (gL x2), .unset, .val (gL x4), .unset, .val (gL v3), .unset, .unset, .unset]) d_GM_piece_29 (by decide) rfl ?_
    refine wp_lconst0 d_GM_piece_31 ?_
    refine wp_lload d_GM_piece_32 rfl ?_
    refine wp_lload_n d_GM_piece_34 rfl rfl ?_
    refine wp_lsub d_GM_piece_35 ?_
    refine xcS_L (md' := false) (As := [gL 0, gL (v3 - x2)]) (st := []) d_GM_piece_36 ca_jMath_max_2 ml_GM_457 sm_jMath_max_2 rfl (by decide) (by decide) rfl id id T (fun v6 M5 h7 T => ?_)
    refine wp_l2i d_GM_piece_39 ?_
    refine wp_istore (L' := [.val (gR G o), .val (gI x1), .val (gL x2), .unset, .val (gL x4), .unset, .val (gL v3), .unset, .val (gI v6), .unset]) d_GM_piece_40 (by decide) rfl ?_
    refine wp_aload_n d_GM_piece_42 rfl rfl (g_nz hX.1) ?_
    refine wp_iconst d_GM_piece_43 ?_
    refine wp_lconst0 d_GM_piece_44 ?_
    refine xcV_V (md' := true) (As := [gI 2, gL 0]) (st := []) d_GM_piece_45 ca_GM_push ml_GM_307 im_GM_push se_GM_push gc_GM hX.1 (gm_o2 hX) hX.2.2.1 rfl (by decide) (by decide) rfl (fun _ => rfl) (fun _ => rfl) T (fun M8 T => ?_)
    refine wp_aload_n d_GM_piece_48 rfl rfl (g_nz hX.1) ?_
    refine xgetR d_GM_piece_49 gc_GM f_GM_119.1 f_GM_119.2.1 f_GM_119.2.2.1 hX.1 (gm_o2 hX) hX.2.2.1 f_GM_119.2.2.2.2.1 (gm_row hX 34 rfl).1 ?_
    refine wp_aload_n d_GM_piece_52 rfl rfl (g_nz hX.1) ?_
    refine xgetI d_GM_piece_53 gc_GM f_GM_304.1 f_GM_304.2.1 f_GM_304.2.2.1 hX.1 (gm_o2 hX) hX.2.2.1 f_GM_304.2.2.2.2.1 (fun h9 => ?_)
    have T := T h9
    refine wp_iconst d_GM_piece_56 ?_
    refine wp_isub d_GM_piece_57 ?_
    refine wp_iload d_GM_piece_58 rfl ?_
    refine xiast d_GM_piece_60 (gm_row hX 34 rfl).2.2.1 (gm_row hX 34 rfl).2.2.2 (gm_row hX 34 rfl).2.1 (by decide) T.1 rfl ?_
    have T := T.2
    refine wp_iconst d_GM_piece_61 ?_
    refine wp_istore (L' := [.val (gR G o), .val (gI x1), .val (gL x2), .unset, .val (gL x4), .unset, .val (gL v3), .unset, .val (gI v6), .val (gI 0)]) d_GM_piece_62 (by decide) rfl ?_
    exact wp_md (wpt T (And.intro rfl (And.intro rfl (And.intro rfl (And.intro (gI_w _) (And.intro rfl True.intro))))))
  · have T := T.2 h18
    refine wp_ldc2 (n := 64) d_GM_piece_16 c_GM_453 rfl ?_
    refine wp_goto (tgt := 26) d_GM_piece_19 (by decide) ?_
    refine xcS_L (md' := false) (As := [gL (M (o + 35) (Int.toNat x1)), gL 64]) (st := []) d_GM_piece_26 ca_jMath_min_2 ml_GM_455 sm_jMath_min_2 rfl (by decide) (by decide) rfl id id T (fun v11 M10 h12 T => ?_)
    refine wp_lstore (L' := [.val (gR G o), .val (gI x1), .val (gL x2), .unset, .val (gL x4), .unset, .val (gL v11), .unset, .unset, .unset]) d_GM_piece_29 (by decide) rfl ?_
    refine wp_lconst0 d_GM_piece_31 ?_
    refine wp_lload d_GM_piece_32 rfl ?_
    refine wp_lload_n d_GM_piece_34 rfl rfl ?_
    refine wp_lsub d_GM_piece_35 ?_
    refine xcS_L (md' := false) (As := [gL 0, gL (v11 - x2)]) (st := []) d_GM_piece_36 ca_jMath_max_2 ml_GM_457 sm_jMath_max_2 rfl (by decide) (by decide) rfl id id T (fun v14 M13 h15 T => ?_)
    refine wp_l2i d_GM_piece_39 ?_
    refine wp_istore (L' := [.val (gR G o), .val (gI x1), .val (gL x2), .unset, .val (gL x4), .unset, .val (gL v11), .unset, .val (gI v14), .unset]) d_GM_piece_40 (by decide) rfl ?_
    refine wp_aload_n d_GM_piece_42 rfl rfl (g_nz hX.1) ?_
    refine wp_iconst d_GM_piece_43 ?_
    refine wp_lconst0 d_GM_piece_44 ?_
    refine xcV_V (md' := true) (As := [gI 2, gL 0]) (st := []) d_GM_piece_45 ca_GM_push ml_GM_307 im_GM_push se_GM_push gc_GM hX.1 (gm_o2 hX) hX.2.2.1 rfl (by decide) (by decide) rfl (fun _ => rfl) (fun _ => rfl) T (fun M16 T => ?_)
    refine wp_aload_n d_GM_piece_48 rfl rfl (g_nz hX.1) ?_
    refine xgetR d_GM_piece_49 gc_GM f_GM_119.1 f_GM_119.2.1 f_GM_119.2.2.1 hX.1 (gm_o2 hX) hX.2.2.1 f_GM_119.2.2.2.2.1 (gm_row hX 34 rfl).1 ?_
    refine wp_aload_n d_GM_piece_52 rfl rfl (g_nz hX.1) ?_
    refine xgetI d_GM_piece_53 gc_GM f_GM_304.1 f_GM_304.2.1 f_GM_304.2.2.1 hX.1 (gm_o2 hX) hX.2.2.1 f_GM_304.2.2.2.2.1 (fun h17 => ?_)
    have T := T h17
    refine wp_iconst d_GM_piece_56 ?_
    refine wp_isub d_GM_piece_57 ?_
    refine wp_iload d_GM_piece_58 rfl ?_
    refine xiast d_GM_piece_60 (gm_row hX 34 rfl).2.2.1 (gm_row hX 34 rfl).2.2.2 (gm_row hX 34 rfl).2.1 (by decide) T.1 rfl ?_
    have T := T.2
    refine wp_iconst d_GM_piece_61 ?_
    refine wp_istore (L' := [.val (gR G o), .val (gI x1), .val (gL x2), .unset, .val (gL x4), .unset, .val (gL v11), .unset, .val (gI v14), .val (gI 0)]) d_GM_piece_62 (by decide) rfl ?_
    exact wp_md (wpt T (And.intro rfl (And.intro rfl (And.intro rfl (And.intro (gI_w _) (And.intro rfl True.intro))))))
set_option maxHeartbeats 4000000 in
theorem w_GM_piece_64 {l : Launch} {G : gG} {d : Nat} {X : gX} {M : gM} {k : gM → Prop} {o : Nat} (hX : gmX X o) {x1 : Int} (hx1 : g32 x1) {x2 : Int} (hx2 : g64 x2) {x8 : Int} (hx8 : g32 x8) {x9 : Int} (hx9 : g32 x9) (T : (x8 ≤ x9 → (k M)) ∧ (¬ x8 ≤ x9 → (g32 (M o 50) → (((0 : Int) ≤ ((64 * x1) + x2) + x9 ∧ ((64 * x1) + x2) + x9 < 76800) ∧ ((-128 ≤ M (o + 37) (Int.toNat (((64 * x1) + x2) + x9)) ∧ M (o + 37) (Int.toNat (((64 * x1) + x2) + x9)) < 128) → (((0 : Int) ≤ (64 * ((M o 50) - 1)) + x9 ∧ (64 * ((M o 50) - 1)) + x9 < 76800) ∧ (wp l G y_GM_piece (gRm (d + 1)) true (kkV X k) true 64 [.val (gR G o), .val (gI x1), .val (gL x2), .unset, .unset, .unset, .unset, .unset, .val (gI x8), .val (gI (w32 (x9 + 1)))] [] X (gUp M (o + 37) (Int.toNat ((64 * ((M o 50) - 1)) + x9)) (gByte (M (o + 37) (Int.toNat (((64 * x1) + x2) + x9))))) 0 0))))))) : wp l G y_GM_piece (gRm (d + 1)) true (kkV X k) true 64 [.val (gR G o), .val (gI x1), .val (gL x2), .unset, .unset, .unset, .unset, .unset, .val (gI x8), .val (gI x9)] [] X M 0 0 := by
  refine wp_iload d_GM_piece_64 rfl ?_
  refine wp_iload d_GM_piece_66 rfl ?_
  refine xi_ge (tgt := 109) d_GM_piece_68 (by decide) (w32_id hx9) (w32_id hx8) (fun h21 => ?_) (fun h21 => ?_)
  · have T := T.1 h21
    exact wp_return d_GM_piece_109 rfl (fun _ => rfl) (Nat.zero_le _) (Nat.zero_le _) (kV_mk T)
  · have T := T.2 h21
    refine wp_aload_n d_GM_piece_71 rfl rfl (g_nz hX.1) ?_
    refine xgetR d_GM_piece_72 gc_GM f_GM_126.1 f_GM_126.2.1 f_GM_126.2.2.1 hX.1 (gm_o2 hX) hX.2.2.1 f_GM_126.2.2.2.2.1 (gm_row hX 36 rfl).1 ?_
    refine wp_bipush d_GM_piece_75 ⟨by decide, by decide⟩ ?_
    refine wp_aload_n d_GM_piece_77 rfl rfl (g_nz hX.1) ?_
    refine xgetI d_GM_piece_78 gc_GM f_GM_304.1 f_GM_304.2.1 f_GM_304.2.2.1 hX.1 (gm_o2 hX) hX.2.2.1 f_GM_304.2.2.2.2.1 (fun h19 => ?_)
    have T := T h19
    refine wp_iconst d_GM_piece_81 ?_
    refine wp_isub d_GM_piece_82 ?_
    refine wp_imul d_GM_piece_83 ?_
    refine wp_iload d_GM_piece_84 rfl ?_
    refine wp_iadd d_GM_piece_86 ?_
    refine wp_aload_n d_GM_piece_87 rfl rfl (g_nz hX.1) ?_
    refine xgetR d_GM_piece_88 gc_GM f_GM_126.1 f_GM_126.2.1 f_GM_126.2.2.1 hX.1 (gm_o2 hX) hX.2.2.1 f_GM_126.2.2.2.2.1 (gm_row hX 36 rfl).1 ?_
    refine wp_bipush d_GM_piece_91 ⟨by decide, by decide⟩ ?_
    refine wp_iload_n d_GM_piece_93 rfl rfl ?_
    refine wp_imul d_GM_piece_94 ?_
    refine wp_lload_n d_GM_piece_95 rfl rfl ?_
    refine wp_l2i d_GM_piece_96 ?_
    refine wp_iadd d_GM_piece_97 ?_
    refine wp_iload d_GM_piece_98 rfl ?_
    refine wp_iadd d_GM_piece_100 ?_
    refine wp_baload d_GM_piece_101 (gm_row hX 36 rfl).2.2.1 (gm_row hX 36 rfl).2.2.2 (gm_row hX 36 rfl).2.1 (g32_n T.1 (by decide)) T.1.1 T.1.2 (fun h20 => ?_)
    have T := T.2 h20
    refine xbast d_GM_piece_102 (gm_row hX 36 rfl).2.2.1 (gm_row hX 36 rfl).2.2.2 (gm_row hX 36 rfl).2.1 (by decide) T.1 ?_
    have T := T.2
    refine wp_iinc (L' := [.val (gR G o), .val (gI x1), .val (gL x2), .unset, .unset, .unset, .unset, .unset, .val (gI x8), .val (gI (x9 + 1))]) d_GM_piece_103 rfl (by decide) rfl ?_
    refine wp_goto (tgt := 64) d_GM_piece_106 (by decide) ?_
    exact wp_md (wpt T (And.intro rfl (And.intro rfl (And.intro rfl (And.intro rfl (And.intro (gI_w _) True.intro))))))
theorem e_GM_piece {l : Launch} {G : gG} {d : Nat} {X : gX} {M : gM} {k : gM → Prop} {o : Nat} {x1 : Int} {x2 : Int} {x4 : Int} (T : wp l G y_GM_piece (gRm (d + 1)) true (kkV X k) false 0 [.val (gR G o), .val (gI x1), .val (gL x2), .unset, .val (gL x4), .unset, .unset, .unset, .unset, .unset] [] X M 0 0) : cV l G y_GM_piece (gRm (d + 1)) true [gR G o, gI x1, gL x2, gL x4] X M k := cen_V (plainFor_of_name rfl) (by simp only [lg_sl_R, lg_sl_I, lg_sl_L, lg_sl_N, List.length_cons, List.length_nil]; decide) (by unfold gEn; simp only [lg_sl_R, lg_sl_I, lg_sl_L, lg_sl_N]; exact wpt T (And.intro rfl (And.intro rfl (And.intro rfl (And.intro rfl True.intro)))))
theorem d_GM_text_0 : decode prog_15_method_65_code 0 = .ok (.iload_n 1, 1) := by decide +kernel
theorem d_GM_text_1 : decode prog_15_method_65_code 1 = .ok (.bipush 22, 2) := by decide +kernel
theorem d_GM_text_3 : decode prog_15_method_65_code 3 = .ok (.if_icmp .le 14, 3) := by decide +kernel
theorem d_GM_text_17 : decode prog_15_method_65_code 17 = .ok (.lconst 0, 1) := by decide +kernel
theorem d_GM_text_6 : decode prog_15_method_65_code 6 = .ok (.aload_n 0, 1) := by decide +kernel
theorem d_GM_text_7 : decode prog_15_method_65_code 7 = .ok (.getfield 122, 3) := by decide +kernel
theorem d_GM_text_10 : decode prog_15_method_65_code 10 = .ok (.iload_n 2, 1) := by decide +kernel
theorem d_GM_text_11 : decode prog_15_method_65_code 11 = .ok (.iconst 1, 1) := by decide +kernel
theorem d_GM_text_12 : decode prog_15_method_65_code 12 = .ok (.iadd, 1) := by decide +kernel
theorem d_GM_text_13 : decode prog_15_method_65_code 13 = .ok (.laload, 1) := by decide +kernel
theorem d_GM_text_14 : decode prog_15_method_65_code 14 = .ok (.goto 4, 3) := by decide +kernel
theorem d_GM_text_18 : decode prog_15_method_65_code 18 = .ok (.lstore_n 3, 1) := by decide +kernel
theorem d_GM_text_19 : decode prog_15_method_65_code 19 = .ok (.iload_n 1, 1) := by decide +kernel
theorem d_GM_text_20 : decode prog_15_method_65_code 20 = .ok (.tableswitch 341 20 26 #[44, 59, 59, 180, 204, 254, 304], 44) := by decide +kernel
theorem d_GM_text_64 : decode prog_15_method_65_code 64 = .ok (.aload_n 0, 1) := by decide +kernel
theorem d_GM_text_65 : decode prog_15_method_65_code 65 = .ok (.iconst 1, 1) := by decide +kernel
theorem d_GM_text_66 : decode prog_15_method_65_code 66 = .ok (.aload_n 0, 1) := by decide +kernel
theorem d_GM_text_67 : decode prog_15_method_65_code 67 = .ok (.getfield 119, 3) := by decide +kernel
theorem d_GM_text_70 : decode prog_15_method_65_code 70 = .ok (.iload_n 2, 1) := by decide +kernel
theorem d_GM_text_71 : decode prog_15_method_65_code 71 = .ok (.iaload, 1) := by decide +kernel
theorem d_GM_text_72 : decode prog_15_method_65_code 72 = .ok (.i2l, 1) := by decide +kernel
theorem d_GM_text_73 : decode prog_15_method_65_code 73 = .ok (.invokevirtual 307, 3) := by decide +kernel
theorem d_GM_text_76 : decode prog_15_method_65_code 76 = .ok (.goto 290, 3) := by decide +kernel
theorem d_GM_text_79 : decode prog_15_method_65_code 79 = .ok (.aload_n 0, 1) := by decide +kernel
theorem d_GM_text_80 : decode prog_15_method_65_code 80 = .ok (.iconst 2, 1) := by decide +kernel
theorem d_GM_text_81 : decode prog_15_method_65_code 81 = .ok (.lconst 0, 1) := by decide +kernel
theorem d_GM_text_82 : decode prog_15_method_65_code 82 = .ok (.invokevirtual 307, 3) := by decide +kernel
theorem d_GM_text_85 : decode prog_15_method_65_code 85 = .ok (.aload_n 0, 1) := by decide +kernel
theorem d_GM_text_86 : decode prog_15_method_65_code 86 = .ok (.getfield 119, 3) := by decide +kernel
theorem d_GM_text_89 : decode prog_15_method_65_code 89 = .ok (.aload_n 0, 1) := by decide +kernel
theorem d_GM_text_90 : decode prog_15_method_65_code 90 = .ok (.getfield 304, 3) := by decide +kernel
theorem d_GM_text_93 : decode prog_15_method_65_code 93 = .ok (.iconst 1, 1) := by decide +kernel
theorem d_GM_text_94 : decode prog_15_method_65_code 94 = .ok (.isub, 1) := by decide +kernel
theorem d_GM_text_95 : decode prog_15_method_65_code 95 = .ok (.aload_n 0, 1) := by decide +kernel
theorem d_GM_text_96 : decode prog_15_method_65_code 96 = .ok (.getfield 119, 3) := by decide +kernel
theorem d_GM_text_99 : decode prog_15_method_65_code 99 = .ok (.iload_n 2, 1) := by decide +kernel
theorem d_GM_text_100 : decode prog_15_method_65_code 100 = .ok (.iaload, 1) := by decide +kernel
theorem d_GM_text_101 : decode prog_15_method_65_code 101 = .ok (.iastore, 1) := by decide +kernel
theorem d_GM_text_102 : decode prog_15_method_65_code 102 = .ok (.iconst 0, 1) := by decide +kernel
theorem d_GM_text_103 : decode prog_15_method_65_code 103 = .ok (.istore 5, 2) := by decide +kernel
theorem d_GM_text_200 : decode prog_15_method_65_code 200 = .ok (.lload_n 3, 1) := by decide +kernel
theorem d_GM_text_201 : decode prog_15_method_65_code 201 = .ok (.lconst 0, 1) := by decide +kernel
theorem d_GM_text_202 : decode prog_15_method_65_code 202 = .ok (.lcmp, 1) := by decide +kernel
theorem d_GM_text_203 : decode prog_15_method_65_code 203 = .ok (.ifCond .ge 11, 3) := by decide +kernel
theorem d_GM_text_214 : decode prog_15_method_65_code 214 = .ok (.aload_n 0, 1) := by decide +kernel
theorem d_GM_text_215 : decode prog_15_method_65_code 215 = .ok (.iload_n 2, 1) := by decide +kernel
theorem d_GM_text_216 : decode prog_15_method_65_code 216 = .ok (.lconst 0, 1) := by decide +kernel
theorem d_GM_text_217 : decode prog_15_method_65_code 217 = .ok (.lload_n 3, 1) := by decide +kernel
theorem d_GM_text_218 : decode prog_15_method_65_code 218 = .ok (.invokevirtual 462, 3) := by decide +kernel
theorem d_GM_text_221 : decode prog_15_method_65_code 221 = .ok (.goto 145, 3) := by decide +kernel
theorem d_GM_text_206 : decode prog_15_method_65_code 206 = .ok (.aload_n 0, 1) := by decide +kernel
theorem d_GM_text_207 : decode prog_15_method_65_code 207 = .ok (.iconst 4, 1) := by decide +kernel
theorem d_GM_text_208 : decode prog_15_method_65_code 208 = .ok (.invokevirtual 314, 3) := by decide +kernel
theorem d_GM_text_211 : decode prog_15_method_65_code 211 = .ok (.goto 155, 3) := by decide +kernel
theorem d_GM_text_224 : decode prog_15_method_65_code 224 = .ok (.lload_n 3, 1) := by decide +kernel
theorem d_GM_text_225 : decode prog_15_method_65_code 225 = .ok (.lconst 0, 1) := by decide +kernel
theorem d_GM_text_226 : decode prog_15_method_65_code 226 = .ok (.lcmp, 1) := by decide +kernel
theorem d_GM_text_227 : decode prog_15_method_65_code 227 = .ok (.ifCond .ge 11, 3) := by decide +kernel
theorem d_GM_text_238 : decode prog_15_method_65_code 238 = .ok (.aload_n 0, 1) := by decide +kernel
theorem d_GM_text_239 : decode prog_15_method_65_code 239 = .ok (.iload_n 2, 1) := by decide +kernel
theorem d_GM_text_240 : decode prog_15_method_65_code 240 = .ok (.lload_n 3, 1) := by decide +kernel
theorem d_GM_text_241 : decode prog_15_method_65_code 241 = .ok (.aload_n 0, 1) := by decide +kernel
theorem d_GM_text_242 : decode prog_15_method_65_code 242 = .ok (.getfield 119, 3) := by decide +kernel
theorem d_GM_text_245 : decode prog_15_method_65_code 245 = .ok (.iload_n 2, 1) := by decide +kernel
theorem d_GM_text_246 : decode prog_15_method_65_code 246 = .ok (.iaload, 1) := by decide +kernel
theorem d_GM_text_247 : decode prog_15_method_65_code 247 = .ok (.i2l, 1) := by decide +kernel
theorem d_GM_text_248 : decode prog_15_method_65_code 248 = .ok (.lcmp, 1) := by decide +kernel
theorem d_GM_text_249 : decode prog_15_method_65_code 249 = .ok (.ifCond .lt 7, 3) := by decide +kernel
theorem d_GM_text_256 : decode prog_15_method_65_code 256 = .ok (.aload_n 0, 1) := by decide +kernel
theorem d_GM_text_257 : decode prog_15_method_65_code 257 = .ok (.getfield 119, 3) := by decide +kernel
theorem d_GM_text_260 : decode prog_15_method_65_code 260 = .ok (.iload_n 2, 1) := by decide +kernel
theorem d_GM_text_261 : decode prog_15_method_65_code 261 = .ok (.iaload, 1) := by decide +kernel
theorem d_GM_text_262 : decode prog_15_method_65_code 262 = .ok (.i2l, 1) := by decide +kernel
theorem d_GM_text_263 : decode prog_15_method_65_code 263 = .ok (.lload_n 3, 1) := by decide +kernel
theorem d_GM_text_264 : decode prog_15_method_65_code 264 = .ok (.lsub, 1) := by decide +kernel
theorem d_GM_text_252 : decode prog_15_method_65_code 252 = .ok (.lconst 0, 1) := by decide +kernel
theorem d_GM_text_253 : decode prog_15_method_65_code 253 = .ok (.goto 12, 3) := by decide +kernel
theorem d_GM_text_230 : decode prog_15_method_65_code 230 = .ok (.aload_n 0, 1) := by decide +kernel
theorem d_GM_text_231 : decode prog_15_method_65_code 231 = .ok (.iconst 4, 1) := by decide +kernel
theorem d_GM_text_232 : decode prog_15_method_65_code 232 = .ok (.invokevirtual 314, 3) := by decide +kernel
theorem d_GM_text_235 : decode prog_15_method_65_code 235 = .ok (.goto 131, 3) := by decide +kernel
theorem d_GM_text_274 : decode prog_15_method_65_code 274 = .ok (.aload_n 0, 1) := by decide +kernel
theorem d_GM_text_275 : decode prog_15_method_65_code 275 = .ok (.getfield 122, 3) := by decide +kernel
theorem d_GM_text_278 : decode prog_15_method_65_code 278 = .ok (.iload_n 2, 1) := by decide +kernel
theorem d_GM_text_279 : decode prog_15_method_65_code 279 = .ok (.iconst 2, 1) := by decide +kernel
theorem d_GM_text_280 : decode prog_15_method_65_code 280 = .ok (.iadd, 1) := by decide +kernel
theorem d_GM_text_281 : decode prog_15_method_65_code 281 = .ok (.laload, 1) := by decide +kernel
theorem d_GM_text_282 : decode prog_15_method_65_code 282 = .ok (.lstore 5, 2) := by decide +kernel
theorem d_GM_text_284 : decode prog_15_method_65_code 284 = .ok (.lload_n 3, 1) := by decide +kernel
theorem d_GM_text_285 : decode prog_15_method_65_code 285 = .ok (.lconst 1, 1) := by decide +kernel
theorem d_GM_text_286 : decode prog_15_method_65_code 286 = .ok (.lcmp, 1) := by decide +kernel
theorem d_GM_text_287 : decode prog_15_method_65_code 287 = .ok (.ifCond .lt 10, 3) := by decide +kernel
theorem d_GM_text_290 : decode prog_15_method_65_code 290 = .ok (.lload 5, 2) := by decide +kernel
theorem d_GM_text_292 : decode prog_15_method_65_code 292 = .ok (.lconst 0, 1) := by decide +kernel
theorem d_GM_text_293 : decode prog_15_method_65_code 293 = .ok (.lcmp, 1) := by decide +kernel
theorem d_GM_text_294 : decode prog_15_method_65_code 294 = .ok (.ifCond .ge 11, 3) := by decide +kernel
theorem d_GM_text_305 : decode prog_15_method_65_code 305 = .ok (.aload_n 0, 1) := by decide +kernel
theorem d_GM_text_306 : decode prog_15_method_65_code 306 = .ok (.iload_n 2, 1) := by decide +kernel
theorem d_GM_text_307 : decode prog_15_method_65_code 307 = .ok (.lload_n 3, 1) := by decide +kernel
theorem d_GM_text_308 : decode prog_15_method_65_code 308 = .ok (.lconst 1, 1) := by decide +kernel
theorem d_GM_text_309 : decode prog_15_method_65_code 309 = .ok (.lsub, 1) := by decide +kernel
theorem d_GM_text_310 : decode prog_15_method_65_code 310 = .ok (.ldc2_w 453, 3) := by decide +kernel
theorem d_GM_text_313 : decode prog_15_method_65_code 313 = .ok (.invokestatic 455, 3) := by decide +kernel
theorem d_GM_text_316 : decode prog_15_method_65_code 316 = .ok (.lload 5, 2) := by decide +kernel
theorem d_GM_text_318 : decode prog_15_method_65_code 318 = .ok (.invokevirtual 462, 3) := by decide +kernel
theorem d_GM_text_321 : decode prog_15_method_65_code 321 = .ok (.goto 45, 3) := by decide +kernel
theorem d_GM_text_324 : decode prog_15_method_65_code 324 = .ok (.aload_n 0, 1) := by decide +kernel
theorem d_GM_text_325 : decode prog_15_method_65_code 325 = .ok (.iload_n 2, 1) := by decide +kernel
theorem d_GM_text_326 : decode prog_15_method_65_code 326 = .ok (.iload_n 2, 1) := by decide +kernel
theorem d_GM_text_327 : decode prog_15_method_65_code 327 = .ok (.iconst 1, 1) := by decide +kernel
theorem d_GM_text_328 : decode prog_15_method_65_code 328 = .ok (.iadd, 1) := by decide +kernel
theorem d_GM_text_329 : decode prog_15_method_65_code 329 = .ok (.iconst 0, 1) := by decide +kernel
theorem d_GM_text_330 : decode prog_15_method_65_code 330 = .ok (.invokevirtual 466, 3) := by decide +kernel
theorem d_GM_text_333 : decode prog_15_method_65_code 333 = .ok (.istore 7, 2) := by decide +kernel
theorem d_GM_text_335 : decode prog_15_method_65_code 335 = .ok (.iload 7, 2) := by decide +kernel
theorem d_GM_text_337 : decode prog_15_method_65_code 337 = .ok (.ifCond .ge 11, 3) := by decide +kernel
theorem d_GM_text_348 : decode prog_15_method_65_code 348 = .ok (.aload_n 0, 1) := by decide +kernel
theorem d_GM_text_349 : decode prog_15_method_65_code 349 = .ok (.iconst 1, 1) := by decide +kernel
theorem d_GM_text_350 : decode prog_15_method_65_code 350 = .ok (.iload 7, 2) := by decide +kernel
theorem d_GM_text_352 : decode prog_15_method_65_code 352 = .ok (.iconst 1, 1) := by decide +kernel
theorem d_GM_text_353 : decode prog_15_method_65_code 353 = .ok (.iadd, 1) := by decide +kernel
theorem d_GM_text_354 : decode prog_15_method_65_code 354 = .ok (.i2l, 1) := by decide +kernel
theorem d_GM_text_355 : decode prog_15_method_65_code 355 = .ok (.invokevirtual 307, 3) := by decide +kernel
theorem d_GM_text_358 : decode prog_15_method_65_code 358 = .ok (.goto 8, 3) := by decide +kernel
theorem d_GM_text_340 : decode prog_15_method_65_code 340 = .ok (.aload_n 0, 1) := by decide +kernel
theorem d_GM_text_341 : decode prog_15_method_65_code 341 = .ok (.iconst 4, 1) := by decide +kernel
theorem d_GM_text_342 : decode prog_15_method_65_code 342 = .ok (.invokevirtual 314, 3) := by decide +kernel
theorem d_GM_text_345 : decode prog_15_method_65_code 345 = .ok (.goto 21, 3) := by decide +kernel
theorem d_GM_text_361 : decode prog_15_method_65_code 361 = .ok (.aload_n 0, 1) := by decide +kernel
theorem d_GM_text_362 : decode prog_15_method_65_code 362 = .ok (.iload_n 2, 1) := by decide +kernel
theorem d_GM_text_363 : decode prog_15_method_65_code 363 = .ok (.invokevirtual 469, 3) := by decide +kernel
theorem d_GM_text_366 : decode prog_15_method_65_code 366 = .ok (.return_, 1) := by decide +kernel
theorem d_GM_text_105 : decode prog_15_method_65_code 105 = .ok (.iload 5, 2) := by decide +kernel
theorem d_GM_text_107 : decode prog_15_method_65_code 107 = .ok (.aload_n 0, 1) := by decide +kernel
theorem d_GM_text_108 : decode prog_15_method_65_code 108 = .ok (.getfield 119, 3) := by decide +kernel
theorem d_GM_text_111 : decode prog_15_method_65_code 111 = .ok (.iload_n 2, 1) := by decide +kernel
theorem d_GM_text_112 : decode prog_15_method_65_code 112 = .ok (.iaload, 1) := by decide +kernel
theorem d_GM_text_113 : decode prog_15_method_65_code 113 = .ok (.if_icmp .ge 84, 3) := by decide +kernel
theorem d_GM_text_197 : decode prog_15_method_65_code 197 = .ok (.goto 169, 3) := by decide +kernel
theorem d_GM_text_116 : decode prog_15_method_65_code 116 = .ok (.aload_n 0, 1) := by decide +kernel
theorem d_GM_text_117 : decode prog_15_method_65_code 117 = .ok (.iload_n 2, 1) := by decide +kernel
theorem d_GM_text_118 : decode prog_15_method_65_code 118 = .ok (.iload 5, 2) := by decide +kernel
theorem d_GM_text_120 : decode prog_15_method_65_code 120 = .ok (.invokevirtual 459, 3) := by decide +kernel
theorem d_GM_text_123 : decode prog_15_method_65_code 123 = .ok (.istore 6, 2) := by decide +kernel
theorem d_GM_text_125 : decode prog_15_method_65_code 125 = .ok (.iload_n 1, 1) := by decide +kernel
theorem d_GM_text_126 : decode prog_15_method_65_code 126 = .ok (.bipush 21, 2) := by decide +kernel
theorem d_GM_text_128 : decode prog_15_method_65_code 128 = .ok (.if_icmp .ne 20, 3) := by decide +kernel
theorem d_GM_text_131 : decode prog_15_method_65_code 131 = .ok (.iload 6, 2) := by decide +kernel
theorem d_GM_text_133 : decode prog_15_method_65_code 133 = .ok (.bipush 97, 2) := by decide +kernel
theorem d_GM_text_135 : decode prog_15_method_65_code 135 = .ok (.if_icmp .lt 13, 3) := by decide +kernel
theorem d_GM_text_138 : decode prog_15_method_65_code 138 = .ok (.iload 6, 2) := by decide +kernel
theorem d_GM_text_140 : decode prog_15_method_65_code 140 = .ok (.bipush 122, 2) := by decide +kernel
theorem d_GM_text_142 : decode prog_15_method_65_code 142 = .ok (.if_icmp .gt 6, 3) := by decide +kernel
theorem d_GM_text_145 : decode prog_15_method_65_code 145 = .ok (.iinc 6 (-32), 3) := by decide +kernel
theorem d_GM_text_265 : decode prog_15_method_65_code 265 = .ok (.ldc2_w 453, 3) := by decide +kernel
theorem d_GM_text_268 : decode prog_15_method_65_code 268 = .ok (.invokevirtual 462, 3) := by decide +kernel
theorem d_GM_text_271 : decode prog_15_method_65_code 271 = .ok (.goto 95, 3) := by decide +kernel
theorem d_GM_text_297 : decode prog_15_method_65_code 297 = .ok (.aload_n 0, 1) := by decide +kernel
theorem d_GM_text_298 : decode prog_15_method_65_code 298 = .ok (.iconst 4, 1) := by decide +kernel
theorem d_GM_text_299 : decode prog_15_method_65_code 299 = .ok (.invokevirtual 314, 3) := by decide +kernel
theorem d_GM_text_302 : decode prog_15_method_65_code 302 = .ok (.goto 64, 3) := by decide +kernel
theorem d_GM_text_148 : decode prog_15_method_65_code 148 = .ok (.iload_n 1, 1) := by decide +kernel
theorem d_GM_text_149 : decode prog_15_method_65_code 149 = .ok (.bipush 22, 2) := by decide +kernel
theorem d_GM_text_151 : decode prog_15_method_65_code 151 = .ok (.if_icmp .ne 20, 3) := by decide +kernel
theorem d_GM_text_154 : decode prog_15_method_65_code 154 = .ok (.iload 6, 2) := by decide +kernel
theorem d_GM_text_156 : decode prog_15_method_65_code 156 = .ok (.bipush 65, 2) := by decide +kernel
theorem d_GM_text_158 : decode prog_15_method_65_code 158 = .ok (.if_icmp .lt 13, 3) := by decide +kernel
theorem d_GM_text_161 : decode prog_15_method_65_code 161 = .ok (.iload 6, 2) := by decide +kernel
theorem d_GM_text_163 : decode prog_15_method_65_code 163 = .ok (.bipush 90, 2) := by decide +kernel
theorem d_GM_text_165 : decode prog_15_method_65_code 165 = .ok (.if_icmp .gt 6, 3) := by decide +kernel
theorem d_GM_text_168 : decode prog_15_method_65_code 168 = .ok (.iinc 6 32, 3) := by decide +kernel
theorem d_GM_text_171 : decode prog_15_method_65_code 171 = .ok (.aload_n 0, 1) := by decide +kernel
theorem d_GM_text_172 : decode prog_15_method_65_code 172 = .ok (.getfield 126, 3) := by decide +kernel
theorem d_GM_text_175 : decode prog_15_method_65_code 175 = .ok (.bipush 64, 2) := by decide +kernel
theorem d_GM_text_177 : decode prog_15_method_65_code 177 = .ok (.aload_n 0, 1) := by decide +kernel
theorem d_GM_text_178 : decode prog_15_method_65_code 178 = .ok (.getfield 304, 3) := by decide +kernel
theorem d_GM_text_181 : decode prog_15_method_65_code 181 = .ok (.iconst 1, 1) := by decide +kernel
theorem d_GM_text_182 : decode prog_15_method_65_code 182 = .ok (.isub, 1) := by decide +kernel
theorem d_GM_text_183 : decode prog_15_method_65_code 183 = .ok (.imul, 1) := by decide +kernel
theorem d_GM_text_184 : decode prog_15_method_65_code 184 = .ok (.iload 5, 2) := by decide +kernel
theorem d_GM_text_186 : decode prog_15_method_65_code 186 = .ok (.iadd, 1) := by decide +kernel
theorem d_GM_text_187 : decode prog_15_method_65_code 187 = .ok (.iload 6, 2) := by decide +kernel
theorem d_GM_text_189 : decode prog_15_method_65_code 189 = .ok (.i2b, 1) := by decide +kernel
theorem d_GM_text_190 : decode prog_15_method_65_code 190 = .ok (.bastore, 1) := by decide +kernel
theorem d_GM_text_191 : decode prog_15_method_65_code 191 = .ok (.iinc 5 1, 3) := by decide +kernel
theorem d_GM_text_194 : decode prog_15_method_65_code 194 = .ok (.goto (-89), 3) := by decide +kernel
set_option maxHeartbeats 4000000 in
theorem w_GM_text_0 {l : Launch} {G : gG} {d : Nat} {X : gX} {M : gM} {k : gM → Prop} {o : Nat} (hX : gmX X o) {x1 : Int} (hx1 : g32 x1) {x2 : Int} (hx2 : g32 x2) (T : (x1 ≤ 22 → (wp l G y_GM_text (gRm (d + 1)) true (kkV X k) true 18 [.val (gR G o), .val (gI x1), .val (gI x2), .unset, .unset, .unset, .unset, .unset] [gL 0] X M 0 0)) ∧ (¬ x1 ≤ 22 → (((0 : Int) ≤ x2 + 1 ∧ x2 + 1 < 1200) ∧ (g64 (M (o + 36) (Int.toNat (x2 + 1))) → (wp l G y_GM_text (gRm (d + 1)) true (kkV X k) true 18 [.val (gR G o), .val (gI x1), .val (gI x2), .unset, .unset, .unset, .unset, .unset] [gL (M (o + 36) (Int.toNat (x2 + 1)))] X M 0 0))))) : wp l G y_GM_text (gRm (d + 1)) true (kkV X k) false 0 [.val (gR G o), .val (gI x1), .val (gI x2), .unset, .unset, .unset, .unset, .unset] [] X M 0 0 := by
  refine wp_iload_n d_GM_text_0 rfl rfl ?_
  refine wp_bipush d_GM_text_1 ⟨by decide, by decide⟩ ?_
  refine xi_le (tgt := 17) d_GM_text_3 (by decide) (w32_id hx1) (w32_id (g32_c (x := 22) rfl)) (fun h2 => ?_) (fun h2 => ?_)
  · have T := T.1 h2
    refine wp_lconst0 d_GM_text_17 ?_
    exact wp_md (wpt T (And.intro rfl (And.intro rfl (And.intro rfl True.intro))))
  · have T := T.2 h2
    refine wp_aload_n d_GM_text_6 rfl rfl (g_nz hX.1) ?_
    refine xgetR d_GM_text_7 gc_GM f_GM_122.1 f_GM_122.2.1 f_GM_122.2.2.1 hX.1 (gm_o2 hX) hX.2.2.1 f_GM_122.2.2.2.2.1 (gm_row hX 35 rfl).1 ?_
    refine wp_iload_n d_GM_text_10 rfl rfl ?_
    refine wp_iconst d_GM_text_11 ?_
    refine wp_iadd d_GM_text_12 ?_
    refine wp_laload d_GM_text_13 (gm_row hX 35 rfl).2.2.1 (gm_row hX 35 rfl).2.2.2 (gm_row hX 35 rfl).2.1 (g32_n T.1 (by decide)) T.1.1 T.1.2 (fun h1 => ?_)
    have T := T.2 h1
    refine wp_goto (tgt := 18) d_GM_text_14 (by decide) ?_
    exact wp_md (wpt T (And.intro rfl (And.intro rfl (And.intro rfl True.intro))))
set_option maxHeartbeats 4000000 in
theorem w_GM_text_18 {l : Launch} {G : gG} {d : Nat} {X : gX} {M : gM} {k : gM → Prop} {o : Nat} (hX : gmX X o) {x1 : Int} (hx1 : g32 x1) {x2 : Int} (hx2 : g32 x2) {s0 : Int} (hs0 : g64 s0) (T : (x1 = 20 → (((0 : Int) ≤ x2 ∧ x2 < 1200) ∧ (g32 (M (o + 35) (Int.toNat x2)) → (cV l G y_GM_push (gRm d) true [gR G o, gI 1, gL (M (o + 35) (Int.toNat x2))] X M (fun M4 => (wp l G y_GM_text (gRm (d + 1)) true (kkV X k) true 366 [.unset, .unset, .unset, .unset, .unset, .unset, .unset, .unset] [] X M4 0 0)))))) ∧ (x1 = 21 → (cV l G y_GM_push (gRm d) true [gR G o, gI 2, gL 0] X M (fun M5 => (g32 (M5 o 50) → (((0 : Int) ≤ x2 ∧ x2 < 1200) ∧ (g32 (M5 (o + 35) (Int.toNat x2)) → (((0 : Int) ≤ (M5 o 50) - 1 ∧ (M5 o 50) - 1 < 1200) ∧ (wp l G y_GM_text (gRm (d + 1)) true (kkV X k) true 105 [.val (gR G o), .val (gI x1), .val (gI x2), .unset, .unset, .val (gI 0), .unset, .unset] [] X (gUp M5 (o + 35) (Int.toNat ((M5 o 50) - 1)) (M5 (o + 35) (Int.toNat x2))) 0 0)))))))) ∧ (x1 = 22 → (cV l G y_GM_push (gRm d) true [gR G o, gI 2, gL 0] X M (fun M8 => (g32 (M8 o 50) → (((0 : Int) ≤ x2 ∧ x2 < 1200) ∧ (g32 (M8 (o + 35) (Int.toNat x2)) → (((0 : Int) ≤ (M8 o 50) - 1 ∧ (M8 o 50) - 1 < 1200) ∧ (wp l G y_GM_text (gRm (d + 1)) true (kkV X k) true 105 [.val (gR G o), .val (gI x1), .val (gI x2), .unset, .unset, .val (gI 0), .unset, .unset] [] X (gUp M8 (o + 35) (Int.toNat ((M8 o 50) - 1)) (M8 (o + 35) (Int.toNat x2))) 0 0)))))))) ∧ (x1 = 23 → ((0 ≤ s0 → (cV l G y_GM_piece (gRm d) true [gR G o, gI x2, gL 0, gL s0] X M (fun M11 => (wp l G y_GM_text (gRm (d + 1)) true (kkV X k) true 366 [.unset, .unset, .unset, .unset, .unset, .unset, .unset, .unset] [] X M11 0 0)))) ∧ (¬ 0 ≤ s0 → (cV l G y_GM_fault (gRm d) true [gR G o, gI 4] X M (fun M12 => (wp l G y_GM_text (gRm (d + 1)) true (kkV X k) true 366 [.unset, .unset, .unset, .unset, .unset, .unset, .unset, .unset] [] X M12 0 0)))))) ∧ (x1 = 24 → ((0 ≤ s0 → (((0 : Int) ≤ x2 ∧ x2 < 1200) ∧ (g32 (M (o + 35) (Int.toNat x2)) → ((s0 < M (o + 35) (Int.toNat x2) → (((0 : Int) ≤ x2 ∧ x2 < 1200) ∧ (g32 (M (o + 35) (Int.toNat x2)) → (wp l G y_GM_text (gRm (d + 1)) true (kkV X k) true 265 [.unset, .unset, .unset, .unset, .unset, .unset, .unset, .unset] [gL (w64 ((M (o + 35) (Int.toNat x2)) - s0)), gI x2, gR G o] X M 0 0)))) ∧ (¬ s0 < M (o + 35) (Int.toNat x2) → (wp l G y_GM_text (gRm (d + 1)) true (kkV X k) true 265 [.unset, .unset, .unset, .unset, .unset, .unset, .unset, .unset] [gL 0, gI x2, gR G o] X M 0 0)))))) ∧ (¬ 0 ≤ s0 → (cV l G y_GM_fault (gRm d) true [gR G o, gI 4] X M (fun M17 => (wp l G y_GM_text (gRm (d + 1)) true (kkV X k) true 366 [.unset, .unset, .unset, .unset, .unset, .unset, .unset, .unset] [] X M17 0 0)))))) ∧ (x1 = 25 → (((0 : Int) ≤ x2 + 2 ∧ x2 + 2 < 1200) ∧ (g64 (M (o + 36) (Int.toNat (x2 + 2))) → ((s0 < 1 → (wp l G y_GM_text (gRm (d + 1)) true (kkV X k) true 297 [.val (gR G o), .unset, .unset, .unset, .unset, .unset, .unset, .unset] [] X M 0 0)) ∧ (¬ s0 < 1 → ((0 ≤ M (o + 36) (Int.toNat (x2 + 2)) → (cL l G y_jMath_min_2 (gRm d) false [gL (s0 - 1), gL 64] X M (fun v21 M20 => (cV l G y_GM_piece (gRm d) true [gR G o, gI x2, gL v21, gL (M (o + 36) (Int.toNat (x2 + 2)))] X M20 (fun M23 => (wp l G y_GM_text (gRm (d + 1)) true (kkV X k) true 366 [.unset, .unset, .unset, .unset, .unset, .unset, .unset, .unset] [] X M23 0 0)))))) ∧ (¬ 0 ≤ M (o + 36) (Int.toNat (x2 + 2)) → (wp l G y_GM_text (gRm (d + 1)) true (kkV X k) true 297 [.val (gR G o), .unset, .unset, .unset, .unset, .unset, .unset, .unset] [] X M 0 0)))))))) ∧ (x1 = 26 → (cI l G y_GM_find (gRm d) false [gR G o, gI x2, gI (x2 + 1), gI 0] X M (fun v27 M26 => ((0 ≤ v27 → (cV l G y_GM_push (gRm d) true [gR G o, gI 1, gL (w32 (v27 + 1))] X M26 (fun M29 => (wp l G y_GM_text (gRm (d + 1)) true (kkV X k) true 366 [.unset, .unset, .unset, .unset, .unset, .unset, .unset, .unset] [] X M29 0 0)))) ∧ (¬ 0 ≤ v27 → (cV l G y_GM_fault (gRm d) true [gR G o, gI 4] X M26 (fun M30 => (wp l G y_GM_text (gRm (d + 1)) true (kkV X k) true 366 [.unset, .unset, .unset, .unset, .unset, .unset, .unset, .unset] [] X M30 0 0)))))))) ∧ ((¬ x1 = 20 ∧ ¬ x1 = 21 ∧ ¬ x1 = 22 ∧ ¬ x1 = 23 ∧ ¬ x1 = 24 ∧ ¬ x1 = 25 ∧ ¬ x1 = 26) → (cV l G y_GM_replace (gRm d) true [gR G o, gI x2] X M (fun M32 => (wp l G y_GM_text (gRm (d + 1)) true (kkV X k) true 366 [.unset, .unset, .unset, .unset, .unset, .unset, .unset, .unset] [] X M32 0 0))))) : wp l G y_GM_text (gRm (d + 1)) true (kkV X k) true 18 [.val (gR G o), .val (gI x1), .val (gI x2), .unset, .unset, .unset, .unset, .unset] [gL s0] X M 0 0 := by
  refine wp_lstore_n (L' := [.val (gR G o), .val (gI x1), .val (gI x2), .val (gL s0), .unset, .unset, .unset, .unset]) d_GM_text_18 rfl (by decide) rfl ?_
  refine wp_iload_n d_GM_text_19 rfl rfl ?_
  obtain ⟨T0, T1, T2, T3, T4, T5, T6, T7⟩ := T
  by_cases hc0 : x1 = 20
  · refine xtabIn (tgt := 64) d_GM_text_20 (w32_id hx1) 20 hc0 rfl rfl (by decide) ?_
    have T := T0 hc0
    refine wp_aload_n d_GM_text_64 rfl rfl (g_nz hX.1) ?_
    refine wp_iconst d_GM_text_65 ?_
    refine wp_aload_n d_GM_text_66 rfl rfl (g_nz hX.1) ?_
    refine xgetR d_GM_text_67 gc_GM f_GM_119.1 f_GM_119.2.1 f_GM_119.2.2.1 hX.1 (gm_o2 hX) hX.2.2.1 f_GM_119.2.2.2.2.1 (gm_row hX 34 rfl).1 ?_
    refine wp_iload_n d_GM_text_70 rfl rfl ?_
    refine wp_iaload d_GM_text_71 (gm_row hX 34 rfl).2.2.1 (gm_row hX 34 rfl).2.2.2 (gm_row hX 34 rfl).2.1 (g32_n T.1 (by decide)) T.1.1 T.1.2 (fun h3 => ?_)
    have T := T.2 h3
    refine xi2l d_GM_text_72 (w32_id h3) ?_
    refine xcV_V (md' := true) (As := [gI 1, gL (M (o + 35) (Int.toNat x2))]) (st := []) d_GM_text_73 ca_GM_push ml_GM_307 im_GM_push se_GM_push gc_GM hX.1 (gm_o2 hX) hX.2.2.1 rfl (by decide) (by decide) rfl (fun _ => rfl) (fun _ => rfl) T (fun M4 T => ?_)
    refine wp_goto (tgt := 366) d_GM_text_76 (by decide) ?_
    exact wp_md (wpt T True.intro)
  by_cases hc1 : x1 = 21
  · refine xtabIn (tgt := 79) d_GM_text_20 (w32_id hx1) 21 hc1 rfl rfl (by decide) ?_
    have T := T1 hc1
    refine wp_aload_n d_GM_text_79 rfl rfl (g_nz hX.1) ?_
    refine wp_iconst d_GM_text_80 ?_
    refine wp_lconst0 d_GM_text_81 ?_
    refine xcV_V (md' := true) (As := [gI 2, gL 0]) (st := []) d_GM_text_82 ca_GM_push ml_GM_307 im_GM_push se_GM_push gc_GM hX.1 (gm_o2 hX) hX.2.2.1 rfl (by decide) (by decide) rfl (fun _ => rfl) (fun _ => rfl) T (fun M5 T => ?_)
    refine wp_aload_n d_GM_text_85 rfl rfl (g_nz hX.1) ?_
    refine xgetR d_GM_text_86 gc_GM f_GM_119.1 f_GM_119.2.1 f_GM_119.2.2.1 hX.1 (gm_o2 hX) hX.2.2.1 f_GM_119.2.2.2.2.1 (gm_row hX 34 rfl).1 ?_
    refine wp_aload_n d_GM_text_89 rfl rfl (g_nz hX.1) ?_
    refine xgetI d_GM_text_90 gc_GM f_GM_304.1 f_GM_304.2.1 f_GM_304.2.2.1 hX.1 (gm_o2 hX) hX.2.2.1 f_GM_304.2.2.2.2.1 (fun h6 => ?_)
    have T := T h6
    refine wp_iconst d_GM_text_93 ?_
    refine wp_isub d_GM_text_94 ?_
    refine wp_aload_n d_GM_text_95 rfl rfl (g_nz hX.1) ?_
    refine xgetR d_GM_text_96 gc_GM f_GM_119.1 f_GM_119.2.1 f_GM_119.2.2.1 hX.1 (gm_o2 hX) hX.2.2.1 f_GM_119.2.2.2.2.1 (gm_row hX 34 rfl).1 ?_
    refine wp_iload_n d_GM_text_99 rfl rfl ?_
    refine wp_iaload d_GM_text_100 (gm_row hX 34 rfl).2.2.1 (gm_row hX 34 rfl).2.2.2 (gm_row hX 34 rfl).2.1 (g32_n T.1 (by decide)) T.1.1 T.1.2 (fun h7 => ?_)
    have T := T.2 h7
    refine xiast d_GM_text_101 (gm_row hX 34 rfl).2.2.1 (gm_row hX 34 rfl).2.2.2 (gm_row hX 34 rfl).2.1 (by decide) T.1 (w32_id h7) ?_
    have T := T.2
    refine wp_iconst d_GM_text_102 ?_
    refine wp_istore (L' := [.val (gR G o), .val (gI x1), .val (gI x2), .val (gL s0), .unset, .val (gI 0), .unset, .unset]) d_GM_text_103 (by decide) rfl ?_
    exact wp_md (wpt T (And.intro rfl (And.intro rfl (And.intro rfl (And.intro rfl True.intro)))))
  by_cases hc2 : x1 = 22
  · refine xtabIn (tgt := 79) d_GM_text_20 (w32_id hx1) 22 hc2 rfl rfl (by decide) ?_
    have T := T2 hc2
    refine wp_aload_n d_GM_text_79 rfl rfl (g_nz hX.1) ?_
    refine wp_iconst d_GM_text_80 ?_
    refine wp_lconst0 d_GM_text_81 ?_
    refine xcV_V (md' := true) (As := [gI 2, gL 0]) (st := []) d_GM_text_82 ca_GM_push ml_GM_307 im_GM_push se_GM_push gc_GM hX.1 (gm_o2 hX) hX.2.2.1 rfl (by decide) (by decide) rfl (fun _ => rfl) (fun _ => rfl) T (fun M8 T => ?_)
    refine wp_aload_n d_GM_text_85 rfl rfl (g_nz hX.1) ?_
    refine xgetR d_GM_text_86 gc_GM f_GM_119.1 f_GM_119.2.1 f_GM_119.2.2.1 hX.1 (gm_o2 hX) hX.2.2.1 f_GM_119.2.2.2.2.1 (gm_row hX 34 rfl).1 ?_
    refine wp_aload_n d_GM_text_89 rfl rfl (g_nz hX.1) ?_
    refine xgetI d_GM_text_90 gc_GM f_GM_304.1 f_GM_304.2.1 f_GM_304.2.2.1 hX.1 (gm_o2 hX) hX.2.2.1 f_GM_304.2.2.2.2.1 (fun h9 => ?_)
    have T := T h9
    refine wp_iconst d_GM_text_93 ?_
    refine wp_isub d_GM_text_94 ?_
    refine wp_aload_n d_GM_text_95 rfl rfl (g_nz hX.1) ?_
    refine xgetR d_GM_text_96 gc_GM f_GM_119.1 f_GM_119.2.1 f_GM_119.2.2.1 hX.1 (gm_o2 hX) hX.2.2.1 f_GM_119.2.2.2.2.1 (gm_row hX 34 rfl).1 ?_
    refine wp_iload_n d_GM_text_99 rfl rfl ?_
    refine wp_iaload d_GM_text_100 (gm_row hX 34 rfl).2.2.1 (gm_row hX 34 rfl).2.2.2 (gm_row hX 34 rfl).2.1 (g32_n T.1 (by decide)) T.1.1 T.1.2 (fun h10 => ?_)
    have T := T.2 h10
    refine xiast d_GM_text_101 (gm_row hX 34 rfl).2.2.1 (gm_row hX 34 rfl).2.2.2 (gm_row hX 34 rfl).2.1 (by decide) T.1 (w32_id h10) ?_
    have T := T.2
    refine wp_iconst d_GM_text_102 ?_
    refine wp_istore (L' := [.val (gR G o), .val (gI x1), .val (gI x2), .val (gL s0), .unset, .val (gI 0), .unset, .unset]) d_GM_text_103 (by decide) rfl ?_
    exact wp_md (wpt T (And.intro rfl (And.intro rfl (And.intro rfl (And.intro rfl True.intro)))))
  by_cases hc3 : x1 = 23
  · refine xtabIn (tgt := 200) d_GM_text_20 (w32_id hx1) 23 hc3 rfl rfl (by decide) ?_
    have T := T3 hc3
    refine wp_lload_n d_GM_text_200 rfl rfl ?_
    refine wp_lconst0 d_GM_text_201 ?_
    refine xl_ge (tgt := 214) d_GM_text_202 d_GM_text_203 (by decide) (w64_id hs0) (w64_id (g64_c (x := 0) rfl)) (fun h13 => ?_) (fun h13 => ?_)
    · have T := T.1 h13
      refine wp_aload_n d_GM_text_214 rfl rfl (g_nz hX.1) ?_
      refine wp_iload_n d_GM_text_215 rfl rfl ?_
      refine wp_lconst0 d_GM_text_216 ?_
      refine wp_lload_n d_GM_text_217 rfl rfl ?_
      refine xcV_V (md' := true) (As := [gI x2, gL 0, gL s0]) (st := []) d_GM_text_218 ca_GM_piece ml_GM_462 im_GM_piece se_GM_piece gc_GM hX.1 (gm_o2 hX) hX.2.2.1 rfl (by decide) (by decide) rfl (fun _ => rfl) (fun _ => rfl) T (fun M11 T => ?_)
      refine wp_goto (tgt := 366) d_GM_text_221 (by decide) ?_
      exact wp_md (wpt T True.intro)
    · have T := T.2 h13
      refine wp_aload_n d_GM_text_206 rfl rfl (g_nz hX.1) ?_
      refine wp_iconst d_GM_text_207 ?_
      refine xcV_V (md' := true) (As := [gI 4]) (st := []) d_GM_text_208 ca_GM_fault ml_GM_314 im_GM_fault se_GM_fault gc_GM hX.1 (gm_o2 hX) hX.2.2.1 rfl (by decide) (by decide) rfl (fun _ => rfl) (fun _ => rfl) T (fun M12 T => ?_)
      refine wp_goto (tgt := 366) d_GM_text_211 (by decide) ?_
      exact wp_md (wpt T True.intro)
  by_cases hc4 : x1 = 24
  · refine xtabIn (tgt := 224) d_GM_text_20 (w32_id hx1) 24 hc4 rfl rfl (by decide) ?_
    have T := T4 hc4
    refine wp_lload_n d_GM_text_224 rfl rfl ?_
    refine wp_lconst0 d_GM_text_225 ?_
    refine xl_ge (tgt := 238) d_GM_text_226 d_GM_text_227 (by decide) (w64_id hs0) (w64_id (g64_c (x := 0) rfl)) (fun h18 => ?_) (fun h18 => ?_)
    · have T := T.1 h18
      refine wp_aload_n d_GM_text_238 rfl rfl (g_nz hX.1) ?_
      refine wp_iload_n d_GM_text_239 rfl rfl ?_
      refine wp_lload_n d_GM_text_240 rfl rfl ?_
      refine wp_aload_n d_GM_text_241 rfl rfl (g_nz hX.1) ?_
      refine xgetR d_GM_text_242 gc_GM f_GM_119.1 f_GM_119.2.1 f_GM_119.2.2.1 hX.1 (gm_o2 hX) hX.2.2.1 f_GM_119.2.2.2.2.1 (gm_row hX 34 rfl).1 ?_
      refine wp_iload_n d_GM_text_245 rfl rfl ?_
      refine wp_iaload d_GM_text_246 (gm_row hX 34 rfl).2.2.1 (gm_row hX 34 rfl).2.2.2 (gm_row hX 34 rfl).2.1 (g32_n T.1 (by decide)) T.1.1 T.1.2 (fun h14 => ?_)
      have T := T.2 h14
      refine xi2l d_GM_text_247 (w32_id h14) ?_
      refine xl_lt (tgt := 256) d_GM_text_248 d_GM_text_249 (by decide) (w64_id hs0) (w64_id (g64_32 h14)) (fun h16 => ?_) (fun h16 => ?_)
      · have T := T.1 h16
        refine wp_aload_n d_GM_text_256 rfl rfl (g_nz hX.1) ?_
        refine xgetR d_GM_text_257 gc_GM f_GM_119.1 f_GM_119.2.1 f_GM_119.2.2.1 hX.1 (gm_o2 hX) hX.2.2.1 f_GM_119.2.2.2.2.1 (gm_row hX 34 rfl).1 ?_
        refine wp_iload_n d_GM_text_260 rfl rfl ?_
        refine wp_iaload d_GM_text_261 (gm_row hX 34 rfl).2.2.1 (gm_row hX 34 rfl).2.2.2 (gm_row hX 34 rfl).2.1 (g32_n T.1 (by decide)) T.1.1 T.1.2 (fun h15 => ?_)
        have T := T.2 h15
        refine xi2l d_GM_text_262 (w32_id h15) ?_
        refine wp_lload_n d_GM_text_263 rfl rfl ?_
        refine wp_lsub d_GM_text_264 ?_
        exact wp_md (wp_st (st' := [gL (w64 ((M (o + 35) (Int.toNat x2)) - s0)), gI x2, gR G o]) (by simp only [gI_w, gL_w]) (wpt T True.intro))
      · have T := T.2 h16
        refine wp_lconst0 d_GM_text_252 ?_
        refine wp_goto (tgt := 265) d_GM_text_253 (by decide) ?_
        exact wp_md (wpt T True.intro)
    · have T := T.2 h18
      refine wp_aload_n d_GM_text_230 rfl rfl (g_nz hX.1) ?_
      refine wp_iconst d_GM_text_231 ?_
      refine xcV_V (md' := true) (As := [gI 4]) (st := []) d_GM_text_232 ca_GM_fault ml_GM_314 im_GM_fault se_GM_fault gc_GM hX.1 (gm_o2 hX) hX.2.2.1 rfl (by decide) (by decide) rfl (fun _ => rfl) (fun _ => rfl) T (fun M17 T => ?_)
      refine wp_goto (tgt := 366) d_GM_text_235 (by decide) ?_
      exact wp_md (wpt T True.intro)
  by_cases hc5 : x1 = 25
  · refine xtabIn (tgt := 274) d_GM_text_20 (w32_id hx1) 25 hc5 rfl rfl (by decide) ?_
    have T := T5 hc5
    refine wp_aload_n d_GM_text_274 rfl rfl (g_nz hX.1) ?_
    refine xgetR d_GM_text_275 gc_GM f_GM_122.1 f_GM_122.2.1 f_GM_122.2.2.1 hX.1 (gm_o2 hX) hX.2.2.1 f_GM_122.2.2.2.2.1 (gm_row hX 35 rfl).1 ?_
    refine wp_iload_n d_GM_text_278 rfl rfl ?_
    refine wp_iconst d_GM_text_279 ?_
    refine wp_iadd d_GM_text_280 ?_
    refine wp_laload d_GM_text_281 (gm_row hX 35 rfl).2.2.1 (gm_row hX 35 rfl).2.2.2 (gm_row hX 35 rfl).2.1 (g32_n T.1 (by decide)) T.1.1 T.1.2 (fun h19 => ?_)
    have T := T.2 h19
    refine wp_lstore (L' := [.val (gR G o), .val (gI x1), .val (gI x2), .val (gL s0), .unset, .val (gL (M (o + 36) (Int.toNat (x2 + 2)))), .unset, .unset]) d_GM_text_282 (by decide) rfl ?_
    refine wp_lload_n d_GM_text_284 rfl rfl ?_
    refine wp_lconst1 d_GM_text_285 ?_
    refine xl_lt (tgt := 297) d_GM_text_286 d_GM_text_287 (by decide) (w64_id hs0) (w64_id (g64_c (x := 1) rfl)) (fun h25 => ?_) (fun h25 => ?_)
    · have T := T.1 h25
      exact wp_md (wpt T (And.intro rfl True.intro))
    · have T := T.2 h25
      refine wp_lload d_GM_text_290 rfl ?_
      refine wp_lconst0 d_GM_text_292 ?_
      refine xl_ge (tgt := 305) d_GM_text_293 d_GM_text_294 (by decide) (w64_id h19) (w64_id (g64_c (x := 0) rfl)) (fun h24 => ?_) (fun h24 => ?_)
      · have T := T.1 h24
        refine wp_aload_n d_GM_text_305 rfl rfl (g_nz hX.1) ?_
        refine wp_iload_n d_GM_text_306 rfl rfl ?_
        refine wp_lload_n d_GM_text_307 rfl rfl ?_
        refine wp_lconst1 d_GM_text_308 ?_
        refine wp_lsub d_GM_text_309 ?_
        refine wp_ldc2 (n := 64) d_GM_text_310 c_GM_453 rfl ?_
        refine xcS_L (md' := true) (As := [gL (s0 - 1), gL 64]) (st := [gI x2, gR G o]) d_GM_text_313 ca_jMath_min_2 ml_GM_455 sm_jMath_min_2 rfl (by decide) (by simp only [List.map, gR_cat, gI_cat, gL_cat, List.sum_cons, List.sum_nil]; decide) rfl (fun _ => rfl) (fun _ => rfl) T (fun v21 M20 h22 T => ?_)
        refine wp_lload d_GM_text_316 rfl ?_
        refine xcV_V (md' := true) (As := [gI x2, gL v21, gL (M (o + 36) (Int.toNat (x2 + 2)))]) (st := []) d_GM_text_318 ca_GM_piece ml_GM_462 im_GM_piece se_GM_piece gc_GM hX.1 (gm_o2 hX) hX.2.2.1 rfl (by decide) (by decide) rfl (fun _ => rfl) (fun _ => rfl) T (fun M23 T => ?_)
        refine wp_goto (tgt := 366) d_GM_text_321 (by decide) ?_
        exact wp_md (wpt T True.intro)
      · have T := T.2 h24
        exact wp_md (wpt T (And.intro rfl True.intro))
  by_cases hc6 : x1 = 26
  · refine xtabIn (tgt := 324) d_GM_text_20 (w32_id hx1) 26 hc6 rfl rfl (by decide) ?_
    have T := T6 hc6
    refine wp_aload_n d_GM_text_324 rfl rfl (g_nz hX.1) ?_
    refine wp_iload_n d_GM_text_325 rfl rfl ?_
    refine wp_iload_n d_GM_text_326 rfl rfl ?_
    refine wp_iconst d_GM_text_327 ?_
    refine wp_iadd d_GM_text_328 ?_
    refine wp_iconst d_GM_text_329 ?_
    refine xcV_I (md' := true) (As := [gI x2, gI (x2 + 1), gI 0]) (st := []) d_GM_text_330 ca_GM_find ml_GM_466 im_GM_find se_GM_find gc_GM hX.1 (gm_o2 hX) hX.2.2.1 rfl (by decide) (by decide) rfl (fun _ => rfl) (fun _ => rfl) T (fun v27 M26 h28 T => ?_)
    refine wp_istore (L' := [.val (gR G o), .val (gI x1), .val (gI x2), .val (gL s0), .unset, .unset, .unset, .val (gI v27)]) d_GM_text_333 (by decide) rfl ?_
    refine wp_iload d_GM_text_335 rfl ?_
    refine xz_ge (tgt := 348) d_GM_text_337 (by decide) (w32_id h28) (fun h31 => ?_) (fun h31 => ?_)
    · have T := T.1 h31
      refine wp_aload_n d_GM_text_348 rfl rfl (g_nz hX.1) ?_
      refine wp_iconst d_GM_text_349 ?_
      refine wp_iload d_GM_text_350 rfl ?_
      refine wp_iconst d_GM_text_352 ?_
      refine wp_iadd d_GM_text_353 ?_
      refine xi2l d_GM_text_354 rfl ?_
      refine xcV_V (md' := true) (As := [gI 1, gL (w32 (v27 + 1))]) (st := []) d_GM_text_355 ca_GM_push ml_GM_307 im_GM_push se_GM_push gc_GM hX.1 (gm_o2 hX) hX.2.2.1 rfl (by decide) (by decide) rfl (fun _ => rfl) (fun _ => rfl) T (fun M29 T => ?_)
      refine wp_goto (tgt := 366) d_GM_text_358 (by decide) ?_
      exact wp_md (wpt T True.intro)
    · have T := T.2 h31
      refine wp_aload_n d_GM_text_340 rfl rfl (g_nz hX.1) ?_
      refine wp_iconst d_GM_text_341 ?_
      refine xcV_V (md' := true) (As := [gI 4]) (st := []) d_GM_text_342 ca_GM_fault ml_GM_314 im_GM_fault se_GM_fault gc_GM hX.1 (gm_o2 hX) hX.2.2.1 rfl (by decide) (by decide) rfl (fun _ => rfl) (fun _ => rfl) T (fun M30 T => ?_)
      refine wp_goto (tgt := 366) d_GM_text_345 (by decide) ?_
      exact wp_md (wpt T True.intro)
  refine xtabOut (tgt := 361) d_GM_text_20 (w32_id hx1) (by omega) (by decide) ?_
  have T := T7 ⟨hc0, hc1, hc2, hc3, hc4, hc5, hc6⟩
  refine wp_aload_n d_GM_text_361 rfl rfl (g_nz hX.1) ?_
  refine wp_iload_n d_GM_text_362 rfl rfl ?_
  refine xcV_V (md' := true) (As := [gI x2]) (st := []) d_GM_text_363 ca_GM_replace ml_GM_469 im_GM_replace se_GM_replace gc_GM hX.1 (gm_o2 hX) hX.2.2.1 rfl (by decide) (by decide) rfl (fun _ => rfl) (fun _ => rfl) T (fun M32 T => ?_)
  exact wp_md (wpt T True.intro)
set_option maxHeartbeats 4000000 in
theorem w_GM_text_366 {l : Launch} {G : gG} {d : Nat} {X : gX} {M : gM} {k : gM → Prop} {o : Nat} (hX : gmX X o)  (T : k M) : wp l G y_GM_text (gRm (d + 1)) true (kkV X k) true 366 [.unset, .unset, .unset, .unset, .unset, .unset, .unset, .unset] [] X M 0 0 := by
  exact wp_return d_GM_text_366 rfl (fun _ => rfl) (Nat.zero_le _) (Nat.zero_le _) (kV_mk T)
set_option maxHeartbeats 4000000 in
theorem w_GM_text_105 {l : Launch} {G : gG} {d : Nat} {X : gX} {M : gM} {k : gM → Prop} {o : Nat} (hX : gmX X o) {x1 : Int} (hx1 : g32 x1) {x2 : Int} (hx2 : g32 x2) {x5 : Int} (hx5 : g32 x5) (T : ((0 : Int) ≤ x2 ∧ x2 < 1200) ∧ (g32 (M (o + 35) (Int.toNat x2)) → ((M (o + 35) (Int.toNat x2) ≤ x5 → (wp l G y_GM_text (gRm (d + 1)) true (kkV X k) true 366 [.unset, .unset, .unset, .unset, .unset, .unset, .unset, .unset] [] X M 0 0)) ∧ (¬ M (o + 35) (Int.toNat x2) ≤ x5 → (cI l G y_GM_byteAt (gRm d) false [gR G o, gI x2, gI x5] X M (fun v35 M34 => ((¬ x1 = 21 → (wp l G y_GM_text (gRm (d + 1)) true (kkV X k) true 148 [.val (gR G o), .val (gI x1), .val (gI x2), .unset, .unset, .val (gI x5), .val (gI v35), .unset] [] X M34 0 0)) ∧ (x1 = 21 → ((v35 < 97 → (wp l G y_GM_text (gRm (d + 1)) true (kkV X k) true 148 [.val (gR G o), .val (gI x1), .val (gI x2), .unset, .unset, .val (gI x5), .val (gI v35), .unset] [] X M34 0 0)) ∧ (¬ v35 < 97 → ((122 < v35 → (wp l G y_GM_text (gRm (d + 1)) true (kkV X k) true 148 [.val (gR G o), .val (gI x1), .val (gI x2), .unset, .unset, .val (gI x5), .val (gI v35), .unset] [] X M34 0 0)) ∧ (¬ 122 < v35 → (wp l G y_GM_text (gRm (d + 1)) true (kkV X k) true 148 [.val (gR G o), .val (gI x1), .val (gI x2), .unset, .unset, .val (gI x5), .val (gI (w32 (v35 + (-32)))), .unset] [] X M34 0 0))))))))))))) : wp l G y_GM_text (gRm (d + 1)) true (kkV X k) true 105 [.val (gR G o), .val (gI x1), .val (gI x2), .unset, .unset, .val (gI x5), .unset, .unset] [] X M 0 0 := by
  refine wp_iload d_GM_text_105 rfl ?_
  refine wp_aload_n d_GM_text_107 rfl rfl (g_nz hX.1) ?_
  refine xgetR d_GM_text_108 gc_GM f_GM_119.1 f_GM_119.2.1 f_GM_119.2.2.1 hX.1 (gm_o2 hX) hX.2.2.1 f_GM_119.2.2.2.2.1 (gm_row hX 34 rfl).1 ?_
  refine wp_iload_n d_GM_text_111 rfl rfl ?_
  refine wp_iaload d_GM_text_112 (gm_row hX 34 rfl).2.2.1 (gm_row hX 34 rfl).2.2.2 (gm_row hX 34 rfl).2.1 (g32_n T.1 (by decide)) T.1.1 T.1.2 (fun h33 => ?_)
  have T := T.2 h33
  refine xi_ge (tgt := 197) d_GM_text_113 (by decide) (w32_id hx5) (w32_id h33) (fun h40 => ?_) (fun h40 => ?_)
  · have T := T.1 h40
    refine wp_goto (tgt := 366) d_GM_text_197 (by decide) ?_
    exact wp_md (wpt T True.intro)
  · have T := T.2 h40
    refine wp_aload_n d_GM_text_116 rfl rfl (g_nz hX.1) ?_
    refine wp_iload_n d_GM_text_117 rfl rfl ?_
    refine wp_iload d_GM_text_118 rfl ?_
    refine xcV_I (md' := true) (As := [gI x2, gI x5]) (st := []) d_GM_text_120 ca_GM_byteAt ml_GM_459 im_GM_byteAt se_GM_byteAt gc_GM hX.1 (gm_o2 hX) hX.2.2.1 rfl (by decide) (by decide) rfl (fun _ => rfl) (fun _ => rfl) T (fun v35 M34 h36 T => ?_)
    refine wp_istore (L' := [.val (gR G o), .val (gI x1), .val (gI x2), .unset, .unset, .val (gI x5), .val (gI v35), .unset]) d_GM_text_123 (by decide) rfl ?_
    refine wp_iload_n d_GM_text_125 rfl rfl ?_
    refine wp_bipush d_GM_text_126 ⟨by decide, by decide⟩ ?_
    refine xi_ne (tgt := 148) d_GM_text_128 (by decide) (w32_id hx1) (w32_id (g32_c (x := 21) rfl)) (fun h39 => ?_) (fun h39 => ?_)
    · have T := T.1 h39
      exact wp_md (wpt T (And.intro rfl (And.intro rfl (And.intro rfl (And.intro rfl (And.intro rfl True.intro))))))
    · have T := T.2 h39
      refine wp_iload d_GM_text_131 rfl ?_
      refine wp_bipush d_GM_text_133 ⟨by decide, by decide⟩ ?_
      refine xi_lt (tgt := 148) d_GM_text_135 (by decide) (w32_id h36) (w32_id (g32_c (x := 97) rfl)) (fun h38 => ?_) (fun h38 => ?_)
      · have T := T.1 h38
        exact wp_md (wpt T (And.intro rfl (And.intro rfl (And.intro rfl (And.intro rfl (And.intro rfl True.intro))))))
      · have T := T.2 h38
        refine wp_iload d_GM_text_138 rfl ?_
        refine wp_bipush d_GM_text_140 ⟨by decide, by decide⟩ ?_
        refine xi_gt (tgt := 148) d_GM_text_142 (by decide) (w32_id h36) (w32_id (g32_c (x := 122) rfl)) (fun h37 => ?_) (fun h37 => ?_)
        · have T := T.1 h37
          exact wp_md (wpt T (And.intro rfl (And.intro rfl (And.intro rfl (And.intro rfl (And.intro rfl True.intro))))))
        · have T := T.2 h37
          refine wp_iinc (L' := [.val (gR G o), .val (gI x1), .val (gI x2), .unset, .unset, .val (gI x5), .val (gI (v35 + (-32))), .unset]) d_GM_text_145 rfl (by decide) rfl ?_
          exact wp_md (wpt T (And.intro rfl (And.intro rfl (And.intro rfl (And.intro rfl (And.intro (gI_w _) True.intro))))))
set_option maxHeartbeats 4000000 in
theorem w_GM_text_265 {l : Launch} {G : gG} {d : Nat} {X : gX} {M : gM} {k : gM → Prop} {o : Nat} (hX : gmX X o) {s0 : Int} (hs0 : g64 s0) {s1 : Int} (hs1 : g32 s1) (T : cV l G y_GM_piece (gRm d) true [gR G o, gI s1, gL s0, gL 64] X M (fun M41 => (wp l G y_GM_text (gRm (d + 1)) true (kkV X k) true 366 [.unset, .unset, .unset, .unset, .unset, .unset, .unset, .unset] [] X M41 0 0))) : wp l G y_GM_text (gRm (d + 1)) true (kkV X k) true 265 [.unset, .unset, .unset, .unset, .unset, .unset, .unset, .unset] [gL s0, gI s1, gR G o] X M 0 0 := by
  refine wp_ldc2 (n := 64) d_GM_text_265 c_GM_453 rfl ?_
  refine xcV_V (md' := true) (As := [gI s1, gL s0, gL 64]) (st := []) d_GM_text_268 ca_GM_piece ml_GM_462 im_GM_piece se_GM_piece gc_GM hX.1 (gm_o2 hX) hX.2.2.1 rfl (by decide) (by decide) rfl (fun _ => rfl) (fun _ => rfl) T (fun M41 T => ?_)
  refine wp_goto (tgt := 366) d_GM_text_271 (by decide) ?_
  exact wp_md (wpt T True.intro)
set_option maxHeartbeats 4000000 in
theorem w_GM_text_297 {l : Launch} {G : gG} {d : Nat} {X : gX} {M : gM} {k : gM → Prop} {o : Nat} (hX : gmX X o)  (T : cV l G y_GM_fault (gRm d) true [gR G o, gI 4] X M (fun M42 => (wp l G y_GM_text (gRm (d + 1)) true (kkV X k) true 366 [.unset, .unset, .unset, .unset, .unset, .unset, .unset, .unset] [] X M42 0 0))) : wp l G y_GM_text (gRm (d + 1)) true (kkV X k) true 297 [.val (gR G o), .unset, .unset, .unset, .unset, .unset, .unset, .unset] [] X M 0 0 := by
  refine wp_aload_n d_GM_text_297 rfl rfl (g_nz hX.1) ?_
  refine wp_iconst d_GM_text_298 ?_
  refine xcV_V (md' := true) (As := [gI 4]) (st := []) d_GM_text_299 ca_GM_fault ml_GM_314 im_GM_fault se_GM_fault gc_GM hX.1 (gm_o2 hX) hX.2.2.1 rfl (by decide) (by decide) rfl (fun _ => rfl) (fun _ => rfl) T (fun M42 T => ?_)
  refine wp_goto (tgt := 366) d_GM_text_302 (by decide) ?_
  exact wp_md (wpt T True.intro)
set_option maxHeartbeats 4000000 in
theorem w_GM_text_148 {l : Launch} {G : gG} {d : Nat} {X : gX} {M : gM} {k : gM → Prop} {o : Nat} (hX : gmX X o) {x1 : Int} (hx1 : g32 x1) {x2 : Int} (hx2 : g32 x2) {x5 : Int} (hx5 : g32 x5) {x6 : Int} (hx6 : g32 x6) (T : (¬ x1 = 22 → (wp l G y_GM_text (gRm (d + 1)) true (kkV X k) true 171 [.val (gR G o), .val (gI x1), .val (gI x2), .unset, .unset, .val (gI x5), .val (gI x6), .unset] [] X M 0 0)) ∧ (x1 = 22 → ((x6 < 65 → (wp l G y_GM_text (gRm (d + 1)) true (kkV X k) true 171 [.val (gR G o), .val (gI x1), .val (gI x2), .unset, .unset, .val (gI x5), .val (gI x6), .unset] [] X M 0 0)) ∧ (¬ x6 < 65 → ((90 < x6 → (wp l G y_GM_text (gRm (d + 1)) true (kkV X k) true 171 [.val (gR G o), .val (gI x1), .val (gI x2), .unset, .unset, .val (gI x5), .val (gI x6), .unset] [] X M 0 0)) ∧ (¬ 90 < x6 → (wp l G y_GM_text (gRm (d + 1)) true (kkV X k) true 171 [.val (gR G o), .val (gI x1), .val (gI x2), .unset, .unset, .val (gI x5), .val (gI (w32 (x6 + 32))), .unset] [] X M 0 0))))))) : wp l G y_GM_text (gRm (d + 1)) true (kkV X k) true 148 [.val (gR G o), .val (gI x1), .val (gI x2), .unset, .unset, .val (gI x5), .val (gI x6), .unset] [] X M 0 0 := by
  refine wp_iload_n d_GM_text_148 rfl rfl ?_
  refine wp_bipush d_GM_text_149 ⟨by decide, by decide⟩ ?_
  refine xi_ne (tgt := 171) d_GM_text_151 (by decide) (w32_id hx1) (w32_id (g32_c (x := 22) rfl)) (fun h45 => ?_) (fun h45 => ?_)
  · have T := T.1 h45
    exact wp_md (wpt T (And.intro rfl (And.intro rfl (And.intro rfl (And.intro rfl (And.intro rfl True.intro))))))
  · have T := T.2 h45
    refine wp_iload d_GM_text_154 rfl ?_
    refine wp_bipush d_GM_text_156 ⟨by decide, by decide⟩ ?_
    refine xi_lt (tgt := 171) d_GM_text_158 (by decide) (w32_id hx6) (w32_id (g32_c (x := 65) rfl)) (fun h44 => ?_) (fun h44 => ?_)
    · have T := T.1 h44
      exact wp_md (wpt T (And.intro rfl (And.intro rfl (And.intro rfl (And.intro rfl (And.intro rfl True.intro))))))
    · have T := T.2 h44
      refine wp_iload d_GM_text_161 rfl ?_
      refine wp_bipush d_GM_text_163 ⟨by decide, by decide⟩ ?_
      refine xi_gt (tgt := 171) d_GM_text_165 (by decide) (w32_id hx6) (w32_id (g32_c (x := 90) rfl)) (fun h43 => ?_) (fun h43 => ?_)
      · have T := T.1 h43
        exact wp_md (wpt T (And.intro rfl (And.intro rfl (And.intro rfl (And.intro rfl (And.intro rfl True.intro))))))
      · have T := T.2 h43
        refine wp_iinc (L' := [.val (gR G o), .val (gI x1), .val (gI x2), .unset, .unset, .val (gI x5), .val (gI (x6 + 32)), .unset]) d_GM_text_168 rfl (by decide) rfl ?_
        exact wp_md (wpt T (And.intro rfl (And.intro rfl (And.intro rfl (And.intro rfl (And.intro (gI_w _) True.intro))))))
set_option maxHeartbeats 4000000 in
theorem w_GM_text_171 {l : Launch} {G : gG} {d : Nat} {X : gX} {M : gM} {k : gM → Prop} {o : Nat} (hX : gmX X o) {x1 : Int} (hx1 : g32 x1) {x2 : Int} (hx2 : g32 x2) {x5 : Int} (hx5 : g32 x5) {x6 : Int} (hx6 : g32 x6) (T : g32 (M o 50) → (((0 : Int) ≤ (64 * ((M o 50) - 1)) + x5 ∧ (64 * ((M o 50) - 1)) + x5 < 76800) ∧ (wp l G y_GM_text (gRm (d + 1)) true (kkV X k) true 105 [.val (gR G o), .val (gI x1), .val (gI x2), .unset, .unset, .val (gI (w32 (x5 + 1))), .unset, .unset] [] X (gUp M (o + 37) (Int.toNat ((64 * ((M o 50) - 1)) + x5)) (gByte (gByte x6))) 0 0))) : wp l G y_GM_text (gRm (d + 1)) true (kkV X k) true 171 [.val (gR G o), .val (gI x1), .val (gI x2), .unset, .unset, .val (gI x5), .val (gI x6), .unset] [] X M 0 0 := by
  refine wp_aload_n d_GM_text_171 rfl rfl (g_nz hX.1) ?_
  refine xgetR d_GM_text_172 gc_GM f_GM_126.1 f_GM_126.2.1 f_GM_126.2.2.1 hX.1 (gm_o2 hX) hX.2.2.1 f_GM_126.2.2.2.2.1 (gm_row hX 36 rfl).1 ?_
  refine wp_bipush d_GM_text_175 ⟨by decide, by decide⟩ ?_
  refine wp_aload_n d_GM_text_177 rfl rfl (g_nz hX.1) ?_
  refine xgetI d_GM_text_178 gc_GM f_GM_304.1 f_GM_304.2.1 f_GM_304.2.2.1 hX.1 (gm_o2 hX) hX.2.2.1 f_GM_304.2.2.2.2.1 (fun h46 => ?_)
  have T := T h46
  refine wp_iconst d_GM_text_181 ?_
  refine wp_isub d_GM_text_182 ?_
  refine wp_imul d_GM_text_183 ?_
  refine wp_iload d_GM_text_184 rfl ?_
  refine wp_iadd d_GM_text_186 ?_
  refine wp_iload d_GM_text_187 rfl ?_
  refine wp_i2b d_GM_text_189 ?_
  refine xbast d_GM_text_190 (gm_row hX 36 rfl).2.2.1 (gm_row hX 36 rfl).2.2.2 (gm_row hX 36 rfl).2.1 (by decide) T.1 ?_
  have T := T.2
  refine wp_iinc (L' := [.val (gR G o), .val (gI x1), .val (gI x2), .unset, .unset, .val (gI (x5 + 1)), .val (gI x6), .unset]) d_GM_text_191 rfl (by decide) rfl ?_
  refine wp_goto (tgt := 105) d_GM_text_194 (by decide) ?_
  exact wp_md (wpt T (And.intro rfl (And.intro rfl (And.intro rfl (And.intro (gI_w _) True.intro)))))
theorem e_GM_text {l : Launch} {G : gG} {d : Nat} {X : gX} {M : gM} {k : gM → Prop} {o : Nat} {x1 : Int} {x2 : Int} (T : wp l G y_GM_text (gRm (d + 1)) true (kkV X k) false 0 [.val (gR G o), .val (gI x1), .val (gI x2), .unset, .unset, .unset, .unset, .unset] [] X M 0 0) : cV l G y_GM_text (gRm (d + 1)) true [gR G o, gI x1, gI x2] X M k := cen_V (plainFor_of_name rfl) (by simp only [lg_sl_R, lg_sl_I, lg_sl_L, lg_sl_N, List.length_cons, List.length_nil]; decide) (by unfold gEn; simp only [lg_sl_R, lg_sl_I, lg_sl_L, lg_sl_N]; exact wpt T (And.intro rfl (And.intro rfl (And.intro rfl True.intro))))
