/-! Walks over Work and strings, written by wip/whole/gen_more.py -/
theorem d_GM_word_0 : decode prog_15_method_9_code 0 = .ok (.iconst 1, 1) := by decide +kernel
theorem d_GM_word_1 : decode prog_15_method_9_code 1 = .ok (.istore_n 3, 1) := by decide +kernel
theorem d_GM_word_2 : decode prog_15_method_9_code 2 = .ok (.iconst 1, 1) := by decide +kernel
theorem d_GM_word_3 : decode prog_15_method_9_code 3 = .ok (.istore 4, 2) := by decide +kernel
theorem d_GM_word_5 : decode prog_15_method_9_code 5 = .ok (.iload_n 1, 1) := by decide +kernel
theorem d_GM_word_6 : decode prog_15_method_9_code 6 = .ok (.istore 5, 2) := by decide +kernel
theorem d_GM_word_8 : decode prog_15_method_9_code 8 = .ok (.iload 5, 2) := by decide +kernel
theorem d_GM_word_10 : decode prog_15_method_9_code 10 = .ok (.iload_n 2, 1) := by decide +kernel
theorem d_GM_word_11 : decode prog_15_method_9_code 11 = .ok (.if_icmp .ge 37, 3) := by decide +kernel
theorem d_GM_word_48 : decode prog_15_method_9_code 48 = .ok (.iload_n 3, 1) := by decide +kernel
theorem d_GM_word_49 : decode prog_15_method_9_code 49 = .ok (.ifCond .eq 60, 3) := by decide +kernel
theorem d_GM_word_109 : decode prog_15_method_9_code 109 = .ok (.iload 4, 2) := by decide +kernel
theorem d_GM_word_111 : decode prog_15_method_9_code 111 = .ok (.ifCond .eq 75, 3) := by decide +kernel
theorem d_GM_word_114 : decode prog_15_method_9_code 114 = .ok (.iload_n 2, 1) := by decide +kernel
theorem d_GM_word_115 : decode prog_15_method_9_code 115 = .ok (.iload_n 1, 1) := by decide +kernel
theorem d_GM_word_116 : decode prog_15_method_9_code 116 = .ok (.isub, 1) := by decide +kernel
theorem d_GM_word_117 : decode prog_15_method_9_code 117 = .ok (.iconst 1, 1) := by decide +kernel
theorem d_GM_word_118 : decode prog_15_method_9_code 118 = .ok (.if_icmp .le 68, 3) := by decide +kernel
theorem d_GM_word_121 : decode prog_15_method_9_code 121 = .ok (.aload_n 0, 1) := by decide +kernel
theorem d_GM_word_122 : decode prog_15_method_9_code 122 = .ok (.iload_n 1, 1) := by decide +kernel
theorem d_GM_word_123 : decode prog_15_method_9_code 123 = .ok (.iload_n 2, 1) := by decide +kernel
theorem d_GM_word_124 : decode prog_15_method_9_code 124 = .ok (.ldc 193, 2) := by decide +kernel
theorem d_GM_word_126 : decode prog_15_method_9_code 126 = .ok (.invokevirtual 195, 3) := by decide +kernel
theorem d_GM_word_129 : decode prog_15_method_9_code 129 = .ok (.ifCond .eq 7, 3) := by decide +kernel
theorem d_GM_word_136 : decode prog_15_method_9_code 136 = .ok (.aload_n 0, 1) := by decide +kernel
theorem d_GM_word_137 : decode prog_15_method_9_code 137 = .ok (.iload_n 1, 1) := by decide +kernel
theorem d_GM_word_138 : decode prog_15_method_9_code 138 = .ok (.iload_n 2, 1) := by decide +kernel
theorem d_GM_word_139 : decode prog_15_method_9_code 139 = .ok (.ldc 199, 2) := by decide +kernel
theorem d_GM_word_141 : decode prog_15_method_9_code 141 = .ok (.invokevirtual 195, 3) := by decide +kernel
theorem d_GM_word_144 : decode prog_15_method_9_code 144 = .ok (.ifCond .eq 8, 3) := by decide +kernel
theorem d_GM_word_152 : decode prog_15_method_9_code 152 = .ok (.iconst 4, 1) := by decide +kernel
theorem d_GM_word_147 : decode prog_15_method_9_code 147 = .ok (.bipush 6, 2) := by decide +kernel
theorem d_GM_word_149 : decode prog_15_method_9_code 149 = .ok (.goto 4, 3) := by decide +kernel
theorem d_GM_word_132 : decode prog_15_method_9_code 132 = .ok (.iconst 5, 1) := by decide +kernel
theorem d_GM_word_133 : decode prog_15_method_9_code 133 = .ok (.goto 20, 3) := by decide +kernel
theorem d_GM_word_52 : decode prog_15_method_9_code 52 = .ok (.aload_n 0, 1) := by decide +kernel
theorem d_GM_word_53 : decode prog_15_method_9_code 53 = .ok (.dup, 1) := by decide +kernel
theorem d_GM_word_54 : decode prog_15_method_9_code 54 = .ok (.getfield 181, 3) := by decide +kernel
theorem d_GM_word_57 : decode prog_15_method_9_code 57 = .ok (.aload_n 0, 1) := by decide +kernel
theorem d_GM_word_58 : decode prog_15_method_9_code 58 = .ok (.aload_n 0, 1) := by decide +kernel
theorem d_GM_word_59 : decode prog_15_method_9_code 59 = .ok (.getfield 8, 3) := by decide +kernel
theorem d_GM_word_62 : decode prog_15_method_9_code 62 = .ok (.iload_n 1, 1) := by decide +kernel
theorem d_GM_word_63 : decode prog_15_method_9_code 63 = .ok (.iload_n 2, 1) := by decide +kernel
theorem d_GM_word_64 : decode prog_15_method_9_code 64 = .ok (.invokevirtual 185, 3) := by decide +kernel
theorem d_GM_word_67 : decode prog_15_method_9_code 67 = .ok (.ifCond .ne 7, 3) := by decide +kernel
theorem d_GM_word_74 : decode prog_15_method_9_code 74 = .ok (.iconst 0, 1) := by decide +kernel
theorem d_GM_word_75 : decode prog_15_method_9_code 75 = .ok (.ior, 1) := by decide +kernel
theorem d_GM_word_76 : decode prog_15_method_9_code 76 = .ok (.putfield 181, 3) := by decide +kernel
theorem d_GM_word_79 : decode prog_15_method_9_code 79 = .ok (.aload_n 0, 1) := by decide +kernel
theorem d_GM_word_80 : decode prog_15_method_9_code 80 = .ok (.iconst 1, 1) := by decide +kernel
theorem d_GM_word_81 : decode prog_15_method_9_code 81 = .ok (.iload_n 1, 1) := by decide +kernel
theorem d_GM_word_82 : decode prog_15_method_9_code 82 = .ok (.iload_n 2, 1) := by decide +kernel
theorem d_GM_word_83 : decode prog_15_method_9_code 83 = .ok (.invokevirtual 189, 3) := by decide +kernel
theorem d_GM_word_86 : decode prog_15_method_9_code 86 = .ok (.aload_n 0, 1) := by decide +kernel
theorem d_GM_word_87 : decode prog_15_method_9_code 87 = .ok (.getfield 181, 3) := by decide +kernel
theorem d_GM_word_90 : decode prog_15_method_9_code 90 = .ok (.ifCond .ne 18, 3) := by decide +kernel
theorem d_GM_word_108 : decode prog_15_method_9_code 108 = .ok (.return_, 1) := by decide +kernel
theorem d_GM_word_93 : decode prog_15_method_9_code 93 = .ok (.aload_n 0, 1) := by decide +kernel
theorem d_GM_word_94 : decode prog_15_method_9_code 94 = .ok (.getfield 65, 3) := by decide +kernel
theorem d_GM_word_97 : decode prog_15_method_9_code 97 = .ok (.aload_n 0, 1) := by decide +kernel
theorem d_GM_word_98 : decode prog_15_method_9_code 98 = .ok (.getfield 178, 3) := by decide +kernel
theorem d_GM_word_101 : decode prog_15_method_9_code 101 = .ok (.iconst 1, 1) := by decide +kernel
theorem d_GM_word_102 : decode prog_15_method_9_code 102 = .ok (.isub, 1) := by decide +kernel
theorem d_GM_word_103 : decode prog_15_method_9_code 103 = .ok (.aload_n 0, 1) := by decide +kernel
theorem d_GM_word_104 : decode prog_15_method_9_code 104 = .ok (.getfield 174, 3) := by decide +kernel
theorem d_GM_word_107 : decode prog_15_method_9_code 107 = .ok (.lastore, 1) := by decide +kernel
theorem d_GM_word_70 : decode prog_15_method_9_code 70 = .ok (.iconst 1, 1) := by decide +kernel
theorem d_GM_word_71 : decode prog_15_method_9_code 71 = .ok (.goto 4, 3) := by decide +kernel
theorem d_GM_word_14 : decode prog_15_method_9_code 14 = .ok (.iload_n 3, 1) := by decide +kernel
theorem d_GM_word_15 : decode prog_15_method_9_code 15 = .ok (.aload_n 0, 1) := by decide +kernel
theorem d_GM_word_16 : decode prog_15_method_9_code 16 = .ok (.getfield 8, 3) := by decide +kernel
theorem d_GM_word_19 : decode prog_15_method_9_code 19 = .ok (.iload 5, 2) := by decide +kernel
theorem d_GM_word_21 : decode prog_15_method_9_code 21 = .ok (.baload, 1) := by decide +kernel
theorem d_GM_word_22 : decode prog_15_method_9_code 22 = .ok (.invokestatic 165, 3) := by decide +kernel
theorem d_GM_word_25 : decode prog_15_method_9_code 25 = .ok (.iand, 1) := by decide +kernel
theorem d_GM_word_26 : decode prog_15_method_9_code 26 = .ok (.istore_n 3, 1) := by decide +kernel
theorem d_GM_word_27 : decode prog_15_method_9_code 27 = .ok (.iload 4, 2) := by decide +kernel
theorem d_GM_word_29 : decode prog_15_method_9_code 29 = .ok (.aload_n 0, 1) := by decide +kernel
theorem d_GM_word_30 : decode prog_15_method_9_code 30 = .ok (.getfield 8, 3) := by decide +kernel
theorem d_GM_word_33 : decode prog_15_method_9_code 33 = .ok (.iload 5, 2) := by decide +kernel
theorem d_GM_word_35 : decode prog_15_method_9_code 35 = .ok (.baload, 1) := by decide +kernel
theorem d_GM_word_36 : decode prog_15_method_9_code 36 = .ok (.invokestatic 161, 3) := by decide +kernel
theorem d_GM_word_39 : decode prog_15_method_9_code 39 = .ok (.iand, 1) := by decide +kernel
theorem d_GM_word_40 : decode prog_15_method_9_code 40 = .ok (.istore 4, 2) := by decide +kernel
theorem d_GM_word_42 : decode prog_15_method_9_code 42 = .ok (.iinc 5 1, 3) := by decide +kernel
theorem d_GM_word_45 : decode prog_15_method_9_code 45 = .ok (.goto (-37), 3) := by decide +kernel
theorem d_GM_word_186 : decode prog_15_method_9_code 186 = .ok (.iload_n 1, 1) := by decide +kernel
theorem d_GM_word_187 : decode prog_15_method_9_code 187 = .ok (.istore 5, 2) := by decide +kernel
theorem d_GM_word_189 : decode prog_15_method_9_code 189 = .ok (.iconst 0, 1) := by decide +kernel
theorem d_GM_word_190 : decode prog_15_method_9_code 190 = .ok (.istore 6, 2) := by decide +kernel
theorem d_GM_word_192 : decode prog_15_method_9_code 192 = .ok (.aload_n 0, 1) := by decide +kernel
theorem d_GM_word_193 : decode prog_15_method_9_code 193 = .ok (.getfield 8, 3) := by decide +kernel
theorem d_GM_word_196 : decode prog_15_method_9_code 196 = .ok (.iload 5, 2) := by decide +kernel
theorem d_GM_word_198 : decode prog_15_method_9_code 198 = .ok (.baload, 1) := by decide +kernel
theorem d_GM_word_199 : decode prog_15_method_9_code 199 = .ok (.bipush 36, 2) := by decide +kernel
theorem d_GM_word_201 : decode prog_15_method_9_code 201 = .ok (.if_icmp .ne 9, 3) := by decide +kernel
theorem d_GM_word_204 : decode prog_15_method_9_code 204 = .ok (.iconst 1, 1) := by decide +kernel
theorem d_GM_word_205 : decode prog_15_method_9_code 205 = .ok (.istore 6, 2) := by decide +kernel
theorem d_GM_word_207 : decode prog_15_method_9_code 207 = .ok (.iinc 5 1, 3) := by decide +kernel
theorem d_GM_word_153 : decode prog_15_method_9_code 153 = .ok (.istore 5, 2) := by decide +kernel
theorem d_GM_word_155 : decode prog_15_method_9_code 155 = .ok (.aload_n 0, 1) := by decide +kernel
theorem d_GM_word_156 : decode prog_15_method_9_code 156 = .ok (.dup, 1) := by decide +kernel
theorem d_GM_word_157 : decode prog_15_method_9_code 157 = .ok (.getfield 181, 3) := by decide +kernel
theorem d_GM_word_160 : decode prog_15_method_9_code 160 = .ok (.iload_n 2, 1) := by decide +kernel
theorem d_GM_word_161 : decode prog_15_method_9_code 161 = .ok (.iload_n 1, 1) := by decide +kernel
theorem d_GM_word_162 : decode prog_15_method_9_code 162 = .ok (.isub, 1) := by decide +kernel
theorem d_GM_word_163 : decode prog_15_method_9_code 163 = .ok (.bipush 12, 2) := by decide +kernel
theorem d_GM_word_165 : decode prog_15_method_9_code 165 = .ok (.if_icmp .le 7, 3) := by decide +kernel
theorem d_GM_word_172 : decode prog_15_method_9_code 172 = .ok (.iconst 0, 1) := by decide +kernel
theorem d_GM_word_173 : decode prog_15_method_9_code 173 = .ok (.ior, 1) := by decide +kernel
theorem d_GM_word_174 : decode prog_15_method_9_code 174 = .ok (.putfield 181, 3) := by decide +kernel
theorem d_GM_word_177 : decode prog_15_method_9_code 177 = .ok (.aload_n 0, 1) := by decide +kernel
theorem d_GM_word_178 : decode prog_15_method_9_code 178 = .ok (.iload 5, 2) := by decide +kernel
theorem d_GM_word_180 : decode prog_15_method_9_code 180 = .ok (.iload_n 1, 1) := by decide +kernel
theorem d_GM_word_181 : decode prog_15_method_9_code 181 = .ok (.iload_n 2, 1) := by decide +kernel
theorem d_GM_word_182 : decode prog_15_method_9_code 182 = .ok (.invokevirtual 189, 3) := by decide +kernel
theorem d_GM_word_185 : decode prog_15_method_9_code 185 = .ok (.return_, 1) := by decide +kernel
theorem d_GM_word_168 : decode prog_15_method_9_code 168 = .ok (.iconst 1, 1) := by decide +kernel
theorem d_GM_word_169 : decode prog_15_method_9_code 169 = .ok (.goto 4, 3) := by decide +kernel
theorem d_GM_word_210 : decode prog_15_method_9_code 210 = .ok (.iload 5, 2) := by decide +kernel
theorem d_GM_word_212 : decode prog_15_method_9_code 212 = .ok (.iload_n 2, 1) := by decide +kernel
theorem d_GM_word_213 : decode prog_15_method_9_code 213 = .ok (.if_icmp .ge 20, 3) := by decide +kernel
theorem d_GM_word_216 : decode prog_15_method_9_code 216 = .ok (.aload_n 0, 1) := by decide +kernel
theorem d_GM_word_217 : decode prog_15_method_9_code 217 = .ok (.getfield 8, 3) := by decide +kernel
theorem d_GM_word_220 : decode prog_15_method_9_code 220 = .ok (.iload 5, 2) := by decide +kernel
theorem d_GM_word_222 : decode prog_15_method_9_code 222 = .ok (.baload, 1) := by decide +kernel
theorem d_GM_word_223 : decode prog_15_method_9_code 223 = .ok (.invokestatic 161, 3) := by decide +kernel
theorem d_GM_word_226 : decode prog_15_method_9_code 226 = .ok (.ifCond .eq 7, 3) := by decide +kernel
theorem d_GM_word_229 : decode prog_15_method_9_code 229 = .ok (.iconst 1, 1) := by decide +kernel
theorem d_GM_word_230 : decode prog_15_method_9_code 230 = .ok (.goto 4, 3) := by decide +kernel
theorem d_GM_word_233 : decode prog_15_method_9_code 233 = .ok (.iconst 0, 1) := by decide +kernel
theorem d_GM_word_234 : decode prog_15_method_9_code 234 = .ok (.istore 7, 2) := by decide +kernel
theorem d_GM_word_236 : decode prog_15_method_9_code 236 = .ok (.iload 7, 2) := by decide +kernel
theorem d_GM_word_238 : decode prog_15_method_9_code 238 = .ok (.ifCond .eq 16, 3) := by decide +kernel
theorem d_GM_word_254 : decode prog_15_method_9_code 254 = .ok (.iconst 0, 1) := by decide +kernel
theorem d_GM_word_255 : decode prog_15_method_9_code 255 = .ok (.istore 8, 2) := by decide +kernel
theorem d_GM_word_257 : decode prog_15_method_9_code 257 = .ok (.iinc 5 1, 3) := by decide +kernel
theorem d_GM_word_260 : decode prog_15_method_9_code 260 = .ok (.iload 7, 2) := by decide +kernel
theorem d_GM_word_262 : decode prog_15_method_9_code 262 = .ok (.ifCond .eq 27, 3) := by decide +kernel
theorem d_GM_word_265 : decode prog_15_method_9_code 265 = .ok (.iload 5, 2) := by decide +kernel
theorem d_GM_word_267 : decode prog_15_method_9_code 267 = .ok (.iload_n 2, 1) := by decide +kernel
theorem d_GM_word_268 : decode prog_15_method_9_code 268 = .ok (.if_icmp .ge 21, 3) := by decide +kernel
theorem d_GM_word_271 : decode prog_15_method_9_code 271 = .ok (.aload_n 0, 1) := by decide +kernel
theorem d_GM_word_272 : decode prog_15_method_9_code 272 = .ok (.getfield 8, 3) := by decide +kernel
theorem d_GM_word_275 : decode prog_15_method_9_code 275 = .ok (.iload 5, 2) := by decide +kernel
theorem d_GM_word_277 : decode prog_15_method_9_code 277 = .ok (.baload, 1) := by decide +kernel
theorem d_GM_word_278 : decode prog_15_method_9_code 278 = .ok (.bipush 36, 2) := by decide +kernel
theorem d_GM_word_280 : decode prog_15_method_9_code 280 = .ok (.if_icmp .ne 9, 3) := by decide +kernel
theorem d_GM_word_283 : decode prog_15_method_9_code 283 = .ok (.iinc 6 2, 3) := by decide +kernel
theorem d_GM_word_286 : decode prog_15_method_9_code 286 = .ok (.iinc 5 1, 3) := by decide +kernel
theorem d_GM_word_241 : decode prog_15_method_9_code 241 = .ok (.aload_n 0, 1) := by decide +kernel
theorem d_GM_word_242 : decode prog_15_method_9_code 242 = .ok (.getfield 8, 3) := by decide +kernel
theorem d_GM_word_245 : decode prog_15_method_9_code 245 = .ok (.iload 5, 2) := by decide +kernel
theorem d_GM_word_247 : decode prog_15_method_9_code 247 = .ok (.baload, 1) := by decide +kernel
theorem d_GM_word_248 : decode prog_15_method_9_code 248 = .ok (.bipush 65, 2) := by decide +kernel
theorem d_GM_word_250 : decode prog_15_method_9_code 250 = .ok (.isub, 1) := by decide +kernel
theorem d_GM_word_251 : decode prog_15_method_9_code 251 = .ok (.goto 4, 3) := by decide +kernel
theorem d_GM_word_289 : decode prog_15_method_9_code 289 = .ok (.iload 7, 2) := by decide +kernel
theorem d_GM_word_291 : decode prog_15_method_9_code 291 = .ok (.ifCond .eq 33, 3) := by decide +kernel
theorem d_GM_word_294 : decode prog_15_method_9_code 294 = .ok (.iload 5, 2) := by decide +kernel
theorem d_GM_word_296 : decode prog_15_method_9_code 296 = .ok (.iload_n 2, 1) := by decide +kernel
theorem d_GM_word_297 : decode prog_15_method_9_code 297 = .ok (.if_icmp .ge 27, 3) := by decide +kernel
theorem d_GM_word_300 : decode prog_15_method_9_code 300 = .ok (.iload_n 2, 1) := by decide +kernel
theorem d_GM_word_301 : decode prog_15_method_9_code 301 = .ok (.iload 5, 2) := by decide +kernel
theorem d_GM_word_303 : decode prog_15_method_9_code 303 = .ok (.isub, 1) := by decide +kernel
theorem d_GM_word_304 : decode prog_15_method_9_code 304 = .ok (.iconst 3, 1) := by decide +kernel
theorem d_GM_word_305 : decode prog_15_method_9_code 305 = .ok (.if_icmp .gt 19, 3) := by decide +kernel
theorem d_GM_word_308 : decode prog_15_method_9_code 308 = .ok (.aload_n 0, 1) := by decide +kernel
theorem d_GM_word_309 : decode prog_15_method_9_code 309 = .ok (.getfield 8, 3) := by decide +kernel
theorem d_GM_word_312 : decode prog_15_method_9_code 312 = .ok (.iload 5, 2) := by decide +kernel
theorem d_GM_word_314 : decode prog_15_method_9_code 314 = .ok (.baload, 1) := by decide +kernel
theorem d_GM_word_315 : decode prog_15_method_9_code 315 = .ok (.bipush 48, 2) := by decide +kernel
theorem d_GM_word_317 : decode prog_15_method_9_code 317 = .ok (.if_icmp .eq 7, 3) := by decide +kernel
theorem d_GM_word_320 : decode prog_15_method_9_code 320 = .ok (.iconst 1, 1) := by decide +kernel
theorem d_GM_word_321 : decode prog_15_method_9_code 321 = .ok (.goto 4, 3) := by decide +kernel
theorem d_GM_word_325 : decode prog_15_method_9_code 325 = .ok (.istore 7, 2) := by decide +kernel
theorem d_GM_word_327 : decode prog_15_method_9_code 327 = .ok (.iconst 0, 1) := by decide +kernel
theorem d_GM_word_328 : decode prog_15_method_9_code 328 = .ok (.istore 9, 2) := by decide +kernel
theorem d_GM_word_324 : decode prog_15_method_9_code 324 = .ok (.iconst 0, 1) := by decide +kernel
theorem d_GM_word_330 : decode prog_15_method_9_code 330 = .ok (.iload 7, 2) := by decide +kernel
theorem d_GM_word_332 : decode prog_15_method_9_code 332 = .ok (.ifCond .eq 45, 3) := by decide +kernel
theorem d_GM_word_335 : decode prog_15_method_9_code 335 = .ok (.iload 5, 2) := by decide +kernel
theorem d_GM_word_337 : decode prog_15_method_9_code 337 = .ok (.iload_n 2, 1) := by decide +kernel
theorem d_GM_word_338 : decode prog_15_method_9_code 338 = .ok (.if_icmp .ge 39, 3) := by decide +kernel
theorem d_GM_word_341 : decode prog_15_method_9_code 341 = .ok (.aload_n 0, 1) := by decide +kernel
theorem d_GM_word_342 : decode prog_15_method_9_code 342 = .ok (.getfield 8, 3) := by decide +kernel
theorem d_GM_word_345 : decode prog_15_method_9_code 345 = .ok (.iload 5, 2) := by decide +kernel
theorem d_GM_word_347 : decode prog_15_method_9_code 347 = .ok (.baload, 1) := by decide +kernel
theorem d_GM_word_348 : decode prog_15_method_9_code 348 = .ok (.invokestatic 165, 3) := by decide +kernel
theorem d_GM_word_351 : decode prog_15_method_9_code 351 = .ok (.istore 7, 2) := by decide +kernel
theorem d_GM_word_353 : decode prog_15_method_9_code 353 = .ok (.iload 9, 2) := by decide +kernel
theorem d_GM_word_355 : decode prog_15_method_9_code 355 = .ok (.bipush 10, 2) := by decide +kernel
theorem d_GM_word_357 : decode prog_15_method_9_code 357 = .ok (.imul, 1) := by decide +kernel
theorem d_GM_word_358 : decode prog_15_method_9_code 358 = .ok (.aload_n 0, 1) := by decide +kernel
theorem d_GM_word_359 : decode prog_15_method_9_code 359 = .ok (.getfield 8, 3) := by decide +kernel
theorem d_GM_word_362 : decode prog_15_method_9_code 362 = .ok (.iload 5, 2) := by decide +kernel
theorem d_GM_word_364 : decode prog_15_method_9_code 364 = .ok (.baload, 1) := by decide +kernel
theorem d_GM_word_365 : decode prog_15_method_9_code 365 = .ok (.iadd, 1) := by decide +kernel
theorem d_GM_word_366 : decode prog_15_method_9_code 366 = .ok (.bipush 48, 2) := by decide +kernel
theorem d_GM_word_368 : decode prog_15_method_9_code 368 = .ok (.isub, 1) := by decide +kernel
theorem d_GM_word_369 : decode prog_15_method_9_code 369 = .ok (.istore 9, 2) := by decide +kernel
theorem d_GM_word_371 : decode prog_15_method_9_code 371 = .ok (.iinc 5 1, 3) := by decide +kernel
theorem d_GM_word_374 : decode prog_15_method_9_code 374 = .ok (.goto (-44), 3) := by decide +kernel
theorem d_GM_word_377 : decode prog_15_method_9_code 377 = .ok (.aload_n 0, 1) := by decide +kernel
theorem d_GM_word_378 : decode prog_15_method_9_code 378 = .ok (.dup, 1) := by decide +kernel
theorem d_GM_word_379 : decode prog_15_method_9_code 379 = .ok (.getfield 181, 3) := by decide +kernel
theorem d_GM_word_382 : decode prog_15_method_9_code 382 = .ok (.iload 7, 2) := by decide +kernel
theorem d_GM_word_384 : decode prog_15_method_9_code 384 = .ok (.ifCond .eq 11, 3) := by decide +kernel
theorem d_GM_word_395 : decode prog_15_method_9_code 395 = .ok (.iconst 1, 1) := by decide +kernel
theorem d_GM_word_396 : decode prog_15_method_9_code 396 = .ok (.goto 4, 3) := by decide +kernel
theorem d_GM_word_400 : decode prog_15_method_9_code 400 = .ok (.ior, 1) := by decide +kernel
theorem d_GM_word_401 : decode prog_15_method_9_code 401 = .ok (.putfield 181, 3) := by decide +kernel
theorem d_GM_word_404 : decode prog_15_method_9_code 404 = .ok (.aload_n 0, 1) := by decide +kernel
theorem d_GM_word_405 : decode prog_15_method_9_code 405 = .ok (.iconst 3, 1) := by decide +kernel
theorem d_GM_word_406 : decode prog_15_method_9_code 406 = .ok (.iload_n 1, 1) := by decide +kernel
theorem d_GM_word_407 : decode prog_15_method_9_code 407 = .ok (.iload_n 2, 1) := by decide +kernel
theorem d_GM_word_408 : decode prog_15_method_9_code 408 = .ok (.invokevirtual 189, 3) := by decide +kernel
theorem d_GM_word_411 : decode prog_15_method_9_code 411 = .ok (.aload_n 0, 1) := by decide +kernel
theorem d_GM_word_412 : decode prog_15_method_9_code 412 = .ok (.getfield 181, 3) := by decide +kernel
theorem d_GM_word_415 : decode prog_15_method_9_code 415 = .ok (.ifCond .ne 37, 3) := by decide +kernel
theorem d_GM_word_452 : decode prog_15_method_9_code 452 = .ok (.return_, 1) := by decide +kernel
theorem d_GM_word_418 : decode prog_15_method_9_code 418 = .ok (.aload_n 0, 1) := by decide +kernel
theorem d_GM_word_419 : decode prog_15_method_9_code 419 = .ok (.getfield 59, 3) := by decide +kernel
theorem d_GM_word_422 : decode prog_15_method_9_code 422 = .ok (.aload_n 0, 1) := by decide +kernel
theorem d_GM_word_423 : decode prog_15_method_9_code 423 = .ok (.getfield 178, 3) := by decide +kernel
theorem d_GM_word_426 : decode prog_15_method_9_code 426 = .ok (.iconst 1, 1) := by decide +kernel
theorem d_GM_word_427 : decode prog_15_method_9_code 427 = .ok (.isub, 1) := by decide +kernel
theorem d_GM_word_428 : decode prog_15_method_9_code 428 = .ok (.iload 8, 2) := by decide +kernel
theorem d_GM_word_430 : decode prog_15_method_9_code 430 = .ok (.bipush 26, 2) := by decide +kernel
theorem d_GM_word_432 : decode prog_15_method_9_code 432 = .ok (.iload 9, 2) := by decide +kernel
theorem d_GM_word_434 : decode prog_15_method_9_code 434 = .ok (.iconst 1, 1) := by decide +kernel
theorem d_GM_word_435 : decode prog_15_method_9_code 435 = .ok (.isub, 1) := by decide +kernel
theorem d_GM_word_436 : decode prog_15_method_9_code 436 = .ok (.imul, 1) := by decide +kernel
theorem d_GM_word_437 : decode prog_15_method_9_code 437 = .ok (.iadd, 1) := by decide +kernel
theorem d_GM_word_438 : decode prog_15_method_9_code 438 = .ok (.iastore, 1) := by decide +kernel
theorem d_GM_word_439 : decode prog_15_method_9_code 439 = .ok (.aload_n 0, 1) := by decide +kernel
theorem d_GM_word_440 : decode prog_15_method_9_code 440 = .ok (.getfield 62, 3) := by decide +kernel
theorem d_GM_word_443 : decode prog_15_method_9_code 443 = .ok (.aload_n 0, 1) := by decide +kernel
theorem d_GM_word_444 : decode prog_15_method_9_code 444 = .ok (.getfield 178, 3) := by decide +kernel
theorem d_GM_word_447 : decode prog_15_method_9_code 447 = .ok (.iconst 1, 1) := by decide +kernel
theorem d_GM_word_448 : decode prog_15_method_9_code 448 = .ok (.isub, 1) := by decide +kernel
theorem d_GM_word_449 : decode prog_15_method_9_code 449 = .ok (.iload 6, 2) := by decide +kernel
theorem d_GM_word_451 : decode prog_15_method_9_code 451 = .ok (.iastore, 1) := by decide +kernel
theorem d_GM_word_387 : decode prog_15_method_9_code 387 = .ok (.iload 9, 2) := by decide +kernel
theorem d_GM_word_389 : decode prog_15_method_9_code 389 = .ok (.sipush 200, 3) := by decide +kernel
theorem d_GM_word_392 : decode prog_15_method_9_code 392 = .ok (.if_icmp .le 7, 3) := by decide +kernel
theorem d_GM_word_399 : decode prog_15_method_9_code 399 = .ok (.iconst 0, 1) := by decide +kernel
set_option maxHeartbeats 4000000 in
theorem w_GM_word_0 {l : Launch} {G : gG} {d : Nat} {X : gX} {M : gM} {k : gM → Prop} {o : Nat} (hX : gmX X o) {Q : gQ} (hO : gOld G Q) {x1 : Int} (hx1 : g32 x1) {x2 : Int} (hx2 : g32 x2) (T : wp l G y_GM_word (gRm (d + 1)) true (kkV X k) true 8 [.val (gR G o), .val (gI x1), .val (gI x2), .val (gI 1), .val (gI 1), .val (gI x1), .unset, .unset, .unset, .unset] [] X M 0 0) : wp l G y_GM_word (gRm (d + 1)) true (kkV X k) false 0 [.val (gR G o), .val (gI x1), .val (gI x2), .unset, .unset, .unset, .unset, .unset, .unset, .unset] [] X M 0 0 := by
  refine wp_iconst d_GM_word_0 ?_
  refine wp_istore_n (L' := [.val (gR G o), .val (gI x1), .val (gI x2), .val (gI 1), .unset, .unset, .unset, .unset, .unset, .unset]) d_GM_word_1 rfl (by decide) rfl ?_
  refine wp_iconst d_GM_word_2 ?_
  refine wp_istore (L' := [.val (gR G o), .val (gI x1), .val (gI x2), .val (gI 1), .val (gI 1), .unset, .unset, .unset, .unset, .unset]) d_GM_word_3 (by decide) rfl ?_
  refine wp_iload_n d_GM_word_5 rfl rfl ?_
  refine wp_istore (L' := [.val (gR G o), .val (gI x1), .val (gI x2), .val (gI 1), .val (gI 1), .val (gI x1), .unset, .unset, .unset, .unset]) d_GM_word_6 (by decide) rfl ?_
  exact wp_md (wpt T (And.intro rfl (And.intro rfl (And.intro rfl (And.intro rfl (And.intro rfl (And.intro rfl True.intro)))))))
set_option maxHeartbeats 4000000 in
theorem w_GM_word_8 {l : Launch} {G : gG} {d : Nat} {X : gX} {M : gM} {k : gM → Prop} {o : Nat} (hX : gmX X o) {Q : gQ} (hO : gOld G Q) {x1 : Int} (hx1 : g32 x1) {x2 : Int} (hx2 : g32 x2) {x3 : Int} (hx3 : g32 x3) {x4 : Int} (hx4 : g32 x4) {x5 : Int} (hx5 : g32 x5) (T : (x2 ≤ x5 → ((x3 = 0 → ((x4 = 0 → (wp l G y_GM_word (gRm (d + 1)) true (kkV X k) true 186 [.val (gR G o), .val (gI x1), .val (gI x2), .unset, .unset, .unset, .unset, .unset, .unset, .unset] [] X M 0 0)) ∧ (¬ x4 = 0 → (((w32 (x2 - x1)) ≤ 1 → (wp l G y_GM_word (gRm (d + 1)) true (kkV X k) true 186 [.val (gR G o), .val (gI x1), .val (gI x2), .unset, .unset, .unset, .unset, .unset, .unset, .unset] [] X M 0 0)) ∧ (¬ (w32 (x2 - x1)) ≤ 1 → (cZ l G y_GM_spells (gRm d) false [gR G o, gI x1, gI x2, .ref (Q.2.1 5)] X M (fun v2 M1 => ((v2 = 0 → (cZ l G y_GM_spells (gRm d) false [gR G o, gI x1, gI x2, .ref (Q.2.1 6)] X M1 (fun v5 M4 => ((v5 = 0 → (wp l G y_GM_word (gRm (d + 1)) true (kkV X k) true 153 [.val (gR G o), .val (gI x1), .val (gI x2), .unset, .unset, .unset, .unset, .unset, .unset, .unset] [gI 4] X M4 0 0)) ∧ (¬ v5 = 0 → (wp l G y_GM_word (gRm (d + 1)) true (kkV X k) true 153 [.val (gR G o), .val (gI x1), .val (gI x2), .unset, .unset, .unset, .unset, .unset, .unset, .unset] [gI 6] X M4 0 0)))))) ∧ (¬ v2 = 0 → (wp l G y_GM_word (gRm (d + 1)) true (kkV X k) true 153 [.val (gR G o), .val (gI x1), .val (gI x2), .unset, .unset, .unset, .unset, .unset, .unset, .unset] [gI 5] X M1 0 0)))))))))) ∧ (¬ x3 = 0 → ((0 ≤ M o 27 ∧ M o 27 ≤ 1) → (cZ l G y_GM_isNumber (gRm d) true [gR G o, gR G (o + 1), gI x1, gI x2] X M (fun v13 M12 => ((¬ v13 = 0 → ((0 ≤ gOr (M o 27) 0 ∧ gOr (M o 27) 0 ≤ 1) ∧ (cV l G y_GM_token (gRm d) true [gR G o, gI 1, gI x1, gI x2] X (gUp M12 o 27 (gOr (M o 27) 0)) (fun M15 => ((0 ≤ M15 o 27 ∧ M15 o 27 ≤ 1) → ((¬ M15 o 27 = 0 → (k M15)) ∧ (M15 o 27 = 0 → (g32 (M15 o 24) → (g64 (M15 o 3) → (((0 : Int) ≤ (M15 o 24) - 1 ∧ (M15 o 24) - 1 < 101) ∧ (k (gUp M15 (o + 18) (Int.toNat ((M15 o 24) - 1)) (M15 o 3))))))))))))) ∧ (v13 = 0 → ((0 ≤ gOr (M o 27) 1 ∧ gOr (M o 27) 1 ≤ 1) ∧ (cV l G y_GM_token (gRm d) true [gR G o, gI 1, gI x1, gI x2] X (gUp M12 o 27 (gOr (M o 27) 1)) (fun M20 => ((0 ≤ M20 o 27 ∧ M20 o 27 ≤ 1) → ((¬ M20 o 27 = 0 → (k M20)) ∧ (M20 o 27 = 0 → (g32 (M20 o 24) → (g64 (M20 o 3) → (((0 : Int) ≤ (M20 o 24) - 1 ∧ (M20 o 24) - 1 < 101) ∧ (k (gUp M20 (o + 18) (Int.toNat ((M20 o 24) - 1)) (M20 o 3)))))))))))))))))))) ∧ (¬ x2 ≤ x5 → (((0 : Int) ≤ x5 ∧ x5 < 90000) ∧ ((-128 ≤ M (o + 1) (Int.toNat x5) ∧ M (o + 1) (Int.toNat x5) < 128) → (cZ l G y_GM_digit (gRm d) false [gI (M (o + 1) (Int.toNat x5))] X M (fun v29 M28 => (((0 : Int) ≤ x5 ∧ x5 < 90000) ∧ ((-128 ≤ M28 (o + 1) (Int.toNat x5) ∧ M28 (o + 1) (Int.toNat x5) < 128) → (cZ l G y_GM_capital (gRm d) false [gI (M28 (o + 1) (Int.toNat x5))] X M28 (fun v33 M32 => (wp l G y_GM_word (gRm (d + 1)) true (kkV X k) true 8 [.val (gR G o), .val (gI x1), .val (gI x2), .val (gI (gAnd x3 v29)), .val (gI (gAnd x4 v33)), .val (gI (w32 (x5 + 1))), .unset, .unset, .unset, .unset] [] X M32 0 0))))))))))) : wp l G y_GM_word (gRm (d + 1)) true (kkV X k) true 8 [.val (gR G o), .val (gI x1), .val (gI x2), .val (gI x3), .val (gI x4), .val (gI x5), .unset, .unset, .unset, .unset] [] X M 0 0 := by
  refine wp_iload d_GM_word_8 rfl ?_
  refine wp_iload_n d_GM_word_10 rfl rfl ?_
  refine xi_ge (tgt := 48) d_GM_word_11 (by decide) (w32_id hx5) (w32_id hx2) (fun h35 => ?_) (fun h35 => ?_)
  · have T := T.1 h35
    refine wp_iload_n d_GM_word_48 rfl rfl ?_
    refine xz_eq (tgt := 109) d_GM_word_49 (by decide) (w32_id hx3) (fun h26 => ?_) (fun h26 => ?_)
    · have T := T.1 h26
      refine wp_iload d_GM_word_109 rfl ?_
      refine xz_eq (tgt := 186) d_GM_word_111 (by decide) (w32_id hx4) (fun h10 => ?_) (fun h10 => ?_)
      · have T := T.1 h10
        exact wp_md (wpt T (And.intro rfl (And.intro rfl (And.intro rfl True.intro))))
      · have T := T.2 h10
        refine wp_iload_n d_GM_word_114 rfl rfl ?_
        refine wp_iload_n d_GM_word_115 rfl rfl ?_
        refine wp_isub d_GM_word_116 ?_
        refine wp_iconst d_GM_word_117 ?_
        refine xi_le (tgt := 186) d_GM_word_118 (by decide) rfl (w32_id (g32_c (x := 1) rfl)) (fun h9 => ?_) (fun h9 => ?_)
        · have T := T.1 h9
          exact wp_md (wpt T (And.intro rfl (And.intro rfl (And.intro rfl True.intro))))
        · have T := T.2 h9
          refine wp_aload_n d_GM_word_121 rfl rfl (g_nz hX.1) ?_
          refine wp_iload_n d_GM_word_122 rfl rfl ?_
          refine wp_iload_n d_GM_word_123 rfl rfl ?_
          refine wp_ldcS d_GM_word_124 (fun U hU => ((hO U hU).2.1 5 (by decide)).2.2.2.2 ("GridLedgerModel", 193, "TRUE") rfl) ?_
          refine xcV_Z (md' := true) (As := [gI x1, gI x2, .ref (Q.2.1 5)]) (st := []) d_GM_word_126 ca_GM_spells ml_GM_195 im_GM_spells se_GM_spells gc_GM hX.1 (gm_o2 hX) hX.2.2.1 rfl (by decide) (by decide) rfl (fun _ => rfl) (fun _ => rfl) T (fun v2 M1 h3 T => ?_)
          refine xz_eq (tgt := 136) d_GM_word_129 (by decide) (w32_id (g32_z h3)) (fun h8 => ?_) (fun h8 => ?_)
          · have T := T.1 h8
            refine wp_aload_n d_GM_word_136 rfl rfl (g_nz hX.1) ?_
            refine wp_iload_n d_GM_word_137 rfl rfl ?_
            refine wp_iload_n d_GM_word_138 rfl rfl ?_
            refine wp_ldcS d_GM_word_139 (fun U hU => ((hO U hU).2.1 6 (by decide)).2.2.2.2 ("GridLedgerModel", 199, "FALSE") rfl) ?_
            refine xcV_Z (md' := true) (As := [gI x1, gI x2, .ref (Q.2.1 6)]) (st := []) d_GM_word_141 ca_GM_spells ml_GM_195 im_GM_spells se_GM_spells gc_GM hX.1 (gm_o2 hX) hX.2.2.1 rfl (by decide) (by decide) rfl (fun _ => rfl) (fun _ => rfl) T (fun v5 M4 h6 T => ?_)
            refine xz_eq (tgt := 152) d_GM_word_144 (by decide) (w32_id (g32_z h6)) (fun h7 => ?_) (fun h7 => ?_)
            · have T := T.1 h7
              refine wp_iconst d_GM_word_152 ?_
              exact wp_md (wpt T (And.intro rfl (And.intro rfl (And.intro rfl True.intro))))
            · have T := T.2 h7
              refine wp_bipush d_GM_word_147 ⟨by decide, by decide⟩ ?_
              refine wp_goto (tgt := 153) d_GM_word_149 (by decide) ?_
              exact wp_md (wpt T (And.intro rfl (And.intro rfl (And.intro rfl True.intro))))
          · have T := T.2 h8
            refine wp_iconst d_GM_word_132 ?_
            refine wp_goto (tgt := 153) d_GM_word_133 (by decide) ?_
            exact wp_md (wpt T (And.intro rfl (And.intro rfl (And.intro rfl True.intro))))
    · have T := T.2 h26
      refine wp_aload_n d_GM_word_52 rfl rfl (g_nz hX.1) ?_
      refine wp_dup d_GM_word_53 (gR_cat _) ?_
      refine xgetZ d_GM_word_54 gc_GM f_GM_181.1 f_GM_181.2.1 f_GM_181.2.2.1 hX.1 (gm_o2 hX) hX.2.2.1 f_GM_181.2.2.2.2.1 (fun h11 => ?_)
      have T := T h11
      refine wp_aload_n d_GM_word_57 rfl rfl (g_nz hX.1) ?_
      refine wp_aload_n d_GM_word_58 rfl rfl (g_nz hX.1) ?_
      refine xgetR d_GM_word_59 gc_GM f_GM_8.1 f_GM_8.2.1 f_GM_8.2.2.1 hX.1 (gm_o2 hX) hX.2.2.1 f_GM_8.2.2.2.2.1 (gm_row hX 0 rfl).1 ?_
      refine wp_iload_n d_GM_word_62 rfl rfl ?_
      refine wp_iload_n d_GM_word_63 rfl rfl ?_
      refine xcV_Z (md' := true) (As := [gR G (o + 1), gI x1, gI x2]) (st := [gI (M o 27), gR G o]) d_GM_word_64 ca_GM_isNumber ml_GM_185 im_GM_isNumber se_GM_isNumber gc_GM hX.1 (gm_o2 hX) hX.2.2.1 rfl (by decide) (by simp only [List.map, gR_cat, gI_cat, gL_cat, List.sum_cons, List.sum_nil]; decide) rfl (fun _ => rfl) (fun _ => rfl) T (fun v13 M12 h14 T => ?_)
      refine xz_ne (tgt := 74) d_GM_word_67 (by decide) (w32_id (g32_z h14)) (fun h25 => ?_) (fun h25 => ?_)
      · have T := T.1 h25
        refine wp_iconst d_GM_word_74 ?_
        refine wp_ior d_GM_word_75 ?_
        refine xputZ d_GM_word_76 gc_GM f_GM_181.1 f_GM_181.2.1 f_GM_181.2.2.1 hX.1 (gm_o2 hX) hX.2.2.1 f_GM_181.2.2.2.1 f_GM_181.2.2.2.2.1 f_GM_181.2.2.2.2.2 T.1 ?_
        have T := T.2
        refine wp_aload_n d_GM_word_79 rfl rfl (g_nz hX.1) ?_
        refine wp_iconst d_GM_word_80 ?_
        refine wp_iload_n d_GM_word_81 rfl rfl ?_
        refine wp_iload_n d_GM_word_82 rfl rfl ?_
        refine xcV_V (md' := true) (As := [gI 1, gI x1, gI x2]) (st := []) d_GM_word_83 ca_GM_token ml_GM_189 im_GM_token se_GM_token gc_GM hX.1 (gm_o2 hX) hX.2.2.1 rfl (by decide) (by decide) rfl (fun _ => rfl) (fun _ => rfl) T (fun M15 T => ?_)
        refine wp_aload_n d_GM_word_86 rfl rfl (g_nz hX.1) ?_
        refine xgetZ d_GM_word_87 gc_GM f_GM_181.1 f_GM_181.2.1 f_GM_181.2.2.1 hX.1 (gm_o2 hX) hX.2.2.1 f_GM_181.2.2.2.2.1 (fun h16 => ?_)
        have T := T h16
        refine xz_ne (tgt := 108) d_GM_word_90 (by decide) (w32_id (g32_z h16)) (fun h19 => ?_) (fun h19 => ?_)
        · have T := T.1 h19
          exact wp_return d_GM_word_108 rfl (fun _ => rfl) (Nat.zero_le _) (Nat.zero_le _) (kV_mk T)
        · have T := T.2 h19
          refine wp_aload_n d_GM_word_93 rfl rfl (g_nz hX.1) ?_
          refine xgetR d_GM_word_94 gc_GM f_GM_65.1 f_GM_65.2.1 f_GM_65.2.2.1 hX.1 (gm_o2 hX) hX.2.2.1 f_GM_65.2.2.2.2.1 (gm_row hX 17 rfl).1 ?_
          refine wp_aload_n d_GM_word_97 rfl rfl (g_nz hX.1) ?_
          refine xgetI d_GM_word_98 gc_GM f_GM_178.1 f_GM_178.2.1 f_GM_178.2.2.1 hX.1 (gm_o2 hX) hX.2.2.1 f_GM_178.2.2.2.2.1 (fun h17 => ?_)
          have T := T h17
          refine wp_iconst d_GM_word_101 ?_
          refine wp_isub d_GM_word_102 ?_
          refine wp_aload_n d_GM_word_103 rfl rfl (g_nz hX.1) ?_
          refine xgetJ d_GM_word_104 gc_GM f_GM_174.1 f_GM_174.2.1 f_GM_174.2.2.1 hX.1 (gm_o2 hX) hX.2.2.1 f_GM_174.2.2.2.2.1 (fun h18 => ?_)
          have T := T h18
          refine xlast d_GM_word_107 (gm_row hX 17 rfl).2.2.1 (gm_row hX 17 rfl).2.2.2 (gm_row hX 17 rfl).2.1 (by decide) T.1 (w64_id h18) ?_
          have T := T.2
          exact wp_return d_GM_word_108 rfl (fun _ => rfl) (Nat.zero_le _) (Nat.zero_le _) (kV_mk T)
      · have T := T.2 h25
        refine wp_iconst d_GM_word_70 ?_
        refine wp_goto (tgt := 75) d_GM_word_71 (by decide) ?_
        refine wp_ior d_GM_word_75 ?_
        refine xputZ d_GM_word_76 gc_GM f_GM_181.1 f_GM_181.2.1 f_GM_181.2.2.1 hX.1 (gm_o2 hX) hX.2.2.1 f_GM_181.2.2.2.1 f_GM_181.2.2.2.2.1 f_GM_181.2.2.2.2.2 T.1 ?_
        have T := T.2
        refine wp_aload_n d_GM_word_79 rfl rfl (g_nz hX.1) ?_
        refine wp_iconst d_GM_word_80 ?_
        refine wp_iload_n d_GM_word_81 rfl rfl ?_
        refine wp_iload_n d_GM_word_82 rfl rfl ?_
        refine xcV_V (md' := true) (As := [gI 1, gI x1, gI x2]) (st := []) d_GM_word_83 ca_GM_token ml_GM_189 im_GM_token se_GM_token gc_GM hX.1 (gm_o2 hX) hX.2.2.1 rfl (by decide) (by decide) rfl (fun _ => rfl) (fun _ => rfl) T (fun M20 T => ?_)
        refine wp_aload_n d_GM_word_86 rfl rfl (g_nz hX.1) ?_
        refine xgetZ d_GM_word_87 gc_GM f_GM_181.1 f_GM_181.2.1 f_GM_181.2.2.1 hX.1 (gm_o2 hX) hX.2.2.1 f_GM_181.2.2.2.2.1 (fun h21 => ?_)
        have T := T h21
        refine xz_ne (tgt := 108) d_GM_word_90 (by decide) (w32_id (g32_z h21)) (fun h24 => ?_) (fun h24 => ?_)
        · have T := T.1 h24
          exact wp_return d_GM_word_108 rfl (fun _ => rfl) (Nat.zero_le _) (Nat.zero_le _) (kV_mk T)
        · have T := T.2 h24
          refine wp_aload_n d_GM_word_93 rfl rfl (g_nz hX.1) ?_
          refine xgetR d_GM_word_94 gc_GM f_GM_65.1 f_GM_65.2.1 f_GM_65.2.2.1 hX.1 (gm_o2 hX) hX.2.2.1 f_GM_65.2.2.2.2.1 (gm_row hX 17 rfl).1 ?_
          refine wp_aload_n d_GM_word_97 rfl rfl (g_nz hX.1) ?_
          refine xgetI d_GM_word_98 gc_GM f_GM_178.1 f_GM_178.2.1 f_GM_178.2.2.1 hX.1 (gm_o2 hX) hX.2.2.1 f_GM_178.2.2.2.2.1 (fun h22 => ?_)
          have T := T h22
          refine wp_iconst d_GM_word_101 ?_
          refine wp_isub d_GM_word_102 ?_
          refine wp_aload_n d_GM_word_103 rfl rfl (g_nz hX.1) ?_
          refine xgetJ d_GM_word_104 gc_GM f_GM_174.1 f_GM_174.2.1 f_GM_174.2.2.1 hX.1 (gm_o2 hX) hX.2.2.1 f_GM_174.2.2.2.2.1 (fun h23 => ?_)
          have T := T h23
          refine xlast d_GM_word_107 (gm_row hX 17 rfl).2.2.1 (gm_row hX 17 rfl).2.2.2 (gm_row hX 17 rfl).2.1 (by decide) T.1 (w64_id h23) ?_
          have T := T.2
          exact wp_return d_GM_word_108 rfl (fun _ => rfl) (Nat.zero_le _) (Nat.zero_le _) (kV_mk T)
  · have T := T.2 h35
    refine wp_iload_n d_GM_word_14 rfl rfl ?_
    refine wp_aload_n d_GM_word_15 rfl rfl (g_nz hX.1) ?_
    refine xgetR d_GM_word_16 gc_GM f_GM_8.1 f_GM_8.2.1 f_GM_8.2.2.1 hX.1 (gm_o2 hX) hX.2.2.1 f_GM_8.2.2.2.2.1 (gm_row hX 0 rfl).1 ?_
    refine wp_iload d_GM_word_19 rfl ?_
    refine wp_baload d_GM_word_21 (gm_row hX 0 rfl).2.2.1 (gm_row hX 0 rfl).2.2.2 (gm_row hX 0 rfl).2.1 (g32_n T.1 (by decide)) T.1.1 T.1.2 (fun h27 => ?_)
    have T := T.2 h27
    refine xcS_Z (md' := true) (As := [gI (M (o + 1) (Int.toNat x5))]) (st := [gI x3]) d_GM_word_22 ca_GM_digit ml_GM_165 sm_GM_digit rfl (by decide) (by simp only [List.map, gR_cat, gI_cat, gL_cat, List.sum_cons, List.sum_nil]; decide) rfl (fun _ => rfl) (fun _ => rfl) T (fun v29 M28 h30 T => ?_)
    refine wp_iand d_GM_word_25 ?_
    refine wp_istore_n (L' := [.val (gR G o), .val (gI x1), .val (gI x2), .val (gI (gAnd x3 v29)), .val (gI x4), .val (gI x5), .unset, .unset, .unset, .unset]) d_GM_word_26 rfl (by decide) rfl ?_
    refine wp_iload d_GM_word_27 rfl ?_
    refine wp_aload_n d_GM_word_29 rfl rfl (g_nz hX.1) ?_
    refine xgetR d_GM_word_30 gc_GM f_GM_8.1 f_GM_8.2.1 f_GM_8.2.2.1 hX.1 (gm_o2 hX) hX.2.2.1 f_GM_8.2.2.2.2.1 (gm_row hX 0 rfl).1 ?_
    refine wp_iload d_GM_word_33 rfl ?_
    refine wp_baload d_GM_word_35 (gm_row hX 0 rfl).2.2.1 (gm_row hX 0 rfl).2.2.2 (gm_row hX 0 rfl).2.1 (g32_n T.1 (by decide)) T.1.1 T.1.2 (fun h31 => ?_)
    have T := T.2 h31
    refine xcS_Z (md' := true) (As := [gI (M28 (o + 1) (Int.toNat x5))]) (st := [gI x4]) d_GM_word_36 ca_GM_capital ml_GM_161 sm_GM_capital rfl (by decide) (by simp only [List.map, gR_cat, gI_cat, gL_cat, List.sum_cons, List.sum_nil]; decide) rfl (fun _ => rfl) (fun _ => rfl) T (fun v33 M32 h34 T => ?_)
    refine wp_iand d_GM_word_39 ?_
    refine wp_istore (L' := [.val (gR G o), .val (gI x1), .val (gI x2), .val (gI (gAnd x3 v29)), .val (gI (gAnd x4 v33)), .val (gI x5), .unset, .unset, .unset, .unset]) d_GM_word_40 (by decide) rfl ?_
    refine wp_iinc (L' := [.val (gR G o), .val (gI x1), .val (gI x2), .val (gI (gAnd x3 v29)), .val (gI (gAnd x4 v33)), .val (gI (x5 + 1)), .unset, .unset, .unset, .unset]) d_GM_word_42 rfl (by decide) rfl ?_
    refine wp_goto (tgt := 8) d_GM_word_45 (by decide) ?_
    exact wp_md (wpt T (And.intro rfl (And.intro rfl (And.intro rfl (And.intro rfl (And.intro rfl (And.intro (gI_w _) True.intro)))))))
set_option maxHeartbeats 4000000 in
theorem w_GM_word_186 {l : Launch} {G : gG} {d : Nat} {X : gX} {M : gM} {k : gM → Prop} {o : Nat} (hX : gmX X o) {Q : gQ} (hO : gOld G Q) {x1 : Int} (hx1 : g32 x1) {x2 : Int} (hx2 : g32 x2) (T : ((0 : Int) ≤ x1 ∧ x1 < 90000) ∧ ((-128 ≤ M (o + 1) (Int.toNat x1) ∧ M (o + 1) (Int.toNat x1) < 128) → ((¬ M (o + 1) (Int.toNat x1) = 36 → (wp l G y_GM_word (gRm (d + 1)) true (kkV X k) true 210 [.val (gR G o), .val (gI x1), .val (gI x2), .unset, .unset, .val (gI x1), .val (gI 0), .unset, .unset, .unset] [] X M 0 0)) ∧ (M (o + 1) (Int.toNat x1) = 36 → (wp l G y_GM_word (gRm (d + 1)) true (kkV X k) true 210 [.val (gR G o), .val (gI x1), .val (gI x2), .unset, .unset, .val (gI (w32 (x1 + 1))), .val (gI 1), .unset, .unset, .unset] [] X M 0 0))))) : wp l G y_GM_word (gRm (d + 1)) true (kkV X k) true 186 [.val (gR G o), .val (gI x1), .val (gI x2), .unset, .unset, .unset, .unset, .unset, .unset, .unset] [] X M 0 0 := by
  refine wp_iload_n d_GM_word_186 rfl rfl ?_
  refine wp_istore (L' := [.val (gR G o), .val (gI x1), .val (gI x2), .unset, .unset, .val (gI x1), .unset, .unset, .unset, .unset]) d_GM_word_187 (by decide) rfl ?_
  refine wp_iconst d_GM_word_189 ?_
  refine wp_istore (L' := [.val (gR G o), .val (gI x1), .val (gI x2), .unset, .unset, .val (gI x1), .val (gI 0), .unset, .unset, .unset]) d_GM_word_190 (by decide) rfl ?_
  refine wp_aload_n d_GM_word_192 rfl rfl (g_nz hX.1) ?_
  refine xgetR d_GM_word_193 gc_GM f_GM_8.1 f_GM_8.2.1 f_GM_8.2.2.1 hX.1 (gm_o2 hX) hX.2.2.1 f_GM_8.2.2.2.2.1 (gm_row hX 0 rfl).1 ?_
  refine wp_iload d_GM_word_196 rfl ?_
  refine wp_baload d_GM_word_198 (gm_row hX 0 rfl).2.2.1 (gm_row hX 0 rfl).2.2.2 (gm_row hX 0 rfl).2.1 (g32_n T.1 (by decide)) T.1.1 T.1.2 (fun h36 => ?_)
  have T := T.2 h36
  refine wp_bipush d_GM_word_199 ⟨by decide, by decide⟩ ?_
  refine xi_ne (tgt := 210) d_GM_word_201 (by decide) (w32_id (g32_b h36)) (w32_id (g32_c (x := 36) rfl)) (fun h37 => ?_) (fun h37 => ?_)
  · have T := T.1 h37
    exact wp_md (wpt T (And.intro rfl (And.intro rfl (And.intro rfl (And.intro rfl (And.intro rfl True.intro))))))
  · have T := T.2 h37
    refine wp_iconst d_GM_word_204 ?_
    refine wp_istore (L' := [.val (gR G o), .val (gI x1), .val (gI x2), .unset, .unset, .val (gI x1), .val (gI 1), .unset, .unset, .unset]) d_GM_word_205 (by decide) rfl ?_
    refine wp_iinc (L' := [.val (gR G o), .val (gI x1), .val (gI x2), .unset, .unset, .val (gI (x1 + 1)), .val (gI 1), .unset, .unset, .unset]) d_GM_word_207 rfl (by decide) rfl ?_
    exact wp_md (wpt T (And.intro rfl (And.intro rfl (And.intro rfl (And.intro (gI_w _) (And.intro rfl True.intro))))))
set_option maxHeartbeats 4000000 in
theorem w_GM_word_153 {l : Launch} {G : gG} {d : Nat} {X : gX} {M : gM} {k : gM → Prop} {o : Nat} (hX : gmX X o) {Q : gQ} (hO : gOld G Q) {x1 : Int} (hx1 : g32 x1) {x2 : Int} (hx2 : g32 x2) {s0 : Int} (hs0 : g32 s0) (T : (0 ≤ M o 27 ∧ M o 27 ≤ 1) → (((w32 (x2 - x1)) ≤ 12 → ((0 ≤ gOr (M o 27) 0 ∧ gOr (M o 27) 0 ≤ 1) ∧ (cV l G y_GM_token (gRm d) true [gR G o, gI s0, gI x1, gI x2] X (gUp M o 27 (gOr (M o 27) 0)) (fun M39 => (k M39))))) ∧ (¬ (w32 (x2 - x1)) ≤ 12 → ((0 ≤ gOr (M o 27) 1 ∧ gOr (M o 27) 1 ≤ 1) ∧ (cV l G y_GM_token (gRm d) true [gR G o, gI s0, gI x1, gI x2] X (gUp M o 27 (gOr (M o 27) 1)) (fun M40 => (k M40))))))) : wp l G y_GM_word (gRm (d + 1)) true (kkV X k) true 153 [.val (gR G o), .val (gI x1), .val (gI x2), .unset, .unset, .unset, .unset, .unset, .unset, .unset] [gI s0] X M 0 0 := by
  refine wp_istore (L' := [.val (gR G o), .val (gI x1), .val (gI x2), .unset, .unset, .val (gI s0), .unset, .unset, .unset, .unset]) d_GM_word_153 (by decide) rfl ?_
  refine wp_aload_n d_GM_word_155 rfl rfl (g_nz hX.1) ?_
  refine wp_dup d_GM_word_156 (gR_cat _) ?_
  refine xgetZ d_GM_word_157 gc_GM f_GM_181.1 f_GM_181.2.1 f_GM_181.2.2.1 hX.1 (gm_o2 hX) hX.2.2.1 f_GM_181.2.2.2.2.1 (fun h38 => ?_)
  have T := T h38
  refine wp_iload_n d_GM_word_160 rfl rfl ?_
  refine wp_iload_n d_GM_word_161 rfl rfl ?_
  refine wp_isub d_GM_word_162 ?_
  refine wp_bipush d_GM_word_163 ⟨by decide, by decide⟩ ?_
  refine xi_le (tgt := 172) d_GM_word_165 (by decide) rfl (w32_id (g32_c (x := 12) rfl)) (fun h41 => ?_) (fun h41 => ?_)
  · have T := T.1 h41
    refine wp_iconst d_GM_word_172 ?_
    refine wp_ior d_GM_word_173 ?_
    refine xputZ d_GM_word_174 gc_GM f_GM_181.1 f_GM_181.2.1 f_GM_181.2.2.1 hX.1 (gm_o2 hX) hX.2.2.1 f_GM_181.2.2.2.1 f_GM_181.2.2.2.2.1 f_GM_181.2.2.2.2.2 T.1 ?_
    have T := T.2
    refine wp_aload_n d_GM_word_177 rfl rfl (g_nz hX.1) ?_
    refine wp_iload d_GM_word_178 rfl ?_
    refine wp_iload_n d_GM_word_180 rfl rfl ?_
    refine wp_iload_n d_GM_word_181 rfl rfl ?_
    refine xcV_V (md' := true) (As := [gI s0, gI x1, gI x2]) (st := []) d_GM_word_182 ca_GM_token ml_GM_189 im_GM_token se_GM_token gc_GM hX.1 (gm_o2 hX) hX.2.2.1 rfl (by decide) (by decide) rfl (fun _ => rfl) (fun _ => rfl) T (fun M39 T => ?_)
    exact wp_return d_GM_word_185 rfl (fun _ => rfl) (Nat.zero_le _) (Nat.zero_le _) (kV_mk T)
  · have T := T.2 h41
    refine wp_iconst d_GM_word_168 ?_
    refine wp_goto (tgt := 173) d_GM_word_169 (by decide) ?_
    refine wp_ior d_GM_word_173 ?_
    refine xputZ d_GM_word_174 gc_GM f_GM_181.1 f_GM_181.2.1 f_GM_181.2.2.1 hX.1 (gm_o2 hX) hX.2.2.1 f_GM_181.2.2.2.1 f_GM_181.2.2.2.2.1 f_GM_181.2.2.2.2.2 T.1 ?_
    have T := T.2
    refine wp_aload_n d_GM_word_177 rfl rfl (g_nz hX.1) ?_
    refine wp_iload d_GM_word_178 rfl ?_
    refine wp_iload_n d_GM_word_180 rfl rfl ?_
    refine wp_iload_n d_GM_word_181 rfl rfl ?_
    refine xcV_V (md' := true) (As := [gI s0, gI x1, gI x2]) (st := []) d_GM_word_182 ca_GM_token ml_GM_189 im_GM_token se_GM_token gc_GM hX.1 (gm_o2 hX) hX.2.2.1 rfl (by decide) (by decide) rfl (fun _ => rfl) (fun _ => rfl) T (fun M40 T => ?_)
    exact wp_return d_GM_word_185 rfl (fun _ => rfl) (Nat.zero_le _) (Nat.zero_le _) (kV_mk T)
set_option maxHeartbeats 4000000 in
theorem w_GM_word_210 {l : Launch} {G : gG} {d : Nat} {X : gX} {M : gM} {k : gM → Prop} {o : Nat} (hX : gmX X o) {Q : gQ} (hO : gOld G Q) {x1 : Int} (hx1 : g32 x1) {x2 : Int} (hx2 : g32 x2) {x5 : Int} (hx5 : g32 x5) {x6 : Int} (hx6 : g32 x6) (T : (x2 ≤ x5 → (wp l G y_GM_word (gRm (d + 1)) true (kkV X k) true 233 [.val (gR G o), .val (gI x1), .val (gI x2), .unset, .unset, .val (gI x5), .val (gI x6), .unset, .unset, .unset] [] X M 0 0)) ∧ (¬ x2 ≤ x5 → (((0 : Int) ≤ x5 ∧ x5 < 90000) ∧ ((-128 ≤ M (o + 1) (Int.toNat x5) ∧ M (o + 1) (Int.toNat x5) < 128) → (cZ l G y_GM_capital (gRm d) false [gI (M (o + 1) (Int.toNat x5))] X M (fun v44 M43 => ((v44 = 0 → (wp l G y_GM_word (gRm (d + 1)) true (kkV X k) true 233 [.val (gR G o), .val (gI x1), .val (gI x2), .unset, .unset, .val (gI x5), .val (gI x6), .unset, .unset, .unset] [] X M43 0 0)) ∧ (¬ v44 = 0 → (wp l G y_GM_word (gRm (d + 1)) true (kkV X k) true 234 [.val (gR G o), .val (gI x1), .val (gI x2), .unset, .unset, .val (gI x5), .val (gI x6), .unset, .unset, .unset] [gI 1] X M43 0 0))))))))) : wp l G y_GM_word (gRm (d + 1)) true (kkV X k) true 210 [.val (gR G o), .val (gI x1), .val (gI x2), .unset, .unset, .val (gI x5), .val (gI x6), .unset, .unset, .unset] [] X M 0 0 := by
  refine wp_iload d_GM_word_210 rfl ?_
  refine wp_iload_n d_GM_word_212 rfl rfl ?_
  refine xi_ge (tgt := 233) d_GM_word_213 (by decide) (w32_id hx5) (w32_id hx2) (fun h47 => ?_) (fun h47 => ?_)
  · have T := T.1 h47
    exact wp_md (wpt T (And.intro rfl (And.intro rfl (And.intro rfl (And.intro rfl (And.intro rfl True.intro))))))
  · have T := T.2 h47
    refine wp_aload_n d_GM_word_216 rfl rfl (g_nz hX.1) ?_
    refine xgetR d_GM_word_217 gc_GM f_GM_8.1 f_GM_8.2.1 f_GM_8.2.2.1 hX.1 (gm_o2 hX) hX.2.2.1 f_GM_8.2.2.2.2.1 (gm_row hX 0 rfl).1 ?_
    refine wp_iload d_GM_word_220 rfl ?_
    refine wp_baload d_GM_word_222 (gm_row hX 0 rfl).2.2.1 (gm_row hX 0 rfl).2.2.2 (gm_row hX 0 rfl).2.1 (g32_n T.1 (by decide)) T.1.1 T.1.2 (fun h42 => ?_)
    have T := T.2 h42
    refine xcS_Z (md' := true) (As := [gI (M (o + 1) (Int.toNat x5))]) (st := []) d_GM_word_223 ca_GM_capital ml_GM_161 sm_GM_capital rfl (by decide) (by decide) rfl (fun _ => rfl) (fun _ => rfl) T (fun v44 M43 h45 T => ?_)
    refine xz_eq (tgt := 233) d_GM_word_226 (by decide) (w32_id (g32_z h45)) (fun h46 => ?_) (fun h46 => ?_)
    · have T := T.1 h46
      exact wp_md (wpt T (And.intro rfl (And.intro rfl (And.intro rfl (And.intro rfl (And.intro rfl True.intro))))))
    · have T := T.2 h46
      refine wp_iconst d_GM_word_229 ?_
      refine wp_goto (tgt := 234) d_GM_word_230 (by decide) ?_
      exact wp_md (wpt T (And.intro rfl (And.intro rfl (And.intro rfl (And.intro rfl (And.intro rfl True.intro))))))
set_option maxHeartbeats 4000000 in
theorem w_GM_word_233 {l : Launch} {G : gG} {d : Nat} {X : gX} {M : gM} {k : gM → Prop} {o : Nat} (hX : gmX X o) {Q : gQ} (hO : gOld G Q) {x1 : Int} (hx1 : g32 x1) {x2 : Int} (hx2 : g32 x2) {x5 : Int} (hx5 : g32 x5) {x6 : Int} (hx6 : g32 x6) (T : wp l G y_GM_word (gRm (d + 1)) true (kkV X k) true 234 [.val (gR G o), .val (gI x1), .val (gI x2), .unset, .unset, .val (gI x5), .val (gI x6), .unset, .unset, .unset] [gI 0] X M 0 0) : wp l G y_GM_word (gRm (d + 1)) true (kkV X k) true 233 [.val (gR G o), .val (gI x1), .val (gI x2), .unset, .unset, .val (gI x5), .val (gI x6), .unset, .unset, .unset] [] X M 0 0 := by
  refine wp_iconst d_GM_word_233 ?_
  exact wp_md (wpt T (And.intro rfl (And.intro rfl (And.intro rfl (And.intro rfl (And.intro rfl True.intro))))))
set_option maxHeartbeats 4000000 in
theorem w_GM_word_234 {l : Launch} {G : gG} {d : Nat} {X : gX} {M : gM} {k : gM → Prop} {o : Nat} (hX : gmX X o) {Q : gQ} (hO : gOld G Q) {x1 : Int} (hx1 : g32 x1) {x2 : Int} (hx2 : g32 x2) {x5 : Int} (hx5 : g32 x5) {x6 : Int} (hx6 : g32 x6) {s0 : Int} (hs0 : g32 s0) (T : (s0 = 0 → ((s0 = 0 → (wp l G y_GM_word (gRm (d + 1)) true (kkV X k) true 289 [.val (gR G o), .val (gI x1), .val (gI x2), .unset, .unset, .val (gI (w32 (x5 + 1))), .val (gI x6), .val (gI s0), .val (gI 0), .unset] [] X M 0 0)) ∧ (¬ s0 = 0 → ((x2 ≤ (w32 (x5 + 1)) → (wp l G y_GM_word (gRm (d + 1)) true (kkV X k) true 289 [.val (gR G o), .val (gI x1), .val (gI x2), .unset, .unset, .val (gI (w32 (x5 + 1))), .val (gI x6), .val (gI s0), .val (gI 0), .unset] [] X M 0 0)) ∧ (¬ x2 ≤ (w32 (x5 + 1)) → (((0 : Int) ≤ x5 + 1 ∧ x5 + 1 < 90000) ∧ ((-128 ≤ M (o + 1) (Int.toNat (x5 + 1)) ∧ M (o + 1) (Int.toNat (x5 + 1)) < 128) → ((¬ M (o + 1) (Int.toNat (x5 + 1)) = 36 → (wp l G y_GM_word (gRm (d + 1)) true (kkV X k) true 289 [.val (gR G o), .val (gI x1), .val (gI x2), .unset, .unset, .val (gI (w32 (x5 + 1))), .val (gI x6), .val (gI s0), .val (gI 0), .unset] [] X M 0 0)) ∧ (M (o + 1) (Int.toNat (x5 + 1)) = 36 → (wp l G y_GM_word (gRm (d + 1)) true (kkV X k) true 289 [.val (gR G o), .val (gI x1), .val (gI x2), .unset, .unset, .val (gI (w32 (x5 + 1 + 1))), .val (gI (w32 (x6 + 2))), .val (gI s0), .val (gI 0), .unset] [] X M 0 0)))))))))) ∧ (¬ s0 = 0 → (((0 : Int) ≤ x5 ∧ x5 < 90000) ∧ ((-128 ≤ M (o + 1) (Int.toNat x5) ∧ M (o + 1) (Int.toNat x5) < 128) → ((s0 = 0 → (wp l G y_GM_word (gRm (d + 1)) true (kkV X k) true 289 [.val (gR G o), .val (gI x1), .val (gI x2), .unset, .unset, .val (gI (w32 (x5 + 1))), .val (gI x6), .val (gI s0), .val (gI (w32 ((M (o + 1) (Int.toNat x5)) - 65))), .unset] [] X M 0 0)) ∧ (¬ s0 = 0 → ((x2 ≤ (w32 (x5 + 1)) → (wp l G y_GM_word (gRm (d + 1)) true (kkV X k) true 289 [.val (gR G o), .val (gI x1), .val (gI x2), .unset, .unset, .val (gI (w32 (x5 + 1))), .val (gI x6), .val (gI s0), .val (gI (w32 ((M (o + 1) (Int.toNat x5)) - 65))), .unset] [] X M 0 0)) ∧ (¬ x2 ≤ (w32 (x5 + 1)) → (((0 : Int) ≤ x5 + 1 ∧ x5 + 1 < 90000) ∧ ((-128 ≤ M (o + 1) (Int.toNat (x5 + 1)) ∧ M (o + 1) (Int.toNat (x5 + 1)) < 128) → ((¬ M (o + 1) (Int.toNat (x5 + 1)) = 36 → (wp l G y_GM_word (gRm (d + 1)) true (kkV X k) true 289 [.val (gR G o), .val (gI x1), .val (gI x2), .unset, .unset, .val (gI (w32 (x5 + 1))), .val (gI x6), .val (gI s0), .val (gI (w32 ((M (o + 1) (Int.toNat x5)) - 65))), .unset] [] X M 0 0)) ∧ (M (o + 1) (Int.toNat (x5 + 1)) = 36 → (wp l G y_GM_word (gRm (d + 1)) true (kkV X k) true 289 [.val (gR G o), .val (gI x1), .val (gI x2), .unset, .unset, .val (gI (w32 (x5 + 1 + 1))), .val (gI (w32 (x6 + 2))), .val (gI s0), .val (gI (w32 ((M (o + 1) (Int.toNat x5)) - 65))), .unset] [] X M 0 0))))))))))))) : wp l G y_GM_word (gRm (d + 1)) true (kkV X k) true 234 [.val (gR G o), .val (gI x1), .val (gI x2), .unset, .unset, .val (gI x5), .val (gI x6), .unset, .unset, .unset] [gI s0] X M 0 0 := by
  refine wp_istore (L' := [.val (gR G o), .val (gI x1), .val (gI x2), .unset, .unset, .val (gI x5), .val (gI x6), .val (gI s0), .unset, .unset]) d_GM_word_234 (by decide) rfl ?_
  refine wp_iload d_GM_word_236 rfl ?_
  refine xz_eq (tgt := 254) d_GM_word_238 (by decide) (w32_id hs0) (fun h57 => ?_) (fun h57 => ?_)
  · have T := T.1 h57
    refine wp_iconst d_GM_word_254 ?_
    refine wp_istore (L' := [.val (gR G o), .val (gI x1), .val (gI x2), .unset, .unset, .val (gI x5), .val (gI x6), .val (gI s0), .val (gI 0), .unset]) d_GM_word_255 (by decide) rfl ?_
    refine wp_iinc (L' := [.val (gR G o), .val (gI x1), .val (gI x2), .unset, .unset, .val (gI (x5 + 1)), .val (gI x6), .val (gI s0), .val (gI 0), .unset]) d_GM_word_257 rfl (by decide) rfl ?_
    refine wp_iload d_GM_word_260 rfl ?_
    refine xz_eq (tgt := 289) d_GM_word_262 (by decide) (w32_id hs0) (fun h51 => ?_) (fun h51 => ?_)
    · have T := T.1 h51
      exact wp_md (wpt T (And.intro rfl (And.intro rfl (And.intro rfl (And.intro (gI_w _) (And.intro rfl (And.intro rfl (And.intro rfl True.intro))))))))
    · have T := T.2 h51
      refine wp_iload d_GM_word_265 rfl ?_
      refine wp_iload_n d_GM_word_267 rfl rfl ?_
      refine xi_ge (tgt := 289) d_GM_word_268 (by decide) rfl (w32_id hx2) (fun h50 => ?_) (fun h50 => ?_)
      · have T := T.1 h50
        exact wp_md (wpt T (And.intro rfl (And.intro rfl (And.intro rfl (And.intro (gI_w _) (And.intro rfl (And.intro rfl (And.intro rfl True.intro))))))))
      · have T := T.2 h50
        refine wp_aload_n d_GM_word_271 rfl rfl (g_nz hX.1) ?_
        refine xgetR d_GM_word_272 gc_GM f_GM_8.1 f_GM_8.2.1 f_GM_8.2.2.1 hX.1 (gm_o2 hX) hX.2.2.1 f_GM_8.2.2.2.2.1 (gm_row hX 0 rfl).1 ?_
        refine wp_iload d_GM_word_275 rfl ?_
        refine wp_baload d_GM_word_277 (gm_row hX 0 rfl).2.2.1 (gm_row hX 0 rfl).2.2.2 (gm_row hX 0 rfl).2.1 (g32_n T.1 (by decide)) T.1.1 T.1.2 (fun h48 => ?_)
        have T := T.2 h48
        refine wp_bipush d_GM_word_278 ⟨by decide, by decide⟩ ?_
        refine xi_ne (tgt := 289) d_GM_word_280 (by decide) (w32_id (g32_b h48)) (w32_id (g32_c (x := 36) rfl)) (fun h49 => ?_) (fun h49 => ?_)
        · have T := T.1 h49
          exact wp_md (wpt T (And.intro rfl (And.intro rfl (And.intro rfl (And.intro (gI_w _) (And.intro rfl (And.intro rfl (And.intro rfl True.intro))))))))
        · have T := T.2 h49
          refine wp_iinc (L' := [.val (gR G o), .val (gI x1), .val (gI x2), .unset, .unset, .val (gI (x5 + 1)), .val (gI (x6 + 2)), .val (gI s0), .val (gI 0), .unset]) d_GM_word_283 rfl (by decide) rfl ?_
          refine wp_iinc (L' := [.val (gR G o), .val (gI x1), .val (gI x2), .unset, .unset, .val (gI (x5 + 1 + 1)), .val (gI (x6 + 2)), .val (gI s0), .val (gI 0), .unset]) d_GM_word_286 rfl (by decide) rfl ?_
          exact wp_md (wpt T (And.intro rfl (And.intro rfl (And.intro rfl (And.intro (gI_w _) (And.intro (gI_w _) (And.intro rfl (And.intro rfl True.intro))))))))
  · have T := T.2 h57
    refine wp_aload_n d_GM_word_241 rfl rfl (g_nz hX.1) ?_
    refine xgetR d_GM_word_242 gc_GM f_GM_8.1 f_GM_8.2.1 f_GM_8.2.2.1 hX.1 (gm_o2 hX) hX.2.2.1 f_GM_8.2.2.2.2.1 (gm_row hX 0 rfl).1 ?_
    refine wp_iload d_GM_word_245 rfl ?_
    refine wp_baload d_GM_word_247 (gm_row hX 0 rfl).2.2.1 (gm_row hX 0 rfl).2.2.2 (gm_row hX 0 rfl).2.1 (g32_n T.1 (by decide)) T.1.1 T.1.2 (fun h52 => ?_)
    have T := T.2 h52
    refine wp_bipush d_GM_word_248 ⟨by decide, by decide⟩ ?_
    refine wp_isub d_GM_word_250 ?_
    refine wp_goto (tgt := 255) d_GM_word_251 (by decide) ?_
    refine wp_istore (L' := [.val (gR G o), .val (gI x1), .val (gI x2), .unset, .unset, .val (gI x5), .val (gI x6), .val (gI s0), .val (gI ((M (o + 1) (Int.toNat x5)) - 65)), .unset]) d_GM_word_255 (by decide) rfl ?_
    refine wp_iinc (L' := [.val (gR G o), .val (gI x1), .val (gI x2), .unset, .unset, .val (gI (x5 + 1)), .val (gI x6), .val (gI s0), .val (gI ((M (o + 1) (Int.toNat x5)) - 65)), .unset]) d_GM_word_257 rfl (by decide) rfl ?_
    refine wp_iload d_GM_word_260 rfl ?_
    refine xz_eq (tgt := 289) d_GM_word_262 (by decide) (w32_id hs0) (fun h56 => ?_) (fun h56 => ?_)
    · have T := T.1 h56
      exact wp_md (wpt T (And.intro rfl (And.intro rfl (And.intro rfl (And.intro (gI_w _) (And.intro rfl (And.intro rfl (And.intro (gI_w _) True.intro))))))))
    · have T := T.2 h56
      refine wp_iload d_GM_word_265 rfl ?_
      refine wp_iload_n d_GM_word_267 rfl rfl ?_
      refine xi_ge (tgt := 289) d_GM_word_268 (by decide) rfl (w32_id hx2) (fun h55 => ?_) (fun h55 => ?_)
      · have T := T.1 h55
        exact wp_md (wpt T (And.intro rfl (And.intro rfl (And.intro rfl (And.intro (gI_w _) (And.intro rfl (And.intro rfl (And.intro (gI_w _) True.intro))))))))
      · have T := T.2 h55
        refine wp_aload_n d_GM_word_271 rfl rfl (g_nz hX.1) ?_
        refine xgetR d_GM_word_272 gc_GM f_GM_8.1 f_GM_8.2.1 f_GM_8.2.2.1 hX.1 (gm_o2 hX) hX.2.2.1 f_GM_8.2.2.2.2.1 (gm_row hX 0 rfl).1 ?_
        refine wp_iload d_GM_word_275 rfl ?_
        refine wp_baload d_GM_word_277 (gm_row hX 0 rfl).2.2.1 (gm_row hX 0 rfl).2.2.2 (gm_row hX 0 rfl).2.1 (g32_n T.1 (by decide)) T.1.1 T.1.2 (fun h53 => ?_)
        have T := T.2 h53
        refine wp_bipush d_GM_word_278 ⟨by decide, by decide⟩ ?_
        refine xi_ne (tgt := 289) d_GM_word_280 (by decide) (w32_id (g32_b h53)) (w32_id (g32_c (x := 36) rfl)) (fun h54 => ?_) (fun h54 => ?_)
        · have T := T.1 h54
          exact wp_md (wpt T (And.intro rfl (And.intro rfl (And.intro rfl (And.intro (gI_w _) (And.intro rfl (And.intro rfl (And.intro (gI_w _) True.intro))))))))
        · have T := T.2 h54
          refine wp_iinc (L' := [.val (gR G o), .val (gI x1), .val (gI x2), .unset, .unset, .val (gI (x5 + 1)), .val (gI (x6 + 2)), .val (gI s0), .val (gI ((M (o + 1) (Int.toNat x5)) - 65)), .unset]) d_GM_word_283 rfl (by decide) rfl ?_
          refine wp_iinc (L' := [.val (gR G o), .val (gI x1), .val (gI x2), .unset, .unset, .val (gI (x5 + 1 + 1)), .val (gI (x6 + 2)), .val (gI s0), .val (gI ((M (o + 1) (Int.toNat x5)) - 65)), .unset]) d_GM_word_286 rfl (by decide) rfl ?_
          exact wp_md (wpt T (And.intro rfl (And.intro rfl (And.intro rfl (And.intro (gI_w _) (And.intro (gI_w _) (And.intro rfl (And.intro (gI_w _) True.intro))))))))
set_option maxHeartbeats 4000000 in
theorem w_GM_word_289 {l : Launch} {G : gG} {d : Nat} {X : gX} {M : gM} {k : gM → Prop} {o : Nat} (hX : gmX X o) {Q : gQ} (hO : gOld G Q) {x1 : Int} (hx1 : g32 x1) {x2 : Int} (hx2 : g32 x2) {x5 : Int} (hx5 : g32 x5) {x6 : Int} (hx6 : g32 x6) {x7 : Int} (hx7 : g32 x7) {x8 : Int} (hx8 : g32 x8) (T : (x7 = 0 → (wp l G y_GM_word (gRm (d + 1)) true (kkV X k) true 324 [.val (gR G o), .val (gI x1), .val (gI x2), .unset, .unset, .val (gI x5), .val (gI x6), .unset, .val (gI x8), .unset] [] X M 0 0)) ∧ (¬ x7 = 0 → ((x2 ≤ x5 → (wp l G y_GM_word (gRm (d + 1)) true (kkV X k) true 324 [.val (gR G o), .val (gI x1), .val (gI x2), .unset, .unset, .val (gI x5), .val (gI x6), .unset, .val (gI x8), .unset] [] X M 0 0)) ∧ (¬ x2 ≤ x5 → ((3 < (w32 (x2 - x5)) → (wp l G y_GM_word (gRm (d + 1)) true (kkV X k) true 324 [.val (gR G o), .val (gI x1), .val (gI x2), .unset, .unset, .val (gI x5), .val (gI x6), .unset, .val (gI x8), .unset] [] X M 0 0)) ∧ (¬ 3 < (w32 (x2 - x5)) → (((0 : Int) ≤ x5 ∧ x5 < 90000) ∧ ((-128 ≤ M (o + 1) (Int.toNat x5) ∧ M (o + 1) (Int.toNat x5) < 128) → ((M (o + 1) (Int.toNat x5) = 48 → (wp l G y_GM_word (gRm (d + 1)) true (kkV X k) true 324 [.val (gR G o), .val (gI x1), .val (gI x2), .unset, .unset, .val (gI x5), .val (gI x6), .unset, .val (gI x8), .unset] [] X M 0 0)) ∧ (¬ M (o + 1) (Int.toNat x5) = 48 → (wp l G y_GM_word (gRm (d + 1)) true (kkV X k) true 330 [.val (gR G o), .val (gI x1), .val (gI x2), .unset, .unset, .val (gI x5), .val (gI x6), .val (gI 1), .val (gI x8), .val (gI 0)] [] X M 0 0))))))))))) : wp l G y_GM_word (gRm (d + 1)) true (kkV X k) true 289 [.val (gR G o), .val (gI x1), .val (gI x2), .unset, .unset, .val (gI x5), .val (gI x6), .val (gI x7), .val (gI x8), .unset] [] X M 0 0 := by
  refine wp_iload d_GM_word_289 rfl ?_
  refine xz_eq (tgt := 324) d_GM_word_291 (by decide) (w32_id hx7) (fun h62 => ?_) (fun h62 => ?_)
  · have T := T.1 h62
    exact wp_md (wpt T (And.intro rfl (And.intro rfl (And.intro rfl (And.intro rfl (And.intro rfl (And.intro rfl True.intro)))))))
  · have T := T.2 h62
    refine wp_iload d_GM_word_294 rfl ?_
    refine wp_iload_n d_GM_word_296 rfl rfl ?_
    refine xi_ge (tgt := 324) d_GM_word_297 (by decide) (w32_id hx5) (w32_id hx2) (fun h61 => ?_) (fun h61 => ?_)
    · have T := T.1 h61
      exact wp_md (wpt T (And.intro rfl (And.intro rfl (And.intro rfl (And.intro rfl (And.intro rfl (And.intro rfl True.intro)))))))
    · have T := T.2 h61
      refine wp_iload_n d_GM_word_300 rfl rfl ?_
      refine wp_iload d_GM_word_301 rfl ?_
      refine wp_isub d_GM_word_303 ?_
      refine wp_iconst d_GM_word_304 ?_
      refine xi_gt (tgt := 324) d_GM_word_305 (by decide) rfl (w32_id (g32_c (x := 3) rfl)) (fun h60 => ?_) (fun h60 => ?_)
      · have T := T.1 h60
        exact wp_md (wpt T (And.intro rfl (And.intro rfl (And.intro rfl (And.intro rfl (And.intro rfl (And.intro rfl True.intro)))))))
      · have T := T.2 h60
        refine wp_aload_n d_GM_word_308 rfl rfl (g_nz hX.1) ?_
        refine xgetR d_GM_word_309 gc_GM f_GM_8.1 f_GM_8.2.1 f_GM_8.2.2.1 hX.1 (gm_o2 hX) hX.2.2.1 f_GM_8.2.2.2.2.1 (gm_row hX 0 rfl).1 ?_
        refine wp_iload d_GM_word_312 rfl ?_
        refine wp_baload d_GM_word_314 (gm_row hX 0 rfl).2.2.1 (gm_row hX 0 rfl).2.2.2 (gm_row hX 0 rfl).2.1 (g32_n T.1 (by decide)) T.1.1 T.1.2 (fun h58 => ?_)
        have T := T.2 h58
        refine wp_bipush d_GM_word_315 ⟨by decide, by decide⟩ ?_
        refine xi_eq (tgt := 324) d_GM_word_317 (by decide) (w32_id (g32_b h58)) (w32_id (g32_c (x := 48) rfl)) (fun h59 => ?_) (fun h59 => ?_)
        · have T := T.1 h59
          exact wp_md (wpt T (And.intro rfl (And.intro rfl (And.intro rfl (And.intro rfl (And.intro rfl (And.intro rfl True.intro)))))))
        · have T := T.2 h59
          refine wp_iconst d_GM_word_320 ?_
          refine wp_goto (tgt := 325) d_GM_word_321 (by decide) ?_
          refine wp_istore (L' := [.val (gR G o), .val (gI x1), .val (gI x2), .unset, .unset, .val (gI x5), .val (gI x6), .val (gI 1), .val (gI x8), .unset]) d_GM_word_325 (by decide) rfl ?_
          refine wp_iconst d_GM_word_327 ?_
          refine wp_istore (L' := [.val (gR G o), .val (gI x1), .val (gI x2), .unset, .unset, .val (gI x5), .val (gI x6), .val (gI 1), .val (gI x8), .val (gI 0)]) d_GM_word_328 (by decide) rfl ?_
          exact wp_md (wpt T (And.intro rfl (And.intro rfl (And.intro rfl (And.intro rfl (And.intro rfl (And.intro rfl (And.intro rfl (And.intro rfl True.intro)))))))))
set_option maxHeartbeats 4000000 in
theorem w_GM_word_324 {l : Launch} {G : gG} {d : Nat} {X : gX} {M : gM} {k : gM → Prop} {o : Nat} (hX : gmX X o) {Q : gQ} (hO : gOld G Q) {x1 : Int} (hx1 : g32 x1) {x2 : Int} (hx2 : g32 x2) {x5 : Int} (hx5 : g32 x5) {x6 : Int} (hx6 : g32 x6) {x8 : Int} (hx8 : g32 x8) (T : wp l G y_GM_word (gRm (d + 1)) true (kkV X k) true 330 [.val (gR G o), .val (gI x1), .val (gI x2), .unset, .unset, .val (gI x5), .val (gI x6), .val (gI 0), .val (gI x8), .val (gI 0)] [] X M 0 0) : wp l G y_GM_word (gRm (d + 1)) true (kkV X k) true 324 [.val (gR G o), .val (gI x1), .val (gI x2), .unset, .unset, .val (gI x5), .val (gI x6), .unset, .val (gI x8), .unset] [] X M 0 0 := by
  refine wp_iconst d_GM_word_324 ?_
  refine wp_istore (L' := [.val (gR G o), .val (gI x1), .val (gI x2), .unset, .unset, .val (gI x5), .val (gI x6), .val (gI 0), .val (gI x8), .unset]) d_GM_word_325 (by decide) rfl ?_
  refine wp_iconst d_GM_word_327 ?_
  refine wp_istore (L' := [.val (gR G o), .val (gI x1), .val (gI x2), .unset, .unset, .val (gI x5), .val (gI x6), .val (gI 0), .val (gI x8), .val (gI 0)]) d_GM_word_328 (by decide) rfl ?_
  exact wp_md (wpt T (And.intro rfl (And.intro rfl (And.intro rfl (And.intro rfl (And.intro rfl (And.intro rfl (And.intro rfl (And.intro rfl True.intro)))))))))
set_option maxHeartbeats 4000000 in
theorem w_GM_word_330 {l : Launch} {G : gG} {d : Nat} {X : gX} {M : gM} {k : gM → Prop} {o : Nat} (hX : gmX X o) {Q : gQ} (hO : gOld G Q) {x1 : Int} (hx1 : g32 x1) {x2 : Int} (hx2 : g32 x2) {x5 : Int} (hx5 : g32 x5) {x6 : Int} (hx6 : g32 x6) {x7 : Int} (hx7 : g32 x7) {x8 : Int} (hx8 : g32 x8) {x9 : Int} (hx9 : g32 x9) (T : (x7 = 0 → (wp l G y_GM_word (gRm (d + 1)) true (kkV X k) true 377 [.val (gR G o), .val (gI x1), .val (gI x2), .unset, .unset, .unset, .val (gI x6), .val (gI x7), .val (gI x8), .val (gI x9)] [] X M 0 0)) ∧ (¬ x7 = 0 → ((x2 ≤ x5 → (wp l G y_GM_word (gRm (d + 1)) true (kkV X k) true 377 [.val (gR G o), .val (gI x1), .val (gI x2), .unset, .unset, .unset, .val (gI x6), .val (gI x7), .val (gI x8), .val (gI x9)] [] X M 0 0)) ∧ (¬ x2 ≤ x5 → (((0 : Int) ≤ x5 ∧ x5 < 90000) ∧ ((-128 ≤ M (o + 1) (Int.toNat x5) ∧ M (o + 1) (Int.toNat x5) < 128) → (cZ l G y_GM_digit (gRm d) false [gI (M (o + 1) (Int.toNat x5))] X M (fun v65 M64 => (((0 : Int) ≤ x5 ∧ x5 < 90000) ∧ ((-128 ≤ M64 (o + 1) (Int.toNat x5) ∧ M64 (o + 1) (Int.toNat x5) < 128) → (wp l G y_GM_word (gRm (d + 1)) true (kkV X k) true 330 [.val (gR G o), .val (gI x1), .val (gI x2), .unset, .unset, .val (gI (w32 (x5 + 1))), .val (gI x6), .val (gI v65), .val (gI x8), .val (gI (w32 (((x9 * 10) + (M64 (o + 1) (Int.toNat x5))) - 48)))] [] X M64 0 0))))))))))) : wp l G y_GM_word (gRm (d + 1)) true (kkV X k) true 330 [.val (gR G o), .val (gI x1), .val (gI x2), .unset, .unset, .val (gI x5), .val (gI x6), .val (gI x7), .val (gI x8), .val (gI x9)] [] X M 0 0 := by
  refine wp_iload d_GM_word_330 rfl ?_
  refine xz_eq (tgt := 377) d_GM_word_332 (by decide) (w32_id hx7) (fun h69 => ?_) (fun h69 => ?_)
  · have T := T.1 h69
    exact wp_md (wpt T (And.intro rfl (And.intro rfl (And.intro rfl (And.intro rfl (And.intro rfl (And.intro rfl (And.intro rfl True.intro))))))))
  · have T := T.2 h69
    refine wp_iload d_GM_word_335 rfl ?_
    refine wp_iload_n d_GM_word_337 rfl rfl ?_
    refine xi_ge (tgt := 377) d_GM_word_338 (by decide) (w32_id hx5) (w32_id hx2) (fun h68 => ?_) (fun h68 => ?_)
    · have T := T.1 h68
      exact wp_md (wpt T (And.intro rfl (And.intro rfl (And.intro rfl (And.intro rfl (And.intro rfl (And.intro rfl (And.intro rfl True.intro))))))))
    · have T := T.2 h68
      refine wp_aload_n d_GM_word_341 rfl rfl (g_nz hX.1) ?_
      refine xgetR d_GM_word_342 gc_GM f_GM_8.1 f_GM_8.2.1 f_GM_8.2.2.1 hX.1 (gm_o2 hX) hX.2.2.1 f_GM_8.2.2.2.2.1 (gm_row hX 0 rfl).1 ?_
      refine wp_iload d_GM_word_345 rfl ?_
      refine wp_baload d_GM_word_347 (gm_row hX 0 rfl).2.2.1 (gm_row hX 0 rfl).2.2.2 (gm_row hX 0 rfl).2.1 (g32_n T.1 (by decide)) T.1.1 T.1.2 (fun h63 => ?_)
      have T := T.2 h63
      refine xcS_Z (md' := true) (As := [gI (M (o + 1) (Int.toNat x5))]) (st := []) d_GM_word_348 ca_GM_digit ml_GM_165 sm_GM_digit rfl (by decide) (by decide) rfl (fun _ => rfl) (fun _ => rfl) T (fun v65 M64 h66 T => ?_)
      refine wp_istore (L' := [.val (gR G o), .val (gI x1), .val (gI x2), .unset, .unset, .val (gI x5), .val (gI x6), .val (gI v65), .val (gI x8), .val (gI x9)]) d_GM_word_351 (by decide) rfl ?_
      refine wp_iload d_GM_word_353 rfl ?_
      refine wp_bipush d_GM_word_355 ⟨by decide, by decide⟩ ?_
      refine wp_imul d_GM_word_357 ?_
      refine wp_aload_n d_GM_word_358 rfl rfl (g_nz hX.1) ?_
      refine xgetR d_GM_word_359 gc_GM f_GM_8.1 f_GM_8.2.1 f_GM_8.2.2.1 hX.1 (gm_o2 hX) hX.2.2.1 f_GM_8.2.2.2.2.1 (gm_row hX 0 rfl).1 ?_
      refine wp_iload d_GM_word_362 rfl ?_
      refine wp_baload d_GM_word_364 (gm_row hX 0 rfl).2.2.1 (gm_row hX 0 rfl).2.2.2 (gm_row hX 0 rfl).2.1 (g32_n T.1 (by decide)) T.1.1 T.1.2 (fun h67 => ?_)
      have T := T.2 h67
      refine wp_iadd d_GM_word_365 ?_
      refine wp_bipush d_GM_word_366 ⟨by decide, by decide⟩ ?_
      refine wp_isub d_GM_word_368 ?_
      refine wp_istore (L' := [.val (gR G o), .val (gI x1), .val (gI x2), .unset, .unset, .val (gI x5), .val (gI x6), .val (gI v65), .val (gI x8), .val (gI (((x9 * 10) + (M64 (o + 1) (Int.toNat x5))) - 48))]) d_GM_word_369 (by decide) rfl ?_
      refine wp_iinc (L' := [.val (gR G o), .val (gI x1), .val (gI x2), .unset, .unset, .val (gI (x5 + 1)), .val (gI x6), .val (gI v65), .val (gI x8), .val (gI (((x9 * 10) + (M64 (o + 1) (Int.toNat x5))) - 48))]) d_GM_word_371 rfl (by decide) rfl ?_
      refine wp_goto (tgt := 330) d_GM_word_374 (by decide) ?_
      exact wp_md (wpt T (And.intro rfl (And.intro rfl (And.intro rfl (And.intro (gI_w _) (And.intro rfl (And.intro rfl (And.intro rfl (And.intro (gI_w _) True.intro)))))))))
set_option maxHeartbeats 4000000 in
theorem w_GM_word_377 {l : Launch} {G : gG} {d : Nat} {X : gX} {M : gM} {k : gM → Prop} {o : Nat} (hX : gmX X o) {Q : gQ} (hO : gOld G Q) {x1 : Int} (hx1 : g32 x1) {x2 : Int} (hx2 : g32 x2) {x6 : Int} (hx6 : g32 x6) {x7 : Int} (hx7 : g32 x7) {x8 : Int} (hx8 : g32 x8) {x9 : Int} (hx9 : g32 x9) (T : (0 ≤ M o 27 ∧ M o 27 ≤ 1) → ((x7 = 0 → ((0 ≤ gOr (M o 27) 1 ∧ gOr (M o 27) 1 ≤ 1) ∧ (cV l G y_GM_token (gRm d) true [gR G o, gI 3, gI x1, gI x2] X (gUp M o 27 (gOr (M o 27) 1)) (fun M71 => ((0 ≤ M71 o 27 ∧ M71 o 27 ≤ 1) → ((¬ M71 o 27 = 0 → (k M71)) ∧ (M71 o 27 = 0 → (g32 (M71 o 24) → (((0 : Int) ≤ (M71 o 24) - 1 ∧ (M71 o 24) - 1 < 101) ∧ (g32 ((gUp M71 (o + 16) (Int.toNat ((M71 o 24) - 1)) (w32 (x8 + (26 * (x9 - 1))))) o 24) → (((0 : Int) ≤ ((gUp M71 (o + 16) (Int.toNat ((M71 o 24) - 1)) (w32 (x8 + (26 * (x9 - 1))))) o 24) - 1 ∧ ((gUp M71 (o + 16) (Int.toNat ((M71 o 24) - 1)) (w32 (x8 + (26 * (x9 - 1))))) o 24) - 1 < 101) ∧ (k (gUp (gUp M71 (o + 16) (Int.toNat ((M71 o 24) - 1)) (w32 (x8 + (26 * (x9 - 1))))) (o + 17) (Int.toNat (((gUp M71 (o + 16) (Int.toNat ((M71 o 24) - 1)) (w32 (x8 + (26 * (x9 - 1))))) o 24) - 1)) x6))))))))))))) ∧ (¬ x7 = 0 → ((x9 ≤ 200 → ((0 ≤ gOr (M o 27) 0 ∧ gOr (M o 27) 0 ≤ 1) ∧ (cV l G y_GM_token (gRm d) true [gR G o, gI 3, gI x1, gI x2] X (gUp M o 27 (gOr (M o 27) 0)) (fun M76 => ((0 ≤ M76 o 27 ∧ M76 o 27 ≤ 1) → ((¬ M76 o 27 = 0 → (k M76)) ∧ (M76 o 27 = 0 → (g32 (M76 o 24) → (((0 : Int) ≤ (M76 o 24) - 1 ∧ (M76 o 24) - 1 < 101) ∧ (g32 ((gUp M76 (o + 16) (Int.toNat ((M76 o 24) - 1)) (w32 (x8 + (26 * (x9 - 1))))) o 24) → (((0 : Int) ≤ ((gUp M76 (o + 16) (Int.toNat ((M76 o 24) - 1)) (w32 (x8 + (26 * (x9 - 1))))) o 24) - 1 ∧ ((gUp M76 (o + 16) (Int.toNat ((M76 o 24) - 1)) (w32 (x8 + (26 * (x9 - 1))))) o 24) - 1 < 101) ∧ (k (gUp (gUp M76 (o + 16) (Int.toNat ((M76 o 24) - 1)) (w32 (x8 + (26 * (x9 - 1))))) (o + 17) (Int.toNat (((gUp M76 (o + 16) (Int.toNat ((M76 o 24) - 1)) (w32 (x8 + (26 * (x9 - 1))))) o 24) - 1)) x6))))))))))))) ∧ (¬ x9 ≤ 200 → ((0 ≤ gOr (M o 27) 1 ∧ gOr (M o 27) 1 ≤ 1) ∧ (cV l G y_GM_token (gRm d) true [gR G o, gI 3, gI x1, gI x2] X (gUp M o 27 (gOr (M o 27) 1)) (fun M81 => ((0 ≤ M81 o 27 ∧ M81 o 27 ≤ 1) → ((¬ M81 o 27 = 0 → (k M81)) ∧ (M81 o 27 = 0 → (g32 (M81 o 24) → (((0 : Int) ≤ (M81 o 24) - 1 ∧ (M81 o 24) - 1 < 101) ∧ (g32 ((gUp M81 (o + 16) (Int.toNat ((M81 o 24) - 1)) (w32 (x8 + (26 * (x9 - 1))))) o 24) → (((0 : Int) ≤ ((gUp M81 (o + 16) (Int.toNat ((M81 o 24) - 1)) (w32 (x8 + (26 * (x9 - 1))))) o 24) - 1 ∧ ((gUp M81 (o + 16) (Int.toNat ((M81 o 24) - 1)) (w32 (x8 + (26 * (x9 - 1))))) o 24) - 1 < 101) ∧ (k (gUp (gUp M81 (o + 16) (Int.toNat ((M81 o 24) - 1)) (w32 (x8 + (26 * (x9 - 1))))) (o + 17) (Int.toNat (((gUp M81 (o + 16) (Int.toNat ((M81 o 24) - 1)) (w32 (x8 + (26 * (x9 - 1))))) o 24) - 1)) x6))))))))))))))))) : wp l G y_GM_word (gRm (d + 1)) true (kkV X k) true 377 [.val (gR G o), .val (gI x1), .val (gI x2), .unset, .unset, .unset, .val (gI x6), .val (gI x7), .val (gI x8), .val (gI x9)] [] X M 0 0 := by
  refine wp_aload_n d_GM_word_377 rfl rfl (g_nz hX.1) ?_
  refine wp_dup d_GM_word_378 (gR_cat _) ?_
  refine xgetZ d_GM_word_379 gc_GM f_GM_181.1 f_GM_181.2.1 f_GM_181.2.2.1 hX.1 (gm_o2 hX) hX.2.2.1 f_GM_181.2.2.2.2.1 (fun h70 => ?_)
  have T := T h70
  refine wp_iload d_GM_word_382 rfl ?_
  refine xz_eq (tgt := 395) d_GM_word_384 (by decide) (w32_id hx7) (fun h87 => ?_) (fun h87 => ?_)
  · have T := T.1 h87
    refine wp_iconst d_GM_word_395 ?_
    refine wp_goto (tgt := 400) d_GM_word_396 (by decide) ?_
    refine wp_ior d_GM_word_400 ?_
    refine xputZ d_GM_word_401 gc_GM f_GM_181.1 f_GM_181.2.1 f_GM_181.2.2.1 hX.1 (gm_o2 hX) hX.2.2.1 f_GM_181.2.2.2.1 f_GM_181.2.2.2.2.1 f_GM_181.2.2.2.2.2 T.1 ?_
    have T := T.2
    refine wp_aload_n d_GM_word_404 rfl rfl (g_nz hX.1) ?_
    refine wp_iconst d_GM_word_405 ?_
    refine wp_iload_n d_GM_word_406 rfl rfl ?_
    refine wp_iload_n d_GM_word_407 rfl rfl ?_
    refine xcV_V (md' := true) (As := [gI 3, gI x1, gI x2]) (st := []) d_GM_word_408 ca_GM_token ml_GM_189 im_GM_token se_GM_token gc_GM hX.1 (gm_o2 hX) hX.2.2.1 rfl (by decide) (by decide) rfl (fun _ => rfl) (fun _ => rfl) T (fun M71 T => ?_)
    refine wp_aload_n d_GM_word_411 rfl rfl (g_nz hX.1) ?_
    refine xgetZ d_GM_word_412 gc_GM f_GM_181.1 f_GM_181.2.1 f_GM_181.2.2.1 hX.1 (gm_o2 hX) hX.2.2.1 f_GM_181.2.2.2.2.1 (fun h72 => ?_)
    have T := T h72
    refine xz_ne (tgt := 452) d_GM_word_415 (by decide) (w32_id (g32_z h72)) (fun h75 => ?_) (fun h75 => ?_)
    · have T := T.1 h75
      exact wp_return d_GM_word_452 rfl (fun _ => rfl) (Nat.zero_le _) (Nat.zero_le _) (kV_mk T)
    · have T := T.2 h75
      refine wp_aload_n d_GM_word_418 rfl rfl (g_nz hX.1) ?_
      refine xgetR d_GM_word_419 gc_GM f_GM_59.1 f_GM_59.2.1 f_GM_59.2.2.1 hX.1 (gm_o2 hX) hX.2.2.1 f_GM_59.2.2.2.2.1 (gm_row hX 15 rfl).1 ?_
      refine wp_aload_n d_GM_word_422 rfl rfl (g_nz hX.1) ?_
      refine xgetI d_GM_word_423 gc_GM f_GM_178.1 f_GM_178.2.1 f_GM_178.2.2.1 hX.1 (gm_o2 hX) hX.2.2.1 f_GM_178.2.2.2.2.1 (fun h73 => ?_)
      have T := T h73
      refine wp_iconst d_GM_word_426 ?_
      refine wp_isub d_GM_word_427 ?_
      refine wp_iload d_GM_word_428 rfl ?_
      refine wp_bipush d_GM_word_430 ⟨by decide, by decide⟩ ?_
      refine wp_iload d_GM_word_432 rfl ?_
      refine wp_iconst d_GM_word_434 ?_
      refine wp_isub d_GM_word_435 ?_
      refine wp_imul d_GM_word_436 ?_
      refine wp_iadd d_GM_word_437 ?_
      refine xiast d_GM_word_438 (gm_row hX 15 rfl).2.2.1 (gm_row hX 15 rfl).2.2.2 (gm_row hX 15 rfl).2.1 (by decide) T.1 rfl ?_
      have T := T.2
      refine wp_aload_n d_GM_word_439 rfl rfl (g_nz hX.1) ?_
      refine xgetR d_GM_word_440 gc_GM f_GM_62.1 f_GM_62.2.1 f_GM_62.2.2.1 hX.1 (gm_o2 hX) hX.2.2.1 f_GM_62.2.2.2.2.1 (gm_row hX 16 rfl).1 ?_
      refine wp_aload_n d_GM_word_443 rfl rfl (g_nz hX.1) ?_
      refine xgetI d_GM_word_444 gc_GM f_GM_178.1 f_GM_178.2.1 f_GM_178.2.2.1 hX.1 (gm_o2 hX) hX.2.2.1 f_GM_178.2.2.2.2.1 (fun h74 => ?_)
      have T := T h74
      refine wp_iconst d_GM_word_447 ?_
      refine wp_isub d_GM_word_448 ?_
      refine wp_iload d_GM_word_449 rfl ?_
      refine xiast d_GM_word_451 (gm_row hX 16 rfl).2.2.1 (gm_row hX 16 rfl).2.2.2 (gm_row hX 16 rfl).2.1 (by decide) T.1 (w32_id hx6) ?_
      have T := T.2
      exact wp_return d_GM_word_452 rfl (fun _ => rfl) (Nat.zero_le _) (Nat.zero_le _) (kV_mk T)
  · have T := T.2 h87
    refine wp_iload d_GM_word_387 rfl ?_
    refine wp_sipush d_GM_word_389 ⟨by decide, by decide⟩ ?_
    refine xi_le (tgt := 399) d_GM_word_392 (by decide) (w32_id hx9) (w32_id (g32_c (x := 200) rfl)) (fun h86 => ?_) (fun h86 => ?_)
    · have T := T.1 h86
      refine wp_iconst d_GM_word_399 ?_
      refine wp_ior d_GM_word_400 ?_
      refine xputZ d_GM_word_401 gc_GM f_GM_181.1 f_GM_181.2.1 f_GM_181.2.2.1 hX.1 (gm_o2 hX) hX.2.2.1 f_GM_181.2.2.2.1 f_GM_181.2.2.2.2.1 f_GM_181.2.2.2.2.2 T.1 ?_
      have T := T.2
      refine wp_aload_n d_GM_word_404 rfl rfl (g_nz hX.1) ?_
      refine wp_iconst d_GM_word_405 ?_
      refine wp_iload_n d_GM_word_406 rfl rfl ?_
      refine wp_iload_n d_GM_word_407 rfl rfl ?_
      refine xcV_V (md' := true) (As := [gI 3, gI x1, gI x2]) (st := []) d_GM_word_408 ca_GM_token ml_GM_189 im_GM_token se_GM_token gc_GM hX.1 (gm_o2 hX) hX.2.2.1 rfl (by decide) (by decide) rfl (fun _ => rfl) (fun _ => rfl) T (fun M76 T => ?_)
      refine wp_aload_n d_GM_word_411 rfl rfl (g_nz hX.1) ?_
      refine xgetZ d_GM_word_412 gc_GM f_GM_181.1 f_GM_181.2.1 f_GM_181.2.2.1 hX.1 (gm_o2 hX) hX.2.2.1 f_GM_181.2.2.2.2.1 (fun h77 => ?_)
      have T := T h77
      refine xz_ne (tgt := 452) d_GM_word_415 (by decide) (w32_id (g32_z h77)) (fun h80 => ?_) (fun h80 => ?_)
      · have T := T.1 h80
        exact wp_return d_GM_word_452 rfl (fun _ => rfl) (Nat.zero_le _) (Nat.zero_le _) (kV_mk T)
      · have T := T.2 h80
        refine wp_aload_n d_GM_word_418 rfl rfl (g_nz hX.1) ?_
        refine xgetR d_GM_word_419 gc_GM f_GM_59.1 f_GM_59.2.1 f_GM_59.2.2.1 hX.1 (gm_o2 hX) hX.2.2.1 f_GM_59.2.2.2.2.1 (gm_row hX 15 rfl).1 ?_
        refine wp_aload_n d_GM_word_422 rfl rfl (g_nz hX.1) ?_
        refine xgetI d_GM_word_423 gc_GM f_GM_178.1 f_GM_178.2.1 f_GM_178.2.2.1 hX.1 (gm_o2 hX) hX.2.2.1 f_GM_178.2.2.2.2.1 (fun h78 => ?_)
        have T := T h78
        refine wp_iconst d_GM_word_426 ?_
        refine wp_isub d_GM_word_427 ?_
        refine wp_iload d_GM_word_428 rfl ?_
        refine wp_bipush d_GM_word_430 ⟨by decide, by decide⟩ ?_
        refine wp_iload d_GM_word_432 rfl ?_
        refine wp_iconst d_GM_word_434 ?_
        refine wp_isub d_GM_word_435 ?_
        refine wp_imul d_GM_word_436 ?_
        refine wp_iadd d_GM_word_437 ?_
        refine xiast d_GM_word_438 (gm_row hX 15 rfl).2.2.1 (gm_row hX 15 rfl).2.2.2 (gm_row hX 15 rfl).2.1 (by decide) T.1 rfl ?_
        have T := T.2
        refine wp_aload_n d_GM_word_439 rfl rfl (g_nz hX.1) ?_
        refine xgetR d_GM_word_440 gc_GM f_GM_62.1 f_GM_62.2.1 f_GM_62.2.2.1 hX.1 (gm_o2 hX) hX.2.2.1 f_GM_62.2.2.2.2.1 (gm_row hX 16 rfl).1 ?_
        refine wp_aload_n d_GM_word_443 rfl rfl (g_nz hX.1) ?_
        refine xgetI d_GM_word_444 gc_GM f_GM_178.1 f_GM_178.2.1 f_GM_178.2.2.1 hX.1 (gm_o2 hX) hX.2.2.1 f_GM_178.2.2.2.2.1 (fun h79 => ?_)
        have T := T h79
        refine wp_iconst d_GM_word_447 ?_
        refine wp_isub d_GM_word_448 ?_
        refine wp_iload d_GM_word_449 rfl ?_
        refine xiast d_GM_word_451 (gm_row hX 16 rfl).2.2.1 (gm_row hX 16 rfl).2.2.2 (gm_row hX 16 rfl).2.1 (by decide) T.1 (w32_id hx6) ?_
        have T := T.2
        exact wp_return d_GM_word_452 rfl (fun _ => rfl) (Nat.zero_le _) (Nat.zero_le _) (kV_mk T)
    · have T := T.2 h86
      refine wp_iconst d_GM_word_395 ?_
      refine wp_goto (tgt := 400) d_GM_word_396 (by decide) ?_
      refine wp_ior d_GM_word_400 ?_
      refine xputZ d_GM_word_401 gc_GM f_GM_181.1 f_GM_181.2.1 f_GM_181.2.2.1 hX.1 (gm_o2 hX) hX.2.2.1 f_GM_181.2.2.2.1 f_GM_181.2.2.2.2.1 f_GM_181.2.2.2.2.2 T.1 ?_
      have T := T.2
      refine wp_aload_n d_GM_word_404 rfl rfl (g_nz hX.1) ?_
      refine wp_iconst d_GM_word_405 ?_
      refine wp_iload_n d_GM_word_406 rfl rfl ?_
      refine wp_iload_n d_GM_word_407 rfl rfl ?_
      refine xcV_V (md' := true) (As := [gI 3, gI x1, gI x2]) (st := []) d_GM_word_408 ca_GM_token ml_GM_189 im_GM_token se_GM_token gc_GM hX.1 (gm_o2 hX) hX.2.2.1 rfl (by decide) (by decide) rfl (fun _ => rfl) (fun _ => rfl) T (fun M81 T => ?_)
      refine wp_aload_n d_GM_word_411 rfl rfl (g_nz hX.1) ?_
      refine xgetZ d_GM_word_412 gc_GM f_GM_181.1 f_GM_181.2.1 f_GM_181.2.2.1 hX.1 (gm_o2 hX) hX.2.2.1 f_GM_181.2.2.2.2.1 (fun h82 => ?_)
      have T := T h82
      refine xz_ne (tgt := 452) d_GM_word_415 (by decide) (w32_id (g32_z h82)) (fun h85 => ?_) (fun h85 => ?_)
      · have T := T.1 h85
        exact wp_return d_GM_word_452 rfl (fun _ => rfl) (Nat.zero_le _) (Nat.zero_le _) (kV_mk T)
      · have T := T.2 h85
        refine wp_aload_n d_GM_word_418 rfl rfl (g_nz hX.1) ?_
        refine xgetR d_GM_word_419 gc_GM f_GM_59.1 f_GM_59.2.1 f_GM_59.2.2.1 hX.1 (gm_o2 hX) hX.2.2.1 f_GM_59.2.2.2.2.1 (gm_row hX 15 rfl).1 ?_
        refine wp_aload_n d_GM_word_422 rfl rfl (g_nz hX.1) ?_
        refine xgetI d_GM_word_423 gc_GM f_GM_178.1 f_GM_178.2.1 f_GM_178.2.2.1 hX.1 (gm_o2 hX) hX.2.2.1 f_GM_178.2.2.2.2.1 (fun h83 => ?_)
        have T := T h83
        refine wp_iconst d_GM_word_426 ?_
        refine wp_isub d_GM_word_427 ?_
        refine wp_iload d_GM_word_428 rfl ?_
        refine wp_bipush d_GM_word_430 ⟨by decide, by decide⟩ ?_
        refine wp_iload d_GM_word_432 rfl ?_
        refine wp_iconst d_GM_word_434 ?_
        refine wp_isub d_GM_word_435 ?_
        refine wp_imul d_GM_word_436 ?_
        refine wp_iadd d_GM_word_437 ?_
        refine xiast d_GM_word_438 (gm_row hX 15 rfl).2.2.1 (gm_row hX 15 rfl).2.2.2 (gm_row hX 15 rfl).2.1 (by decide) T.1 rfl ?_
        have T := T.2
        refine wp_aload_n d_GM_word_439 rfl rfl (g_nz hX.1) ?_
        refine xgetR d_GM_word_440 gc_GM f_GM_62.1 f_GM_62.2.1 f_GM_62.2.2.1 hX.1 (gm_o2 hX) hX.2.2.1 f_GM_62.2.2.2.2.1 (gm_row hX 16 rfl).1 ?_
        refine wp_aload_n d_GM_word_443 rfl rfl (g_nz hX.1) ?_
        refine xgetI d_GM_word_444 gc_GM f_GM_178.1 f_GM_178.2.1 f_GM_178.2.2.1 hX.1 (gm_o2 hX) hX.2.2.1 f_GM_178.2.2.2.2.1 (fun h84 => ?_)
        have T := T h84
        refine wp_iconst d_GM_word_447 ?_
        refine wp_isub d_GM_word_448 ?_
        refine wp_iload d_GM_word_449 rfl ?_
        refine xiast d_GM_word_451 (gm_row hX 16 rfl).2.2.1 (gm_row hX 16 rfl).2.2.2 (gm_row hX 16 rfl).2.1 (by decide) T.1 (w32_id hx6) ?_
        have T := T.2
        exact wp_return d_GM_word_452 rfl (fun _ => rfl) (Nat.zero_le _) (Nat.zero_le _) (kV_mk T)
theorem e_GM_word {l : Launch} {G : gG} {d : Nat} {X : gX} {M : gM} {k : gM → Prop} {Q : gQ} {o : Nat} {x1 : Int} {x2 : Int} (T : wp l G y_GM_word (gRm (d + 1)) true (kkV X k) false 0 [.val (gR G o), .val (gI x1), .val (gI x2), .unset, .unset, .unset, .unset, .unset, .unset, .unset] [] X M 0 0) : cV l G y_GM_word (gRm (d + 1)) true [gR G o, gI x1, gI x2] X M k := cen_V (plainFor_of_name rfl) (by simp only [lg_sl_R, lg_sl_I, lg_sl_L, lg_sl_N, List.length_cons, List.length_nil]; decide) (by unfold gEn; simp only [lg_sl_R, lg_sl_I, lg_sl_L, lg_sl_N]; exact wpt T (And.intro rfl (And.intro rfl (And.intro rfl True.intro))))
theorem d_GM_spells_0 : decode prog_15_method_10_code 0 = .ok (.iload_n 2, 1) := by decide +kernel
theorem d_GM_spells_1 : decode prog_15_method_10_code 1 = .ok (.iload_n 1, 1) := by decide +kernel
theorem d_GM_spells_2 : decode prog_15_method_10_code 2 = .ok (.isub, 1) := by decide +kernel
theorem d_GM_spells_3 : decode prog_15_method_10_code 3 = .ok (.aload_n 3, 1) := by decide +kernel
theorem d_GM_spells_4 : decode prog_15_method_10_code 4 = .ok (.invokevirtual 201, 3) := by decide +kernel
theorem d_GM_spells_7 : decode prog_15_method_10_code 7 = .ok (.if_icmp .eq 5, 3) := by decide +kernel
theorem d_GM_spells_12 : decode prog_15_method_10_code 12 = .ok (.iconst 0, 1) := by decide +kernel
theorem d_GM_spells_13 : decode prog_15_method_10_code 13 = .ok (.istore 4, 2) := by decide +kernel
theorem d_GM_spells_10 : decode prog_15_method_10_code 10 = .ok (.iconst 0, 1) := by decide +kernel
theorem d_GM_spells_11 : decode prog_15_method_10_code 11 = .ok (.ireturn, 1) := by decide +kernel
theorem d_GM_spells_15 : decode prog_15_method_10_code 15 = .ok (.iload 4, 2) := by decide +kernel
theorem d_GM_spells_17 : decode prog_15_method_10_code 17 = .ok (.iload_n 2, 1) := by decide +kernel
theorem d_GM_spells_18 : decode prog_15_method_10_code 18 = .ok (.iload_n 1, 1) := by decide +kernel
theorem d_GM_spells_19 : decode prog_15_method_10_code 19 = .ok (.isub, 1) := by decide +kernel
theorem d_GM_spells_20 : decode prog_15_method_10_code 20 = .ok (.if_icmp .ge 29, 3) := by decide +kernel
theorem d_GM_spells_49 : decode prog_15_method_10_code 49 = .ok (.iconst 1, 1) := by decide +kernel
theorem d_GM_spells_50 : decode prog_15_method_10_code 50 = .ok (.ireturn, 1) := by decide +kernel
theorem d_GM_spells_23 : decode prog_15_method_10_code 23 = .ok (.aload_n 0, 1) := by decide +kernel
theorem d_GM_spells_24 : decode prog_15_method_10_code 24 = .ok (.getfield 8, 3) := by decide +kernel
theorem d_GM_spells_27 : decode prog_15_method_10_code 27 = .ok (.iload_n 1, 1) := by decide +kernel
theorem d_GM_spells_28 : decode prog_15_method_10_code 28 = .ok (.iload 4, 2) := by decide +kernel
theorem d_GM_spells_30 : decode prog_15_method_10_code 30 = .ok (.iadd, 1) := by decide +kernel
theorem d_GM_spells_31 : decode prog_15_method_10_code 31 = .ok (.baload, 1) := by decide +kernel
theorem d_GM_spells_32 : decode prog_15_method_10_code 32 = .ok (.aload_n 3, 1) := by decide +kernel
theorem d_GM_spells_33 : decode prog_15_method_10_code 33 = .ok (.iload 4, 2) := by decide +kernel
theorem d_GM_spells_35 : decode prog_15_method_10_code 35 = .ok (.invokevirtual 207, 3) := by decide +kernel
theorem d_GM_spells_38 : decode prog_15_method_10_code 38 = .ok (.if_icmp .eq 5, 3) := by decide +kernel
theorem d_GM_spells_43 : decode prog_15_method_10_code 43 = .ok (.iinc 4 1, 3) := by decide +kernel
theorem d_GM_spells_46 : decode prog_15_method_10_code 46 = .ok (.goto (-31), 3) := by decide +kernel
theorem d_GM_spells_41 : decode prog_15_method_10_code 41 = .ok (.iconst 0, 1) := by decide +kernel
theorem d_GM_spells_42 : decode prog_15_method_10_code 42 = .ok (.ireturn, 1) := by decide +kernel
set_option maxHeartbeats 4000000 in
theorem w_GM_spells_0 {l : Launch} {G : gG} {d : Nat} {X : gX} {M : gM} {k : Int → gM → Prop} {o : Nat} (hX : gmX X o) {Q : gQ} (hO : gOld G Q) {x1 : Int} (hx1 : g32 x1) {x2 : Int} (hx2 : g32 x2) {t3 : Nat} (ht3 : t3 < 66) (T : ((w32 (x2 - x1)) = (gSl t3 : Int) → (wp l G y_GM_spells (gRm (d + 5)) false (kkZ X k) false 15 [.val (gR G o), .val (gI x1), .val (gI x2), .val (.ref (Q.2.1 t3)), .val (gI 0)] [] X M 0 0)) ∧ (¬ (w32 (x2 - x1)) = (gSl t3 : Int) → (k 0 M))) : wp l G y_GM_spells (gRm (d + 5)) false (kkZ X k) false 0 [.val (gR G o), .val (gI x1), .val (gI x2), .val (.ref (Q.2.1 t3)), .unset] [] X M 0 0 := by
  refine wp_iload_n d_GM_spells_0 rfl rfl ?_
  refine wp_iload_n d_GM_spells_1 rfl rfl ?_
  refine wp_isub d_GM_spells_2 ?_
  refine wp_aloadO_n d_GM_spells_3 rfl rfl ?_
  refine xo_len hO ht3 d_GM_spells_4 ml_GM_201 (by simp only [List.map, gR_cat, gI_cat, gL_cat, g_rcat, List.sum_cons, List.sum_nil]; decide) ?_
  refine xi_eq (tgt := 12) d_GM_spells_7 (by decide) rfl (w32_id (g32_h4 (gSl_ok ht3))) (fun h1 => ?_) (fun h1 => ?_)
  · have T := T.1 h1
    refine wp_iconst d_GM_spells_12 ?_
    refine wp_istore (L' := [.val (gR G o), .val (gI x1), .val (gI x2), .val (.ref (Q.2.1 t3)), .val (gI 0)]) d_GM_spells_13 (by decide) rfl ?_
    exact (wpt T (And.intro rfl (And.intro rfl (And.intro rfl (And.intro rfl (And.intro rfl True.intro))))))
  · have T := T.2 h1
    refine wp_iconst d_GM_spells_10 ?_
    exact wp_zreturn d_GM_spells_11 rfl (g_narz (⟨by decide, by decide⟩ : (0 : Int) ≤ 0 ∧ (0 : Int) ≤ 1)) id (Nat.zero_le _) (Nat.zero_le _) (kZ_mk (⟨by decide, by decide⟩ : (0 : Int) ≤ 0 ∧ (0 : Int) ≤ 1) T)
set_option maxHeartbeats 4000000 in
theorem w_GM_spells_15 {l : Launch} {G : gG} {d : Nat} {X : gX} {M : gM} {k : Int → gM → Prop} {o : Nat} (hX : gmX X o) {Q : gQ} (hO : gOld G Q) {x1 : Int} (hx1 : g32 x1) {x2 : Int} (hx2 : g32 x2) {x4 : Int} (hx4 : g32 x4) {t3 : Nat} (ht3 : t3 < 66) (T : ((w32 (x2 - x1)) ≤ x4 → (k 1 M)) ∧ (¬ (w32 (x2 - x1)) ≤ x4 → (((0 : Int) ≤ x1 + x4 ∧ x1 + x4 < 90000) ∧ ((-128 ≤ M (o + 1) (Int.toNat (x1 + x4)) ∧ M (o + 1) (Int.toNat (x1 + x4)) < 128) → (((0 : Int) ≤ x4 ∧ x4 < (gSl t3 : Int)) ∧ ((M (o + 1) (Int.toNat (x1 + x4)) = gSc t3 (Int.toNat x4) → (wp l G y_GM_spells (gRm (d + 5)) false (kkZ X k) false 15 [.val (gR G o), .val (gI x1), .val (gI x2), .val (.ref (Q.2.1 t3)), .val (gI (w32 (x4 + 1)))] [] X M 0 0)) ∧ (¬ M (o + 1) (Int.toNat (x1 + x4)) = gSc t3 (Int.toNat x4) → (k 0 M)))))))) : wp l G y_GM_spells (gRm (d + 5)) false (kkZ X k) false 15 [.val (gR G o), .val (gI x1), .val (gI x2), .val (.ref (Q.2.1 t3)), .val (gI x4)] [] X M 0 0 := by
  refine wp_iload d_GM_spells_15 rfl ?_
  refine wp_iload_n d_GM_spells_17 rfl rfl ?_
  refine wp_iload_n d_GM_spells_18 rfl rfl ?_
  refine wp_isub d_GM_spells_19 ?_
  refine xi_ge (tgt := 49) d_GM_spells_20 (by decide) (w32_id hx4) rfl (fun h5 => ?_) (fun h5 => ?_)
  · have T := T.1 h5
    refine wp_iconst d_GM_spells_49 ?_
    exact wp_zreturn d_GM_spells_50 rfl (g_narz (⟨by decide, by decide⟩ : (0 : Int) ≤ 1 ∧ (1 : Int) ≤ 1)) id (Nat.zero_le _) (Nat.zero_le _) (kZ_mk (⟨by decide, by decide⟩ : (0 : Int) ≤ 1 ∧ (1 : Int) ≤ 1) T)
  · have T := T.2 h5
    refine wp_aload_n d_GM_spells_23 rfl rfl (g_nz hX.1) ?_
    refine xgetR d_GM_spells_24 gc_GM f_GM_8.1 f_GM_8.2.1 f_GM_8.2.2.1 hX.1 (gm_o2 hX) hX.2.2.1 f_GM_8.2.2.2.2.1 (gm_row hX 0 rfl).1 ?_
    refine wp_iload_n d_GM_spells_27 rfl rfl ?_
    refine wp_iload d_GM_spells_28 rfl ?_
    refine wp_iadd d_GM_spells_30 ?_
    refine wp_baload d_GM_spells_31 (gm_row hX 0 rfl).2.2.1 (gm_row hX 0 rfl).2.2.2 (gm_row hX 0 rfl).2.1 (g32_n T.1 (by decide)) T.1.1 T.1.2 (fun h2 => ?_)
    have T := T.2 h2
    refine wp_aloadO_n d_GM_spells_32 rfl rfl ?_
    refine wp_iload d_GM_spells_33 rfl ?_
    have q3 := T.1
    have T := T.2
    refine xo_chr hO ht3 d_GM_spells_35 ml_GM_207 (by simp only [List.map, gR_cat, gI_cat, gL_cat, g_rcat, List.sum_cons, List.sum_nil]; decide) (w32_id hx4) q3 ?_
    refine xi_eq (tgt := 43) d_GM_spells_38 (by decide) (w32_id (g32_b h2)) (w32_id (g32_h (gSc_ok ht3 _))) (fun h4 => ?_) (fun h4 => ?_)
    · have T := T.1 h4
      refine wp_iinc (L' := [.val (gR G o), .val (gI x1), .val (gI x2), .val (.ref (Q.2.1 t3)), .val (gI (x4 + 1))]) d_GM_spells_43 rfl (by decide) rfl ?_
      refine wp_goto (tgt := 15) d_GM_spells_46 (by decide) ?_
      exact (wpt T (And.intro rfl (And.intro rfl (And.intro rfl (And.intro rfl (And.intro (gI_w _) True.intro))))))
    · have T := T.2 h4
      refine wp_iconst d_GM_spells_41 ?_
      exact wp_zreturn d_GM_spells_42 rfl (g_narz (⟨by decide, by decide⟩ : (0 : Int) ≤ 0 ∧ (0 : Int) ≤ 1)) id (Nat.zero_le _) (Nat.zero_le _) (kZ_mk (⟨by decide, by decide⟩ : (0 : Int) ≤ 0 ∧ (0 : Int) ≤ 1) T)
theorem e_GM_spells {l : Launch} {G : gG} {d : Nat} {X : gX} {M : gM} {k : Int → gM → Prop} {Q : gQ} {o : Nat} {x1 : Int} {x2 : Int} {t3 : Nat} (T : wp l G y_GM_spells (gRm (d + 5)) false (kkZ X k) false 0 [.val (gR G o), .val (gI x1), .val (gI x2), .val (.ref (Q.2.1 t3)), .unset] [] X M 0 0) : cZ l G y_GM_spells (gRm (d + 5)) false [gR G o, gI x1, gI x2, .ref (Q.2.1 t3)] X M k := cen_Z (plainFor_of_name rfl) (by simp only [lg_sl_R, lg_sl_I, lg_sl_L, lg_sl_O, lg_sl_N, List.length_cons, List.length_nil]; decide) (by unfold gEn; simp only [lg_sl_R, lg_sl_I, lg_sl_L, lg_sl_O, lg_sl_N]; exact wpt T (And.intro rfl (And.intro rfl (And.intro rfl (And.intro rfl True.intro)))))
theorem d_GM_asText_0 : decode prog_15_method_43_code 0 = .ok (.aload_n 0, 1) := by decide +kernel
theorem d_GM_asText_1 : decode prog_15_method_43_code 1 = .ok (.getfield 116, 3) := by decide +kernel
theorem d_GM_asText_4 : decode prog_15_method_43_code 4 = .ok (.iload_n 1, 1) := by decide +kernel
theorem d_GM_asText_5 : decode prog_15_method_43_code 5 = .ok (.iaload, 1) := by decide +kernel
theorem d_GM_asText_6 : decode prog_15_method_43_code 6 = .ok (.iconst 2, 1) := by decide +kernel
theorem d_GM_asText_7 : decode prog_15_method_43_code 7 = .ok (.if_icmp .ne 4, 3) := by decide +kernel
theorem d_GM_asText_11 : decode prog_15_method_43_code 11 = .ok (.aload_n 0, 1) := by decide +kernel
theorem d_GM_asText_12 : decode prog_15_method_43_code 12 = .ok (.getfield 116, 3) := by decide +kernel
theorem d_GM_asText_15 : decode prog_15_method_43_code 15 = .ok (.iload_n 1, 1) := by decide +kernel
theorem d_GM_asText_16 : decode prog_15_method_43_code 16 = .ok (.iaload, 1) := by decide +kernel
theorem d_GM_asText_17 : decode prog_15_method_43_code 17 = .ok (.istore_n 2, 1) := by decide +kernel
theorem d_GM_asText_18 : decode prog_15_method_43_code 18 = .ok (.aload_n 0, 1) := by decide +kernel
theorem d_GM_asText_19 : decode prog_15_method_43_code 19 = .ok (.getfield 116, 3) := by decide +kernel
theorem d_GM_asText_22 : decode prog_15_method_43_code 22 = .ok (.iload_n 1, 1) := by decide +kernel
theorem d_GM_asText_23 : decode prog_15_method_43_code 23 = .ok (.iconst 2, 1) := by decide +kernel
theorem d_GM_asText_24 : decode prog_15_method_43_code 24 = .ok (.iastore, 1) := by decide +kernel
theorem d_GM_asText_25 : decode prog_15_method_43_code 25 = .ok (.aload_n 0, 1) := by decide +kernel
theorem d_GM_asText_26 : decode prog_15_method_43_code 26 = .ok (.getfield 119, 3) := by decide +kernel
theorem d_GM_asText_29 : decode prog_15_method_43_code 29 = .ok (.iload_n 1, 1) := by decide +kernel
theorem d_GM_asText_30 : decode prog_15_method_43_code 30 = .ok (.iconst 0, 1) := by decide +kernel
theorem d_GM_asText_31 : decode prog_15_method_43_code 31 = .ok (.iastore, 1) := by decide +kernel
theorem d_GM_asText_32 : decode prog_15_method_43_code 32 = .ok (.iload_n 2, 1) := by decide +kernel
theorem d_GM_asText_33 : decode prog_15_method_43_code 33 = .ok (.iconst 3, 1) := by decide +kernel
theorem d_GM_asText_34 : decode prog_15_method_43_code 34 = .ok (.if_icmp .ne 26, 3) := by decide +kernel
theorem d_GM_asText_60 : decode prog_15_method_43_code 60 = .ok (.iload_n 2, 1) := by decide +kernel
theorem d_GM_asText_61 : decode prog_15_method_43_code 61 = .ok (.iconst 1, 1) := by decide +kernel
theorem d_GM_asText_62 : decode prog_15_method_43_code 62 = .ok (.if_icmp .ne 14, 3) := by decide +kernel
theorem d_GM_asText_76 : decode prog_15_method_43_code 76 = .ok (.return_, 1) := by decide +kernel
theorem d_GM_asText_65 : decode prog_15_method_43_code 65 = .ok (.aload_n 0, 1) := by decide +kernel
theorem d_GM_asText_66 : decode prog_15_method_43_code 66 = .ok (.iload_n 1, 1) := by decide +kernel
theorem d_GM_asText_67 : decode prog_15_method_43_code 67 = .ok (.aload_n 0, 1) := by decide +kernel
theorem d_GM_asText_68 : decode prog_15_method_43_code 68 = .ok (.getfield 122, 3) := by decide +kernel
theorem d_GM_asText_71 : decode prog_15_method_43_code 71 = .ok (.iload_n 1, 1) := by decide +kernel
theorem d_GM_asText_72 : decode prog_15_method_43_code 72 = .ok (.laload, 1) := by decide +kernel
theorem d_GM_asText_73 : decode prog_15_method_43_code 73 = .ok (.invokevirtual 320, 3) := by decide +kernel
theorem d_GM_asText_37 : decode prog_15_method_43_code 37 = .ok (.aload_n 0, 1) := by decide +kernel
theorem d_GM_asText_38 : decode prog_15_method_43_code 38 = .ok (.iload_n 1, 1) := by decide +kernel
theorem d_GM_asText_39 : decode prog_15_method_43_code 39 = .ok (.aload_n 0, 1) := by decide +kernel
theorem d_GM_asText_40 : decode prog_15_method_43_code 40 = .ok (.getfield 122, 3) := by decide +kernel
theorem d_GM_asText_43 : decode prog_15_method_43_code 43 = .ok (.iload_n 1, 1) := by decide +kernel
theorem d_GM_asText_44 : decode prog_15_method_43_code 44 = .ok (.laload, 1) := by decide +kernel
theorem d_GM_asText_45 : decode prog_15_method_43_code 45 = .ok (.lconst 1, 1) := by decide +kernel
theorem d_GM_asText_46 : decode prog_15_method_43_code 46 = .ok (.lcmp, 1) := by decide +kernel
theorem d_GM_asText_47 : decode prog_15_method_43_code 47 = .ok (.ifCond .ne 8, 3) := by decide +kernel
theorem d_GM_asText_55 : decode prog_15_method_43_code 55 = .ok (.ldc 199, 2) := by decide +kernel
theorem d_GM_asText_57 : decode prog_15_method_43_code 57 = .ok (.invokevirtual 317, 3) := by decide +kernel
theorem d_GM_asText_50 : decode prog_15_method_43_code 50 = .ok (.ldc 193, 2) := by decide +kernel
theorem d_GM_asText_52 : decode prog_15_method_43_code 52 = .ok (.goto 5, 3) := by decide +kernel
theorem d_GM_asText_10 : decode prog_15_method_43_code 10 = .ok (.return_, 1) := by decide +kernel
set_option maxHeartbeats 4000000 in
theorem w_GM_asText_0 {l : Launch} {G : gG} {d : Nat} {X : gX} {M : gM} {k : gM → Prop} {o : Nat} (hX : gmX X o) {Q : gQ} (hO : gOld G Q) {x1 : Int} (hx1 : g32 x1) (T : ((0 : Int) ≤ x1 ∧ x1 < 1200) ∧ (g32 (M (o + 34) (Int.toNat x1)) → ((¬ M (o + 34) (Int.toNat x1) = 2 → (((0 : Int) ≤ x1 ∧ x1 < 1200) ∧ (g32 (M (o + 34) (Int.toNat x1)) → (((0 : Int) ≤ x1 ∧ x1 < 1200) ∧ (((0 : Int) ≤ x1 ∧ x1 < 1200) ∧ ((¬ M (o + 34) (Int.toNat x1) = 3 → ((¬ M (o + 34) (Int.toNat x1) = 1 → (k (gUp (gUp M (o + 34) (Int.toNat x1) 2) (o + 35) (Int.toNat x1) 0))) ∧ (M (o + 34) (Int.toNat x1) = 1 → (((0 : Int) ≤ x1 ∧ x1 < 1200) ∧ (g64 ((gUp (gUp M (o + 34) (Int.toNat x1) 2) (o + 35) (Int.toNat x1) 0) (o + 36) (Int.toNat x1)) → (cV l G y_GM_digits (gRm d) true [gR G o, gI x1, gL ((gUp (gUp M (o + 34) (Int.toNat x1) 2) (o + 35) (Int.toNat x1) 0) (o + 36) (Int.toNat x1))] X (gUp (gUp M (o + 34) (Int.toNat x1) 2) (o + 35) (Int.toNat x1) 0) (fun M4 => (k M4)))))))) ∧ (M (o + 34) (Int.toNat x1) = 3 → (((0 : Int) ≤ x1 ∧ x1 < 1200) ∧ (g64 ((gUp (gUp M (o + 34) (Int.toNat x1) 2) (o + 35) (Int.toNat x1) 0) (o + 36) (Int.toNat x1)) → ((¬ (gUp (gUp M (o + 34) (Int.toNat x1) 2) (o + 35) (Int.toNat x1) 0) (o + 36) (Int.toNat x1) = 1 → (cV l G y_GM_word_2 (gRm d) true [gR G o, gI x1, .ref (Q.2.1 6)] X (gUp (gUp M (o + 34) (Int.toNat x1) 2) (o + 35) (Int.toNat x1) 0) (fun M7 => ((¬ M (o + 34) (Int.toNat x1) = 1 → (k M7)) ∧ (M (o + 34) (Int.toNat x1) = 1 → (((0 : Int) ≤ x1 ∧ x1 < 1200) ∧ (g64 (M7 (o + 36) (Int.toNat x1)) → (cV l G y_GM_digits (gRm d) true [gR G o, gI x1, gL (M7 (o + 36) (Int.toNat x1))] X M7 (fun M9 => (k M9)))))))))) ∧ ((gUp (gUp M (o + 34) (Int.toNat x1) 2) (o + 35) (Int.toNat x1) 0) (o + 36) (Int.toNat x1) = 1 → (cV l G y_GM_word_2 (gRm d) true [gR G o, gI x1, .ref (Q.2.1 5)] X (gUp (gUp M (o + 34) (Int.toNat x1) 2) (o + 35) (Int.toNat x1) 0) (fun M11 => ((¬ M (o + 34) (Int.toNat x1) = 1 → (k M11)) ∧ (M (o + 34) (Int.toNat x1) = 1 → (((0 : Int) ≤ x1 ∧ x1 < 1200) ∧ (g64 (M11 (o + 36) (Int.toNat x1)) → (cV l G y_GM_digits (gRm d) true [gR G o, gI x1, gL (M11 (o + 36) (Int.toNat x1))] X M11 (fun M13 => (k M13)))))))))))))))))))) ∧ (M (o + 34) (Int.toNat x1) = 2 → (k M))))) : wp l G y_GM_asText (gRm (d + 1)) true (kkV X k) false 0 [.val (gR G o), .val (gI x1), .unset] [] X M 0 0 := by
  refine wp_aload_n d_GM_asText_0 rfl rfl (g_nz hX.1) ?_
  refine xgetR d_GM_asText_1 gc_GM f_GM_116.1 f_GM_116.2.1 f_GM_116.2.2.1 hX.1 (gm_o2 hX) hX.2.2.1 f_GM_116.2.2.2.2.1 (gm_row hX 33 rfl).1 ?_
  refine wp_iload_n d_GM_asText_4 rfl rfl ?_
  refine wp_iaload d_GM_asText_5 (gm_row hX 33 rfl).2.2.1 (gm_row hX 33 rfl).2.2.2 (gm_row hX 33 rfl).2.1 (g32_n T.1 (by decide)) T.1.1 T.1.2 (fun h1 => ?_)
  have T := T.2 h1
  refine wp_iconst d_GM_asText_6 ?_
  refine xi_ne (tgt := 11) d_GM_asText_7 (by decide) (w32_id h1) (w32_id (g32_c (x := 2) rfl)) (fun h17 => ?_) (fun h17 => ?_)
  · have T := T.1 h17
    refine wp_aload_n d_GM_asText_11 rfl rfl (g_nz hX.1) ?_
    refine xgetR d_GM_asText_12 gc_GM f_GM_116.1 f_GM_116.2.1 f_GM_116.2.2.1 hX.1 (gm_o2 hX) hX.2.2.1 f_GM_116.2.2.2.2.1 (gm_row hX 33 rfl).1 ?_
    refine wp_iload_n d_GM_asText_15 rfl rfl ?_
    refine wp_iaload d_GM_asText_16 (gm_row hX 33 rfl).2.2.1 (gm_row hX 33 rfl).2.2.2 (gm_row hX 33 rfl).2.1 (g32_n T.1 (by decide)) T.1.1 T.1.2 (fun h2 => ?_)
    have T := T.2 h2
    refine wp_istore_n (L' := [.val (gR G o), .val (gI x1), .val (gI (M (o + 34) (Int.toNat x1)))]) d_GM_asText_17 rfl (by decide) rfl ?_
    refine wp_aload_n d_GM_asText_18 rfl rfl (g_nz hX.1) ?_
    refine xgetR d_GM_asText_19 gc_GM f_GM_116.1 f_GM_116.2.1 f_GM_116.2.2.1 hX.1 (gm_o2 hX) hX.2.2.1 f_GM_116.2.2.2.2.1 (gm_row hX 33 rfl).1 ?_
    refine wp_iload_n d_GM_asText_22 rfl rfl ?_
    refine wp_iconst d_GM_asText_23 ?_
    refine xiast d_GM_asText_24 (gm_row hX 33 rfl).2.2.1 (gm_row hX 33 rfl).2.2.2 (gm_row hX 33 rfl).2.1 (by decide) T.1 (w32_id (g32_c (x := 2) rfl)) ?_
    have T := T.2
    refine wp_aload_n d_GM_asText_25 rfl rfl (g_nz hX.1) ?_
    refine xgetR d_GM_asText_26 gc_GM f_GM_119.1 f_GM_119.2.1 f_GM_119.2.2.1 hX.1 (gm_o2 hX) hX.2.2.1 f_GM_119.2.2.2.2.1 (gm_row hX 34 rfl).1 ?_
    refine wp_iload_n d_GM_asText_29 rfl rfl ?_
    refine wp_iconst d_GM_asText_30 ?_
    refine xiast d_GM_asText_31 (gm_row hX 34 rfl).2.2.1 (gm_row hX 34 rfl).2.2.2 (gm_row hX 34 rfl).2.1 (by decide) T.1 (w32_id (g32_c (x := 0) rfl)) ?_
    have T := T.2
    refine wp_iload_n d_GM_asText_32 rfl rfl ?_
    refine wp_iconst d_GM_asText_33 ?_
    refine xi_ne (tgt := 60) d_GM_asText_34 (by decide) (w32_id h2) (w32_id (g32_c (x := 3) rfl)) (fun h16 => ?_) (fun h16 => ?_)
    · have T := T.1 h16
      refine wp_iload_n d_GM_asText_60 rfl rfl ?_
      refine wp_iconst d_GM_asText_61 ?_
      refine xi_ne (tgt := 76) d_GM_asText_62 (by decide) (w32_id h2) (w32_id (g32_c (x := 1) rfl)) (fun h5 => ?_) (fun h5 => ?_)
      · have T := T.1 h5
        exact wp_return d_GM_asText_76 rfl (fun _ => rfl) (Nat.zero_le _) (Nat.zero_le _) (kV_mk T)
      · have T := T.2 h5
        refine wp_aload_n d_GM_asText_65 rfl rfl (g_nz hX.1) ?_
        refine wp_iload_n d_GM_asText_66 rfl rfl ?_
        refine wp_aload_n d_GM_asText_67 rfl rfl (g_nz hX.1) ?_
        refine xgetR d_GM_asText_68 gc_GM f_GM_122.1 f_GM_122.2.1 f_GM_122.2.2.1 hX.1 (gm_o2 hX) hX.2.2.1 f_GM_122.2.2.2.2.1 (gm_row hX 35 rfl).1 ?_
        refine wp_iload_n d_GM_asText_71 rfl rfl ?_
        refine wp_laload d_GM_asText_72 (gm_row hX 35 rfl).2.2.1 (gm_row hX 35 rfl).2.2.2 (gm_row hX 35 rfl).2.1 (g32_n T.1 (by decide)) T.1.1 T.1.2 (fun h3 => ?_)
        have T := T.2 h3
        refine xcV_V (md' := true) (As := [gI x1, gL ((gUp (gUp M (o + 34) (Int.toNat x1) 2) (o + 35) (Int.toNat x1) 0) (o + 36) (Int.toNat x1))]) (st := []) d_GM_asText_73 ca_GM_digits ml_GM_320 im_GM_digits se_GM_digits gc_GM hX.1 (gm_o2 hX) hX.2.2.1 rfl (by decide) (by decide) rfl (fun _ => rfl) (fun _ => rfl) T (fun M4 T => ?_)
        exact wp_return d_GM_asText_76 rfl (fun _ => rfl) (Nat.zero_le _) (Nat.zero_le _) (kV_mk T)
    · have T := T.2 h16
      refine wp_aload_n d_GM_asText_37 rfl rfl (g_nz hX.1) ?_
      refine wp_iload_n d_GM_asText_38 rfl rfl ?_
      refine wp_aload_n d_GM_asText_39 rfl rfl (g_nz hX.1) ?_
      refine xgetR d_GM_asText_40 gc_GM f_GM_122.1 f_GM_122.2.1 f_GM_122.2.2.1 hX.1 (gm_o2 hX) hX.2.2.1 f_GM_122.2.2.2.2.1 (gm_row hX 35 rfl).1 ?_
      refine wp_iload_n d_GM_asText_43 rfl rfl ?_
      refine wp_laload d_GM_asText_44 (gm_row hX 35 rfl).2.2.1 (gm_row hX 35 rfl).2.2.2 (gm_row hX 35 rfl).2.1 (g32_n T.1 (by decide)) T.1.1 T.1.2 (fun h6 => ?_)
      have T := T.2 h6
      refine wp_lconst1 d_GM_asText_45 ?_
      refine xl_ne (tgt := 55) d_GM_asText_46 d_GM_asText_47 (by decide) (w64_id h6) (w64_id (g64_c (x := 1) rfl)) (fun h15 => ?_) (fun h15 => ?_)
      · have T := T.1 h15
        refine wp_ldcS d_GM_asText_55 (fun U hU => ((hO U hU).2.1 6 (by decide)).2.2.2.2 ("GridLedgerModel", 199, "FALSE") rfl) ?_
        refine xcV_V (md' := true) (As := [gI x1, .ref (Q.2.1 6)]) (st := []) d_GM_asText_57 ca_GM_word_2 ml_GM_317 im_GM_word_2 se_GM_word_2 gc_GM hX.1 (gm_o2 hX) hX.2.2.1 rfl (by decide) (by decide) rfl (fun _ => rfl) (fun _ => rfl) T (fun M7 T => ?_)
        refine wp_iload_n d_GM_asText_60 rfl rfl ?_
        refine wp_iconst d_GM_asText_61 ?_
        refine xi_ne (tgt := 76) d_GM_asText_62 (by decide) (w32_id h2) (w32_id (g32_c (x := 1) rfl)) (fun h10 => ?_) (fun h10 => ?_)
        · have T := T.1 h10
          exact wp_return d_GM_asText_76 rfl (fun _ => rfl) (Nat.zero_le _) (Nat.zero_le _) (kV_mk T)
        · have T := T.2 h10
          refine wp_aload_n d_GM_asText_65 rfl rfl (g_nz hX.1) ?_
          refine wp_iload_n d_GM_asText_66 rfl rfl ?_
          refine wp_aload_n d_GM_asText_67 rfl rfl (g_nz hX.1) ?_
          refine xgetR d_GM_asText_68 gc_GM f_GM_122.1 f_GM_122.2.1 f_GM_122.2.2.1 hX.1 (gm_o2 hX) hX.2.2.1 f_GM_122.2.2.2.2.1 (gm_row hX 35 rfl).1 ?_
          refine wp_iload_n d_GM_asText_71 rfl rfl ?_
          refine wp_laload d_GM_asText_72 (gm_row hX 35 rfl).2.2.1 (gm_row hX 35 rfl).2.2.2 (gm_row hX 35 rfl).2.1 (g32_n T.1 (by decide)) T.1.1 T.1.2 (fun h8 => ?_)
          have T := T.2 h8
          refine xcV_V (md' := true) (As := [gI x1, gL (M7 (o + 36) (Int.toNat x1))]) (st := []) d_GM_asText_73 ca_GM_digits ml_GM_320 im_GM_digits se_GM_digits gc_GM hX.1 (gm_o2 hX) hX.2.2.1 rfl (by decide) (by decide) rfl (fun _ => rfl) (fun _ => rfl) T (fun M9 T => ?_)
          exact wp_return d_GM_asText_76 rfl (fun _ => rfl) (Nat.zero_le _) (Nat.zero_le _) (kV_mk T)
      · have T := T.2 h15
        refine wp_ldcS d_GM_asText_50 (fun U hU => ((hO U hU).2.1 5 (by decide)).2.2.2.2 ("GridLedgerModel", 193, "TRUE") rfl) ?_
        refine wp_goto (tgt := 57) d_GM_asText_52 (by decide) ?_
        refine xcV_V (md' := true) (As := [gI x1, .ref (Q.2.1 5)]) (st := []) d_GM_asText_57 ca_GM_word_2 ml_GM_317 im_GM_word_2 se_GM_word_2 gc_GM hX.1 (gm_o2 hX) hX.2.2.1 rfl (by decide) (by decide) rfl (fun _ => rfl) (fun _ => rfl) T (fun M11 T => ?_)
        refine wp_iload_n d_GM_asText_60 rfl rfl ?_
        refine wp_iconst d_GM_asText_61 ?_
        refine xi_ne (tgt := 76) d_GM_asText_62 (by decide) (w32_id h2) (w32_id (g32_c (x := 1) rfl)) (fun h14 => ?_) (fun h14 => ?_)
        · have T := T.1 h14
          exact wp_return d_GM_asText_76 rfl (fun _ => rfl) (Nat.zero_le _) (Nat.zero_le _) (kV_mk T)
        · have T := T.2 h14
          refine wp_aload_n d_GM_asText_65 rfl rfl (g_nz hX.1) ?_
          refine wp_iload_n d_GM_asText_66 rfl rfl ?_
          refine wp_aload_n d_GM_asText_67 rfl rfl (g_nz hX.1) ?_
          refine xgetR d_GM_asText_68 gc_GM f_GM_122.1 f_GM_122.2.1 f_GM_122.2.2.1 hX.1 (gm_o2 hX) hX.2.2.1 f_GM_122.2.2.2.2.1 (gm_row hX 35 rfl).1 ?_
          refine wp_iload_n d_GM_asText_71 rfl rfl ?_
          refine wp_laload d_GM_asText_72 (gm_row hX 35 rfl).2.2.1 (gm_row hX 35 rfl).2.2.2 (gm_row hX 35 rfl).2.1 (g32_n T.1 (by decide)) T.1.1 T.1.2 (fun h12 => ?_)
          have T := T.2 h12
          refine xcV_V (md' := true) (As := [gI x1, gL (M11 (o + 36) (Int.toNat x1))]) (st := []) d_GM_asText_73 ca_GM_digits ml_GM_320 im_GM_digits se_GM_digits gc_GM hX.1 (gm_o2 hX) hX.2.2.1 rfl (by decide) (by decide) rfl (fun _ => rfl) (fun _ => rfl) T (fun M13 T => ?_)
          exact wp_return d_GM_asText_76 rfl (fun _ => rfl) (Nat.zero_le _) (Nat.zero_le _) (kV_mk T)
  · have T := T.2 h17
    exact wp_return d_GM_asText_10 rfl (fun _ => rfl) (Nat.zero_le _) (Nat.zero_le _) (kV_mk T)
theorem e_GM_asText {l : Launch} {G : gG} {d : Nat} {X : gX} {M : gM} {k : gM → Prop} {Q : gQ} {o : Nat} {x1 : Int} (T : wp l G y_GM_asText (gRm (d + 1)) true (kkV X k) false 0 [.val (gR G o), .val (gI x1), .unset] [] X M 0 0) : cV l G y_GM_asText (gRm (d + 1)) true [gR G o, gI x1] X M k := cen_V (plainFor_of_name rfl) (by simp only [lg_sl_R, lg_sl_I, lg_sl_L, lg_sl_N, List.length_cons, List.length_nil]; decide) (by unfold gEn; simp only [lg_sl_R, lg_sl_I, lg_sl_L, lg_sl_N]; exact wpt T (And.intro rfl (And.intro rfl True.intro)))
theorem d_GM_word_2_0 : decode prog_15_method_44_code 0 = .ok (.aload_n 0, 1) := by decide +kernel
theorem d_GM_word_2_1 : decode prog_15_method_44_code 1 = .ok (.getfield 119, 3) := by decide +kernel
theorem d_GM_word_2_4 : decode prog_15_method_44_code 4 = .ok (.iload_n 1, 1) := by decide +kernel
theorem d_GM_word_2_5 : decode prog_15_method_44_code 5 = .ok (.aload_n 2, 1) := by decide +kernel
theorem d_GM_word_2_6 : decode prog_15_method_44_code 6 = .ok (.invokevirtual 201, 3) := by decide +kernel
theorem d_GM_word_2_9 : decode prog_15_method_44_code 9 = .ok (.iastore, 1) := by decide +kernel
theorem d_GM_word_2_10 : decode prog_15_method_44_code 10 = .ok (.iconst 0, 1) := by decide +kernel
theorem d_GM_word_2_11 : decode prog_15_method_44_code 11 = .ok (.istore_n 3, 1) := by decide +kernel
theorem d_GM_word_2_12 : decode prog_15_method_44_code 12 = .ok (.iload_n 3, 1) := by decide +kernel
theorem d_GM_word_2_13 : decode prog_15_method_44_code 13 = .ok (.aload_n 2, 1) := by decide +kernel
theorem d_GM_word_2_14 : decode prog_15_method_44_code 14 = .ok (.invokevirtual 201, 3) := by decide +kernel
theorem d_GM_word_2_17 : decode prog_15_method_44_code 17 = .ok (.if_icmp .ge 26, 3) := by decide +kernel
theorem d_GM_word_2_43 : decode prog_15_method_44_code 43 = .ok (.return_, 1) := by decide +kernel
theorem d_GM_word_2_20 : decode prog_15_method_44_code 20 = .ok (.aload_n 0, 1) := by decide +kernel
theorem d_GM_word_2_21 : decode prog_15_method_44_code 21 = .ok (.getfield 126, 3) := by decide +kernel
theorem d_GM_word_2_24 : decode prog_15_method_44_code 24 = .ok (.bipush 64, 2) := by decide +kernel
theorem d_GM_word_2_26 : decode prog_15_method_44_code 26 = .ok (.iload_n 1, 1) := by decide +kernel
theorem d_GM_word_2_27 : decode prog_15_method_44_code 27 = .ok (.imul, 1) := by decide +kernel
theorem d_GM_word_2_28 : decode prog_15_method_44_code 28 = .ok (.iload_n 3, 1) := by decide +kernel
theorem d_GM_word_2_29 : decode prog_15_method_44_code 29 = .ok (.iadd, 1) := by decide +kernel
theorem d_GM_word_2_30 : decode prog_15_method_44_code 30 = .ok (.aload_n 2, 1) := by decide +kernel
theorem d_GM_word_2_31 : decode prog_15_method_44_code 31 = .ok (.iload_n 3, 1) := by decide +kernel
theorem d_GM_word_2_32 : decode prog_15_method_44_code 32 = .ok (.invokevirtual 207, 3) := by decide +kernel
theorem d_GM_word_2_35 : decode prog_15_method_44_code 35 = .ok (.i2b, 1) := by decide +kernel
theorem d_GM_word_2_36 : decode prog_15_method_44_code 36 = .ok (.bastore, 1) := by decide +kernel
theorem d_GM_word_2_37 : decode prog_15_method_44_code 37 = .ok (.iinc 3 1, 3) := by decide +kernel
theorem d_GM_word_2_40 : decode prog_15_method_44_code 40 = .ok (.goto (-28), 3) := by decide +kernel
set_option maxHeartbeats 4000000 in
theorem w_GM_word_2_0 {l : Launch} {G : gG} {d : Nat} {X : gX} {M : gM} {k : gM → Prop} {o : Nat} (hX : gmX X o) {Q : gQ} (hO : gOld G Q) {x1 : Int} (hx1 : g32 x1) {t2 : Nat} (ht2 : t2 < 66) (T : ((0 : Int) ≤ x1 ∧ x1 < 1200) ∧ (wp l G y_GM_word_2 (gRm (d + 5)) true (kkV X k) true 12 [.val (gR G o), .val (gI x1), .val (.ref (Q.2.1 t2)), .val (gI 0)] [] X (gUp M (o + 35) (Int.toNat x1) (gSl t2 : Int)) 0 0)) : wp l G y_GM_word_2 (gRm (d + 5)) true (kkV X k) false 0 [.val (gR G o), .val (gI x1), .val (.ref (Q.2.1 t2)), .unset] [] X M 0 0 := by
  refine wp_aload_n d_GM_word_2_0 rfl rfl (g_nz hX.1) ?_
  refine xgetR d_GM_word_2_1 gc_GM f_GM_119.1 f_GM_119.2.1 f_GM_119.2.2.1 hX.1 (gm_o2 hX) hX.2.2.1 f_GM_119.2.2.2.2.1 (gm_row hX 34 rfl).1 ?_
  refine wp_iload_n d_GM_word_2_4 rfl rfl ?_
  refine wp_aloadO_n d_GM_word_2_5 rfl rfl ?_
  refine xo_len hO ht2 d_GM_word_2_6 ml_GM_201 (by simp only [List.map, gR_cat, gI_cat, gL_cat, g_rcat, List.sum_cons, List.sum_nil]; decide) ?_
  refine xiast d_GM_word_2_9 (gm_row hX 34 rfl).2.2.1 (gm_row hX 34 rfl).2.2.2 (gm_row hX 34 rfl).2.1 (by decide) T.1 (w32_id (g32_h4 (gSl_ok ht2))) ?_
  have T := T.2
  refine wp_iconst d_GM_word_2_10 ?_
  refine wp_istore_n (L' := [.val (gR G o), .val (gI x1), .val (.ref (Q.2.1 t2)), .val (gI 0)]) d_GM_word_2_11 rfl (by decide) rfl ?_
  exact wp_md (wpt T (And.intro rfl (And.intro rfl (And.intro rfl (And.intro rfl True.intro)))))
set_option maxHeartbeats 4000000 in
theorem w_GM_word_2_12 {l : Launch} {G : gG} {d : Nat} {X : gX} {M : gM} {k : gM → Prop} {o : Nat} (hX : gmX X o) {Q : gQ} (hO : gOld G Q) {x1 : Int} (hx1 : g32 x1) {x3 : Int} (hx3 : g32 x3) {t2 : Nat} (ht2 : t2 < 66) (T : ((gSl t2 : Int) ≤ x3 → (k M)) ∧ (¬ (gSl t2 : Int) ≤ x3 → (((0 : Int) ≤ x3 ∧ x3 < (gSl t2 : Int)) ∧ (((0 : Int) ≤ (64 * x1) + x3 ∧ (64 * x1) + x3 < 76800) ∧ (wp l G y_GM_word_2 (gRm (d + 5)) true (kkV X k) true 12 [.val (gR G o), .val (gI x1), .val (.ref (Q.2.1 t2)), .val (gI (w32 (x3 + 1)))] [] X (gUp M (o + 37) (Int.toNat ((64 * x1) + x3)) (gByte (gByte (gSc t2 (Int.toNat x3))))) 0 0))))) : wp l G y_GM_word_2 (gRm (d + 5)) true (kkV X k) true 12 [.val (gR G o), .val (gI x1), .val (.ref (Q.2.1 t2)), .val (gI x3)] [] X M 0 0 := by
  refine wp_iload_n d_GM_word_2_12 rfl rfl ?_
  refine wp_aloadO_n d_GM_word_2_13 rfl rfl ?_
  refine xo_len hO ht2 d_GM_word_2_14 ml_GM_201 (by simp only [List.map, gR_cat, gI_cat, gL_cat, g_rcat, List.sum_cons, List.sum_nil]; decide) ?_
  refine xi_ge (tgt := 43) d_GM_word_2_17 (by decide) (w32_id hx3) (w32_id (g32_h4 (gSl_ok ht2))) (fun h2 => ?_) (fun h2 => ?_)
  · have T := T.1 h2
    exact wp_return d_GM_word_2_43 rfl (fun _ => rfl) (Nat.zero_le _) (Nat.zero_le _) (kV_mk T)
  · have T := T.2 h2
    refine wp_aload_n d_GM_word_2_20 rfl rfl (g_nz hX.1) ?_
    refine xgetR d_GM_word_2_21 gc_GM f_GM_126.1 f_GM_126.2.1 f_GM_126.2.2.1 hX.1 (gm_o2 hX) hX.2.2.1 f_GM_126.2.2.2.2.1 (gm_row hX 36 rfl).1 ?_
    refine wp_bipush d_GM_word_2_24 ⟨by decide, by decide⟩ ?_
    refine wp_iload_n d_GM_word_2_26 rfl rfl ?_
    refine wp_imul d_GM_word_2_27 ?_
    refine wp_iload_n d_GM_word_2_28 rfl rfl ?_
    refine wp_iadd d_GM_word_2_29 ?_
    refine wp_aloadO_n d_GM_word_2_30 rfl rfl ?_
    refine wp_iload_n d_GM_word_2_31 rfl rfl ?_
    have q1 := T.1
    have T := T.2
    refine xo_chr hO ht2 d_GM_word_2_32 ml_GM_207 (by simp only [List.map, gR_cat, gI_cat, gL_cat, g_rcat, List.sum_cons, List.sum_nil]; decide) (w32_id hx3) q1 ?_
    refine wp_i2b d_GM_word_2_35 ?_
    refine xbast d_GM_word_2_36 (gm_row hX 36 rfl).2.2.1 (gm_row hX 36 rfl).2.2.2 (gm_row hX 36 rfl).2.1 (by decide) T.1 ?_
    have T := T.2
    refine wp_iinc (L' := [.val (gR G o), .val (gI x1), .val (.ref (Q.2.1 t2)), .val (gI (x3 + 1))]) d_GM_word_2_37 rfl (by decide) rfl ?_
    refine wp_goto (tgt := 12) d_GM_word_2_40 (by decide) ?_
    exact wp_md (wpt T (And.intro rfl (And.intro rfl (And.intro rfl (And.intro (gI_w _) True.intro)))))
theorem e_GM_word_2 {l : Launch} {G : gG} {d : Nat} {X : gX} {M : gM} {k : gM → Prop} {Q : gQ} {o : Nat} {x1 : Int} {t2 : Nat} (T : wp l G y_GM_word_2 (gRm (d + 5)) true (kkV X k) false 0 [.val (gR G o), .val (gI x1), .val (.ref (Q.2.1 t2)), .unset] [] X M 0 0) : cV l G y_GM_word_2 (gRm (d + 5)) true [gR G o, gI x1, .ref (Q.2.1 t2)] X M k := cen_V (plainFor_of_name rfl) (by simp only [lg_sl_R, lg_sl_I, lg_sl_L, lg_sl_O, lg_sl_N, List.length_cons, List.length_nil]; decide) (by unfold gEn; simp only [lg_sl_R, lg_sl_I, lg_sl_L, lg_sl_O, lg_sl_N]; exact wpt T (And.intro rfl (And.intro rfl (And.intro rfl True.intro))))
