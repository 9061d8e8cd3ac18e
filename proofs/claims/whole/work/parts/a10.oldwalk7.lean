/-! Walks over Work and strings, written by wip/whole/gen_more.py -/
theorem d_GM_call_2_0 : decode prog_15_method_56_code 0 = .ok (.aload_n 0, 1) := by decide +kernel
theorem d_GM_call_2_1 : decode prog_15_method_56_code 1 = .ok (.getfield 27, 3) := by decide +kernel
theorem d_GM_call_2_4 : decode prog_15_method_56_code 4 = .ok (.iload_n 1, 1) := by decide +kernel
theorem d_GM_call_2_5 : decode prog_15_method_56_code 5 = .ok (.laload, 1) := by decide +kernel
theorem d_GM_call_2_6 : decode prog_15_method_56_code 6 = .ok (.bipush 20, 2) := by decide +kernel
theorem d_GM_call_2_8 : decode prog_15_method_56_code 8 = .ok (.lshr, 1) := by decide +kernel
theorem d_GM_call_2_9 : decode prog_15_method_56_code 9 = .ok (.l2i, 1) := by decide +kernel
theorem d_GM_call_2_10 : decode prog_15_method_56_code 10 = .ok (.istore_n 2, 1) := by decide +kernel
theorem d_GM_call_2_11 : decode prog_15_method_56_code 11 = .ok (.aload_n 0, 1) := by decide +kernel
theorem d_GM_call_2_12 : decode prog_15_method_56_code 12 = .ok (.getfield 27, 3) := by decide +kernel
theorem d_GM_call_2_15 : decode prog_15_method_56_code 15 = .ok (.iload_n 1, 1) := by decide +kernel
theorem d_GM_call_2_16 : decode prog_15_method_56_code 16 = .ok (.laload, 1) := by decide +kernel
theorem d_GM_call_2_17 : decode prog_15_method_56_code 17 = .ok (.ldc2_w 395, 3) := by decide +kernel
theorem d_GM_call_2_20 : decode prog_15_method_56_code 20 = .ok (.land, 1) := by decide +kernel
theorem d_GM_call_2_21 : decode prog_15_method_56_code 21 = .ok (.l2i, 1) := by decide +kernel
theorem d_GM_call_2_22 : decode prog_15_method_56_code 22 = .ok (.istore_n 3, 1) := by decide +kernel
theorem d_GM_call_2_23 : decode prog_15_method_56_code 23 = .ok (.aload_n 0, 1) := by decide +kernel
theorem d_GM_call_2_24 : decode prog_15_method_56_code 24 = .ok (.iload_n 2, 1) := by decide +kernel
theorem d_GM_call_2_25 : decode prog_15_method_56_code 25 = .ok (.iload_n 3, 1) := by decide +kernel
theorem d_GM_call_2_26 : decode prog_15_method_56_code 26 = .ok (.invokevirtual 397, 3) := by decide +kernel
theorem d_GM_call_2_29 : decode prog_15_method_56_code 29 = .ok (.istore 4, 2) := by decide +kernel
theorem d_GM_call_2_31 : decode prog_15_method_56_code 31 = .ok (.aload_n 0, 1) := by decide +kernel
theorem d_GM_call_2_32 : decode prog_15_method_56_code 32 = .ok (.getfield 390, 3) := by decide +kernel
theorem d_GM_call_2_35 : decode prog_15_method_56_code 35 = .ok (.istore 5, 2) := by decide +kernel
theorem d_GM_call_2_37 : decode prog_15_method_56_code 37 = .ok (.iload 4, 2) := by decide +kernel
theorem d_GM_call_2_39 : decode prog_15_method_56_code 39 = .ok (.ifCond .ge 9, 3) := by decide +kernel
theorem d_GM_call_2_48 : decode prog_15_method_56_code 48 = .ok (.iconst 0, 1) := by decide +kernel
theorem d_GM_call_2_49 : decode prog_15_method_56_code 49 = .ok (.istore 6, 2) := by decide +kernel
theorem d_GM_call_2_42 : decode prog_15_method_56_code 42 = .ok (.aload_n 0, 1) := by decide +kernel
theorem d_GM_call_2_43 : decode prog_15_method_56_code 43 = .ok (.iconst 3, 1) := by decide +kernel
theorem d_GM_call_2_44 : decode prog_15_method_56_code 44 = .ok (.invokevirtual 314, 3) := by decide +kernel
theorem d_GM_call_2_47 : decode prog_15_method_56_code 47 = .ok (.return_, 1) := by decide +kernel
theorem d_GM_call_2_51 : decode prog_15_method_56_code 51 = .ok (.ldc_w 393, 3) := by decide +kernel
theorem d_GM_call_2_54 : decode prog_15_method_56_code 54 = .ok (.iload 4, 2) := by decide +kernel
theorem d_GM_call_2_56 : decode prog_15_method_56_code 56 = .ok (.iload 6, 2) := by decide +kernel
theorem d_GM_call_2_58 : decode prog_15_method_56_code 58 = .ok (.iadd, 1) := by decide +kernel
theorem d_GM_call_2_59 : decode prog_15_method_56_code 59 = .ok (.invokevirtual 207, 3) := by decide +kernel
theorem d_GM_call_2_62 : decode prog_15_method_56_code 62 = .ok (.bipush 32, 2) := by decide +kernel
theorem d_GM_call_2_64 : decode prog_15_method_56_code 64 = .ok (.if_icmp .eq 9, 3) := by decide +kernel
theorem d_GM_call_2_73 : decode prog_15_method_56_code 73 = .ok (.iload 6, 2) := by decide +kernel
theorem d_GM_call_2_75 : decode prog_15_method_56_code 75 = .ok (.aload_n 0, 1) := by decide +kernel
theorem d_GM_call_2_76 : decode prog_15_method_56_code 76 = .ok (.getfield 21, 3) := by decide +kernel
theorem d_GM_call_2_79 : decode prog_15_method_56_code 79 = .ok (.iload_n 1, 1) := by decide +kernel
theorem d_GM_call_2_80 : decode prog_15_method_56_code 80 = .ok (.iaload, 1) := by decide +kernel
theorem d_GM_call_2_81 : decode prog_15_method_56_code 81 = .ok (.if_icmp .ne 7, 3) := by decide +kernel
theorem d_GM_call_2_88 : decode prog_15_method_56_code 88 = .ok (.iconst 0, 1) := by decide +kernel
theorem d_GM_call_2_89 : decode prog_15_method_56_code 89 = .ok (.istore 7, 2) := by decide +kernel
theorem d_GM_call_2_91 : decode prog_15_method_56_code 91 = .ok (.aload_n 0, 1) := by decide +kernel
theorem d_GM_call_2_92 : decode prog_15_method_56_code 92 = .ok (.getfield 18, 3) := by decide +kernel
theorem d_GM_call_2_95 : decode prog_15_method_56_code 95 = .ok (.iload_n 1, 1) := by decide +kernel
theorem d_GM_call_2_96 : decode prog_15_method_56_code 96 = .ok (.iaload, 1) := by decide +kernel
theorem d_GM_call_2_97 : decode prog_15_method_56_code 97 = .ok (.istore 8, 2) := by decide +kernel
theorem d_GM_call_2_99 : decode prog_15_method_56_code 99 = .ok (.iconst 0, 1) := by decide +kernel
theorem d_GM_call_2_100 : decode prog_15_method_56_code 100 = .ok (.istore 9, 2) := by decide +kernel
theorem d_GM_call_2_84 : decode prog_15_method_56_code 84 = .ok (.iconst 1, 1) := by decide +kernel
theorem d_GM_call_2_85 : decode prog_15_method_56_code 85 = .ok (.goto 4, 3) := by decide +kernel
theorem d_GM_call_2_67 : decode prog_15_method_56_code 67 = .ok (.iinc 6 1, 3) := by decide +kernel
theorem d_GM_call_2_70 : decode prog_15_method_56_code 70 = .ok (.goto (-19), 3) := by decide +kernel
theorem d_GM_call_2_102 : decode prog_15_method_56_code 102 = .ok (.iload 7, 2) := by decide +kernel
theorem d_GM_call_2_104 : decode prog_15_method_56_code 104 = .ok (.ifCond .eq 101, 3) := by decide +kernel
theorem d_GM_call_2_107 : decode prog_15_method_56_code 107 = .ok (.iload 9, 2) := by decide +kernel
theorem d_GM_call_2_109 : decode prog_15_method_56_code 109 = .ok (.iload 6, 2) := by decide +kernel
theorem d_GM_call_2_111 : decode prog_15_method_56_code 111 = .ok (.if_icmp .ge 94, 3) := by decide +kernel
theorem d_GM_call_2_114 : decode prog_15_method_56_code 114 = .ok (.ldc_w 393, 3) := by decide +kernel
theorem d_GM_call_2_117 : decode prog_15_method_56_code 117 = .ok (.iload 4, 2) := by decide +kernel
theorem d_GM_call_2_119 : decode prog_15_method_56_code 119 = .ok (.iload 9, 2) := by decide +kernel
theorem d_GM_call_2_121 : decode prog_15_method_56_code 121 = .ok (.iadd, 1) := by decide +kernel
theorem d_GM_call_2_122 : decode prog_15_method_56_code 122 = .ok (.invokevirtual 207, 3) := by decide +kernel
theorem d_GM_call_2_125 : decode prog_15_method_56_code 125 = .ok (.bipush 114, 2) := by decide +kernel
theorem d_GM_call_2_127 : decode prog_15_method_56_code 127 = .ok (.if_icmp .ne 7, 3) := by decide +kernel
theorem d_GM_call_2_134 : decode prog_15_method_56_code 134 = .ok (.iconst 0, 1) := by decide +kernel
theorem d_GM_call_2_135 : decode prog_15_method_56_code 135 = .ok (.istore 10, 2) := by decide +kernel
theorem d_GM_call_2_137 : decode prog_15_method_56_code 137 = .ok (.iload 10, 2) := by decide +kernel
theorem d_GM_call_2_139 : decode prog_15_method_56_code 139 = .ok (.ifCond .eq 33, 3) := by decide +kernel
theorem d_GM_call_2_172 : decode prog_15_method_56_code 172 = .ok (.aload_n 0, 1) := by decide +kernel
theorem d_GM_call_2_173 : decode prog_15_method_56_code 173 = .ok (.getfield 14, 3) := by decide +kernel
theorem d_GM_call_2_176 : decode prog_15_method_56_code 176 = .ok (.iload 8, 2) := by decide +kernel
theorem d_GM_call_2_178 : decode prog_15_method_56_code 178 = .ok (.iaload, 1) := by decide +kernel
theorem d_GM_call_2_179 : decode prog_15_method_56_code 179 = .ok (.iconst 3, 1) := by decide +kernel
theorem d_GM_call_2_180 : decode prog_15_method_56_code 180 = .ok (.if_icmp .eq 7, 3) := by decide +kernel
theorem d_GM_call_2_187 : decode prog_15_method_56_code 187 = .ok (.iconst 0, 1) := by decide +kernel
theorem d_GM_call_2_188 : decode prog_15_method_56_code 188 = .ok (.istore 7, 2) := by decide +kernel
theorem d_GM_call_2_190 : decode prog_15_method_56_code 190 = .ok (.aload_n 0, 1) := by decide +kernel
theorem d_GM_call_2_191 : decode prog_15_method_56_code 191 = .ok (.getfield 24, 3) := by decide +kernel
theorem d_GM_call_2_194 : decode prog_15_method_56_code 194 = .ok (.iload 8, 2) := by decide +kernel
theorem d_GM_call_2_196 : decode prog_15_method_56_code 196 = .ok (.iaload, 1) := by decide +kernel
theorem d_GM_call_2_197 : decode prog_15_method_56_code 197 = .ok (.istore 8, 2) := by decide +kernel
theorem d_GM_call_2_199 : decode prog_15_method_56_code 199 = .ok (.iinc 9 1, 3) := by decide +kernel
theorem d_GM_call_2_202 : decode prog_15_method_56_code 202 = .ok (.goto (-100), 3) := by decide +kernel
theorem d_GM_call_2_183 : decode prog_15_method_56_code 183 = .ok (.iconst 1, 1) := by decide +kernel
theorem d_GM_call_2_184 : decode prog_15_method_56_code 184 = .ok (.goto 4, 3) := by decide +kernel
theorem d_GM_call_2_142 : decode prog_15_method_56_code 142 = .ok (.aload_n 0, 1) := by decide +kernel
theorem d_GM_call_2_143 : decode prog_15_method_56_code 143 = .ok (.getfield 14, 3) := by decide +kernel
theorem d_GM_call_2_146 : decode prog_15_method_56_code 146 = .ok (.iload 8, 2) := by decide +kernel
theorem d_GM_call_2_148 : decode prog_15_method_56_code 148 = .ok (.iaload, 1) := by decide +kernel
theorem d_GM_call_2_149 : decode prog_15_method_56_code 149 = .ok (.iconst 3, 1) := by decide +kernel
theorem d_GM_call_2_150 : decode prog_15_method_56_code 150 = .ok (.if_icmp .eq 14, 3) := by decide +kernel
theorem d_GM_call_2_164 : decode prog_15_method_56_code 164 = .ok (.iconst 1, 1) := by decide +kernel
theorem d_GM_call_2_165 : decode prog_15_method_56_code 165 = .ok (.goto 23, 3) := by decide +kernel
theorem d_GM_call_2_153 : decode prog_15_method_56_code 153 = .ok (.aload_n 0, 1) := by decide +kernel
theorem d_GM_call_2_154 : decode prog_15_method_56_code 154 = .ok (.getfield 14, 3) := by decide +kernel
theorem d_GM_call_2_157 : decode prog_15_method_56_code 157 = .ok (.iload 8, 2) := by decide +kernel
theorem d_GM_call_2_159 : decode prog_15_method_56_code 159 = .ok (.iaload, 1) := by decide +kernel
theorem d_GM_call_2_160 : decode prog_15_method_56_code 160 = .ok (.iconst 2, 1) := by decide +kernel
theorem d_GM_call_2_161 : decode prog_15_method_56_code 161 = .ok (.if_icmp .ne 7, 3) := by decide +kernel
theorem d_GM_call_2_168 : decode prog_15_method_56_code 168 = .ok (.iconst 0, 1) := by decide +kernel
theorem d_GM_call_2_169 : decode prog_15_method_56_code 169 = .ok (.goto 19, 3) := by decide +kernel
theorem d_GM_call_2_130 : decode prog_15_method_56_code 130 = .ok (.iconst 1, 1) := by decide +kernel
theorem d_GM_call_2_131 : decode prog_15_method_56_code 131 = .ok (.goto 4, 3) := by decide +kernel
theorem d_GM_call_2_205 : decode prog_15_method_56_code 205 = .ok (.iload 7, 2) := by decide +kernel
theorem d_GM_call_2_207 : decode prog_15_method_56_code 207 = .ok (.ifCond .ne 9, 3) := by decide +kernel
theorem d_GM_call_2_216 : decode prog_15_method_56_code 216 = .ok (.iload 5, 2) := by decide +kernel
theorem d_GM_call_2_218 : decode prog_15_method_56_code 218 = .ok (.bipush 10, 2) := by decide +kernel
theorem d_GM_call_2_220 : decode prog_15_method_56_code 220 = .ok (.if_icmp .lt 23, 3) := by decide +kernel
theorem d_GM_call_2_243 : decode prog_15_method_56_code 243 = .ok (.aload_n 0, 1) := by decide +kernel
theorem d_GM_call_2_244 : decode prog_15_method_56_code 244 = .ok (.getfield 304, 3) := by decide +kernel
theorem d_GM_call_2_247 : decode prog_15_method_56_code 247 = .ok (.istore 9, 2) := by decide +kernel
theorem d_GM_call_2_249 : decode prog_15_method_56_code 249 = .ok (.iconst (-1), 1) := by decide +kernel
theorem d_GM_call_2_250 : decode prog_15_method_56_code 250 = .ok (.istore 10, 2) := by decide +kernel
theorem d_GM_call_2_252 : decode prog_15_method_56_code 252 = .ok (.aload_n 0, 1) := by decide +kernel
theorem d_GM_call_2_253 : decode prog_15_method_56_code 253 = .ok (.getfield 18, 3) := by decide +kernel
theorem d_GM_call_2_256 : decode prog_15_method_56_code 256 = .ok (.iload_n 1, 1) := by decide +kernel
theorem d_GM_call_2_257 : decode prog_15_method_56_code 257 = .ok (.iaload, 1) := by decide +kernel
theorem d_GM_call_2_258 : decode prog_15_method_56_code 258 = .ok (.istore 8, 2) := by decide +kernel
theorem d_GM_call_2_260 : decode prog_15_method_56_code 260 = .ok (.iconst 0, 1) := by decide +kernel
theorem d_GM_call_2_261 : decode prog_15_method_56_code 261 = .ok (.istore 11, 2) := by decide +kernel
theorem d_GM_call_2_223 : decode prog_15_method_56_code 223 = .ok (.iload 5, 2) := by decide +kernel
theorem d_GM_call_2_225 : decode prog_15_method_56_code 225 = .ok (.bipush 12, 2) := by decide +kernel
theorem d_GM_call_2_227 : decode prog_15_method_56_code 227 = .ok (.if_icmp .gt 16, 3) := by decide +kernel
theorem d_GM_call_2_230 : decode prog_15_method_56_code 230 = .ok (.aload_n 0, 1) := by decide +kernel
theorem d_GM_call_2_231 : decode prog_15_method_56_code 231 = .ok (.iload 5, 2) := by decide +kernel
theorem d_GM_call_2_233 : decode prog_15_method_56_code 233 = .ok (.aload_n 0, 1) := by decide +kernel
theorem d_GM_call_2_234 : decode prog_15_method_56_code 234 = .ok (.getfield 18, 3) := by decide +kernel
theorem d_GM_call_2_237 : decode prog_15_method_56_code 237 = .ok (.iload_n 1, 1) := by decide +kernel
theorem d_GM_call_2_238 : decode prog_15_method_56_code 238 = .ok (.iaload, 1) := by decide +kernel
theorem d_GM_call_2_239 : decode prog_15_method_56_code 239 = .ok (.invokevirtual 400, 3) := by decide +kernel
theorem d_GM_call_2_242 : decode prog_15_method_56_code 242 = .ok (.return_, 1) := by decide +kernel
theorem d_GM_call_2_210 : decode prog_15_method_56_code 210 = .ok (.aload_n 0, 1) := by decide +kernel
theorem d_GM_call_2_211 : decode prog_15_method_56_code 211 = .ok (.iconst 4, 1) := by decide +kernel
theorem d_GM_call_2_212 : decode prog_15_method_56_code 212 = .ok (.invokevirtual 314, 3) := by decide +kernel
theorem d_GM_call_2_215 : decode prog_15_method_56_code 215 = .ok (.return_, 1) := by decide +kernel
theorem d_GM_call_2_263 : decode prog_15_method_56_code 263 = .ok (.iload 11, 2) := by decide +kernel
theorem d_GM_call_2_265 : decode prog_15_method_56_code 265 = .ok (.iload 6, 2) := by decide +kernel
theorem d_GM_call_2_267 : decode prog_15_method_56_code 267 = .ok (.if_icmp .ge 87, 3) := by decide +kernel
theorem d_GM_call_2_354 : decode prog_15_method_56_code 354 = .ok (.iload 5, 2) := by decide +kernel
theorem d_GM_call_2_356 : decode prog_15_method_56_code 356 = .ok (.bipush 13, 2) := by decide +kernel
theorem d_GM_call_2_358 : decode prog_15_method_56_code 358 = .ok (.if_icmp .lt 14, 3) := by decide +kernel
theorem d_GM_call_2_361 : decode prog_15_method_56_code 361 = .ok (.iload 5, 2) := by decide +kernel
theorem d_GM_call_2_363 : decode prog_15_method_56_code 363 = .ok (.bipush 16, 2) := by decide +kernel
theorem d_GM_call_2_365 : decode prog_15_method_56_code 365 = .ok (.if_icmp .gt 7, 3) := by decide +kernel
theorem d_GM_call_2_368 : decode prog_15_method_56_code 368 = .ok (.iconst 1, 1) := by decide +kernel
theorem d_GM_call_2_369 : decode prog_15_method_56_code 369 = .ok (.goto 4, 3) := by decide +kernel
theorem d_GM_call_2_373 : decode prog_15_method_56_code 373 = .ok (.istore 11, 2) := by decide +kernel
theorem d_GM_call_2_375 : decode prog_15_method_56_code 375 = .ok (.iload 6, 2) := by decide +kernel
theorem d_GM_call_2_377 : decode prog_15_method_56_code 377 = .ok (.ifCond .le 18, 3) := by decide +kernel
theorem d_GM_call_2_380 : decode prog_15_method_56_code 380 = .ok (.iload 11, 2) := by decide +kernel
theorem d_GM_call_2_382 : decode prog_15_method_56_code 382 = .ok (.ifCond .ne 13, 3) := by decide +kernel
theorem d_GM_call_2_385 : decode prog_15_method_56_code 385 = .ok (.aload_n 0, 1) := by decide +kernel
theorem d_GM_call_2_386 : decode prog_15_method_56_code 386 = .ok (.iload 6, 2) := by decide +kernel
theorem d_GM_call_2_388 : decode prog_15_method_56_code 388 = .ok (.invokevirtual 335, 3) := by decide +kernel
theorem d_GM_call_2_391 : decode prog_15_method_56_code 391 = .ok (.ifCond .eq 4, 3) := by decide +kernel
theorem d_GM_call_2_394 : decode prog_15_method_56_code 394 = .ok (.return_, 1) := by decide +kernel
theorem d_GM_call_2_270 : decode prog_15_method_56_code 270 = .ok (.ldc_w 393, 3) := by decide +kernel
theorem d_GM_call_2_273 : decode prog_15_method_56_code 273 = .ok (.iload 4, 2) := by decide +kernel
theorem d_GM_call_2_275 : decode prog_15_method_56_code 275 = .ok (.iload 11, 2) := by decide +kernel
theorem d_GM_call_2_277 : decode prog_15_method_56_code 277 = .ok (.iadd, 1) := by decide +kernel
theorem d_GM_call_2_278 : decode prog_15_method_56_code 278 = .ok (.invokevirtual 207, 3) := by decide +kernel
theorem d_GM_call_2_281 : decode prog_15_method_56_code 281 = .ok (.bipush 114, 2) := by decide +kernel
theorem d_GM_call_2_283 : decode prog_15_method_56_code 283 = .ok (.if_icmp .eq 12, 3) := by decide +kernel
theorem d_GM_call_2_295 : decode prog_15_method_56_code 295 = .ok (.aload_n 0, 1) := by decide +kernel
theorem d_GM_call_2_296 : decode prog_15_method_56_code 296 = .ok (.aload_n 0, 1) := by decide +kernel
theorem d_GM_call_2_297 : decode prog_15_method_56_code 297 = .ok (.getfield 18, 3) := by decide +kernel
theorem d_GM_call_2_300 : decode prog_15_method_56_code 300 = .ok (.iload 8, 2) := by decide +kernel
theorem d_GM_call_2_302 : decode prog_15_method_56_code 302 = .ok (.iaload, 1) := by decide +kernel
theorem d_GM_call_2_303 : decode prog_15_method_56_code 303 = .ok (.invokevirtual 374, 3) := by decide +kernel
theorem d_GM_call_2_306 : decode prog_15_method_56_code 306 = .ok (.ifCond .ge 7, 3) := by decide +kernel
theorem d_GM_call_2_313 : decode prog_15_method_56_code 313 = .ok (.iconst 0, 1) := by decide +kernel
theorem d_GM_call_2_314 : decode prog_15_method_56_code 314 = .ok (.istore 12, 2) := by decide +kernel
theorem d_GM_call_2_316 : decode prog_15_method_56_code 316 = .ok (.iload 12, 2) := by decide +kernel
theorem d_GM_call_2_318 : decode prog_15_method_56_code 318 = .ok (.ifCond .eq 11, 3) := by decide +kernel
theorem d_GM_call_2_329 : decode prog_15_method_56_code 329 = .ok (.aload_n 0, 1) := by decide +kernel
theorem d_GM_call_2_330 : decode prog_15_method_56_code 330 = .ok (.iconst 0, 1) := by decide +kernel
theorem d_GM_call_2_331 : decode prog_15_method_56_code 331 = .ok (.lconst 0, 1) := by decide +kernel
theorem d_GM_call_2_332 : decode prog_15_method_56_code 332 = .ok (.invokevirtual 307, 3) := by decide +kernel
theorem d_GM_call_2_335 : decode prog_15_method_56_code 335 = .ok (.iload 8, 2) := by decide +kernel
theorem d_GM_call_2_337 : decode prog_15_method_56_code 337 = .ok (.istore 10, 2) := by decide +kernel
theorem d_GM_call_2_339 : decode prog_15_method_56_code 339 = .ok (.aload_n 0, 1) := by decide +kernel
theorem d_GM_call_2_340 : decode prog_15_method_56_code 340 = .ok (.getfield 24, 3) := by decide +kernel
theorem d_GM_call_2_343 : decode prog_15_method_56_code 343 = .ok (.iload 8, 2) := by decide +kernel
theorem d_GM_call_2_345 : decode prog_15_method_56_code 345 = .ok (.iaload, 1) := by decide +kernel
theorem d_GM_call_2_346 : decode prog_15_method_56_code 346 = .ok (.istore 8, 2) := by decide +kernel
theorem d_GM_call_2_348 : decode prog_15_method_56_code 348 = .ok (.iinc 11 1, 3) := by decide +kernel
theorem d_GM_call_2_351 : decode prog_15_method_56_code 351 = .ok (.goto (-88), 3) := by decide +kernel
theorem d_GM_call_2_321 : decode prog_15_method_56_code 321 = .ok (.aload_n 0, 1) := by decide +kernel
theorem d_GM_call_2_322 : decode prog_15_method_56_code 322 = .ok (.iconst 2, 1) := by decide +kernel
theorem d_GM_call_2_323 : decode prog_15_method_56_code 323 = .ok (.invokevirtual 314, 3) := by decide +kernel
theorem d_GM_call_2_326 : decode prog_15_method_56_code 326 = .ok (.goto 9, 3) := by decide +kernel
theorem d_GM_call_2_309 : decode prog_15_method_56_code 309 = .ok (.iconst 1, 1) := by decide +kernel
theorem d_GM_call_2_310 : decode prog_15_method_56_code 310 = .ok (.goto 4, 3) := by decide +kernel
theorem d_GM_call_2_286 : decode prog_15_method_56_code 286 = .ok (.aload_n 0, 1) := by decide +kernel
theorem d_GM_call_2_287 : decode prog_15_method_56_code 287 = .ok (.iload 8, 2) := by decide +kernel
theorem d_GM_call_2_289 : decode prog_15_method_56_code 289 = .ok (.invokevirtual 380, 3) := by decide +kernel
theorem d_GM_call_2_292 : decode prog_15_method_56_code 292 = .ok (.goto 47, 3) := by decide +kernel
theorem d_GM_call_2_372 : decode prog_15_method_56_code 372 = .ok (.iconst 0, 1) := by decide +kernel
theorem d_GM_call_2_395 : decode prog_15_method_56_code 395 = .ok (.iconst 0, 1) := by decide +kernel
theorem d_GM_call_2_396 : decode prog_15_method_56_code 396 = .ok (.istore 12, 2) := by decide +kernel
theorem d_GM_call_2_398 : decode prog_15_method_56_code 398 = .ok (.iload 12, 2) := by decide +kernel
theorem d_GM_call_2_400 : decode prog_15_method_56_code 400 = .ok (.iload 6, 2) := by decide +kernel
theorem d_GM_call_2_402 : decode prog_15_method_56_code 402 = .ok (.if_icmp .ge 107, 3) := by decide +kernel
theorem d_GM_call_2_405 : decode prog_15_method_56_code 405 = .ok (.iload 11, 2) := by decide +kernel
theorem d_GM_call_2_407 : decode prog_15_method_56_code 407 = .ok (.ifCond .ne 102, 3) := by decide +kernel
theorem d_GM_call_2_410 : decode prog_15_method_56_code 410 = .ok (.ldc_w 393, 3) := by decide +kernel
theorem d_GM_call_2_413 : decode prog_15_method_56_code 413 = .ok (.iload 4, 2) := by decide +kernel
theorem d_GM_call_2_415 : decode prog_15_method_56_code 415 = .ok (.iload 12, 2) := by decide +kernel
theorem d_GM_call_2_417 : decode prog_15_method_56_code 417 = .ok (.iadd, 1) := by decide +kernel
theorem d_GM_call_2_418 : decode prog_15_method_56_code 418 = .ok (.invokevirtual 207, 3) := by decide +kernel
theorem d_GM_call_2_421 : decode prog_15_method_56_code 421 = .ok (.istore 13, 2) := by decide +kernel
theorem d_GM_call_2_423 : decode prog_15_method_56_code 423 = .ok (.iload 13, 2) := by decide +kernel
theorem d_GM_call_2_425 : decode prog_15_method_56_code 425 = .ok (.bipush 110, 2) := by decide +kernel
theorem d_GM_call_2_427 : decode prog_15_method_56_code 427 = .ok (.if_icmp .ne 15, 3) := by decide +kernel
theorem d_GM_call_2_442 : decode prog_15_method_56_code 442 = .ok (.iload 13, 2) := by decide +kernel
theorem d_GM_call_2_444 : decode prog_15_method_56_code 444 = .ok (.bipush 98, 2) := by decide +kernel
theorem d_GM_call_2_446 : decode prog_15_method_56_code 446 = .ok (.if_icmp .ne 15, 3) := by decide +kernel
theorem d_GM_call_2_449 : decode prog_15_method_56_code 449 = .ok (.aload_n 0, 1) := by decide +kernel
theorem d_GM_call_2_450 : decode prog_15_method_56_code 450 = .ok (.iload 9, 2) := by decide +kernel
theorem d_GM_call_2_452 : decode prog_15_method_56_code 452 = .ok (.iload 12, 2) := by decide +kernel
theorem d_GM_call_2_454 : decode prog_15_method_56_code 454 = .ok (.iadd, 1) := by decide +kernel
theorem d_GM_call_2_455 : decode prog_15_method_56_code 455 = .ok (.invokevirtual 403, 3) := by decide +kernel
theorem d_GM_call_2_458 : decode prog_15_method_56_code 458 = .ok (.ifCond .eq 7, 3) := by decide +kernel
theorem d_GM_call_2_465 : decode prog_15_method_56_code 465 = .ok (.iconst 0, 1) := by decide +kernel
theorem d_GM_call_2_466 : decode prog_15_method_56_code 466 = .ok (.istore 14, 2) := by decide +kernel
theorem d_GM_call_2_468 : decode prog_15_method_56_code 468 = .ok (.iload 13, 2) := by decide +kernel
theorem d_GM_call_2_470 : decode prog_15_method_56_code 470 = .ok (.bipush 116, 2) := by decide +kernel
theorem d_GM_call_2_472 : decode prog_15_method_56_code 472 = .ok (.if_icmp .ne 12, 3) := by decide +kernel
theorem d_GM_call_2_484 : decode prog_15_method_56_code 484 = .ok (.iload 14, 2) := by decide +kernel
theorem d_GM_call_2_486 : decode prog_15_method_56_code 486 = .ok (.ifCond .eq 6, 3) := by decide +kernel
theorem d_GM_call_2_492 : decode prog_15_method_56_code 492 = .ok (.aload_n 0, 1) := by decide +kernel
theorem d_GM_call_2_493 : decode prog_15_method_56_code 493 = .ok (.iload 6, 2) := by decide +kernel
theorem d_GM_call_2_495 : decode prog_15_method_56_code 495 = .ok (.iconst 4, 1) := by decide +kernel
theorem d_GM_call_2_496 : decode prog_15_method_56_code 496 = .ok (.ldc2_w 354, 3) := by decide +kernel
theorem d_GM_call_2_499 : decode prog_15_method_56_code 499 = .ok (.invokevirtual 347, 3) := by decide +kernel
theorem d_GM_call_2_502 : decode prog_15_method_56_code 502 = .ok (.return_, 1) := by decide +kernel
theorem d_GM_call_2_489 : decode prog_15_method_56_code 489 = .ok (.goto 14, 3) := by decide +kernel
theorem d_GM_call_2_503 : decode prog_15_method_56_code 503 = .ok (.iinc 12 1, 3) := by decide +kernel
theorem d_GM_call_2_506 : decode prog_15_method_56_code 506 = .ok (.goto (-108), 3) := by decide +kernel
theorem d_GM_call_2_475 : decode prog_15_method_56_code 475 = .ok (.aload_n 0, 1) := by decide +kernel
theorem d_GM_call_2_476 : decode prog_15_method_56_code 476 = .ok (.iload 9, 2) := by decide +kernel
theorem d_GM_call_2_478 : decode prog_15_method_56_code 478 = .ok (.iload 12, 2) := by decide +kernel
theorem d_GM_call_2_480 : decode prog_15_method_56_code 480 = .ok (.iadd, 1) := by decide +kernel
theorem d_GM_call_2_481 : decode prog_15_method_56_code 481 = .ok (.invokevirtual 338, 3) := by decide +kernel
theorem d_GM_call_2_430 : decode prog_15_method_56_code 430 = .ok (.aload_n 0, 1) := by decide +kernel
theorem d_GM_call_2_431 : decode prog_15_method_56_code 431 = .ok (.iload 9, 2) := by decide +kernel
theorem d_GM_call_2_433 : decode prog_15_method_56_code 433 = .ok (.iload 12, 2) := by decide +kernel
theorem d_GM_call_2_435 : decode prog_15_method_56_code 435 = .ok (.iadd, 1) := by decide +kernel
theorem d_GM_call_2_436 : decode prog_15_method_56_code 436 = .ok (.invokevirtual 351, 3) := by decide +kernel
theorem d_GM_call_2_439 : decode prog_15_method_56_code 439 = .ok (.goto 27, 3) := by decide +kernel
theorem d_GM_call_2_509 : decode prog_15_method_56_code 509 = .ok (.iload 10, 2) := by decide +kernel
theorem d_GM_call_2_511 : decode prog_15_method_56_code 511 = .ok (.ifCond .lt 9, 3) := by decide +kernel
theorem d_GM_call_2_520 : decode prog_15_method_56_code 520 = .ok (.aload_n 0, 1) := by decide +kernel
theorem d_GM_call_2_521 : decode prog_15_method_56_code 521 = .ok (.iload 5, 2) := by decide +kernel
theorem d_GM_call_2_523 : decode prog_15_method_56_code 523 = .ok (.iload 9, 2) := by decide +kernel
theorem d_GM_call_2_525 : decode prog_15_method_56_code 525 = .ok (.iload 6, 2) := by decide +kernel
theorem d_GM_call_2_527 : decode prog_15_method_56_code 527 = .ok (.invokevirtual 409, 3) := by decide +kernel
theorem d_GM_call_2_530 : decode prog_15_method_56_code 530 = .ok (.aload_n 0, 1) := by decide +kernel
theorem d_GM_call_2_531 : decode prog_15_method_56_code 531 = .ok (.getfield 304, 3) := by decide +kernel
theorem d_GM_call_2_534 : decode prog_15_method_56_code 534 = .ok (.iconst 1, 1) := by decide +kernel
theorem d_GM_call_2_535 : decode prog_15_method_56_code 535 = .ok (.isub, 1) := by decide +kernel
theorem d_GM_call_2_536 : decode prog_15_method_56_code 536 = .ok (.istore 12, 2) := by decide +kernel
theorem d_GM_call_2_538 : decode prog_15_method_56_code 538 = .ok (.aload_n 0, 1) := by decide +kernel
theorem d_GM_call_2_539 : decode prog_15_method_56_code 539 = .ok (.getfield 116, 3) := by decide +kernel
theorem d_GM_call_2_542 : decode prog_15_method_56_code 542 = .ok (.iload 9, 2) := by decide +kernel
theorem d_GM_call_2_544 : decode prog_15_method_56_code 544 = .ok (.aload_n 0, 1) := by decide +kernel
theorem d_GM_call_2_545 : decode prog_15_method_56_code 545 = .ok (.getfield 116, 3) := by decide +kernel
theorem d_GM_call_2_548 : decode prog_15_method_56_code 548 = .ok (.iload 12, 2) := by decide +kernel
theorem d_GM_call_2_550 : decode prog_15_method_56_code 550 = .ok (.iaload, 1) := by decide +kernel
theorem d_GM_call_2_551 : decode prog_15_method_56_code 551 = .ok (.iastore, 1) := by decide +kernel
theorem d_GM_call_2_552 : decode prog_15_method_56_code 552 = .ok (.aload_n 0, 1) := by decide +kernel
theorem d_GM_call_2_553 : decode prog_15_method_56_code 553 = .ok (.getfield 122, 3) := by decide +kernel
theorem d_GM_call_2_556 : decode prog_15_method_56_code 556 = .ok (.iload 9, 2) := by decide +kernel
theorem d_GM_call_2_558 : decode prog_15_method_56_code 558 = .ok (.aload_n 0, 1) := by decide +kernel
theorem d_GM_call_2_559 : decode prog_15_method_56_code 559 = .ok (.getfield 122, 3) := by decide +kernel
theorem d_GM_call_2_562 : decode prog_15_method_56_code 562 = .ok (.iload 12, 2) := by decide +kernel
theorem d_GM_call_2_564 : decode prog_15_method_56_code 564 = .ok (.laload, 1) := by decide +kernel
theorem d_GM_call_2_565 : decode prog_15_method_56_code 565 = .ok (.lastore, 1) := by decide +kernel
theorem d_GM_call_2_566 : decode prog_15_method_56_code 566 = .ok (.aload_n 0, 1) := by decide +kernel
theorem d_GM_call_2_567 : decode prog_15_method_56_code 567 = .ok (.getfield 119, 3) := by decide +kernel
theorem d_GM_call_2_570 : decode prog_15_method_56_code 570 = .ok (.iload 9, 2) := by decide +kernel
theorem d_GM_call_2_572 : decode prog_15_method_56_code 572 = .ok (.aload_n 0, 1) := by decide +kernel
theorem d_GM_call_2_573 : decode prog_15_method_56_code 573 = .ok (.getfield 119, 3) := by decide +kernel
theorem d_GM_call_2_576 : decode prog_15_method_56_code 576 = .ok (.iload 12, 2) := by decide +kernel
theorem d_GM_call_2_578 : decode prog_15_method_56_code 578 = .ok (.iaload, 1) := by decide +kernel
theorem d_GM_call_2_579 : decode prog_15_method_56_code 579 = .ok (.iastore, 1) := by decide +kernel
theorem d_GM_call_2_580 : decode prog_15_method_56_code 580 = .ok (.iconst 0, 1) := by decide +kernel
theorem d_GM_call_2_581 : decode prog_15_method_56_code 581 = .ok (.istore 13, 2) := by decide +kernel
theorem d_GM_call_2_514 : decode prog_15_method_56_code 514 = .ok (.aload_n 0, 1) := by decide +kernel
theorem d_GM_call_2_515 : decode prog_15_method_56_code 515 = .ok (.iload 10, 2) := by decide +kernel
theorem d_GM_call_2_517 : decode prog_15_method_56_code 517 = .ok (.invokevirtual 406, 3) := by decide +kernel
theorem d_GM_call_2_461 : decode prog_15_method_56_code 461 = .ok (.iconst 1, 1) := by decide +kernel
theorem d_GM_call_2_462 : decode prog_15_method_56_code 462 = .ok (.goto 4, 3) := by decide +kernel
theorem d_GM_call_2_583 : decode prog_15_method_56_code 583 = .ok (.iload 13, 2) := by decide +kernel
theorem d_GM_call_2_585 : decode prog_15_method_56_code 585 = .ok (.aload_n 0, 1) := by decide +kernel
theorem d_GM_call_2_586 : decode prog_15_method_56_code 586 = .ok (.getfield 119, 3) := by decide +kernel
theorem d_GM_call_2_589 : decode prog_15_method_56_code 589 = .ok (.iload 12, 2) := by decide +kernel
theorem d_GM_call_2_591 : decode prog_15_method_56_code 591 = .ok (.iaload, 1) := by decide +kernel
theorem d_GM_call_2_592 : decode prog_15_method_56_code 592 = .ok (.if_icmp .ge 35, 3) := by decide +kernel
theorem d_GM_call_2_627 : decode prog_15_method_56_code 627 = .ok (.aload_n 0, 1) := by decide +kernel
theorem d_GM_call_2_628 : decode prog_15_method_56_code 628 = .ok (.iload 9, 2) := by decide +kernel
theorem d_GM_call_2_630 : decode prog_15_method_56_code 630 = .ok (.iconst 1, 1) := by decide +kernel
theorem d_GM_call_2_631 : decode prog_15_method_56_code 631 = .ok (.iadd, 1) := by decide +kernel
theorem d_GM_call_2_632 : decode prog_15_method_56_code 632 = .ok (.putfield 304, 3) := by decide +kernel
theorem d_GM_call_2_635 : decode prog_15_method_56_code 635 = .ok (.return_, 1) := by decide +kernel
theorem d_GM_call_2_595 : decode prog_15_method_56_code 595 = .ok (.aload_n 0, 1) := by decide +kernel
theorem d_GM_call_2_596 : decode prog_15_method_56_code 596 = .ok (.getfield 126, 3) := by decide +kernel
theorem d_GM_call_2_599 : decode prog_15_method_56_code 599 = .ok (.bipush 64, 2) := by decide +kernel
theorem d_GM_call_2_601 : decode prog_15_method_56_code 601 = .ok (.iload 9, 2) := by decide +kernel
theorem d_GM_call_2_603 : decode prog_15_method_56_code 603 = .ok (.imul, 1) := by decide +kernel
theorem d_GM_call_2_604 : decode prog_15_method_56_code 604 = .ok (.iload 13, 2) := by decide +kernel
theorem d_GM_call_2_606 : decode prog_15_method_56_code 606 = .ok (.iadd, 1) := by decide +kernel
theorem d_GM_call_2_607 : decode prog_15_method_56_code 607 = .ok (.aload_n 0, 1) := by decide +kernel
theorem d_GM_call_2_608 : decode prog_15_method_56_code 608 = .ok (.getfield 126, 3) := by decide +kernel
theorem d_GM_call_2_611 : decode prog_15_method_56_code 611 = .ok (.bipush 64, 2) := by decide +kernel
theorem d_GM_call_2_613 : decode prog_15_method_56_code 613 = .ok (.iload 12, 2) := by decide +kernel
theorem d_GM_call_2_615 : decode prog_15_method_56_code 615 = .ok (.imul, 1) := by decide +kernel
theorem d_GM_call_2_616 : decode prog_15_method_56_code 616 = .ok (.iload 13, 2) := by decide +kernel
theorem d_GM_call_2_618 : decode prog_15_method_56_code 618 = .ok (.iadd, 1) := by decide +kernel
theorem d_GM_call_2_619 : decode prog_15_method_56_code 619 = .ok (.baload, 1) := by decide +kernel
theorem d_GM_call_2_620 : decode prog_15_method_56_code 620 = .ok (.bastore, 1) := by decide +kernel
theorem d_GM_call_2_621 : decode prog_15_method_56_code 621 = .ok (.iinc 13 1, 3) := by decide +kernel
theorem d_GM_call_2_624 : decode prog_15_method_56_code 624 = .ok (.goto (-41), 3) := by decide +kernel
set_option maxHeartbeats 4000000 in
theorem w_GM_call_2_0 {l : Launch} {G : gG} {d : Nat} {X : gX} {M : gM} {k : gM → Prop} {o : Nat} (hX : gmX X o) {Q : gQ} (hO : gOld G Q) {x1 : Int} (hx1 : g32 x1) (T : ((0 : Int) ≤ x1 ∧ x1 < 90000) ∧ (g64 (M (o + 6) (Int.toNat x1)) → (((0 : Int) ≤ x1 ∧ x1 < 90000) ∧ (g64 (M (o + 6) (Int.toNat x1)) → (cI l G y_GM_takes (gRm (d + 4)) true [gR G o, gI (gLshr (M (o + 6) (Int.toNat x1)) 20), gI (gLand (M (o + 6) (Int.toNat x1)) 1048575)] X M (fun v4 M3 => (g32 (M3 o 55) → ((0 ≤ v4 → (wp l G y_GM_call_2 (gRm (d + 5)) true (kkV X k) true 51 [.val (gR G o), .val (gI x1), .unset, .unset, .val (gI v4), .val (gI (M3 o 55)), .val (gI 0), .unset, .unset, .unset, .unset, .unset, .unset, .unset, .unset] [] X M3 0 0)) ∧ (¬ 0 ≤ v4 → (cV l G y_GM_fault (gRm (d + 4)) true [gR G o, gI 3] X M3 (fun M7 => (k M7)))))))))))) : wp l G y_GM_call_2 (gRm (d + 5)) true (kkV X k) false 0 [.val (gR G o), .val (gI x1), .unset, .unset, .unset, .unset, .unset, .unset, .unset, .unset, .unset, .unset, .unset, .unset, .unset] [] X M 0 0 := by
  refine wp_aload_n d_GM_call_2_0 rfl rfl (g_nz hX.1) ?_
  refine xgetR d_GM_call_2_1 gc_GM f_GM_27.1 f_GM_27.2.1 f_GM_27.2.2.1 hX.1 (gm_o2 hX) hX.2.2.1 f_GM_27.2.2.2.2.1 (gm_row hX 5 rfl).1 ?_
  refine wp_iload_n d_GM_call_2_4 rfl rfl ?_
  refine wp_laload d_GM_call_2_5 (gm_row hX 5 rfl).2.2.1 (gm_row hX 5 rfl).2.2.2 (gm_row hX 5 rfl).2.1 (g32_n T.1 (by decide)) T.1.1 T.1.2 (fun h1 => ?_)
  have T := T.2 h1
  refine wp_bipush d_GM_call_2_6 ⟨by decide, by decide⟩ ?_
  refine wp_lshr d_GM_call_2_8 ?_
  refine wp_l2i d_GM_call_2_9 ?_
  refine wp_istore_n (L' := [.val (gR G o), .val (gI x1), .val (gI (gLshr (M (o + 6) (Int.toNat x1)) 20)), .unset, .unset, .unset, .unset, .unset, .unset, .unset, .unset, .unset, .unset, .unset, .unset]) d_GM_call_2_10 rfl (by decide) rfl ?_
  refine wp_aload_n d_GM_call_2_11 rfl rfl (g_nz hX.1) ?_
  refine xgetR d_GM_call_2_12 gc_GM f_GM_27.1 f_GM_27.2.1 f_GM_27.2.2.1 hX.1 (gm_o2 hX) hX.2.2.1 f_GM_27.2.2.2.2.1 (gm_row hX 5 rfl).1 ?_
  refine wp_iload_n d_GM_call_2_15 rfl rfl ?_
  refine wp_laload d_GM_call_2_16 (gm_row hX 5 rfl).2.2.1 (gm_row hX 5 rfl).2.2.2 (gm_row hX 5 rfl).2.1 (g32_n T.1 (by decide)) T.1.1 T.1.2 (fun h2 => ?_)
  have T := T.2 h2
  refine wp_ldc2 (n := 1048575) d_GM_call_2_17 c_GM_395 rfl ?_
  refine wp_land d_GM_call_2_20 ?_
  refine wp_l2i d_GM_call_2_21 ?_
  refine wp_istore_n (L' := [.val (gR G o), .val (gI x1), .val (gI (gLshr (M (o + 6) (Int.toNat x1)) 20)), .val (gI (gLand (M (o + 6) (Int.toNat x1)) 1048575)), .unset, .unset, .unset, .unset, .unset, .unset, .unset, .unset, .unset, .unset, .unset]) d_GM_call_2_22 rfl (by decide) rfl ?_
  refine wp_aload_n d_GM_call_2_23 rfl rfl (g_nz hX.1) ?_
  refine wp_iload_n d_GM_call_2_24 rfl rfl ?_
  refine wp_iload_n d_GM_call_2_25 rfl rfl ?_
  refine xcV_I (md' := true) (As := [gI (gLshr (M (o + 6) (Int.toNat x1)) 20), gI (gLand (M (o + 6) (Int.toNat x1)) 1048575)]) (st := []) d_GM_call_2_26 ca_GM_takes ml_GM_397 im_GM_takes se_GM_takes gc_GM hX.1 (gm_o2 hX) hX.2.2.1 rfl (by decide) (by decide) rfl (fun _ => rfl) (fun _ => rfl) T (fun v4 M3 h5 T => ?_)
  refine wp_istore (L' := [.val (gR G o), .val (gI x1), .val (gI (gLshr (M (o + 6) (Int.toNat x1)) 20)), .val (gI (gLand (M (o + 6) (Int.toNat x1)) 1048575)), .val (gI v4), .unset, .unset, .unset, .unset, .unset, .unset, .unset, .unset, .unset, .unset]) d_GM_call_2_29 (by decide) rfl ?_
  refine wp_aload_n d_GM_call_2_31 rfl rfl (g_nz hX.1) ?_
  refine xgetI d_GM_call_2_32 gc_GM f_GM_390.1 f_GM_390.2.1 f_GM_390.2.2.1 hX.1 (gm_o2 hX) hX.2.2.1 f_GM_390.2.2.2.2.1 (fun h6 => ?_)
  have T := T h6
  refine wp_istore (L' := [.val (gR G o), .val (gI x1), .val (gI (gLshr (M (o + 6) (Int.toNat x1)) 20)), .val (gI (gLand (M (o + 6) (Int.toNat x1)) 1048575)), .val (gI v4), .val (gI (M3 o 55)), .unset, .unset, .unset, .unset, .unset, .unset, .unset, .unset, .unset]) d_GM_call_2_35 (by decide) rfl ?_
  refine wp_iload d_GM_call_2_37 rfl ?_
  refine xz_ge (tgt := 48) d_GM_call_2_39 (by decide) (w32_id h5) (fun h8 => ?_) (fun h8 => ?_)
  · have T := T.1 h8
    refine wp_iconst d_GM_call_2_48 ?_
    refine wp_istore (L' := [.val (gR G o), .val (gI x1), .val (gI (gLshr (M (o + 6) (Int.toNat x1)) 20)), .val (gI (gLand (M (o + 6) (Int.toNat x1)) 1048575)), .val (gI v4), .val (gI (M3 o 55)), .val (gI 0), .unset, .unset, .unset, .unset, .unset, .unset, .unset, .unset]) d_GM_call_2_49 (by decide) rfl ?_
    exact wp_md (wpt T (And.intro rfl (And.intro rfl (And.intro rfl (And.intro rfl (And.intro rfl True.intro))))))
  · have T := T.2 h8
    refine wp_aload_n d_GM_call_2_42 rfl rfl (g_nz hX.1) ?_
    refine wp_iconst d_GM_call_2_43 ?_
    refine xcV_V (md' := true) (As := [gI 3]) (st := []) d_GM_call_2_44 ca_GM_fault ml_GM_314 im_GM_fault se_GM_fault gc_GM hX.1 (gm_o2 hX) hX.2.2.1 rfl (by decide) (by decide) rfl (fun _ => rfl) (fun _ => rfl) T (fun M7 T => ?_)
    exact wp_return d_GM_call_2_47 rfl (fun _ => rfl) (Nat.zero_le _) (Nat.zero_le _) (kV_mk T)
set_option maxHeartbeats 4000000 in
theorem w_GM_call_2_51 {l : Launch} {G : gG} {d : Nat} {X : gX} {M : gM} {k : gM → Prop} {o : Nat} (hX : gmX X o) {Q : gQ} (hO : gOld G Q) {x1 : Int} (hx1 : g32 x1) {x4 : Int} (hx4 : g32 x4) {x5 : Int} (hx5 : g32 x5) {x6 : Int} (hx6 : g32 x6) (T : ((0 : Int) ≤ (w32 (x4 + x6)) ∧ (w32 (x4 + x6)) < (gSl 7 : Int)) ∧ ((gSc 7 (Int.toNat (w32 (x4 + x6))) = 32 → (((0 : Int) ≤ x1 ∧ x1 < 90000) ∧ (g32 (M (o + 4) (Int.toNat x1)) → ((¬ x6 = M (o + 4) (Int.toNat x1) → (((0 : Int) ≤ x1 ∧ x1 < 90000) ∧ (g32 (M (o + 3) (Int.toNat x1)) → (wp l G y_GM_call_2 (gRm (d + 5)) true (kkV X k) true 102 [.val (gR G o), .val (gI x1), .unset, .unset, .val (gI x4), .val (gI x5), .val (gI x6), .val (gI 0), .val (gI (M (o + 3) (Int.toNat x1))), .val (gI 0), .unset, .unset, .unset, .unset, .unset] [] X M 0 0)))) ∧ (x6 = M (o + 4) (Int.toNat x1) → (((0 : Int) ≤ x1 ∧ x1 < 90000) ∧ (g32 (M (o + 3) (Int.toNat x1)) → (wp l G y_GM_call_2 (gRm (d + 5)) true (kkV X k) true 102 [.val (gR G o), .val (gI x1), .unset, .unset, .val (gI x4), .val (gI x5), .val (gI x6), .val (gI 1), .val (gI (M (o + 3) (Int.toNat x1))), .val (gI 0), .unset, .unset, .unset, .unset, .unset] [] X M 0 0)))))))) ∧ (¬ gSc 7 (Int.toNat (w32 (x4 + x6))) = 32 → (wp l G y_GM_call_2 (gRm (d + 5)) true (kkV X k) true 51 [.val (gR G o), .val (gI x1), .unset, .unset, .val (gI x4), .val (gI x5), .val (gI (w32 (x6 + 1))), .unset, .unset, .unset, .unset, .unset, .unset, .unset, .unset] [] X M 0 0)))) : wp l G y_GM_call_2 (gRm (d + 5)) true (kkV X k) true 51 [.val (gR G o), .val (gI x1), .unset, .unset, .val (gI x4), .val (gI x5), .val (gI x6), .unset, .unset, .unset, .unset, .unset, .unset, .unset, .unset] [] X M 0 0 := by
  refine wp_ldcSW d_GM_call_2_51 (fun U hU => ((hO U hU).2.1 7 (by decide)).2.2.2.2 ("GridLedgerModel", 393, "SUM:r PRODUCT:r MIN:r MAX:r AVERAGE:r COUNT:r COUNTA:r AND:bb OR:bb NOT:b IF:bxx IFERROR:xx CHOOSE:nxxx ISERROR:x ISNUMBER:x ISTEXT:x ISBLANK:x ABS:n SIGN:n MOD:nn LEN:t UPPER:t LOWER:t LEFT:tn RIGHT:tn MID:tnn FIND:tt REPLACE:ttt ROW:r COLUMN:r ROWS:r COLUMNS:r NA: INDEX:rnn MATCH:xr LOOKUP:xrn SUMIF:rx COUNTIF:rx ") rfl) ?_
  refine wp_iload d_GM_call_2_54 rfl ?_
  refine wp_iload d_GM_call_2_56 rfl ?_
  refine wp_iadd d_GM_call_2_58 ?_
  have q9 := T.1
  have T := T.2
  refine xo_chr hO (by decide) d_GM_call_2_59 ml_GM_207 (by decide) rfl q9 ?_
  refine wp_bipush d_GM_call_2_62 ⟨by decide, by decide⟩ ?_
  refine xi_eq (tgt := 73) d_GM_call_2_64 (by decide) (w32_id (g32_h (gSc_ok (by decide) _))) (w32_id (g32_c (x := 32) rfl)) (fun h14 => ?_) (fun h14 => ?_)
  · have T := T.1 h14
    refine wp_iload d_GM_call_2_73 rfl ?_
    refine wp_aload_n d_GM_call_2_75 rfl rfl (g_nz hX.1) ?_
    refine xgetR d_GM_call_2_76 gc_GM f_GM_21.1 f_GM_21.2.1 f_GM_21.2.2.1 hX.1 (gm_o2 hX) hX.2.2.1 f_GM_21.2.2.2.2.1 (gm_row hX 3 rfl).1 ?_
    refine wp_iload_n d_GM_call_2_79 rfl rfl ?_
    refine wp_iaload d_GM_call_2_80 (gm_row hX 3 rfl).2.2.1 (gm_row hX 3 rfl).2.2.2 (gm_row hX 3 rfl).2.1 (g32_n T.1 (by decide)) T.1.1 T.1.2 (fun h10 => ?_)
    have T := T.2 h10
    refine xi_ne (tgt := 88) d_GM_call_2_81 (by decide) (w32_id hx6) (w32_id h10) (fun h13 => ?_) (fun h13 => ?_)
    · have T := T.1 h13
      refine wp_iconst d_GM_call_2_88 ?_
      refine wp_istore (L' := [.val (gR G o), .val (gI x1), .unset, .unset, .val (gI x4), .val (gI x5), .val (gI x6), .val (gI 0), .unset, .unset, .unset, .unset, .unset, .unset, .unset]) d_GM_call_2_89 (by decide) rfl ?_
      refine wp_aload_n d_GM_call_2_91 rfl rfl (g_nz hX.1) ?_
      refine xgetR d_GM_call_2_92 gc_GM f_GM_18.1 f_GM_18.2.1 f_GM_18.2.2.1 hX.1 (gm_o2 hX) hX.2.2.1 f_GM_18.2.2.2.2.1 (gm_row hX 2 rfl).1 ?_
      refine wp_iload_n d_GM_call_2_95 rfl rfl ?_
      refine wp_iaload d_GM_call_2_96 (gm_row hX 2 rfl).2.2.1 (gm_row hX 2 rfl).2.2.2 (gm_row hX 2 rfl).2.1 (g32_n T.1 (by decide)) T.1.1 T.1.2 (fun h11 => ?_)
      have T := T.2 h11
      refine wp_istore (L' := [.val (gR G o), .val (gI x1), .unset, .unset, .val (gI x4), .val (gI x5), .val (gI x6), .val (gI 0), .val (gI (M (o + 3) (Int.toNat x1))), .unset, .unset, .unset, .unset, .unset, .unset]) d_GM_call_2_97 (by decide) rfl ?_
      refine wp_iconst d_GM_call_2_99 ?_
      refine wp_istore (L' := [.val (gR G o), .val (gI x1), .unset, .unset, .val (gI x4), .val (gI x5), .val (gI x6), .val (gI 0), .val (gI (M (o + 3) (Int.toNat x1))), .val (gI 0), .unset, .unset, .unset, .unset, .unset]) d_GM_call_2_100 (by decide) rfl ?_
      exact wp_md (wpt T (And.intro rfl (And.intro rfl (And.intro rfl (And.intro rfl (And.intro rfl (And.intro rfl (And.intro rfl (And.intro rfl True.intro)))))))))
    · have T := T.2 h13
      refine wp_iconst d_GM_call_2_84 ?_
      refine wp_goto (tgt := 89) d_GM_call_2_85 (by decide) ?_
      refine wp_istore (L' := [.val (gR G o), .val (gI x1), .unset, .unset, .val (gI x4), .val (gI x5), .val (gI x6), .val (gI 1), .unset, .unset, .unset, .unset, .unset, .unset, .unset]) d_GM_call_2_89 (by decide) rfl ?_
      refine wp_aload_n d_GM_call_2_91 rfl rfl (g_nz hX.1) ?_
      refine xgetR d_GM_call_2_92 gc_GM f_GM_18.1 f_GM_18.2.1 f_GM_18.2.2.1 hX.1 (gm_o2 hX) hX.2.2.1 f_GM_18.2.2.2.2.1 (gm_row hX 2 rfl).1 ?_
      refine wp_iload_n d_GM_call_2_95 rfl rfl ?_
      refine wp_iaload d_GM_call_2_96 (gm_row hX 2 rfl).2.2.1 (gm_row hX 2 rfl).2.2.2 (gm_row hX 2 rfl).2.1 (g32_n T.1 (by decide)) T.1.1 T.1.2 (fun h12 => ?_)
      have T := T.2 h12
      refine wp_istore (L' := [.val (gR G o), .val (gI x1), .unset, .unset, .val (gI x4), .val (gI x5), .val (gI x6), .val (gI 1), .val (gI (M (o + 3) (Int.toNat x1))), .unset, .unset, .unset, .unset, .unset, .unset]) d_GM_call_2_97 (by decide) rfl ?_
      refine wp_iconst d_GM_call_2_99 ?_
      refine wp_istore (L' := [.val (gR G o), .val (gI x1), .unset, .unset, .val (gI x4), .val (gI x5), .val (gI x6), .val (gI 1), .val (gI (M (o + 3) (Int.toNat x1))), .val (gI 0), .unset, .unset, .unset, .unset, .unset]) d_GM_call_2_100 (by decide) rfl ?_
      exact wp_md (wpt T (And.intro rfl (And.intro rfl (And.intro rfl (And.intro rfl (And.intro rfl (And.intro rfl (And.intro rfl (And.intro rfl True.intro)))))))))
  · have T := T.2 h14
    refine wp_iinc (L' := [.val (gR G o), .val (gI x1), .unset, .unset, .val (gI x4), .val (gI x5), .val (gI (x6 + 1)), .unset, .unset, .unset, .unset, .unset, .unset, .unset, .unset]) d_GM_call_2_67 rfl (by decide) rfl ?_
    refine wp_goto (tgt := 51) d_GM_call_2_70 (by decide) ?_
    exact wp_md (wpt T (And.intro rfl (And.intro rfl (And.intro rfl (And.intro rfl (And.intro (gI_w _) True.intro))))))
set_option maxHeartbeats 4000000 in
theorem w_GM_call_2_102 {l : Launch} {G : gG} {d : Nat} {X : gX} {M : gM} {k : gM → Prop} {o : Nat} (hX : gmX X o) {Q : gQ} (hO : gOld G Q) {x1 : Int} (hx1 : g32 x1) {x4 : Int} (hx4 : g32 x4) {x5 : Int} (hx5 : g32 x5) {x6 : Int} (hx6 : g32 x6) {x7 : Int} (hx7 : g32 x7) {x8 : Int} (hx8 : g32 x8) {x9 : Int} (hx9 : g32 x9) (T : (x7 = 0 → (wp l G y_GM_call_2 (gRm (d + 5)) true (kkV X k) true 205 [.val (gR G o), .val (gI x1), .unset, .unset, .val (gI x4), .val (gI x5), .val (gI x6), .val (gI x7), .unset, .unset, .unset, .unset, .unset, .unset, .unset] [] X M 0 0)) ∧ (¬ x7 = 0 → ((x6 ≤ x9 → (wp l G y_GM_call_2 (gRm (d + 5)) true (kkV X k) true 205 [.val (gR G o), .val (gI x1), .unset, .unset, .val (gI x4), .val (gI x5), .val (gI x6), .val (gI x7), .unset, .unset, .unset, .unset, .unset, .unset, .unset] [] X M 0 0)) ∧ (¬ x6 ≤ x9 → (((0 : Int) ≤ (w32 (x4 + x9)) ∧ (w32 (x4 + x9)) < (gSl 7 : Int)) ∧ ((¬ gSc 7 (Int.toNat (w32 (x4 + x9))) = 114 → (((0 : Int) = 0 → (((0 : Int) ≤ x8 ∧ x8 < 90000) ∧ (g32 (M (o + 2) (Int.toNat x8)) → ((M (o + 2) (Int.toNat x8) = 3 → (((0 : Int) ≤ x8 ∧ x8 < 90000) ∧ (g32 (M (o + 5) (Int.toNat x8)) → (wp l G y_GM_call_2 (gRm (d + 5)) true (kkV X k) true 102 [.val (gR G o), .val (gI x1), .unset, .unset, .val (gI x4), .val (gI x5), .val (gI x6), .val (gI 0), .val (gI (M (o + 5) (Int.toNat x8))), .val (gI (w32 (x9 + 1))), .unset, .unset, .unset, .unset, .unset] [] X M 0 0)))) ∧ (¬ M (o + 2) (Int.toNat x8) = 3 → (((0 : Int) ≤ x8 ∧ x8 < 90000) ∧ (g32 (M (o + 5) (Int.toNat x8)) → (wp l G y_GM_call_2 (gRm (d + 5)) true (kkV X k) true 102 [.val (gR G o), .val (gI x1), .unset, .unset, .val (gI x4), .val (gI x5), .val (gI x6), .val (gI 1), .val (gI (M (o + 5) (Int.toNat x8))), .val (gI (w32 (x9 + 1))), .unset, .unset, .unset, .unset, .unset] [] X M 0 0)))))))) ∧ (¬ (0 : Int) = 0 → (((0 : Int) ≤ x8 ∧ x8 < 90000) ∧ (g32 (M (o + 2) (Int.toNat x8)) → ((M (o + 2) (Int.toNat x8) = 3 → (((0 : Int) ≤ x8 ∧ x8 < 90000) ∧ (g32 (M (o + 5) (Int.toNat x8)) → (wp l G y_GM_call_2 (gRm (d + 5)) true (kkV X k) true 102 [.val (gR G o), .val (gI x1), .unset, .unset, .val (gI x4), .val (gI x5), .val (gI x6), .val (gI 1), .val (gI (M (o + 5) (Int.toNat x8))), .val (gI (w32 (x9 + 1))), .unset, .unset, .unset, .unset, .unset] [] X M 0 0)))) ∧ (¬ M (o + 2) (Int.toNat x8) = 3 → (((0 : Int) ≤ x8 ∧ x8 < 90000) ∧ (g32 (M (o + 2) (Int.toNat x8)) → ((¬ M (o + 2) (Int.toNat x8) = 2 → (((0 : Int) ≤ x8 ∧ x8 < 90000) ∧ (g32 (M (o + 5) (Int.toNat x8)) → (wp l G y_GM_call_2 (gRm (d + 5)) true (kkV X k) true 102 [.val (gR G o), .val (gI x1), .unset, .unset, .val (gI x4), .val (gI x5), .val (gI x6), .val (gI 0), .val (gI (M (o + 5) (Int.toNat x8))), .val (gI (w32 (x9 + 1))), .unset, .unset, .unset, .unset, .unset] [] X M 0 0)))) ∧ (M (o + 2) (Int.toNat x8) = 2 → (((0 : Int) ≤ x8 ∧ x8 < 90000) ∧ (g32 (M (o + 5) (Int.toNat x8)) → (wp l G y_GM_call_2 (gRm (d + 5)) true (kkV X k) true 102 [.val (gR G o), .val (gI x1), .unset, .unset, .val (gI x4), .val (gI x5), .val (gI x6), .val (gI 1), .val (gI (M (o + 5) (Int.toNat x8))), .val (gI (w32 (x9 + 1))), .unset, .unset, .unset, .unset, .unset] [] X M 0 0)))))))))))))) ∧ (gSc 7 (Int.toNat (w32 (x4 + x9))) = 114 → (((1 : Int) = 0 → (((0 : Int) ≤ x8 ∧ x8 < 90000) ∧ (g32 (M (o + 2) (Int.toNat x8)) → ((M (o + 2) (Int.toNat x8) = 3 → (((0 : Int) ≤ x8 ∧ x8 < 90000) ∧ (g32 (M (o + 5) (Int.toNat x8)) → (wp l G y_GM_call_2 (gRm (d + 5)) true (kkV X k) true 102 [.val (gR G o), .val (gI x1), .unset, .unset, .val (gI x4), .val (gI x5), .val (gI x6), .val (gI 0), .val (gI (M (o + 5) (Int.toNat x8))), .val (gI (w32 (x9 + 1))), .unset, .unset, .unset, .unset, .unset] [] X M 0 0)))) ∧ (¬ M (o + 2) (Int.toNat x8) = 3 → (((0 : Int) ≤ x8 ∧ x8 < 90000) ∧ (g32 (M (o + 5) (Int.toNat x8)) → (wp l G y_GM_call_2 (gRm (d + 5)) true (kkV X k) true 102 [.val (gR G o), .val (gI x1), .unset, .unset, .val (gI x4), .val (gI x5), .val (gI x6), .val (gI 1), .val (gI (M (o + 5) (Int.toNat x8))), .val (gI (w32 (x9 + 1))), .unset, .unset, .unset, .unset, .unset] [] X M 0 0)))))))) ∧ (¬ (1 : Int) = 0 → (((0 : Int) ≤ x8 ∧ x8 < 90000) ∧ (g32 (M (o + 2) (Int.toNat x8)) → ((M (o + 2) (Int.toNat x8) = 3 → (((0 : Int) ≤ x8 ∧ x8 < 90000) ∧ (g32 (M (o + 5) (Int.toNat x8)) → (wp l G y_GM_call_2 (gRm (d + 5)) true (kkV X k) true 102 [.val (gR G o), .val (gI x1), .unset, .unset, .val (gI x4), .val (gI x5), .val (gI x6), .val (gI 1), .val (gI (M (o + 5) (Int.toNat x8))), .val (gI (w32 (x9 + 1))), .unset, .unset, .unset, .unset, .unset] [] X M 0 0)))) ∧ (¬ M (o + 2) (Int.toNat x8) = 3 → (((0 : Int) ≤ x8 ∧ x8 < 90000) ∧ (g32 (M (o + 2) (Int.toNat x8)) → ((¬ M (o + 2) (Int.toNat x8) = 2 → (((0 : Int) ≤ x8 ∧ x8 < 90000) ∧ (g32 (M (o + 5) (Int.toNat x8)) → (wp l G y_GM_call_2 (gRm (d + 5)) true (kkV X k) true 102 [.val (gR G o), .val (gI x1), .unset, .unset, .val (gI x4), .val (gI x5), .val (gI x6), .val (gI 0), .val (gI (M (o + 5) (Int.toNat x8))), .val (gI (w32 (x9 + 1))), .unset, .unset, .unset, .unset, .unset] [] X M 0 0)))) ∧ (M (o + 2) (Int.toNat x8) = 2 → (((0 : Int) ≤ x8 ∧ x8 < 90000) ∧ (g32 (M (o + 5) (Int.toNat x8)) → (wp l G y_GM_call_2 (gRm (d + 5)) true (kkV X k) true 102 [.val (gR G o), .val (gI x1), .unset, .unset, .val (gI x4), .val (gI x5), .val (gI x6), .val (gI 1), .val (gI (M (o + 5) (Int.toNat x8))), .val (gI (w32 (x9 + 1))), .unset, .unset, .unset, .unset, .unset] [] X M 0 0)))))))))))))))))))) : wp l G y_GM_call_2 (gRm (d + 5)) true (kkV X k) true 102 [.val (gR G o), .val (gI x1), .unset, .unset, .val (gI x4), .val (gI x5), .val (gI x6), .val (gI x7), .val (gI x8), .val (gI x9), .unset, .unset, .unset, .unset, .unset] [] X M 0 0 := by
  refine wp_iload d_GM_call_2_102 rfl ?_
  refine xz_eq (tgt := 205) d_GM_call_2_104 (by decide) (w32_id hx7) (fun h42 => ?_) (fun h42 => ?_)
  · have T := T.1 h42
    exact wp_md (wpt T (And.intro rfl (And.intro rfl (And.intro rfl (And.intro rfl (And.intro rfl (And.intro rfl True.intro)))))))
  · have T := T.2 h42
    refine wp_iload d_GM_call_2_107 rfl ?_
    refine wp_iload d_GM_call_2_109 rfl ?_
    refine xi_ge (tgt := 205) d_GM_call_2_111 (by decide) (w32_id hx9) (w32_id hx6) (fun h41 => ?_) (fun h41 => ?_)
    · have T := T.1 h41
      exact wp_md (wpt T (And.intro rfl (And.intro rfl (And.intro rfl (And.intro rfl (And.intro rfl (And.intro rfl True.intro)))))))
    · have T := T.2 h41
      refine wp_ldcSW d_GM_call_2_114 (fun U hU => ((hO U hU).2.1 7 (by decide)).2.2.2.2 ("GridLedgerModel", 393, "SUM:r PRODUCT:r MIN:r MAX:r AVERAGE:r COUNT:r COUNTA:r AND:bb OR:bb NOT:b IF:bxx IFERROR:xx CHOOSE:nxxx ISERROR:x ISNUMBER:x ISTEXT:x ISBLANK:x ABS:n SIGN:n MOD:nn LEN:t UPPER:t LOWER:t LEFT:tn RIGHT:tn MID:tnn FIND:tt REPLACE:ttt ROW:r COLUMN:r ROWS:r COLUMNS:r NA: INDEX:rnn MATCH:xr LOOKUP:xrn SUMIF:rx COUNTIF:rx ") rfl) ?_
      refine wp_iload d_GM_call_2_117 rfl ?_
      refine wp_iload d_GM_call_2_119 rfl ?_
      refine wp_iadd d_GM_call_2_121 ?_
      have q15 := T.1
      have T := T.2
      refine xo_chr hO (by decide) d_GM_call_2_122 ml_GM_207 (by decide) rfl q15 ?_
      refine wp_bipush d_GM_call_2_125 ⟨by decide, by decide⟩ ?_
      refine xi_ne (tgt := 134) d_GM_call_2_127 (by decide) (w32_id (g32_h (gSc_ok (by decide) _))) (w32_id (g32_c (x := 114) rfl)) (fun h40 => ?_) (fun h40 => ?_)
      · have T := T.1 h40
        refine wp_iconst d_GM_call_2_134 ?_
        refine wp_istore (L' := [.val (gR G o), .val (gI x1), .unset, .unset, .val (gI x4), .val (gI x5), .val (gI x6), .val (gI x7), .val (gI x8), .val (gI x9), .val (gI 0), .unset, .unset, .unset, .unset]) d_GM_call_2_135 (by decide) rfl ?_
        refine wp_iload d_GM_call_2_137 rfl ?_
        refine xz_eq (tgt := 172) d_GM_call_2_139 (by decide) (w32_id (g32_c (x := 0) rfl)) (fun h27 => ?_) (fun h27 => ?_)
        · have T := T.1 h27
          refine wp_aload_n d_GM_call_2_172 rfl rfl (g_nz hX.1) ?_
          refine xgetR d_GM_call_2_173 gc_GM f_GM_14.1 f_GM_14.2.1 f_GM_14.2.2.1 hX.1 (gm_o2 hX) hX.2.2.1 f_GM_14.2.2.2.2.1 (gm_row hX 1 rfl).1 ?_
          refine wp_iload d_GM_call_2_176 rfl ?_
          refine wp_iaload d_GM_call_2_178 (gm_row hX 1 rfl).2.2.1 (gm_row hX 1 rfl).2.2.2 (gm_row hX 1 rfl).2.1 (g32_n T.1 (by decide)) T.1.1 T.1.2 (fun h16 => ?_)
          have T := T.2 h16
          refine wp_iconst d_GM_call_2_179 ?_
          refine xi_eq (tgt := 187) d_GM_call_2_180 (by decide) (w32_id h16) (w32_id (g32_c (x := 3) rfl)) (fun h19 => ?_) (fun h19 => ?_)
          · have T := T.1 h19
            refine wp_iconst d_GM_call_2_187 ?_
            refine wp_istore (L' := [.val (gR G o), .val (gI x1), .unset, .unset, .val (gI x4), .val (gI x5), .val (gI x6), .val (gI 0), .val (gI x8), .val (gI x9), .val (gI 0), .unset, .unset, .unset, .unset]) d_GM_call_2_188 (by decide) rfl ?_
            refine wp_aload_n d_GM_call_2_190 rfl rfl (g_nz hX.1) ?_
            refine xgetR d_GM_call_2_191 gc_GM f_GM_24.1 f_GM_24.2.1 f_GM_24.2.2.1 hX.1 (gm_o2 hX) hX.2.2.1 f_GM_24.2.2.2.2.1 (gm_row hX 4 rfl).1 ?_
            refine wp_iload d_GM_call_2_194 rfl ?_
            refine wp_iaload d_GM_call_2_196 (gm_row hX 4 rfl).2.2.1 (gm_row hX 4 rfl).2.2.2 (gm_row hX 4 rfl).2.1 (g32_n T.1 (by decide)) T.1.1 T.1.2 (fun h17 => ?_)
            have T := T.2 h17
            refine wp_istore (L' := [.val (gR G o), .val (gI x1), .unset, .unset, .val (gI x4), .val (gI x5), .val (gI x6), .val (gI 0), .val (gI (M (o + 5) (Int.toNat x8))), .val (gI x9), .val (gI 0), .unset, .unset, .unset, .unset]) d_GM_call_2_197 (by decide) rfl ?_
            refine wp_iinc (L' := [.val (gR G o), .val (gI x1), .unset, .unset, .val (gI x4), .val (gI x5), .val (gI x6), .val (gI 0), .val (gI (M (o + 5) (Int.toNat x8))), .val (gI (x9 + 1)), .val (gI 0), .unset, .unset, .unset, .unset]) d_GM_call_2_199 rfl (by decide) rfl ?_
            refine wp_goto (tgt := 102) d_GM_call_2_202 (by decide) ?_
            exact wp_md (wpt T (And.intro rfl (And.intro rfl (And.intro rfl (And.intro rfl (And.intro rfl (And.intro rfl (And.intro rfl (And.intro (gI_w _) True.intro)))))))))
          · have T := T.2 h19
            refine wp_iconst d_GM_call_2_183 ?_
            refine wp_goto (tgt := 188) d_GM_call_2_184 (by decide) ?_
            refine wp_istore (L' := [.val (gR G o), .val (gI x1), .unset, .unset, .val (gI x4), .val (gI x5), .val (gI x6), .val (gI 1), .val (gI x8), .val (gI x9), .val (gI 0), .unset, .unset, .unset, .unset]) d_GM_call_2_188 (by decide) rfl ?_
            refine wp_aload_n d_GM_call_2_190 rfl rfl (g_nz hX.1) ?_
            refine xgetR d_GM_call_2_191 gc_GM f_GM_24.1 f_GM_24.2.1 f_GM_24.2.2.1 hX.1 (gm_o2 hX) hX.2.2.1 f_GM_24.2.2.2.2.1 (gm_row hX 4 rfl).1 ?_
            refine wp_iload d_GM_call_2_194 rfl ?_
            refine wp_iaload d_GM_call_2_196 (gm_row hX 4 rfl).2.2.1 (gm_row hX 4 rfl).2.2.2 (gm_row hX 4 rfl).2.1 (g32_n T.1 (by decide)) T.1.1 T.1.2 (fun h18 => ?_)
            have T := T.2 h18
            refine wp_istore (L' := [.val (gR G o), .val (gI x1), .unset, .unset, .val (gI x4), .val (gI x5), .val (gI x6), .val (gI 1), .val (gI (M (o + 5) (Int.toNat x8))), .val (gI x9), .val (gI 0), .unset, .unset, .unset, .unset]) d_GM_call_2_197 (by decide) rfl ?_
            refine wp_iinc (L' := [.val (gR G o), .val (gI x1), .unset, .unset, .val (gI x4), .val (gI x5), .val (gI x6), .val (gI 1), .val (gI (M (o + 5) (Int.toNat x8))), .val (gI (x9 + 1)), .val (gI 0), .unset, .unset, .unset, .unset]) d_GM_call_2_199 rfl (by decide) rfl ?_
            refine wp_goto (tgt := 102) d_GM_call_2_202 (by decide) ?_
            exact wp_md (wpt T (And.intro rfl (And.intro rfl (And.intro rfl (And.intro rfl (And.intro rfl (And.intro rfl (And.intro rfl (And.intro (gI_w _) True.intro)))))))))
        · have T := T.2 h27
          refine wp_aload_n d_GM_call_2_142 rfl rfl (g_nz hX.1) ?_
          refine xgetR d_GM_call_2_143 gc_GM f_GM_14.1 f_GM_14.2.1 f_GM_14.2.2.1 hX.1 (gm_o2 hX) hX.2.2.1 f_GM_14.2.2.2.2.1 (gm_row hX 1 rfl).1 ?_
          refine wp_iload d_GM_call_2_146 rfl ?_
          refine wp_iaload d_GM_call_2_148 (gm_row hX 1 rfl).2.2.1 (gm_row hX 1 rfl).2.2.2 (gm_row hX 1 rfl).2.1 (g32_n T.1 (by decide)) T.1.1 T.1.2 (fun h20 => ?_)
          have T := T.2 h20
          refine wp_iconst d_GM_call_2_149 ?_
          refine xi_eq (tgt := 164) d_GM_call_2_150 (by decide) (w32_id h20) (w32_id (g32_c (x := 3) rfl)) (fun h26 => ?_) (fun h26 => ?_)
          · have T := T.1 h26
            refine wp_iconst d_GM_call_2_164 ?_
            refine wp_goto (tgt := 188) d_GM_call_2_165 (by decide) ?_
            refine wp_istore (L' := [.val (gR G o), .val (gI x1), .unset, .unset, .val (gI x4), .val (gI x5), .val (gI x6), .val (gI 1), .val (gI x8), .val (gI x9), .val (gI 0), .unset, .unset, .unset, .unset]) d_GM_call_2_188 (by decide) rfl ?_
            refine wp_aload_n d_GM_call_2_190 rfl rfl (g_nz hX.1) ?_
            refine xgetR d_GM_call_2_191 gc_GM f_GM_24.1 f_GM_24.2.1 f_GM_24.2.2.1 hX.1 (gm_o2 hX) hX.2.2.1 f_GM_24.2.2.2.2.1 (gm_row hX 4 rfl).1 ?_
            refine wp_iload d_GM_call_2_194 rfl ?_
            refine wp_iaload d_GM_call_2_196 (gm_row hX 4 rfl).2.2.1 (gm_row hX 4 rfl).2.2.2 (gm_row hX 4 rfl).2.1 (g32_n T.1 (by decide)) T.1.1 T.1.2 (fun h21 => ?_)
            have T := T.2 h21
            refine wp_istore (L' := [.val (gR G o), .val (gI x1), .unset, .unset, .val (gI x4), .val (gI x5), .val (gI x6), .val (gI 1), .val (gI (M (o + 5) (Int.toNat x8))), .val (gI x9), .val (gI 0), .unset, .unset, .unset, .unset]) d_GM_call_2_197 (by decide) rfl ?_
            refine wp_iinc (L' := [.val (gR G o), .val (gI x1), .unset, .unset, .val (gI x4), .val (gI x5), .val (gI x6), .val (gI 1), .val (gI (M (o + 5) (Int.toNat x8))), .val (gI (x9 + 1)), .val (gI 0), .unset, .unset, .unset, .unset]) d_GM_call_2_199 rfl (by decide) rfl ?_
            refine wp_goto (tgt := 102) d_GM_call_2_202 (by decide) ?_
            exact wp_md (wpt T (And.intro rfl (And.intro rfl (And.intro rfl (And.intro rfl (And.intro rfl (And.intro rfl (And.intro rfl (And.intro (gI_w _) True.intro)))))))))
          · have T := T.2 h26
            refine wp_aload_n d_GM_call_2_153 rfl rfl (g_nz hX.1) ?_
            refine xgetR d_GM_call_2_154 gc_GM f_GM_14.1 f_GM_14.2.1 f_GM_14.2.2.1 hX.1 (gm_o2 hX) hX.2.2.1 f_GM_14.2.2.2.2.1 (gm_row hX 1 rfl).1 ?_
            refine wp_iload d_GM_call_2_157 rfl ?_
            refine wp_iaload d_GM_call_2_159 (gm_row hX 1 rfl).2.2.1 (gm_row hX 1 rfl).2.2.2 (gm_row hX 1 rfl).2.1 (g32_n T.1 (by decide)) T.1.1 T.1.2 (fun h22 => ?_)
            have T := T.2 h22
            refine wp_iconst d_GM_call_2_160 ?_
            refine xi_ne (tgt := 168) d_GM_call_2_161 (by decide) (w32_id h22) (w32_id (g32_c (x := 2) rfl)) (fun h25 => ?_) (fun h25 => ?_)
            · have T := T.1 h25
              refine wp_iconst d_GM_call_2_168 ?_
              refine wp_goto (tgt := 188) d_GM_call_2_169 (by decide) ?_
              refine wp_istore (L' := [.val (gR G o), .val (gI x1), .unset, .unset, .val (gI x4), .val (gI x5), .val (gI x6), .val (gI 0), .val (gI x8), .val (gI x9), .val (gI 0), .unset, .unset, .unset, .unset]) d_GM_call_2_188 (by decide) rfl ?_
              refine wp_aload_n d_GM_call_2_190 rfl rfl (g_nz hX.1) ?_
              refine xgetR d_GM_call_2_191 gc_GM f_GM_24.1 f_GM_24.2.1 f_GM_24.2.2.1 hX.1 (gm_o2 hX) hX.2.2.1 f_GM_24.2.2.2.2.1 (gm_row hX 4 rfl).1 ?_
              refine wp_iload d_GM_call_2_194 rfl ?_
              refine wp_iaload d_GM_call_2_196 (gm_row hX 4 rfl).2.2.1 (gm_row hX 4 rfl).2.2.2 (gm_row hX 4 rfl).2.1 (g32_n T.1 (by decide)) T.1.1 T.1.2 (fun h23 => ?_)
              have T := T.2 h23
              refine wp_istore (L' := [.val (gR G o), .val (gI x1), .unset, .unset, .val (gI x4), .val (gI x5), .val (gI x6), .val (gI 0), .val (gI (M (o + 5) (Int.toNat x8))), .val (gI x9), .val (gI 0), .unset, .unset, .unset, .unset]) d_GM_call_2_197 (by decide) rfl ?_
              refine wp_iinc (L' := [.val (gR G o), .val (gI x1), .unset, .unset, .val (gI x4), .val (gI x5), .val (gI x6), .val (gI 0), .val (gI (M (o + 5) (Int.toNat x8))), .val (gI (x9 + 1)), .val (gI 0), .unset, .unset, .unset, .unset]) d_GM_call_2_199 rfl (by decide) rfl ?_
              refine wp_goto (tgt := 102) d_GM_call_2_202 (by decide) ?_
              exact wp_md (wpt T (And.intro rfl (And.intro rfl (And.intro rfl (And.intro rfl (And.intro rfl (And.intro rfl (And.intro rfl (And.intro (gI_w _) True.intro)))))))))
            · have T := T.2 h25
              refine wp_iconst d_GM_call_2_164 ?_
              refine wp_goto (tgt := 188) d_GM_call_2_165 (by decide) ?_
              refine wp_istore (L' := [.val (gR G o), .val (gI x1), .unset, .unset, .val (gI x4), .val (gI x5), .val (gI x6), .val (gI 1), .val (gI x8), .val (gI x9), .val (gI 0), .unset, .unset, .unset, .unset]) d_GM_call_2_188 (by decide) rfl ?_
              refine wp_aload_n d_GM_call_2_190 rfl rfl (g_nz hX.1) ?_
              refine xgetR d_GM_call_2_191 gc_GM f_GM_24.1 f_GM_24.2.1 f_GM_24.2.2.1 hX.1 (gm_o2 hX) hX.2.2.1 f_GM_24.2.2.2.2.1 (gm_row hX 4 rfl).1 ?_
              refine wp_iload d_GM_call_2_194 rfl ?_
              refine wp_iaload d_GM_call_2_196 (gm_row hX 4 rfl).2.2.1 (gm_row hX 4 rfl).2.2.2 (gm_row hX 4 rfl).2.1 (g32_n T.1 (by decide)) T.1.1 T.1.2 (fun h24 => ?_)
              have T := T.2 h24
              refine wp_istore (L' := [.val (gR G o), .val (gI x1), .unset, .unset, .val (gI x4), .val (gI x5), .val (gI x6), .val (gI 1), .val (gI (M (o + 5) (Int.toNat x8))), .val (gI x9), .val (gI 0), .unset, .unset, .unset, .unset]) d_GM_call_2_197 (by decide) rfl ?_
              refine wp_iinc (L' := [.val (gR G o), .val (gI x1), .unset, .unset, .val (gI x4), .val (gI x5), .val (gI x6), .val (gI 1), .val (gI (M (o + 5) (Int.toNat x8))), .val (gI (x9 + 1)), .val (gI 0), .unset, .unset, .unset, .unset]) d_GM_call_2_199 rfl (by decide) rfl ?_
              refine wp_goto (tgt := 102) d_GM_call_2_202 (by decide) ?_
              exact wp_md (wpt T (And.intro rfl (And.intro rfl (And.intro rfl (And.intro rfl (And.intro rfl (And.intro rfl (And.intro rfl (And.intro (gI_w _) True.intro)))))))))
      · have T := T.2 h40
        refine wp_iconst d_GM_call_2_130 ?_
        refine wp_goto (tgt := 135) d_GM_call_2_131 (by decide) ?_
        refine wp_istore (L' := [.val (gR G o), .val (gI x1), .unset, .unset, .val (gI x4), .val (gI x5), .val (gI x6), .val (gI x7), .val (gI x8), .val (gI x9), .val (gI 1), .unset, .unset, .unset, .unset]) d_GM_call_2_135 (by decide) rfl ?_
        refine wp_iload d_GM_call_2_137 rfl ?_
        refine xz_eq (tgt := 172) d_GM_call_2_139 (by decide) (w32_id (g32_c (x := 1) rfl)) (fun h39 => ?_) (fun h39 => ?_)
        · have T := T.1 h39
          refine wp_aload_n d_GM_call_2_172 rfl rfl (g_nz hX.1) ?_
          refine xgetR d_GM_call_2_173 gc_GM f_GM_14.1 f_GM_14.2.1 f_GM_14.2.2.1 hX.1 (gm_o2 hX) hX.2.2.1 f_GM_14.2.2.2.2.1 (gm_row hX 1 rfl).1 ?_
          refine wp_iload d_GM_call_2_176 rfl ?_
          refine wp_iaload d_GM_call_2_178 (gm_row hX 1 rfl).2.2.1 (gm_row hX 1 rfl).2.2.2 (gm_row hX 1 rfl).2.1 (g32_n T.1 (by decide)) T.1.1 T.1.2 (fun h28 => ?_)
          have T := T.2 h28
          refine wp_iconst d_GM_call_2_179 ?_
          refine xi_eq (tgt := 187) d_GM_call_2_180 (by decide) (w32_id h28) (w32_id (g32_c (x := 3) rfl)) (fun h31 => ?_) (fun h31 => ?_)
          · have T := T.1 h31
            refine wp_iconst d_GM_call_2_187 ?_
            refine wp_istore (L' := [.val (gR G o), .val (gI x1), .unset, .unset, .val (gI x4), .val (gI x5), .val (gI x6), .val (gI 0), .val (gI x8), .val (gI x9), .val (gI 1), .unset, .unset, .unset, .unset]) d_GM_call_2_188 (by decide) rfl ?_
            refine wp_aload_n d_GM_call_2_190 rfl rfl (g_nz hX.1) ?_
            refine xgetR d_GM_call_2_191 gc_GM f_GM_24.1 f_GM_24.2.1 f_GM_24.2.2.1 hX.1 (gm_o2 hX) hX.2.2.1 f_GM_24.2.2.2.2.1 (gm_row hX 4 rfl).1 ?_
            refine wp_iload d_GM_call_2_194 rfl ?_
            refine wp_iaload d_GM_call_2_196 (gm_row hX 4 rfl).2.2.1 (gm_row hX 4 rfl).2.2.2 (gm_row hX 4 rfl).2.1 (g32_n T.1 (by decide)) T.1.1 T.1.2 (fun h29 => ?_)
            have T := T.2 h29
            refine wp_istore (L' := [.val (gR G o), .val (gI x1), .unset, .unset, .val (gI x4), .val (gI x5), .val (gI x6), .val (gI 0), .val (gI (M (o + 5) (Int.toNat x8))), .val (gI x9), .val (gI 1), .unset, .unset, .unset, .unset]) d_GM_call_2_197 (by decide) rfl ?_
            refine wp_iinc (L' := [.val (gR G o), .val (gI x1), .unset, .unset, .val (gI x4), .val (gI x5), .val (gI x6), .val (gI 0), .val (gI (M (o + 5) (Int.toNat x8))), .val (gI (x9 + 1)), .val (gI 1), .unset, .unset, .unset, .unset]) d_GM_call_2_199 rfl (by decide) rfl ?_
            refine wp_goto (tgt := 102) d_GM_call_2_202 (by decide) ?_
            exact wp_md (wpt T (And.intro rfl (And.intro rfl (And.intro rfl (And.intro rfl (And.intro rfl (And.intro rfl (And.intro rfl (And.intro (gI_w _) True.intro)))))))))
          · have T := T.2 h31
            refine wp_iconst d_GM_call_2_183 ?_
            refine wp_goto (tgt := 188) d_GM_call_2_184 (by decide) ?_
            refine wp_istore (L' := [.val (gR G o), .val (gI x1), .unset, .unset, .val (gI x4), .val (gI x5), .val (gI x6), .val (gI 1), .val (gI x8), .val (gI x9), .val (gI 1), .unset, .unset, .unset, .unset]) d_GM_call_2_188 (by decide) rfl ?_
            refine wp_aload_n d_GM_call_2_190 rfl rfl (g_nz hX.1) ?_
            refine xgetR d_GM_call_2_191 gc_GM f_GM_24.1 f_GM_24.2.1 f_GM_24.2.2.1 hX.1 (gm_o2 hX) hX.2.2.1 f_GM_24.2.2.2.2.1 (gm_row hX 4 rfl).1 ?_
            refine wp_iload d_GM_call_2_194 rfl ?_
            refine wp_iaload d_GM_call_2_196 (gm_row hX 4 rfl).2.2.1 (gm_row hX 4 rfl).2.2.2 (gm_row hX 4 rfl).2.1 (g32_n T.1 (by decide)) T.1.1 T.1.2 (fun h30 => ?_)
            have T := T.2 h30
            refine wp_istore (L' := [.val (gR G o), .val (gI x1), .unset, .unset, .val (gI x4), .val (gI x5), .val (gI x6), .val (gI 1), .val (gI (M (o + 5) (Int.toNat x8))), .val (gI x9), .val (gI 1), .unset, .unset, .unset, .unset]) d_GM_call_2_197 (by decide) rfl ?_
            refine wp_iinc (L' := [.val (gR G o), .val (gI x1), .unset, .unset, .val (gI x4), .val (gI x5), .val (gI x6), .val (gI 1), .val (gI (M (o + 5) (Int.toNat x8))), .val (gI (x9 + 1)), .val (gI 1), .unset, .unset, .unset, .unset]) d_GM_call_2_199 rfl (by decide) rfl ?_
            refine wp_goto (tgt := 102) d_GM_call_2_202 (by decide) ?_
            exact wp_md (wpt T (And.intro rfl (And.intro rfl (And.intro rfl (And.intro rfl (And.intro rfl (And.intro rfl (And.intro rfl (And.intro (gI_w _) True.intro)))))))))
        · have T := T.2 h39
          refine wp_aload_n d_GM_call_2_142 rfl rfl (g_nz hX.1) ?_
          refine xgetR d_GM_call_2_143 gc_GM f_GM_14.1 f_GM_14.2.1 f_GM_14.2.2.1 hX.1 (gm_o2 hX) hX.2.2.1 f_GM_14.2.2.2.2.1 (gm_row hX 1 rfl).1 ?_
          refine wp_iload d_GM_call_2_146 rfl ?_
          refine wp_iaload d_GM_call_2_148 (gm_row hX 1 rfl).2.2.1 (gm_row hX 1 rfl).2.2.2 (gm_row hX 1 rfl).2.1 (g32_n T.1 (by decide)) T.1.1 T.1.2 (fun h32 => ?_)
          have T := T.2 h32
          refine wp_iconst d_GM_call_2_149 ?_
          refine xi_eq (tgt := 164) d_GM_call_2_150 (by decide) (w32_id h32) (w32_id (g32_c (x := 3) rfl)) (fun h38 => ?_) (fun h38 => ?_)
          · have T := T.1 h38
            refine wp_iconst d_GM_call_2_164 ?_
            refine wp_goto (tgt := 188) d_GM_call_2_165 (by decide) ?_
            refine wp_istore (L' := [.val (gR G o), .val (gI x1), .unset, .unset, .val (gI x4), .val (gI x5), .val (gI x6), .val (gI 1), .val (gI x8), .val (gI x9), .val (gI 1), .unset, .unset, .unset, .unset]) d_GM_call_2_188 (by decide) rfl ?_
            refine wp_aload_n d_GM_call_2_190 rfl rfl (g_nz hX.1) ?_
            refine xgetR d_GM_call_2_191 gc_GM f_GM_24.1 f_GM_24.2.1 f_GM_24.2.2.1 hX.1 (gm_o2 hX) hX.2.2.1 f_GM_24.2.2.2.2.1 (gm_row hX 4 rfl).1 ?_
            refine wp_iload d_GM_call_2_194 rfl ?_
            refine wp_iaload d_GM_call_2_196 (gm_row hX 4 rfl).2.2.1 (gm_row hX 4 rfl).2.2.2 (gm_row hX 4 rfl).2.1 (g32_n T.1 (by decide)) T.1.1 T.1.2 (fun h33 => ?_)
            have T := T.2 h33
            refine wp_istore (L' := [.val (gR G o), .val (gI x1), .unset, .unset, .val (gI x4), .val (gI x5), .val (gI x6), .val (gI 1), .val (gI (M (o + 5) (Int.toNat x8))), .val (gI x9), .val (gI 1), .unset, .unset, .unset, .unset]) d_GM_call_2_197 (by decide) rfl ?_
            refine wp_iinc (L' := [.val (gR G o), .val (gI x1), .unset, .unset, .val (gI x4), .val (gI x5), .val (gI x6), .val (gI 1), .val (gI (M (o + 5) (Int.toNat x8))), .val (gI (x9 + 1)), .val (gI 1), .unset, .unset, .unset, .unset]) d_GM_call_2_199 rfl (by decide) rfl ?_
            refine wp_goto (tgt := 102) d_GM_call_2_202 (by decide) ?_
            exact wp_md (wpt T (And.intro rfl (And.intro rfl (And.intro rfl (And.intro rfl (And.intro rfl (And.intro rfl (And.intro rfl (And.intro (gI_w _) True.intro)))))))))
          · have T := T.2 h38
            refine wp_aload_n d_GM_call_2_153 rfl rfl (g_nz hX.1) ?_
            refine xgetR d_GM_call_2_154 gc_GM f_GM_14.1 f_GM_14.2.1 f_GM_14.2.2.1 hX.1 (gm_o2 hX) hX.2.2.1 f_GM_14.2.2.2.2.1 (gm_row hX 1 rfl).1 ?_
            refine wp_iload d_GM_call_2_157 rfl ?_
            refine wp_iaload d_GM_call_2_159 (gm_row hX 1 rfl).2.2.1 (gm_row hX 1 rfl).2.2.2 (gm_row hX 1 rfl).2.1 (g32_n T.1 (by decide)) T.1.1 T.1.2 (fun h34 => ?_)
            have T := T.2 h34
            refine wp_iconst d_GM_call_2_160 ?_
            refine xi_ne (tgt := 168) d_GM_call_2_161 (by decide) (w32_id h34) (w32_id (g32_c (x := 2) rfl)) (fun h37 => ?_) (fun h37 => ?_)
            · have T := T.1 h37
              refine wp_iconst d_GM_call_2_168 ?_
              refine wp_goto (tgt := 188) d_GM_call_2_169 (by decide) ?_
              refine wp_istore (L' := [.val (gR G o), .val (gI x1), .unset, .unset, .val (gI x4), .val (gI x5), .val (gI x6), .val (gI 0), .val (gI x8), .val (gI x9), .val (gI 1), .unset, .unset, .unset, .unset]) d_GM_call_2_188 (by decide) rfl ?_
              refine wp_aload_n d_GM_call_2_190 rfl rfl (g_nz hX.1) ?_
              refine xgetR d_GM_call_2_191 gc_GM f_GM_24.1 f_GM_24.2.1 f_GM_24.2.2.1 hX.1 (gm_o2 hX) hX.2.2.1 f_GM_24.2.2.2.2.1 (gm_row hX 4 rfl).1 ?_
              refine wp_iload d_GM_call_2_194 rfl ?_
              refine wp_iaload d_GM_call_2_196 (gm_row hX 4 rfl).2.2.1 (gm_row hX 4 rfl).2.2.2 (gm_row hX 4 rfl).2.1 (g32_n T.1 (by decide)) T.1.1 T.1.2 (fun h35 => ?_)
              have T := T.2 h35
              refine wp_istore (L' := [.val (gR G o), .val (gI x1), .unset, .unset, .val (gI x4), .val (gI x5), .val (gI x6), .val (gI 0), .val (gI (M (o + 5) (Int.toNat x8))), .val (gI x9), .val (gI 1), .unset, .unset, .unset, .unset]) d_GM_call_2_197 (by decide) rfl ?_
              refine wp_iinc (L' := [.val (gR G o), .val (gI x1), .unset, .unset, .val (gI x4), .val (gI x5), .val (gI x6), .val (gI 0), .val (gI (M (o + 5) (Int.toNat x8))), .val (gI (x9 + 1)), .val (gI 1), .unset, .unset, .unset, .unset]) d_GM_call_2_199 rfl (by decide) rfl ?_
              refine wp_goto (tgt := 102) d_GM_call_2_202 (by decide) ?_
              exact wp_md (wpt T (And.intro rfl (And.intro rfl (And.intro rfl (And.intro rfl (And.intro rfl (And.intro rfl (And.intro rfl (And.intro (gI_w _) True.intro)))))))))
            · have T := T.2 h37
              refine wp_iconst d_GM_call_2_164 ?_
              refine wp_goto (tgt := 188) d_GM_call_2_165 (by decide) ?_
              refine wp_istore (L' := [.val (gR G o), .val (gI x1), .unset, .unset, .val (gI x4), .val (gI x5), .val (gI x6), .val (gI 1), .val (gI x8), .val (gI x9), .val (gI 1), .unset, .unset, .unset, .unset]) d_GM_call_2_188 (by decide) rfl ?_
              refine wp_aload_n d_GM_call_2_190 rfl rfl (g_nz hX.1) ?_
              refine xgetR d_GM_call_2_191 gc_GM f_GM_24.1 f_GM_24.2.1 f_GM_24.2.2.1 hX.1 (gm_o2 hX) hX.2.2.1 f_GM_24.2.2.2.2.1 (gm_row hX 4 rfl).1 ?_
              refine wp_iload d_GM_call_2_194 rfl ?_
              refine wp_iaload d_GM_call_2_196 (gm_row hX 4 rfl).2.2.1 (gm_row hX 4 rfl).2.2.2 (gm_row hX 4 rfl).2.1 (g32_n T.1 (by decide)) T.1.1 T.1.2 (fun h36 => ?_)
              have T := T.2 h36
              refine wp_istore (L' := [.val (gR G o), .val (gI x1), .unset, .unset, .val (gI x4), .val (gI x5), .val (gI x6), .val (gI 1), .val (gI (M (o + 5) (Int.toNat x8))), .val (gI x9), .val (gI 1), .unset, .unset, .unset, .unset]) d_GM_call_2_197 (by decide) rfl ?_
              refine wp_iinc (L' := [.val (gR G o), .val (gI x1), .unset, .unset, .val (gI x4), .val (gI x5), .val (gI x6), .val (gI 1), .val (gI (M (o + 5) (Int.toNat x8))), .val (gI (x9 + 1)), .val (gI 1), .unset, .unset, .unset, .unset]) d_GM_call_2_199 rfl (by decide) rfl ?_
              refine wp_goto (tgt := 102) d_GM_call_2_202 (by decide) ?_
              exact wp_md (wpt T (And.intro rfl (And.intro rfl (And.intro rfl (And.intro rfl (And.intro rfl (And.intro rfl (And.intro rfl (And.intro (gI_w _) True.intro)))))))))
set_option maxHeartbeats 4000000 in
theorem w_GM_call_2_205 {l : Launch} {G : gG} {d : Nat} {X : gX} {M : gM} {k : gM → Prop} {o : Nat} (hX : gmX X o) {Q : gQ} (hO : gOld G Q) {x1 : Int} (hx1 : g32 x1) {x4 : Int} (hx4 : g32 x4) {x5 : Int} (hx5 : g32 x5) {x6 : Int} (hx6 : g32 x6) {x7 : Int} (hx7 : g32 x7) (T : (¬ x7 = 0 → ((x5 < 10 → (g32 (M o 50) → (((0 : Int) ≤ x1 ∧ x1 < 90000) ∧ (g32 (M (o + 3) (Int.toNat x1)) → (wp l G y_GM_call_2 (gRm (d + 5)) true (kkV X k) true 263 [.val (gR G o), .unset, .unset, .unset, .val (gI x4), .val (gI x5), .val (gI x6), .unset, .val (gI (M (o + 3) (Int.toNat x1))), .val (gI (M o 50)), .val (gI (-1)), .val (gI 0), .unset, .unset, .unset] [] X M 0 0))))) ∧ (¬ x5 < 10 → ((12 < x5 → (g32 (M o 50) → (((0 : Int) ≤ x1 ∧ x1 < 90000) ∧ (g32 (M (o + 3) (Int.toNat x1)) → (wp l G y_GM_call_2 (gRm (d + 5)) true (kkV X k) true 263 [.val (gR G o), .unset, .unset, .unset, .val (gI x4), .val (gI x5), .val (gI x6), .unset, .val (gI (M (o + 3) (Int.toNat x1))), .val (gI (M o 50)), .val (gI (-1)), .val (gI 0), .unset, .unset, .unset] [] X M 0 0))))) ∧ (¬ 12 < x5 → (((0 : Int) ≤ x1 ∧ x1 < 90000) ∧ (g32 (M (o + 3) (Int.toNat x1)) → (cV l G y_GM_choose (gRm (d + 4)) true [gR G o, gI x5, gI (M (o + 3) (Int.toNat x1))] X M (fun M48 => (k M48)))))))))) ∧ (x7 = 0 → (cV l G y_GM_fault (gRm (d + 4)) true [gR G o, gI 4] X M (fun M51 => (k M51))))) : wp l G y_GM_call_2 (gRm (d + 5)) true (kkV X k) true 205 [.val (gR G o), .val (gI x1), .unset, .unset, .val (gI x4), .val (gI x5), .val (gI x6), .val (gI x7), .unset, .unset, .unset, .unset, .unset, .unset, .unset] [] X M 0 0 := by
  refine wp_iload d_GM_call_2_205 rfl ?_
  refine xz_ne (tgt := 216) d_GM_call_2_207 (by decide) (w32_id hx7) (fun h52 => ?_) (fun h52 => ?_)
  · have T := T.1 h52
    refine wp_iload d_GM_call_2_216 rfl ?_
    refine wp_bipush d_GM_call_2_218 ⟨by decide, by decide⟩ ?_
    refine xi_lt (tgt := 243) d_GM_call_2_220 (by decide) (w32_id hx5) (w32_id (g32_c (x := 10) rfl)) (fun h50 => ?_) (fun h50 => ?_)
    · have T := T.1 h50
      refine wp_aload_n d_GM_call_2_243 rfl rfl (g_nz hX.1) ?_
      refine xgetI d_GM_call_2_244 gc_GM f_GM_304.1 f_GM_304.2.1 f_GM_304.2.2.1 hX.1 (gm_o2 hX) hX.2.2.1 f_GM_304.2.2.2.2.1 (fun h43 => ?_)
      have T := T h43
      refine wp_istore (L' := [.val (gR G o), .val (gI x1), .unset, .unset, .val (gI x4), .val (gI x5), .val (gI x6), .val (gI x7), .unset, .val (gI (M o 50)), .unset, .unset, .unset, .unset, .unset]) d_GM_call_2_247 (by decide) rfl ?_
      refine wp_iconst d_GM_call_2_249 ?_
      refine wp_istore (L' := [.val (gR G o), .val (gI x1), .unset, .unset, .val (gI x4), .val (gI x5), .val (gI x6), .val (gI x7), .unset, .val (gI (M o 50)), .val (gI (-1)), .unset, .unset, .unset, .unset]) d_GM_call_2_250 (by decide) rfl ?_
      refine wp_aload_n d_GM_call_2_252 rfl rfl (g_nz hX.1) ?_
      refine xgetR d_GM_call_2_253 gc_GM f_GM_18.1 f_GM_18.2.1 f_GM_18.2.2.1 hX.1 (gm_o2 hX) hX.2.2.1 f_GM_18.2.2.2.2.1 (gm_row hX 2 rfl).1 ?_
      refine wp_iload_n d_GM_call_2_256 rfl rfl ?_
      refine wp_iaload d_GM_call_2_257 (gm_row hX 2 rfl).2.2.1 (gm_row hX 2 rfl).2.2.2 (gm_row hX 2 rfl).2.1 (g32_n T.1 (by decide)) T.1.1 T.1.2 (fun h44 => ?_)
      have T := T.2 h44
      refine wp_istore (L' := [.val (gR G o), .val (gI x1), .unset, .unset, .val (gI x4), .val (gI x5), .val (gI x6), .val (gI x7), .val (gI (M (o + 3) (Int.toNat x1))), .val (gI (M o 50)), .val (gI (-1)), .unset, .unset, .unset, .unset]) d_GM_call_2_258 (by decide) rfl ?_
      refine wp_iconst d_GM_call_2_260 ?_
      refine wp_istore (L' := [.val (gR G o), .val (gI x1), .unset, .unset, .val (gI x4), .val (gI x5), .val (gI x6), .val (gI x7), .val (gI (M (o + 3) (Int.toNat x1))), .val (gI (M o 50)), .val (gI (-1)), .val (gI 0), .unset, .unset, .unset]) d_GM_call_2_261 (by decide) rfl ?_
      exact wp_md (wpt T (And.intro rfl (And.intro rfl (And.intro rfl (And.intro rfl (And.intro rfl (And.intro rfl (And.intro rfl (And.intro rfl True.intro)))))))))
    · have T := T.2 h50
      refine wp_iload d_GM_call_2_223 rfl ?_
      refine wp_bipush d_GM_call_2_225 ⟨by decide, by decide⟩ ?_
      refine xi_gt (tgt := 243) d_GM_call_2_227 (by decide) (w32_id hx5) (w32_id (g32_c (x := 12) rfl)) (fun h49 => ?_) (fun h49 => ?_)
      · have T := T.1 h49
        refine wp_aload_n d_GM_call_2_243 rfl rfl (g_nz hX.1) ?_
        refine xgetI d_GM_call_2_244 gc_GM f_GM_304.1 f_GM_304.2.1 f_GM_304.2.2.1 hX.1 (gm_o2 hX) hX.2.2.1 f_GM_304.2.2.2.2.1 (fun h45 => ?_)
        have T := T h45
        refine wp_istore (L' := [.val (gR G o), .val (gI x1), .unset, .unset, .val (gI x4), .val (gI x5), .val (gI x6), .val (gI x7), .unset, .val (gI (M o 50)), .unset, .unset, .unset, .unset, .unset]) d_GM_call_2_247 (by decide) rfl ?_
        refine wp_iconst d_GM_call_2_249 ?_
        refine wp_istore (L' := [.val (gR G o), .val (gI x1), .unset, .unset, .val (gI x4), .val (gI x5), .val (gI x6), .val (gI x7), .unset, .val (gI (M o 50)), .val (gI (-1)), .unset, .unset, .unset, .unset]) d_GM_call_2_250 (by decide) rfl ?_
        refine wp_aload_n d_GM_call_2_252 rfl rfl (g_nz hX.1) ?_
        refine xgetR d_GM_call_2_253 gc_GM f_GM_18.1 f_GM_18.2.1 f_GM_18.2.2.1 hX.1 (gm_o2 hX) hX.2.2.1 f_GM_18.2.2.2.2.1 (gm_row hX 2 rfl).1 ?_
        refine wp_iload_n d_GM_call_2_256 rfl rfl ?_
        refine wp_iaload d_GM_call_2_257 (gm_row hX 2 rfl).2.2.1 (gm_row hX 2 rfl).2.2.2 (gm_row hX 2 rfl).2.1 (g32_n T.1 (by decide)) T.1.1 T.1.2 (fun h46 => ?_)
        have T := T.2 h46
        refine wp_istore (L' := [.val (gR G o), .val (gI x1), .unset, .unset, .val (gI x4), .val (gI x5), .val (gI x6), .val (gI x7), .val (gI (M (o + 3) (Int.toNat x1))), .val (gI (M o 50)), .val (gI (-1)), .unset, .unset, .unset, .unset]) d_GM_call_2_258 (by decide) rfl ?_
        refine wp_iconst d_GM_call_2_260 ?_
        refine wp_istore (L' := [.val (gR G o), .val (gI x1), .unset, .unset, .val (gI x4), .val (gI x5), .val (gI x6), .val (gI x7), .val (gI (M (o + 3) (Int.toNat x1))), .val (gI (M o 50)), .val (gI (-1)), .val (gI 0), .unset, .unset, .unset]) d_GM_call_2_261 (by decide) rfl ?_
        exact wp_md (wpt T (And.intro rfl (And.intro rfl (And.intro rfl (And.intro rfl (And.intro rfl (And.intro rfl (And.intro rfl (And.intro rfl True.intro)))))))))
      · have T := T.2 h49
        refine wp_aload_n d_GM_call_2_230 rfl rfl (g_nz hX.1) ?_
        refine wp_iload d_GM_call_2_231 rfl ?_
        refine wp_aload_n d_GM_call_2_233 rfl rfl (g_nz hX.1) ?_
        refine xgetR d_GM_call_2_234 gc_GM f_GM_18.1 f_GM_18.2.1 f_GM_18.2.2.1 hX.1 (gm_o2 hX) hX.2.2.1 f_GM_18.2.2.2.2.1 (gm_row hX 2 rfl).1 ?_
        refine wp_iload_n d_GM_call_2_237 rfl rfl ?_
        refine wp_iaload d_GM_call_2_238 (gm_row hX 2 rfl).2.2.1 (gm_row hX 2 rfl).2.2.2 (gm_row hX 2 rfl).2.1 (g32_n T.1 (by decide)) T.1.1 T.1.2 (fun h47 => ?_)
        have T := T.2 h47
        refine xcV_V (md' := true) (As := [gI x5, gI (M (o + 3) (Int.toNat x1))]) (st := []) d_GM_call_2_239 ca_GM_choose ml_GM_400 im_GM_choose se_GM_choose gc_GM hX.1 (gm_o2 hX) hX.2.2.1 rfl (by decide) (by decide) rfl (fun _ => rfl) (fun _ => rfl) T (fun M48 T => ?_)
        exact wp_return d_GM_call_2_242 rfl (fun _ => rfl) (Nat.zero_le _) (Nat.zero_le _) (kV_mk T)
  · have T := T.2 h52
    refine wp_aload_n d_GM_call_2_210 rfl rfl (g_nz hX.1) ?_
    refine wp_iconst d_GM_call_2_211 ?_
    refine xcV_V (md' := true) (As := [gI 4]) (st := []) d_GM_call_2_212 ca_GM_fault ml_GM_314 im_GM_fault se_GM_fault gc_GM hX.1 (gm_o2 hX) hX.2.2.1 rfl (by decide) (by decide) rfl (fun _ => rfl) (fun _ => rfl) T (fun M51 T => ?_)
    exact wp_return d_GM_call_2_215 rfl (fun _ => rfl) (Nat.zero_le _) (Nat.zero_le _) (kV_mk T)
set_option maxHeartbeats 4000000 in
theorem w_GM_call_2_263 {l : Launch} {G : gG} {d : Nat} {X : gX} {M : gM} {k : gM → Prop} {o : Nat} (hX : gmX X o) {Q : gQ} (hO : gOld G Q) {x4 : Int} (hx4 : g32 x4) {x5 : Int} (hx5 : g32 x5) {x6 : Int} (hx6 : g32 x6) {x8 : Int} (hx8 : g32 x8) {x9 : Int} (hx9 : g32 x9) {x10 : Int} (hx10 : g32 x10) {x11 : Int} (hx11 : g32 x11) (T : (x6 ≤ x11 → ((x5 < 13 → (wp l G y_GM_call_2 (gRm (d + 5)) true (kkV X k) true 372 [.val (gR G o), .unset, .unset, .unset, .val (gI x4), .val (gI x5), .val (gI x6), .unset, .unset, .val (gI x9), .val (gI x10), .unset, .unset, .unset, .unset] [] X M 0 0)) ∧ (¬ x5 < 13 → ((16 < x5 → (wp l G y_GM_call_2 (gRm (d + 5)) true (kkV X k) true 372 [.val (gR G o), .unset, .unset, .unset, .val (gI x4), .val (gI x5), .val (gI x6), .unset, .unset, .val (gI x9), .val (gI x10), .unset, .unset, .unset, .unset] [] X M 0 0)) ∧ (¬ 16 < x5 → ((x6 ≤ 0 → (wp l G y_GM_call_2 (gRm (d + 5)) true (kkV X k) true 395 [.val (gR G o), .unset, .unset, .unset, .val (gI x4), .val (gI x5), .val (gI x6), .unset, .unset, .val (gI x9), .val (gI x10), .val (gI 1), .unset, .unset, .unset] [] X M 0 0)) ∧ (¬ x6 ≤ 0 → ((¬ (1 : Int) = 0 → (wp l G y_GM_call_2 (gRm (d + 5)) true (kkV X k) true 395 [.val (gR G o), .unset, .unset, .unset, .val (gI x4), .val (gI x5), .val (gI x6), .unset, .unset, .val (gI x9), .val (gI x10), .val (gI 1), .unset, .unset, .unset] [] X M 0 0)) ∧ ((1 : Int) = 0 → (cZ l G y_GM_spoilt (gRm (d + 4)) true [gR G o, gI x6] X M (fun v54 M53 => ((v54 = 0 → (wp l G y_GM_call_2 (gRm (d + 5)) true (kkV X k) true 395 [.val (gR G o), .unset, .unset, .unset, .val (gI x4), .val (gI x5), .val (gI x6), .unset, .unset, .val (gI x9), .val (gI x10), .val (gI 1), .unset, .unset, .unset] [] X M53 0 0)) ∧ (¬ v54 = 0 → (k M53)))))))))))))) ∧ (¬ x6 ≤ x11 → (((0 : Int) ≤ (w32 (x4 + x11)) ∧ (w32 (x4 + x11)) < (gSl 7 : Int)) ∧ ((gSc 7 (Int.toNat (w32 (x4 + x11))) = 114 → (((0 : Int) ≤ x8 ∧ x8 < 90000) ∧ (g32 (M (o + 3) (Int.toNat x8)) → (cI l G y_GM_refOf (gRm (d + 4)) false [gR G o, gI (M (o + 3) (Int.toNat x8))] X M (fun v64 M63 => ((0 ≤ v64 → (((0 : Int) = 0 → (cV l G y_GM_push (gRm (d + 4)) true [gR G o, gI 0, gL 0] X M63 (fun M66 => (((0 : Int) ≤ x8 ∧ x8 < 90000) ∧ (g32 (M66 (o + 5) (Int.toNat x8)) → (wp l G y_GM_call_2 (gRm (d + 5)) true (kkV X k) true 263 [.val (gR G o), .unset, .unset, .unset, .val (gI x4), .val (gI x5), .val (gI x6), .unset, .val (gI (M66 (o + 5) (Int.toNat x8))), .val (gI x9), .val (gI x8), .val (gI (w32 (x11 + 1))), .unset, .unset, .unset] [] X M66 0 0)))))) ∧ (¬ (0 : Int) = 0 → (cV l G y_GM_fault (gRm (d + 4)) true [gR G o, gI 2] X M63 (fun M68 => (((0 : Int) ≤ x8 ∧ x8 < 90000) ∧ (g32 (M68 (o + 5) (Int.toNat x8)) → (wp l G y_GM_call_2 (gRm (d + 5)) true (kkV X k) true 263 [.val (gR G o), .unset, .unset, .unset, .val (gI x4), .val (gI x5), .val (gI x6), .unset, .val (gI (M68 (o + 5) (Int.toNat x8))), .val (gI x9), .val (gI x8), .val (gI (w32 (x11 + 1))), .unset, .unset, .unset] [] X M68 0 0)))))))) ∧ (¬ 0 ≤ v64 → (((1 : Int) = 0 → (cV l G y_GM_push (gRm (d + 4)) true [gR G o, gI 0, gL 0] X M63 (fun M71 => (((0 : Int) ≤ x8 ∧ x8 < 90000) ∧ (g32 (M71 (o + 5) (Int.toNat x8)) → (wp l G y_GM_call_2 (gRm (d + 5)) true (kkV X k) true 263 [.val (gR G o), .unset, .unset, .unset, .val (gI x4), .val (gI x5), .val (gI x6), .unset, .val (gI (M71 (o + 5) (Int.toNat x8))), .val (gI x9), .val (gI x8), .val (gI (w32 (x11 + 1))), .unset, .unset, .unset] [] X M71 0 0)))))) ∧ (¬ (1 : Int) = 0 → (cV l G y_GM_fault (gRm (d + 4)) true [gR G o, gI 2] X M63 (fun M73 => (((0 : Int) ≤ x8 ∧ x8 < 90000) ∧ (g32 (M73 (o + 5) (Int.toNat x8)) → (wp l G y_GM_call_2 (gRm (d + 5)) true (kkV X k) true 263 [.val (gR G o), .unset, .unset, .unset, .val (gI x4), .val (gI x5), .val (gI x6), .unset, .val (gI (M73 (o + 5) (Int.toNat x8))), .val (gI x9), .val (gI x8), .val (gI (w32 (x11 + 1))), .unset, .unset, .unset] [] X M73 0 0)))))))))))))) ∧ (¬ gSc 7 (Int.toNat (w32 (x4 + x11))) = 114 → (cV l G y_GM_eval (gRm (d + 4)) true [gR G o, gI x8] X M (fun M77 => (((0 : Int) ≤ x8 ∧ x8 < 90000) ∧ (g32 (M77 (o + 5) (Int.toNat x8)) → (wp l G y_GM_call_2 (gRm (d + 5)) true (kkV X k) true 263 [.val (gR G o), .unset, .unset, .unset, .val (gI x4), .val (gI x5), .val (gI x6), .unset, .val (gI (M77 (o + 5) (Int.toNat x8))), .val (gI x9), .val (gI x10), .val (gI (w32 (x11 + 1))), .unset, .unset, .unset] [] X M77 0 0)))))))))) : wp l G y_GM_call_2 (gRm (d + 5)) true (kkV X k) true 263 [.val (gR G o), .unset, .unset, .unset, .val (gI x4), .val (gI x5), .val (gI x6), .unset, .val (gI x8), .val (gI x9), .val (gI x10), .val (gI x11), .unset, .unset, .unset] [] X M 0 0 := by
  refine wp_iload d_GM_call_2_263 rfl ?_
  refine wp_iload d_GM_call_2_265 rfl ?_
  refine xi_ge (tgt := 354) d_GM_call_2_267 (by decide) (w32_id hx11) (w32_id hx6) (fun h80 => ?_) (fun h80 => ?_)
  · have T := T.1 h80
    refine wp_iload d_GM_call_2_354 rfl ?_
    refine wp_bipush d_GM_call_2_356 ⟨by decide, by decide⟩ ?_
    refine xi_lt (tgt := 372) d_GM_call_2_358 (by decide) (w32_id hx5) (w32_id (g32_c (x := 13) rfl)) (fun h60 => ?_) (fun h60 => ?_)
    · have T := T.1 h60
      exact wp_md (wpt T (And.intro rfl (And.intro rfl (And.intro rfl (And.intro rfl (And.intro rfl (And.intro rfl True.intro)))))))
    · have T := T.2 h60
      refine wp_iload d_GM_call_2_361 rfl ?_
      refine wp_bipush d_GM_call_2_363 ⟨by decide, by decide⟩ ?_
      refine xi_gt (tgt := 372) d_GM_call_2_365 (by decide) (w32_id hx5) (w32_id (g32_c (x := 16) rfl)) (fun h59 => ?_) (fun h59 => ?_)
      · have T := T.1 h59
        exact wp_md (wpt T (And.intro rfl (And.intro rfl (And.intro rfl (And.intro rfl (And.intro rfl (And.intro rfl True.intro)))))))
      · have T := T.2 h59
        refine wp_iconst d_GM_call_2_368 ?_
        refine wp_goto (tgt := 373) d_GM_call_2_369 (by decide) ?_
        refine wp_istore (L' := [.val (gR G o), .unset, .unset, .unset, .val (gI x4), .val (gI x5), .val (gI x6), .unset, .val (gI x8), .val (gI x9), .val (gI x10), .val (gI 1), .unset, .unset, .unset]) d_GM_call_2_373 (by decide) rfl ?_
        refine wp_iload d_GM_call_2_375 rfl ?_
        refine xz_le (tgt := 395) d_GM_call_2_377 (by decide) (w32_id hx6) (fun h58 => ?_) (fun h58 => ?_)
        · have T := T.1 h58
          exact wp_md (wpt T (And.intro rfl (And.intro rfl (And.intro rfl (And.intro rfl (And.intro rfl (And.intro rfl (And.intro rfl True.intro))))))))
        · have T := T.2 h58
          refine wp_iload d_GM_call_2_380 rfl ?_
          refine xz_ne (tgt := 395) d_GM_call_2_382 (by decide) (w32_id (g32_c (x := 1) rfl)) (fun h57 => ?_) (fun h57 => ?_)
          · have T := T.1 h57
            exact wp_md (wpt T (And.intro rfl (And.intro rfl (And.intro rfl (And.intro rfl (And.intro rfl (And.intro rfl (And.intro rfl True.intro))))))))
          · have T := T.2 h57
            refine wp_aload_n d_GM_call_2_385 rfl rfl (g_nz hX.1) ?_
            refine wp_iload d_GM_call_2_386 rfl ?_
            refine xcV_Z (md' := true) (As := [gI x6]) (st := []) d_GM_call_2_388 ca_GM_spoilt ml_GM_335 im_GM_spoilt se_GM_spoilt gc_GM hX.1 (gm_o2 hX) hX.2.2.1 rfl (by decide) (by decide) rfl (fun _ => rfl) (fun _ => rfl) T (fun v54 M53 h55 T => ?_)
            refine xz_eq (tgt := 395) d_GM_call_2_391 (by decide) (w32_id (g32_z h55)) (fun h56 => ?_) (fun h56 => ?_)
            · have T := T.1 h56
              exact wp_md (wpt T (And.intro rfl (And.intro rfl (And.intro rfl (And.intro rfl (And.intro rfl (And.intro rfl (And.intro rfl True.intro))))))))
            · have T := T.2 h56
              exact wp_return d_GM_call_2_394 rfl (fun _ => rfl) (Nat.zero_le _) (Nat.zero_le _) (kV_mk T)
  · have T := T.2 h80
    refine wp_ldcSW d_GM_call_2_270 (fun U hU => ((hO U hU).2.1 7 (by decide)).2.2.2.2 ("GridLedgerModel", 393, "SUM:r PRODUCT:r MIN:r MAX:r AVERAGE:r COUNT:r COUNTA:r AND:bb OR:bb NOT:b IF:bxx IFERROR:xx CHOOSE:nxxx ISERROR:x ISNUMBER:x ISTEXT:x ISBLANK:x ABS:n SIGN:n MOD:nn LEN:t UPPER:t LOWER:t LEFT:tn RIGHT:tn MID:tnn FIND:tt REPLACE:ttt ROW:r COLUMN:r ROWS:r COLUMNS:r NA: INDEX:rnn MATCH:xr LOOKUP:xrn SUMIF:rx COUNTIF:rx ") rfl) ?_
    refine wp_iload d_GM_call_2_273 rfl ?_
    refine wp_iload d_GM_call_2_275 rfl ?_
    refine wp_iadd d_GM_call_2_277 ?_
    have q61 := T.1
    have T := T.2
    refine xo_chr hO (by decide) d_GM_call_2_278 ml_GM_207 (by decide) rfl q61 ?_
    refine wp_bipush d_GM_call_2_281 ⟨by decide, by decide⟩ ?_
    refine xi_eq (tgt := 295) d_GM_call_2_283 (by decide) (w32_id (g32_h (gSc_ok (by decide) _))) (w32_id (g32_c (x := 114) rfl)) (fun h79 => ?_) (fun h79 => ?_)
    · have T := T.1 h79
      refine wp_aload_n d_GM_call_2_295 rfl rfl (g_nz hX.1) ?_
      refine wp_aload_n d_GM_call_2_296 rfl rfl (g_nz hX.1) ?_
      refine xgetR d_GM_call_2_297 gc_GM f_GM_18.1 f_GM_18.2.1 f_GM_18.2.2.1 hX.1 (gm_o2 hX) hX.2.2.1 f_GM_18.2.2.2.2.1 (gm_row hX 2 rfl).1 ?_
      refine wp_iload d_GM_call_2_300 rfl ?_
      refine wp_iaload d_GM_call_2_302 (gm_row hX 2 rfl).2.2.1 (gm_row hX 2 rfl).2.2.2 (gm_row hX 2 rfl).2.1 (g32_n T.1 (by decide)) T.1.1 T.1.2 (fun h62 => ?_)
      have T := T.2 h62
      refine xcV_I (md' := true) (As := [gI (M (o + 3) (Int.toNat x8))]) (st := []) d_GM_call_2_303 ca_GM_refOf ml_GM_374 im_GM_refOf se_GM_refOf gc_GM hX.1 (gm_o2 hX) hX.2.2.1 rfl (by decide) (by decide) rfl (fun _ => rfl) (fun _ => rfl) T (fun v64 M63 h65 T => ?_)
      refine xz_ge (tgt := 313) d_GM_call_2_306 (by decide) (w32_id h65) (fun h76 => ?_) (fun h76 => ?_)
      · have T := T.1 h76
        refine wp_iconst d_GM_call_2_313 ?_
        refine wp_istore (L' := [.val (gR G o), .unset, .unset, .unset, .val (gI x4), .val (gI x5), .val (gI x6), .unset, .val (gI x8), .val (gI x9), .val (gI x10), .val (gI x11), .val (gI 0), .unset, .unset]) d_GM_call_2_314 (by decide) rfl ?_
        refine wp_iload d_GM_call_2_316 rfl ?_
        refine xz_eq (tgt := 329) d_GM_call_2_318 (by decide) (w32_id (g32_c (x := 0) rfl)) (fun h70 => ?_) (fun h70 => ?_)
        · have T := T.1 h70
          refine wp_aload_n d_GM_call_2_329 rfl rfl (g_nz hX.1) ?_
          refine wp_iconst d_GM_call_2_330 ?_
          refine wp_lconst0 d_GM_call_2_331 ?_
          refine xcV_V (md' := true) (As := [gI 0, gL 0]) (st := []) d_GM_call_2_332 ca_GM_push ml_GM_307 im_GM_push se_GM_push gc_GM hX.1 (gm_o2 hX) hX.2.2.1 rfl (by decide) (by decide) rfl (fun _ => rfl) (fun _ => rfl) T (fun M66 T => ?_)
          refine wp_iload d_GM_call_2_335 rfl ?_
          refine wp_istore (L' := [.val (gR G o), .unset, .unset, .unset, .val (gI x4), .val (gI x5), .val (gI x6), .unset, .val (gI x8), .val (gI x9), .val (gI x8), .val (gI x11), .val (gI 0), .unset, .unset]) d_GM_call_2_337 (by decide) rfl ?_
          refine wp_aload_n d_GM_call_2_339 rfl rfl (g_nz hX.1) ?_
          refine xgetR d_GM_call_2_340 gc_GM f_GM_24.1 f_GM_24.2.1 f_GM_24.2.2.1 hX.1 (gm_o2 hX) hX.2.2.1 f_GM_24.2.2.2.2.1 (gm_row hX 4 rfl).1 ?_
          refine wp_iload d_GM_call_2_343 rfl ?_
          refine wp_iaload d_GM_call_2_345 (gm_row hX 4 rfl).2.2.1 (gm_row hX 4 rfl).2.2.2 (gm_row hX 4 rfl).2.1 (g32_n T.1 (by decide)) T.1.1 T.1.2 (fun h67 => ?_)
          have T := T.2 h67
          refine wp_istore (L' := [.val (gR G o), .unset, .unset, .unset, .val (gI x4), .val (gI x5), .val (gI x6), .unset, .val (gI (M66 (o + 5) (Int.toNat x8))), .val (gI x9), .val (gI x8), .val (gI x11), .val (gI 0), .unset, .unset]) d_GM_call_2_346 (by decide) rfl ?_
          refine wp_iinc (L' := [.val (gR G o), .unset, .unset, .unset, .val (gI x4), .val (gI x5), .val (gI x6), .unset, .val (gI (M66 (o + 5) (Int.toNat x8))), .val (gI x9), .val (gI x8), .val (gI (x11 + 1)), .val (gI 0), .unset, .unset]) d_GM_call_2_348 rfl (by decide) rfl ?_
          refine wp_goto (tgt := 263) d_GM_call_2_351 (by decide) ?_
          exact wp_md (wpt T (And.intro rfl (And.intro rfl (And.intro rfl (And.intro rfl (And.intro rfl (And.intro rfl (And.intro rfl (And.intro (gI_w _) True.intro)))))))))
        · have T := T.2 h70
          refine wp_aload_n d_GM_call_2_321 rfl rfl (g_nz hX.1) ?_
          refine wp_iconst d_GM_call_2_322 ?_
          refine xcV_V (md' := true) (As := [gI 2]) (st := []) d_GM_call_2_323 ca_GM_fault ml_GM_314 im_GM_fault se_GM_fault gc_GM hX.1 (gm_o2 hX) hX.2.2.1 rfl (by decide) (by decide) rfl (fun _ => rfl) (fun _ => rfl) T (fun M68 T => ?_)
          refine wp_goto (tgt := 335) d_GM_call_2_326 (by decide) ?_
          refine wp_iload d_GM_call_2_335 rfl ?_
          refine wp_istore (L' := [.val (gR G o), .unset, .unset, .unset, .val (gI x4), .val (gI x5), .val (gI x6), .unset, .val (gI x8), .val (gI x9), .val (gI x8), .val (gI x11), .val (gI 0), .unset, .unset]) d_GM_call_2_337 (by decide) rfl ?_
          refine wp_aload_n d_GM_call_2_339 rfl rfl (g_nz hX.1) ?_
          refine xgetR d_GM_call_2_340 gc_GM f_GM_24.1 f_GM_24.2.1 f_GM_24.2.2.1 hX.1 (gm_o2 hX) hX.2.2.1 f_GM_24.2.2.2.2.1 (gm_row hX 4 rfl).1 ?_
          refine wp_iload d_GM_call_2_343 rfl ?_
          refine wp_iaload d_GM_call_2_345 (gm_row hX 4 rfl).2.2.1 (gm_row hX 4 rfl).2.2.2 (gm_row hX 4 rfl).2.1 (g32_n T.1 (by decide)) T.1.1 T.1.2 (fun h69 => ?_)
          have T := T.2 h69
          refine wp_istore (L' := [.val (gR G o), .unset, .unset, .unset, .val (gI x4), .val (gI x5), .val (gI x6), .unset, .val (gI (M68 (o + 5) (Int.toNat x8))), .val (gI x9), .val (gI x8), .val (gI x11), .val (gI 0), .unset, .unset]) d_GM_call_2_346 (by decide) rfl ?_
          refine wp_iinc (L' := [.val (gR G o), .unset, .unset, .unset, .val (gI x4), .val (gI x5), .val (gI x6), .unset, .val (gI (M68 (o + 5) (Int.toNat x8))), .val (gI x9), .val (gI x8), .val (gI (x11 + 1)), .val (gI 0), .unset, .unset]) d_GM_call_2_348 rfl (by decide) rfl ?_
          refine wp_goto (tgt := 263) d_GM_call_2_351 (by decide) ?_
          exact wp_md (wpt T (And.intro rfl (And.intro rfl (And.intro rfl (And.intro rfl (And.intro rfl (And.intro rfl (And.intro rfl (And.intro (gI_w _) True.intro)))))))))
      · have T := T.2 h76
        refine wp_iconst d_GM_call_2_309 ?_
        refine wp_goto (tgt := 314) d_GM_call_2_310 (by decide) ?_
        refine wp_istore (L' := [.val (gR G o), .unset, .unset, .unset, .val (gI x4), .val (gI x5), .val (gI x6), .unset, .val (gI x8), .val (gI x9), .val (gI x10), .val (gI x11), .val (gI 1), .unset, .unset]) d_GM_call_2_314 (by decide) rfl ?_
        refine wp_iload d_GM_call_2_316 rfl ?_
        refine xz_eq (tgt := 329) d_GM_call_2_318 (by decide) (w32_id (g32_c (x := 1) rfl)) (fun h75 => ?_) (fun h75 => ?_)
        · have T := T.1 h75
          refine wp_aload_n d_GM_call_2_329 rfl rfl (g_nz hX.1) ?_
          refine wp_iconst d_GM_call_2_330 ?_
          refine wp_lconst0 d_GM_call_2_331 ?_
          refine xcV_V (md' := true) (As := [gI 0, gL 0]) (st := []) d_GM_call_2_332 ca_GM_push ml_GM_307 im_GM_push se_GM_push gc_GM hX.1 (gm_o2 hX) hX.2.2.1 rfl (by decide) (by decide) rfl (fun _ => rfl) (fun _ => rfl) T (fun M71 T => ?_)
          refine wp_iload d_GM_call_2_335 rfl ?_
          refine wp_istore (L' := [.val (gR G o), .unset, .unset, .unset, .val (gI x4), .val (gI x5), .val (gI x6), .unset, .val (gI x8), .val (gI x9), .val (gI x8), .val (gI x11), .val (gI 1), .unset, .unset]) d_GM_call_2_337 (by decide) rfl ?_
          refine wp_aload_n d_GM_call_2_339 rfl rfl (g_nz hX.1) ?_
          refine xgetR d_GM_call_2_340 gc_GM f_GM_24.1 f_GM_24.2.1 f_GM_24.2.2.1 hX.1 (gm_o2 hX) hX.2.2.1 f_GM_24.2.2.2.2.1 (gm_row hX 4 rfl).1 ?_
          refine wp_iload d_GM_call_2_343 rfl ?_
          refine wp_iaload d_GM_call_2_345 (gm_row hX 4 rfl).2.2.1 (gm_row hX 4 rfl).2.2.2 (gm_row hX 4 rfl).2.1 (g32_n T.1 (by decide)) T.1.1 T.1.2 (fun h72 => ?_)
          have T := T.2 h72
          refine wp_istore (L' := [.val (gR G o), .unset, .unset, .unset, .val (gI x4), .val (gI x5), .val (gI x6), .unset, .val (gI (M71 (o + 5) (Int.toNat x8))), .val (gI x9), .val (gI x8), .val (gI x11), .val (gI 1), .unset, .unset]) d_GM_call_2_346 (by decide) rfl ?_
          refine wp_iinc (L' := [.val (gR G o), .unset, .unset, .unset, .val (gI x4), .val (gI x5), .val (gI x6), .unset, .val (gI (M71 (o + 5) (Int.toNat x8))), .val (gI x9), .val (gI x8), .val (gI (x11 + 1)), .val (gI 1), .unset, .unset]) d_GM_call_2_348 rfl (by decide) rfl ?_
          refine wp_goto (tgt := 263) d_GM_call_2_351 (by decide) ?_
          exact wp_md (wpt T (And.intro rfl (And.intro rfl (And.intro rfl (And.intro rfl (And.intro rfl (And.intro rfl (And.intro rfl (And.intro (gI_w _) True.intro)))))))))
        · have T := T.2 h75
          refine wp_aload_n d_GM_call_2_321 rfl rfl (g_nz hX.1) ?_
          refine wp_iconst d_GM_call_2_322 ?_
          refine xcV_V (md' := true) (As := [gI 2]) (st := []) d_GM_call_2_323 ca_GM_fault ml_GM_314 im_GM_fault se_GM_fault gc_GM hX.1 (gm_o2 hX) hX.2.2.1 rfl (by decide) (by decide) rfl (fun _ => rfl) (fun _ => rfl) T (fun M73 T => ?_)
          refine wp_goto (tgt := 335) d_GM_call_2_326 (by decide) ?_
          refine wp_iload d_GM_call_2_335 rfl ?_
          refine wp_istore (L' := [.val (gR G o), .unset, .unset, .unset, .val (gI x4), .val (gI x5), .val (gI x6), .unset, .val (gI x8), .val (gI x9), .val (gI x8), .val (gI x11), .val (gI 1), .unset, .unset]) d_GM_call_2_337 (by decide) rfl ?_
          refine wp_aload_n d_GM_call_2_339 rfl rfl (g_nz hX.1) ?_
          refine xgetR d_GM_call_2_340 gc_GM f_GM_24.1 f_GM_24.2.1 f_GM_24.2.2.1 hX.1 (gm_o2 hX) hX.2.2.1 f_GM_24.2.2.2.2.1 (gm_row hX 4 rfl).1 ?_
          refine wp_iload d_GM_call_2_343 rfl ?_
          refine wp_iaload d_GM_call_2_345 (gm_row hX 4 rfl).2.2.1 (gm_row hX 4 rfl).2.2.2 (gm_row hX 4 rfl).2.1 (g32_n T.1 (by decide)) T.1.1 T.1.2 (fun h74 => ?_)
          have T := T.2 h74
          refine wp_istore (L' := [.val (gR G o), .unset, .unset, .unset, .val (gI x4), .val (gI x5), .val (gI x6), .unset, .val (gI (M73 (o + 5) (Int.toNat x8))), .val (gI x9), .val (gI x8), .val (gI x11), .val (gI 1), .unset, .unset]) d_GM_call_2_346 (by decide) rfl ?_
          refine wp_iinc (L' := [.val (gR G o), .unset, .unset, .unset, .val (gI x4), .val (gI x5), .val (gI x6), .unset, .val (gI (M73 (o + 5) (Int.toNat x8))), .val (gI x9), .val (gI x8), .val (gI (x11 + 1)), .val (gI 1), .unset, .unset]) d_GM_call_2_348 rfl (by decide) rfl ?_
          refine wp_goto (tgt := 263) d_GM_call_2_351 (by decide) ?_
          exact wp_md (wpt T (And.intro rfl (And.intro rfl (And.intro rfl (And.intro rfl (And.intro rfl (And.intro rfl (And.intro rfl (And.intro (gI_w _) True.intro)))))))))
    · have T := T.2 h79
      refine wp_aload_n d_GM_call_2_286 rfl rfl (g_nz hX.1) ?_
      refine wp_iload d_GM_call_2_287 rfl ?_
      refine xcV_V (md' := true) (As := [gI x8]) (st := []) d_GM_call_2_289 ca_GM_eval ml_GM_380 im_GM_eval se_GM_eval gc_GM hX.1 (gm_o2 hX) hX.2.2.1 rfl (by decide) (by decide) rfl (fun _ => rfl) (fun _ => rfl) T (fun M77 T => ?_)
      refine wp_goto (tgt := 339) d_GM_call_2_292 (by decide) ?_
      refine wp_aload_n d_GM_call_2_339 rfl rfl (g_nz hX.1) ?_
      refine xgetR d_GM_call_2_340 gc_GM f_GM_24.1 f_GM_24.2.1 f_GM_24.2.2.1 hX.1 (gm_o2 hX) hX.2.2.1 f_GM_24.2.2.2.2.1 (gm_row hX 4 rfl).1 ?_
      refine wp_iload d_GM_call_2_343 rfl ?_
      refine wp_iaload d_GM_call_2_345 (gm_row hX 4 rfl).2.2.1 (gm_row hX 4 rfl).2.2.2 (gm_row hX 4 rfl).2.1 (g32_n T.1 (by decide)) T.1.1 T.1.2 (fun h78 => ?_)
      have T := T.2 h78
      refine wp_istore (L' := [.val (gR G o), .unset, .unset, .unset, .val (gI x4), .val (gI x5), .val (gI x6), .unset, .val (gI (M77 (o + 5) (Int.toNat x8))), .val (gI x9), .val (gI x10), .val (gI x11), .unset, .unset, .unset]) d_GM_call_2_346 (by decide) rfl ?_
      refine wp_iinc (L' := [.val (gR G o), .unset, .unset, .unset, .val (gI x4), .val (gI x5), .val (gI x6), .unset, .val (gI (M77 (o + 5) (Int.toNat x8))), .val (gI x9), .val (gI x10), .val (gI (x11 + 1)), .unset, .unset, .unset]) d_GM_call_2_348 rfl (by decide) rfl ?_
      refine wp_goto (tgt := 263) d_GM_call_2_351 (by decide) ?_
      exact wp_md (wpt T (And.intro rfl (And.intro rfl (And.intro rfl (And.intro rfl (And.intro rfl (And.intro rfl (And.intro rfl (And.intro (gI_w _) True.intro)))))))))
set_option maxHeartbeats 4000000 in
theorem w_GM_call_2_372 {l : Launch} {G : gG} {d : Nat} {X : gX} {M : gM} {k : gM → Prop} {o : Nat} (hX : gmX X o) {Q : gQ} (hO : gOld G Q) {x4 : Int} (hx4 : g32 x4) {x5 : Int} (hx5 : g32 x5) {x6 : Int} (hx6 : g32 x6) {x9 : Int} (hx9 : g32 x9) {x10 : Int} (hx10 : g32 x10) (T : (x6 ≤ 0 → (wp l G y_GM_call_2 (gRm (d + 5)) true (kkV X k) true 395 [.val (gR G o), .unset, .unset, .unset, .val (gI x4), .val (gI x5), .val (gI x6), .unset, .unset, .val (gI x9), .val (gI x10), .val (gI 0), .unset, .unset, .unset] [] X M 0 0)) ∧ (¬ x6 ≤ 0 → ((¬ (0 : Int) = 0 → (wp l G y_GM_call_2 (gRm (d + 5)) true (kkV X k) true 395 [.val (gR G o), .unset, .unset, .unset, .val (gI x4), .val (gI x5), .val (gI x6), .unset, .unset, .val (gI x9), .val (gI x10), .val (gI 0), .unset, .unset, .unset] [] X M 0 0)) ∧ ((0 : Int) = 0 → (cZ l G y_GM_spoilt (gRm (d + 4)) true [gR G o, gI x6] X M (fun v82 M81 => ((v82 = 0 → (wp l G y_GM_call_2 (gRm (d + 5)) true (kkV X k) true 395 [.val (gR G o), .unset, .unset, .unset, .val (gI x4), .val (gI x5), .val (gI x6), .unset, .unset, .val (gI x9), .val (gI x10), .val (gI 0), .unset, .unset, .unset] [] X M81 0 0)) ∧ (¬ v82 = 0 → (k M81))))))))) : wp l G y_GM_call_2 (gRm (d + 5)) true (kkV X k) true 372 [.val (gR G o), .unset, .unset, .unset, .val (gI x4), .val (gI x5), .val (gI x6), .unset, .unset, .val (gI x9), .val (gI x10), .unset, .unset, .unset, .unset] [] X M 0 0 := by
  refine wp_iconst d_GM_call_2_372 ?_
  refine wp_istore (L' := [.val (gR G o), .unset, .unset, .unset, .val (gI x4), .val (gI x5), .val (gI x6), .unset, .unset, .val (gI x9), .val (gI x10), .val (gI 0), .unset, .unset, .unset]) d_GM_call_2_373 (by decide) rfl ?_
  refine wp_iload d_GM_call_2_375 rfl ?_
  refine xz_le (tgt := 395) d_GM_call_2_377 (by decide) (w32_id hx6) (fun h86 => ?_) (fun h86 => ?_)
  · have T := T.1 h86
    exact wp_md (wpt T (And.intro rfl (And.intro rfl (And.intro rfl (And.intro rfl (And.intro rfl (And.intro rfl (And.intro rfl True.intro))))))))
  · have T := T.2 h86
    refine wp_iload d_GM_call_2_380 rfl ?_
    refine xz_ne (tgt := 395) d_GM_call_2_382 (by decide) (w32_id (g32_c (x := 0) rfl)) (fun h85 => ?_) (fun h85 => ?_)
    · have T := T.1 h85
      exact wp_md (wpt T (And.intro rfl (And.intro rfl (And.intro rfl (And.intro rfl (And.intro rfl (And.intro rfl (And.intro rfl True.intro))))))))
    · have T := T.2 h85
      refine wp_aload_n d_GM_call_2_385 rfl rfl (g_nz hX.1) ?_
      refine wp_iload d_GM_call_2_386 rfl ?_
      refine xcV_Z (md' := true) (As := [gI x6]) (st := []) d_GM_call_2_388 ca_GM_spoilt ml_GM_335 im_GM_spoilt se_GM_spoilt gc_GM hX.1 (gm_o2 hX) hX.2.2.1 rfl (by decide) (by decide) rfl (fun _ => rfl) (fun _ => rfl) T (fun v82 M81 h83 T => ?_)
      refine xz_eq (tgt := 395) d_GM_call_2_391 (by decide) (w32_id (g32_z h83)) (fun h84 => ?_) (fun h84 => ?_)
      · have T := T.1 h84
        exact wp_md (wpt T (And.intro rfl (And.intro rfl (And.intro rfl (And.intro rfl (And.intro rfl (And.intro rfl (And.intro rfl True.intro))))))))
      · have T := T.2 h84
        exact wp_return d_GM_call_2_394 rfl (fun _ => rfl) (Nat.zero_le _) (Nat.zero_le _) (kV_mk T)
set_option maxHeartbeats 4000000 in
theorem w_GM_call_2_395 {l : Launch} {G : gG} {d : Nat} {X : gX} {M : gM} {k : gM → Prop} {o : Nat} (hX : gmX X o) {Q : gQ} (hO : gOld G Q) {x4 : Int} (hx4 : g32 x4) {x5 : Int} (hx5 : g32 x5) {x6 : Int} (hx6 : g32 x6) {x9 : Int} (hx9 : g32 x9) {x10 : Int} (hx10 : g32 x10) {x11 : Int} (hx11 : g32 x11) (T : wp l G y_GM_call_2 (gRm (d + 5)) true (kkV X k) true 398 [.val (gR G o), .unset, .unset, .unset, .val (gI x4), .val (gI x5), .val (gI x6), .unset, .unset, .val (gI x9), .val (gI x10), .val (gI x11), .val (gI 0), .unset, .unset] [] X M 0 0) : wp l G y_GM_call_2 (gRm (d + 5)) true (kkV X k) true 395 [.val (gR G o), .unset, .unset, .unset, .val (gI x4), .val (gI x5), .val (gI x6), .unset, .unset, .val (gI x9), .val (gI x10), .val (gI x11), .unset, .unset, .unset] [] X M 0 0 := by
  refine wp_iconst d_GM_call_2_395 ?_
  refine wp_istore (L' := [.val (gR G o), .unset, .unset, .unset, .val (gI x4), .val (gI x5), .val (gI x6), .unset, .unset, .val (gI x9), .val (gI x10), .val (gI x11), .val (gI 0), .unset, .unset]) d_GM_call_2_396 (by decide) rfl ?_
  exact wp_md (wpt T (And.intro rfl (And.intro rfl (And.intro rfl (And.intro rfl (And.intro rfl (And.intro rfl (And.intro rfl (And.intro rfl True.intro)))))))))
set_option maxHeartbeats 4000000 in
theorem w_GM_call_2_398 {l : Launch} {G : gG} {d : Nat} {X : gX} {M : gM} {k : gM → Prop} {o : Nat} (hX : gmX X o) {Q : gQ} (hO : gOld G Q) {x4 : Int} (hx4 : g32 x4) {x5 : Int} (hx5 : g32 x5) {x6 : Int} (hx6 : g32 x6) {x9 : Int} (hx9 : g32 x9) {x10 : Int} (hx10 : g32 x10) {x11 : Int} (hx11 : g32 x11) {x12 : Int} (hx12 : g32 x12) (T : (x6 ≤ x12 → (wp l G y_GM_call_2 (gRm (d + 5)) true (kkV X k) true 509 [.val (gR G o), .unset, .unset, .unset, .unset, .val (gI x5), .val (gI x6), .unset, .unset, .val (gI x9), .val (gI x10), .unset, .unset, .unset, .unset] [] X M 0 0)) ∧ (¬ x6 ≤ x12 → ((¬ x11 = 0 → (wp l G y_GM_call_2 (gRm (d + 5)) true (kkV X k) true 509 [.val (gR G o), .unset, .unset, .unset, .unset, .val (gI x5), .val (gI x6), .unset, .unset, .val (gI x9), .val (gI x10), .unset, .unset, .unset, .unset] [] X M 0 0)) ∧ (x11 = 0 → (((0 : Int) ≤ (w32 (x4 + x12)) ∧ (w32 (x4 + x12)) < (gSl 7 : Int)) ∧ ((¬ gSc 7 (Int.toNat (w32 (x4 + x12))) = 110 → ((¬ gSc 7 (Int.toNat (w32 (x4 + x12))) = 98 → (wp l G y_GM_call_2 (gRm (d + 5)) true (kkV X k) true 461 [.val (gR G o), .unset, .unset, .unset, .val (gI x4), .val (gI x5), .val (gI x6), .unset, .unset, .val (gI x9), .val (gI x10), .val (gI x11), .val (gI x12), .val (gI (gSc 7 (Int.toNat (w32 (x4 + x12))))), .unset] [] X M 0 0)) ∧ (gSc 7 (Int.toNat (w32 (x4 + x12))) = 98 → (cZ l G y_GM_asTruth (gRm (d + 4)) true [gR G o, gI (x9 + x12)] X M (fun v89 M88 => ((v89 = 0 → ((¬ gSc 7 (Int.toNat (w32 (x4 + x12))) = 116 → (((0 : Int) = 0 → (cV l G y_GM_become (gRm (d + 4)) true [gR G o, gI x6, gI 4, gL 4] X M88 (fun M91 => (k M91)))) ∧ (¬ (0 : Int) = 0 → (wp l G y_GM_call_2 (gRm (d + 5)) true (kkV X k) true 398 [.val (gR G o), .unset, .unset, .unset, .val (gI x4), .val (gI x5), .val (gI x6), .unset, .unset, .val (gI x9), .val (gI x10), .val (gI x11), .val (gI (w32 (x12 + 1))), .unset, .unset] [] X M88 0 0)))) ∧ (gSc 7 (Int.toNat (w32 (x4 + x12))) = 116 → (cV l G y_GM_asText (gRm (d + 4)) true [gR G o, gI (x9 + x12)] X M88 (fun M93 => (((0 : Int) = 0 → (cV l G y_GM_become (gRm (d + 4)) true [gR G o, gI x6, gI 4, gL 4] X M93 (fun M94 => (k M94)))) ∧ (¬ (0 : Int) = 0 → (wp l G y_GM_call_2 (gRm (d + 5)) true (kkV X k) true 398 [.val (gR G o), .unset, .unset, .unset, .val (gI x4), .val (gI x5), .val (gI x6), .unset, .unset, .val (gI x9), .val (gI x10), .val (gI x11), .val (gI (w32 (x12 + 1))), .unset, .unset] [] X M93 0 0)))))))) ∧ (¬ v89 = 0 → (wp l G y_GM_call_2 (gRm (d + 5)) true (kkV X k) true 461 [.val (gR G o), .unset, .unset, .unset, .val (gI x4), .val (gI x5), .val (gI x6), .unset, .unset, .val (gI x9), .val (gI x10), .val (gI x11), .val (gI x12), .val (gI (gSc 7 (Int.toNat (w32 (x4 + x12))))), .unset] [] X M88 0 0)))))))) ∧ (gSc 7 (Int.toNat (w32 (x4 + x12))) = 110 → (cZ l G y_GM_asNumber (gRm (d + 4)) true [gR G o, gI (x9 + x12)] X M (fun v100 M99 => ((¬ gSc 7 (Int.toNat (w32 (x4 + x12))) = 116 → ((v100 = 0 → (cV l G y_GM_become (gRm (d + 4)) true [gR G o, gI x6, gI 4, gL 4] X M99 (fun M102 => (k M102)))) ∧ (¬ v100 = 0 → (wp l G y_GM_call_2 (gRm (d + 5)) true (kkV X k) true 398 [.val (gR G o), .unset, .unset, .unset, .val (gI x4), .val (gI x5), .val (gI x6), .unset, .unset, .val (gI x9), .val (gI x10), .val (gI x11), .val (gI (w32 (x12 + 1))), .unset, .unset] [] X M99 0 0)))) ∧ (gSc 7 (Int.toNat (w32 (x4 + x12))) = 116 → (cV l G y_GM_asText (gRm (d + 4)) true [gR G o, gI (x9 + x12)] X M99 (fun M104 => ((v100 = 0 → (cV l G y_GM_become (gRm (d + 4)) true [gR G o, gI x6, gI 4, gL 4] X M104 (fun M105 => (k M105)))) ∧ (¬ v100 = 0 → (wp l G y_GM_call_2 (gRm (d + 5)) true (kkV X k) true 398 [.val (gR G o), .unset, .unset, .unset, .val (gI x4), .val (gI x5), .val (gI x6), .unset, .unset, .val (gI x9), .val (gI x10), .val (gI x11), .val (gI (w32 (x12 + 1))), .unset, .unset] [] X M104 0 0)))))))))))))))) : wp l G y_GM_call_2 (gRm (d + 5)) true (kkV X k) true 398 [.val (gR G o), .unset, .unset, .unset, .val (gI x4), .val (gI x5), .val (gI x6), .unset, .unset, .val (gI x9), .val (gI x10), .val (gI x11), .val (gI x12), .unset, .unset] [] X M 0 0 := by
  refine wp_iload d_GM_call_2_398 rfl ?_
  refine wp_iload d_GM_call_2_400 rfl ?_
  refine xi_ge (tgt := 509) d_GM_call_2_402 (by decide) (w32_id hx12) (w32_id hx6) (fun h110 => ?_) (fun h110 => ?_)
  · have T := T.1 h110
    exact wp_md (wpt T (And.intro rfl (And.intro rfl (And.intro rfl (And.intro rfl (And.intro rfl True.intro))))))
  · have T := T.2 h110
    refine wp_iload d_GM_call_2_405 rfl ?_
    refine xz_ne (tgt := 509) d_GM_call_2_407 (by decide) (w32_id hx11) (fun h109 => ?_) (fun h109 => ?_)
    · have T := T.1 h109
      exact wp_md (wpt T (And.intro rfl (And.intro rfl (And.intro rfl (And.intro rfl (And.intro rfl True.intro))))))
    · have T := T.2 h109
      refine wp_ldcSW d_GM_call_2_410 (fun U hU => ((hO U hU).2.1 7 (by decide)).2.2.2.2 ("GridLedgerModel", 393, "SUM:r PRODUCT:r MIN:r MAX:r AVERAGE:r COUNT:r COUNTA:r AND:bb OR:bb NOT:b IF:bxx IFERROR:xx CHOOSE:nxxx ISERROR:x ISNUMBER:x ISTEXT:x ISBLANK:x ABS:n SIGN:n MOD:nn LEN:t UPPER:t LOWER:t LEFT:tn RIGHT:tn MID:tnn FIND:tt REPLACE:ttt ROW:r COLUMN:r ROWS:r COLUMNS:r NA: INDEX:rnn MATCH:xr LOOKUP:xrn SUMIF:rx COUNTIF:rx ") rfl) ?_
      refine wp_iload d_GM_call_2_413 rfl ?_
      refine wp_iload d_GM_call_2_415 rfl ?_
      refine wp_iadd d_GM_call_2_417 ?_
      have q87 := T.1
      have T := T.2
      refine xo_chr hO (by decide) d_GM_call_2_418 ml_GM_207 (by decide) rfl q87 ?_
      refine wp_istore (L' := [.val (gR G o), .unset, .unset, .unset, .val (gI x4), .val (gI x5), .val (gI x6), .unset, .unset, .val (gI x9), .val (gI x10), .val (gI x11), .val (gI x12), .val (gI (gSc 7 (Int.toNat (w32 (x4 + x12))))), .unset]) d_GM_call_2_421 (by decide) rfl ?_
      refine wp_iload d_GM_call_2_423 rfl ?_
      refine wp_bipush d_GM_call_2_425 ⟨by decide, by decide⟩ ?_
      refine xi_ne (tgt := 442) d_GM_call_2_427 (by decide) (w32_id (g32_h (gSc_ok (by decide) _))) (w32_id (g32_c (x := 110) rfl)) (fun h108 => ?_) (fun h108 => ?_)
      · have T := T.1 h108
        refine wp_iload d_GM_call_2_442 rfl ?_
        refine wp_bipush d_GM_call_2_444 ⟨by decide, by decide⟩ ?_
        refine xi_ne (tgt := 461) d_GM_call_2_446 (by decide) (w32_id (g32_h (gSc_ok (by decide) _))) (w32_id (g32_c (x := 98) rfl)) (fun h98 => ?_) (fun h98 => ?_)
        · have T := T.1 h98
          exact wp_md (wpt T (And.intro rfl (And.intro rfl (And.intro rfl (And.intro rfl (And.intro rfl (And.intro rfl (And.intro rfl (And.intro rfl (And.intro rfl True.intro))))))))))
        · have T := T.2 h98
          refine wp_aload_n d_GM_call_2_449 rfl rfl (g_nz hX.1) ?_
          refine wp_iload d_GM_call_2_450 rfl ?_
          refine wp_iload d_GM_call_2_452 rfl ?_
          refine wp_iadd d_GM_call_2_454 ?_
          refine xcV_Z (md' := true) (As := [gI (x9 + x12)]) (st := []) d_GM_call_2_455 ca_GM_asTruth ml_GM_403 im_GM_asTruth se_GM_asTruth gc_GM hX.1 (gm_o2 hX) hX.2.2.1 rfl (by decide) (by decide) rfl (fun _ => rfl) (fun _ => rfl) T (fun v89 M88 h90 T => ?_)
          refine xz_eq (tgt := 465) d_GM_call_2_458 (by decide) (w32_id (g32_z h90)) (fun h97 => ?_) (fun h97 => ?_)
          · have T := T.1 h97
            refine wp_iconst d_GM_call_2_465 ?_
            refine wp_istore (L' := [.val (gR G o), .unset, .unset, .unset, .val (gI x4), .val (gI x5), .val (gI x6), .unset, .unset, .val (gI x9), .val (gI x10), .val (gI x11), .val (gI x12), .val (gI (gSc 7 (Int.toNat (w32 (x4 + x12))))), .val (gI 0)]) d_GM_call_2_466 (by decide) rfl ?_
            refine wp_iload d_GM_call_2_468 rfl ?_
            refine wp_bipush d_GM_call_2_470 ⟨by decide, by decide⟩ ?_
            refine xi_ne (tgt := 484) d_GM_call_2_472 (by decide) (w32_id (g32_h (gSc_ok (by decide) _))) (w32_id (g32_c (x := 116) rfl)) (fun h96 => ?_) (fun h96 => ?_)
            · have T := T.1 h96
              refine wp_iload d_GM_call_2_484 rfl ?_
              refine xz_eq (tgt := 492) d_GM_call_2_486 (by decide) (w32_id (g32_c (x := 0) rfl)) (fun h92 => ?_) (fun h92 => ?_)
              · have T := T.1 h92
                refine wp_aload_n d_GM_call_2_492 rfl rfl (g_nz hX.1) ?_
                refine wp_iload d_GM_call_2_493 rfl ?_
                refine wp_iconst d_GM_call_2_495 ?_
                refine wp_ldc2 (n := 4) d_GM_call_2_496 c_GM_354 rfl ?_
                refine xcV_V (md' := true) (As := [gI x6, gI 4, gL 4]) (st := []) d_GM_call_2_499 ca_GM_become ml_GM_347 im_GM_become se_GM_become gc_GM hX.1 (gm_o2 hX) hX.2.2.1 rfl (by decide) (by decide) rfl (fun _ => rfl) (fun _ => rfl) T (fun M91 T => ?_)
                exact wp_return d_GM_call_2_502 rfl (fun _ => rfl) (Nat.zero_le _) (Nat.zero_le _) (kV_mk T)
              · have T := T.2 h92
                refine wp_goto (tgt := 503) d_GM_call_2_489 (by decide) ?_
                refine wp_iinc (L' := [.val (gR G o), .unset, .unset, .unset, .val (gI x4), .val (gI x5), .val (gI x6), .unset, .unset, .val (gI x9), .val (gI x10), .val (gI x11), .val (gI (x12 + 1)), .val (gI (gSc 7 (Int.toNat (w32 (x4 + x12))))), .val (gI 0)]) d_GM_call_2_503 rfl (by decide) rfl ?_
                refine wp_goto (tgt := 398) d_GM_call_2_506 (by decide) ?_
                exact wp_md (wpt T (And.intro rfl (And.intro rfl (And.intro rfl (And.intro rfl (And.intro rfl (And.intro rfl (And.intro rfl (And.intro (gI_w _) True.intro)))))))))
            · have T := T.2 h96
              refine wp_aload_n d_GM_call_2_475 rfl rfl (g_nz hX.1) ?_
              refine wp_iload d_GM_call_2_476 rfl ?_
              refine wp_iload d_GM_call_2_478 rfl ?_
              refine wp_iadd d_GM_call_2_480 ?_
              refine xcV_V (md' := true) (As := [gI (x9 + x12)]) (st := []) d_GM_call_2_481 ca_GM_asText ml_GM_338 im_GM_asText se_GM_asText gc_GM hX.1 (gm_o2 hX) hX.2.2.1 rfl (by decide) (by decide) rfl (fun _ => rfl) (fun _ => rfl) T (fun M93 T => ?_)
              refine wp_iload d_GM_call_2_484 rfl ?_
              refine xz_eq (tgt := 492) d_GM_call_2_486 (by decide) (w32_id (g32_c (x := 0) rfl)) (fun h95 => ?_) (fun h95 => ?_)
              · have T := T.1 h95
                refine wp_aload_n d_GM_call_2_492 rfl rfl (g_nz hX.1) ?_
                refine wp_iload d_GM_call_2_493 rfl ?_
                refine wp_iconst d_GM_call_2_495 ?_
                refine wp_ldc2 (n := 4) d_GM_call_2_496 c_GM_354 rfl ?_
                refine xcV_V (md' := true) (As := [gI x6, gI 4, gL 4]) (st := []) d_GM_call_2_499 ca_GM_become ml_GM_347 im_GM_become se_GM_become gc_GM hX.1 (gm_o2 hX) hX.2.2.1 rfl (by decide) (by decide) rfl (fun _ => rfl) (fun _ => rfl) T (fun M94 T => ?_)
                exact wp_return d_GM_call_2_502 rfl (fun _ => rfl) (Nat.zero_le _) (Nat.zero_le _) (kV_mk T)
              · have T := T.2 h95
                refine wp_goto (tgt := 503) d_GM_call_2_489 (by decide) ?_
                refine wp_iinc (L' := [.val (gR G o), .unset, .unset, .unset, .val (gI x4), .val (gI x5), .val (gI x6), .unset, .unset, .val (gI x9), .val (gI x10), .val (gI x11), .val (gI (x12 + 1)), .val (gI (gSc 7 (Int.toNat (w32 (x4 + x12))))), .val (gI 0)]) d_GM_call_2_503 rfl (by decide) rfl ?_
                refine wp_goto (tgt := 398) d_GM_call_2_506 (by decide) ?_
                exact wp_md (wpt T (And.intro rfl (And.intro rfl (And.intro rfl (And.intro rfl (And.intro rfl (And.intro rfl (And.intro rfl (And.intro (gI_w _) True.intro)))))))))
          · have T := T.2 h97
            exact wp_md (wpt T (And.intro rfl (And.intro rfl (And.intro rfl (And.intro rfl (And.intro rfl (And.intro rfl (And.intro rfl (And.intro rfl (And.intro rfl True.intro))))))))))
      · have T := T.2 h108
        refine wp_aload_n d_GM_call_2_430 rfl rfl (g_nz hX.1) ?_
        refine wp_iload d_GM_call_2_431 rfl ?_
        refine wp_iload d_GM_call_2_433 rfl ?_
        refine wp_iadd d_GM_call_2_435 ?_
        refine xcV_Z (md' := true) (As := [gI (x9 + x12)]) (st := []) d_GM_call_2_436 ca_GM_asNumber ml_GM_351 im_GM_asNumber se_GM_asNumber gc_GM hX.1 (gm_o2 hX) hX.2.2.1 rfl (by decide) (by decide) rfl (fun _ => rfl) (fun _ => rfl) T (fun v100 M99 h101 T => ?_)
        refine wp_goto (tgt := 466) d_GM_call_2_439 (by decide) ?_
        refine wp_istore (L' := [.val (gR G o), .unset, .unset, .unset, .val (gI x4), .val (gI x5), .val (gI x6), .unset, .unset, .val (gI x9), .val (gI x10), .val (gI x11), .val (gI x12), .val (gI (gSc 7 (Int.toNat (w32 (x4 + x12))))), .val (gI v100)]) d_GM_call_2_466 (by decide) rfl ?_
        refine wp_iload d_GM_call_2_468 rfl ?_
        refine wp_bipush d_GM_call_2_470 ⟨by decide, by decide⟩ ?_
        refine xi_ne (tgt := 484) d_GM_call_2_472 (by decide) (w32_id (g32_h (gSc_ok (by decide) _))) (w32_id (g32_c (x := 116) rfl)) (fun h107 => ?_) (fun h107 => ?_)
        · have T := T.1 h107
          refine wp_iload d_GM_call_2_484 rfl ?_
          refine xz_eq (tgt := 492) d_GM_call_2_486 (by decide) (w32_id (g32_z h101)) (fun h103 => ?_) (fun h103 => ?_)
          · have T := T.1 h103
            refine wp_aload_n d_GM_call_2_492 rfl rfl (g_nz hX.1) ?_
            refine wp_iload d_GM_call_2_493 rfl ?_
            refine wp_iconst d_GM_call_2_495 ?_
            refine wp_ldc2 (n := 4) d_GM_call_2_496 c_GM_354 rfl ?_
            refine xcV_V (md' := true) (As := [gI x6, gI 4, gL 4]) (st := []) d_GM_call_2_499 ca_GM_become ml_GM_347 im_GM_become se_GM_become gc_GM hX.1 (gm_o2 hX) hX.2.2.1 rfl (by decide) (by decide) rfl (fun _ => rfl) (fun _ => rfl) T (fun M102 T => ?_)
            exact wp_return d_GM_call_2_502 rfl (fun _ => rfl) (Nat.zero_le _) (Nat.zero_le _) (kV_mk T)
          · have T := T.2 h103
            refine wp_goto (tgt := 503) d_GM_call_2_489 (by decide) ?_
            refine wp_iinc (L' := [.val (gR G o), .unset, .unset, .unset, .val (gI x4), .val (gI x5), .val (gI x6), .unset, .unset, .val (gI x9), .val (gI x10), .val (gI x11), .val (gI (x12 + 1)), .val (gI (gSc 7 (Int.toNat (w32 (x4 + x12))))), .val (gI v100)]) d_GM_call_2_503 rfl (by decide) rfl ?_
            refine wp_goto (tgt := 398) d_GM_call_2_506 (by decide) ?_
            exact wp_md (wpt T (And.intro rfl (And.intro rfl (And.intro rfl (And.intro rfl (And.intro rfl (And.intro rfl (And.intro rfl (And.intro (gI_w _) True.intro)))))))))
        · have T := T.2 h107
          refine wp_aload_n d_GM_call_2_475 rfl rfl (g_nz hX.1) ?_
          refine wp_iload d_GM_call_2_476 rfl ?_
          refine wp_iload d_GM_call_2_478 rfl ?_
          refine wp_iadd d_GM_call_2_480 ?_
          refine xcV_V (md' := true) (As := [gI (x9 + x12)]) (st := []) d_GM_call_2_481 ca_GM_asText ml_GM_338 im_GM_asText se_GM_asText gc_GM hX.1 (gm_o2 hX) hX.2.2.1 rfl (by decide) (by decide) rfl (fun _ => rfl) (fun _ => rfl) T (fun M104 T => ?_)
          refine wp_iload d_GM_call_2_484 rfl ?_
          refine xz_eq (tgt := 492) d_GM_call_2_486 (by decide) (w32_id (g32_z h101)) (fun h106 => ?_) (fun h106 => ?_)
          · have T := T.1 h106
            refine wp_aload_n d_GM_call_2_492 rfl rfl (g_nz hX.1) ?_
            refine wp_iload d_GM_call_2_493 rfl ?_
            refine wp_iconst d_GM_call_2_495 ?_
            refine wp_ldc2 (n := 4) d_GM_call_2_496 c_GM_354 rfl ?_
            refine xcV_V (md' := true) (As := [gI x6, gI 4, gL 4]) (st := []) d_GM_call_2_499 ca_GM_become ml_GM_347 im_GM_become se_GM_become gc_GM hX.1 (gm_o2 hX) hX.2.2.1 rfl (by decide) (by decide) rfl (fun _ => rfl) (fun _ => rfl) T (fun M105 T => ?_)
            exact wp_return d_GM_call_2_502 rfl (fun _ => rfl) (Nat.zero_le _) (Nat.zero_le _) (kV_mk T)
          · have T := T.2 h106
            refine wp_goto (tgt := 503) d_GM_call_2_489 (by decide) ?_
            refine wp_iinc (L' := [.val (gR G o), .unset, .unset, .unset, .val (gI x4), .val (gI x5), .val (gI x6), .unset, .unset, .val (gI x9), .val (gI x10), .val (gI x11), .val (gI (x12 + 1)), .val (gI (gSc 7 (Int.toNat (w32 (x4 + x12))))), .val (gI v100)]) d_GM_call_2_503 rfl (by decide) rfl ?_
            refine wp_goto (tgt := 398) d_GM_call_2_506 (by decide) ?_
            exact wp_md (wpt T (And.intro rfl (And.intro rfl (And.intro rfl (And.intro rfl (And.intro rfl (And.intro rfl (And.intro rfl (And.intro (gI_w _) True.intro)))))))))
set_option maxHeartbeats 4000000 in
theorem w_GM_call_2_509 {l : Launch} {G : gG} {d : Nat} {X : gX} {M : gM} {k : gM → Prop} {o : Nat} (hX : gmX X o) {Q : gQ} (hO : gOld G Q) {x5 : Int} (hx5 : g32 x5) {x6 : Int} (hx6 : g32 x6) {x9 : Int} (hx9 : g32 x9) {x10 : Int} (hx10 : g32 x10) (T : (x10 < 0 → (cV l G y_GM_function (gRm (d + 4)) true [gR G o, gI x5, gI x9, gI x6] X M (fun M111 => (g32 (M111 o 50) → (((0 : Int) ≤ (M111 o 50) - 1 ∧ (M111 o 50) - 1 < 1200) ∧ (g32 (M111 (o + 34) (Int.toNat ((M111 o 50) - 1))) → (((0 : Int) ≤ x9 ∧ x9 < 1200) ∧ (((0 : Int) ≤ (M111 o 50) - 1 ∧ (M111 o 50) - 1 < 1200) ∧ (g64 ((gUp M111 (o + 34) (Int.toNat x9) (M111 (o + 34) (Int.toNat ((M111 o 50) - 1)))) (o + 36) (Int.toNat ((M111 o 50) - 1))) → (((0 : Int) ≤ x9 ∧ x9 < 1200) ∧ (((0 : Int) ≤ (M111 o 50) - 1 ∧ (M111 o 50) - 1 < 1200) ∧ (g32 ((gUp (gUp M111 (o + 34) (Int.toNat x9) (M111 (o + 34) (Int.toNat ((M111 o 50) - 1)))) (o + 36) (Int.toNat x9) ((gUp M111 (o + 34) (Int.toNat x9) (M111 (o + 34) (Int.toNat ((M111 o 50) - 1)))) (o + 36) (Int.toNat ((M111 o 50) - 1)))) (o + 35) (Int.toNat ((M111 o 50) - 1))) → (((0 : Int) ≤ x9 ∧ x9 < 1200) ∧ (wp l G y_GM_call_2 (gRm (d + 5)) true (kkV X k) true 583 [.val (gR G o), .unset, .unset, .unset, .unset, .unset, .unset, .unset, .unset, .val (gI x9), .unset, .unset, .val (gI (w32 ((M111 o 50) - 1))), .val (gI 0), .unset] [] X (gUp (gUp (gUp M111 (o + 34) (Int.toNat x9) (M111 (o + 34) (Int.toNat ((M111 o 50) - 1)))) (o + 36) (Int.toNat x9) ((gUp M111 (o + 34) (Int.toNat x9) (M111 (o + 34) (Int.toNat ((M111 o 50) - 1)))) (o + 36) (Int.toNat ((M111 o 50) - 1)))) (o + 35) (Int.toNat x9) ((gUp (gUp M111 (o + 34) (Int.toNat x9) (M111 (o + 34) (Int.toNat ((M111 o 50) - 1)))) (o + 36) (Int.toNat x9) ((gUp M111 (o + 34) (Int.toNat x9) (M111 (o + 34) (Int.toNat ((M111 o 50) - 1)))) (o + 36) (Int.toNat ((M111 o 50) - 1)))) (o + 35) (Int.toNat ((M111 o 50) - 1)))) 0 0)))))))))))))) ∧ (¬ x10 < 0 → (cV l G y_GM_box (gRm (d + 4)) true [gR G o, gI x10] X M (fun M116 => (cV l G y_GM_function (gRm (d + 4)) true [gR G o, gI x5, gI x9, gI x6] X M116 (fun M117 => (g32 (M117 o 50) → (((0 : Int) ≤ (M117 o 50) - 1 ∧ (M117 o 50) - 1 < 1200) ∧ (g32 (M117 (o + 34) (Int.toNat ((M117 o 50) - 1))) → (((0 : Int) ≤ x9 ∧ x9 < 1200) ∧ (((0 : Int) ≤ (M117 o 50) - 1 ∧ (M117 o 50) - 1 < 1200) ∧ (g64 ((gUp M117 (o + 34) (Int.toNat x9) (M117 (o + 34) (Int.toNat ((M117 o 50) - 1)))) (o + 36) (Int.toNat ((M117 o 50) - 1))) → (((0 : Int) ≤ x9 ∧ x9 < 1200) ∧ (((0 : Int) ≤ (M117 o 50) - 1 ∧ (M117 o 50) - 1 < 1200) ∧ (g32 ((gUp (gUp M117 (o + 34) (Int.toNat x9) (M117 (o + 34) (Int.toNat ((M117 o 50) - 1)))) (o + 36) (Int.toNat x9) ((gUp M117 (o + 34) (Int.toNat x9) (M117 (o + 34) (Int.toNat ((M117 o 50) - 1)))) (o + 36) (Int.toNat ((M117 o 50) - 1)))) (o + 35) (Int.toNat ((M117 o 50) - 1))) → (((0 : Int) ≤ x9 ∧ x9 < 1200) ∧ (wp l G y_GM_call_2 (gRm (d + 5)) true (kkV X k) true 583 [.val (gR G o), .unset, .unset, .unset, .unset, .unset, .unset, .unset, .unset, .val (gI x9), .unset, .unset, .val (gI (w32 ((M117 o 50) - 1))), .val (gI 0), .unset] [] X (gUp (gUp (gUp M117 (o + 34) (Int.toNat x9) (M117 (o + 34) (Int.toNat ((M117 o 50) - 1)))) (o + 36) (Int.toNat x9) ((gUp M117 (o + 34) (Int.toNat x9) (M117 (o + 34) (Int.toNat ((M117 o 50) - 1)))) (o + 36) (Int.toNat ((M117 o 50) - 1)))) (o + 35) (Int.toNat x9) ((gUp (gUp M117 (o + 34) (Int.toNat x9) (M117 (o + 34) (Int.toNat ((M117 o 50) - 1)))) (o + 36) (Int.toNat x9) ((gUp M117 (o + 34) (Int.toNat x9) (M117 (o + 34) (Int.toNat ((M117 o 50) - 1)))) (o + 36) (Int.toNat ((M117 o 50) - 1)))) (o + 35) (Int.toNat ((M117 o 50) - 1)))) 0 0))))))))))))))))) : wp l G y_GM_call_2 (gRm (d + 5)) true (kkV X k) true 509 [.val (gR G o), .unset, .unset, .unset, .unset, .val (gI x5), .val (gI x6), .unset, .unset, .val (gI x9), .val (gI x10), .unset, .unset, .unset, .unset] [] X M 0 0 := by
  refine wp_iload d_GM_call_2_509 rfl ?_
  refine xz_lt (tgt := 520) d_GM_call_2_511 (by decide) (w32_id hx10) (fun h122 => ?_) (fun h122 => ?_)
  · have T := T.1 h122
    refine wp_aload_n d_GM_call_2_520 rfl rfl (g_nz hX.1) ?_
    refine wp_iload d_GM_call_2_521 rfl ?_
    refine wp_iload d_GM_call_2_523 rfl ?_
    refine wp_iload d_GM_call_2_525 rfl ?_
    refine xcV_V (md' := true) (As := [gI x5, gI x9, gI x6]) (st := []) d_GM_call_2_527 ca_GM_function ml_GM_409 im_GM_function se_GM_function gc_GM hX.1 (gm_o2 hX) hX.2.2.1 rfl (by decide) (by decide) rfl (fun _ => rfl) (fun _ => rfl) T (fun M111 T => ?_)
    refine wp_aload_n d_GM_call_2_530 rfl rfl (g_nz hX.1) ?_
    refine xgetI d_GM_call_2_531 gc_GM f_GM_304.1 f_GM_304.2.1 f_GM_304.2.2.1 hX.1 (gm_o2 hX) hX.2.2.1 f_GM_304.2.2.2.2.1 (fun h112 => ?_)
    have T := T h112
    refine wp_iconst d_GM_call_2_534 ?_
    refine wp_isub d_GM_call_2_535 ?_
    refine wp_istore (L' := [.val (gR G o), .unset, .unset, .unset, .unset, .val (gI x5), .val (gI x6), .unset, .unset, .val (gI x9), .val (gI x10), .unset, .val (gI ((M111 o 50) - 1)), .unset, .unset]) d_GM_call_2_536 (by decide) rfl ?_
    refine wp_aload_n d_GM_call_2_538 rfl rfl (g_nz hX.1) ?_
    refine xgetR d_GM_call_2_539 gc_GM f_GM_116.1 f_GM_116.2.1 f_GM_116.2.2.1 hX.1 (gm_o2 hX) hX.2.2.1 f_GM_116.2.2.2.2.1 (gm_row hX 33 rfl).1 ?_
    refine wp_iload d_GM_call_2_542 rfl ?_
    refine wp_aload_n d_GM_call_2_544 rfl rfl (g_nz hX.1) ?_
    refine xgetR d_GM_call_2_545 gc_GM f_GM_116.1 f_GM_116.2.1 f_GM_116.2.2.1 hX.1 (gm_o2 hX) hX.2.2.1 f_GM_116.2.2.2.2.1 (gm_row hX 33 rfl).1 ?_
    refine wp_iload d_GM_call_2_548 rfl ?_
    refine wp_iaload d_GM_call_2_550 (gm_row hX 33 rfl).2.2.1 (gm_row hX 33 rfl).2.2.2 (gm_row hX 33 rfl).2.1 (g32_n T.1 (by decide)) T.1.1 T.1.2 (fun h113 => ?_)
    have T := T.2 h113
    refine xiast d_GM_call_2_551 (gm_row hX 33 rfl).2.2.1 (gm_row hX 33 rfl).2.2.2 (gm_row hX 33 rfl).2.1 (by decide) T.1 (w32_id h113) ?_
    have T := T.2
    refine wp_aload_n d_GM_call_2_552 rfl rfl (g_nz hX.1) ?_
    refine xgetR d_GM_call_2_553 gc_GM f_GM_122.1 f_GM_122.2.1 f_GM_122.2.2.1 hX.1 (gm_o2 hX) hX.2.2.1 f_GM_122.2.2.2.2.1 (gm_row hX 35 rfl).1 ?_
    refine wp_iload d_GM_call_2_556 rfl ?_
    refine wp_aload_n d_GM_call_2_558 rfl rfl (g_nz hX.1) ?_
    refine xgetR d_GM_call_2_559 gc_GM f_GM_122.1 f_GM_122.2.1 f_GM_122.2.2.1 hX.1 (gm_o2 hX) hX.2.2.1 f_GM_122.2.2.2.2.1 (gm_row hX 35 rfl).1 ?_
    refine wp_iload d_GM_call_2_562 rfl ?_
    refine wp_laload d_GM_call_2_564 (gm_row hX 35 rfl).2.2.1 (gm_row hX 35 rfl).2.2.2 (gm_row hX 35 rfl).2.1 (g32_n T.1 (by decide)) T.1.1 T.1.2 (fun h114 => ?_)
    have T := T.2 h114
    refine xlast d_GM_call_2_565 (gm_row hX 35 rfl).2.2.1 (gm_row hX 35 rfl).2.2.2 (gm_row hX 35 rfl).2.1 (by decide) T.1 (w64_id h114) ?_
    have T := T.2
    refine wp_aload_n d_GM_call_2_566 rfl rfl (g_nz hX.1) ?_
    refine xgetR d_GM_call_2_567 gc_GM f_GM_119.1 f_GM_119.2.1 f_GM_119.2.2.1 hX.1 (gm_o2 hX) hX.2.2.1 f_GM_119.2.2.2.2.1 (gm_row hX 34 rfl).1 ?_
    refine wp_iload d_GM_call_2_570 rfl ?_
    refine wp_aload_n d_GM_call_2_572 rfl rfl (g_nz hX.1) ?_
    refine xgetR d_GM_call_2_573 gc_GM f_GM_119.1 f_GM_119.2.1 f_GM_119.2.2.1 hX.1 (gm_o2 hX) hX.2.2.1 f_GM_119.2.2.2.2.1 (gm_row hX 34 rfl).1 ?_
    refine wp_iload d_GM_call_2_576 rfl ?_
    refine wp_iaload d_GM_call_2_578 (gm_row hX 34 rfl).2.2.1 (gm_row hX 34 rfl).2.2.2 (gm_row hX 34 rfl).2.1 (g32_n T.1 (by decide)) T.1.1 T.1.2 (fun h115 => ?_)
    have T := T.2 h115
    refine xiast d_GM_call_2_579 (gm_row hX 34 rfl).2.2.1 (gm_row hX 34 rfl).2.2.2 (gm_row hX 34 rfl).2.1 (by decide) T.1 (w32_id h115) ?_
    have T := T.2
    refine wp_iconst d_GM_call_2_580 ?_
    refine wp_istore (L' := [.val (gR G o), .unset, .unset, .unset, .unset, .val (gI x5), .val (gI x6), .unset, .unset, .val (gI x9), .val (gI x10), .unset, .val (gI ((M111 o 50) - 1)), .val (gI 0), .unset]) d_GM_call_2_581 (by decide) rfl ?_
    exact wp_md (wpt T (And.intro rfl (And.intro rfl (And.intro (gI_w _) (And.intro rfl True.intro)))))
  · have T := T.2 h122
    refine wp_aload_n d_GM_call_2_514 rfl rfl (g_nz hX.1) ?_
    refine wp_iload d_GM_call_2_515 rfl ?_
    refine xcV_V (md' := true) (As := [gI x10]) (st := []) d_GM_call_2_517 ca_GM_box ml_GM_406 im_GM_box se_GM_box gc_GM hX.1 (gm_o2 hX) hX.2.2.1 rfl (by decide) (by decide) rfl (fun _ => rfl) (fun _ => rfl) T (fun M116 T => ?_)
    refine wp_aload_n d_GM_call_2_520 rfl rfl (g_nz hX.1) ?_
    refine wp_iload d_GM_call_2_521 rfl ?_
    refine wp_iload d_GM_call_2_523 rfl ?_
    refine wp_iload d_GM_call_2_525 rfl ?_
    refine xcV_V (md' := true) (As := [gI x5, gI x9, gI x6]) (st := []) d_GM_call_2_527 ca_GM_function ml_GM_409 im_GM_function se_GM_function gc_GM hX.1 (gm_o2 hX) hX.2.2.1 rfl (by decide) (by decide) rfl (fun _ => rfl) (fun _ => rfl) T (fun M117 T => ?_)
    refine wp_aload_n d_GM_call_2_530 rfl rfl (g_nz hX.1) ?_
    refine xgetI d_GM_call_2_531 gc_GM f_GM_304.1 f_GM_304.2.1 f_GM_304.2.2.1 hX.1 (gm_o2 hX) hX.2.2.1 f_GM_304.2.2.2.2.1 (fun h118 => ?_)
    have T := T h118
    refine wp_iconst d_GM_call_2_534 ?_
    refine wp_isub d_GM_call_2_535 ?_
    refine wp_istore (L' := [.val (gR G o), .unset, .unset, .unset, .unset, .val (gI x5), .val (gI x6), .unset, .unset, .val (gI x9), .val (gI x10), .unset, .val (gI ((M117 o 50) - 1)), .unset, .unset]) d_GM_call_2_536 (by decide) rfl ?_
    refine wp_aload_n d_GM_call_2_538 rfl rfl (g_nz hX.1) ?_
    refine xgetR d_GM_call_2_539 gc_GM f_GM_116.1 f_GM_116.2.1 f_GM_116.2.2.1 hX.1 (gm_o2 hX) hX.2.2.1 f_GM_116.2.2.2.2.1 (gm_row hX 33 rfl).1 ?_
    refine wp_iload d_GM_call_2_542 rfl ?_
    refine wp_aload_n d_GM_call_2_544 rfl rfl (g_nz hX.1) ?_
    refine xgetR d_GM_call_2_545 gc_GM f_GM_116.1 f_GM_116.2.1 f_GM_116.2.2.1 hX.1 (gm_o2 hX) hX.2.2.1 f_GM_116.2.2.2.2.1 (gm_row hX 33 rfl).1 ?_
    refine wp_iload d_GM_call_2_548 rfl ?_
    refine wp_iaload d_GM_call_2_550 (gm_row hX 33 rfl).2.2.1 (gm_row hX 33 rfl).2.2.2 (gm_row hX 33 rfl).2.1 (g32_n T.1 (by decide)) T.1.1 T.1.2 (fun h119 => ?_)
    have T := T.2 h119
    refine xiast d_GM_call_2_551 (gm_row hX 33 rfl).2.2.1 (gm_row hX 33 rfl).2.2.2 (gm_row hX 33 rfl).2.1 (by decide) T.1 (w32_id h119) ?_
    have T := T.2
    refine wp_aload_n d_GM_call_2_552 rfl rfl (g_nz hX.1) ?_
    refine xgetR d_GM_call_2_553 gc_GM f_GM_122.1 f_GM_122.2.1 f_GM_122.2.2.1 hX.1 (gm_o2 hX) hX.2.2.1 f_GM_122.2.2.2.2.1 (gm_row hX 35 rfl).1 ?_
    refine wp_iload d_GM_call_2_556 rfl ?_
    refine wp_aload_n d_GM_call_2_558 rfl rfl (g_nz hX.1) ?_
    refine xgetR d_GM_call_2_559 gc_GM f_GM_122.1 f_GM_122.2.1 f_GM_122.2.2.1 hX.1 (gm_o2 hX) hX.2.2.1 f_GM_122.2.2.2.2.1 (gm_row hX 35 rfl).1 ?_
    refine wp_iload d_GM_call_2_562 rfl ?_
    refine wp_laload d_GM_call_2_564 (gm_row hX 35 rfl).2.2.1 (gm_row hX 35 rfl).2.2.2 (gm_row hX 35 rfl).2.1 (g32_n T.1 (by decide)) T.1.1 T.1.2 (fun h120 => ?_)
    have T := T.2 h120
    refine xlast d_GM_call_2_565 (gm_row hX 35 rfl).2.2.1 (gm_row hX 35 rfl).2.2.2 (gm_row hX 35 rfl).2.1 (by decide) T.1 (w64_id h120) ?_
    have T := T.2
    refine wp_aload_n d_GM_call_2_566 rfl rfl (g_nz hX.1) ?_
    refine xgetR d_GM_call_2_567 gc_GM f_GM_119.1 f_GM_119.2.1 f_GM_119.2.2.1 hX.1 (gm_o2 hX) hX.2.2.1 f_GM_119.2.2.2.2.1 (gm_row hX 34 rfl).1 ?_
    refine wp_iload d_GM_call_2_570 rfl ?_
    refine wp_aload_n d_GM_call_2_572 rfl rfl (g_nz hX.1) ?_
    refine xgetR d_GM_call_2_573 gc_GM f_GM_119.1 f_GM_119.2.1 f_GM_119.2.2.1 hX.1 (gm_o2 hX) hX.2.2.1 f_GM_119.2.2.2.2.1 (gm_row hX 34 rfl).1 ?_
    refine wp_iload d_GM_call_2_576 rfl ?_
    refine wp_iaload d_GM_call_2_578 (gm_row hX 34 rfl).2.2.1 (gm_row hX 34 rfl).2.2.2 (gm_row hX 34 rfl).2.1 (g32_n T.1 (by decide)) T.1.1 T.1.2 (fun h121 => ?_)
    have T := T.2 h121
    refine xiast d_GM_call_2_579 (gm_row hX 34 rfl).2.2.1 (gm_row hX 34 rfl).2.2.2 (gm_row hX 34 rfl).2.1 (by decide) T.1 (w32_id h121) ?_
    have T := T.2
    refine wp_iconst d_GM_call_2_580 ?_
    refine wp_istore (L' := [.val (gR G o), .unset, .unset, .unset, .unset, .val (gI x5), .val (gI x6), .unset, .unset, .val (gI x9), .val (gI x10), .unset, .val (gI ((M117 o 50) - 1)), .val (gI 0), .unset]) d_GM_call_2_581 (by decide) rfl ?_
    exact wp_md (wpt T (And.intro rfl (And.intro rfl (And.intro (gI_w _) (And.intro rfl True.intro)))))
set_option maxHeartbeats 4000000 in
theorem w_GM_call_2_461 {l : Launch} {G : gG} {d : Nat} {X : gX} {M : gM} {k : gM → Prop} {o : Nat} (hX : gmX X o) {Q : gQ} (hO : gOld G Q) {x4 : Int} (hx4 : g32 x4) {x5 : Int} (hx5 : g32 x5) {x6 : Int} (hx6 : g32 x6) {x9 : Int} (hx9 : g32 x9) {x10 : Int} (hx10 : g32 x10) {x11 : Int} (hx11 : g32 x11) {x12 : Int} (hx12 : g32 x12) {x13 : Int} (hx13 : g32 x13) (T : (¬ x13 = 116 → (((1 : Int) = 0 → (cV l G y_GM_become (gRm (d + 4)) true [gR G o, gI x6, gI 4, gL 4] X M (fun M123 => (k M123)))) ∧ (¬ (1 : Int) = 0 → (wp l G y_GM_call_2 (gRm (d + 5)) true (kkV X k) true 398 [.val (gR G o), .unset, .unset, .unset, .val (gI x4), .val (gI x5), .val (gI x6), .unset, .unset, .val (gI x9), .val (gI x10), .val (gI x11), .val (gI (w32 (x12 + 1))), .unset, .unset] [] X M 0 0)))) ∧ (x13 = 116 → (cV l G y_GM_asText (gRm (d + 4)) true [gR G o, gI (x9 + x12)] X M (fun M125 => (((1 : Int) = 0 → (cV l G y_GM_become (gRm (d + 4)) true [gR G o, gI x6, gI 4, gL 4] X M125 (fun M126 => (k M126)))) ∧ (¬ (1 : Int) = 0 → (wp l G y_GM_call_2 (gRm (d + 5)) true (kkV X k) true 398 [.val (gR G o), .unset, .unset, .unset, .val (gI x4), .val (gI x5), .val (gI x6), .unset, .unset, .val (gI x9), .val (gI x10), .val (gI x11), .val (gI (w32 (x12 + 1))), .unset, .unset] [] X M125 0 0))))))) : wp l G y_GM_call_2 (gRm (d + 5)) true (kkV X k) true 461 [.val (gR G o), .unset, .unset, .unset, .val (gI x4), .val (gI x5), .val (gI x6), .unset, .unset, .val (gI x9), .val (gI x10), .val (gI x11), .val (gI x12), .val (gI x13), .unset] [] X M 0 0 := by
  refine wp_iconst d_GM_call_2_461 ?_
  refine wp_goto (tgt := 466) d_GM_call_2_462 (by decide) ?_
  refine wp_istore (L' := [.val (gR G o), .unset, .unset, .unset, .val (gI x4), .val (gI x5), .val (gI x6), .unset, .unset, .val (gI x9), .val (gI x10), .val (gI x11), .val (gI x12), .val (gI x13), .val (gI 1)]) d_GM_call_2_466 (by decide) rfl ?_
  refine wp_iload d_GM_call_2_468 rfl ?_
  refine wp_bipush d_GM_call_2_470 ⟨by decide, by decide⟩ ?_
  refine xi_ne (tgt := 484) d_GM_call_2_472 (by decide) (w32_id hx13) (w32_id (g32_c (x := 116) rfl)) (fun h128 => ?_) (fun h128 => ?_)
  · have T := T.1 h128
    refine wp_iload d_GM_call_2_484 rfl ?_
    refine xz_eq (tgt := 492) d_GM_call_2_486 (by decide) (w32_id (g32_c (x := 1) rfl)) (fun h124 => ?_) (fun h124 => ?_)
    · have T := T.1 h124
      refine wp_aload_n d_GM_call_2_492 rfl rfl (g_nz hX.1) ?_
      refine wp_iload d_GM_call_2_493 rfl ?_
      refine wp_iconst d_GM_call_2_495 ?_
      refine wp_ldc2 (n := 4) d_GM_call_2_496 c_GM_354 rfl ?_
      refine xcV_V (md' := true) (As := [gI x6, gI 4, gL 4]) (st := []) d_GM_call_2_499 ca_GM_become ml_GM_347 im_GM_become se_GM_become gc_GM hX.1 (gm_o2 hX) hX.2.2.1 rfl (by decide) (by decide) rfl (fun _ => rfl) (fun _ => rfl) T (fun M123 T => ?_)
      exact wp_return d_GM_call_2_502 rfl (fun _ => rfl) (Nat.zero_le _) (Nat.zero_le _) (kV_mk T)
    · have T := T.2 h124
      refine wp_goto (tgt := 503) d_GM_call_2_489 (by decide) ?_
      refine wp_iinc (L' := [.val (gR G o), .unset, .unset, .unset, .val (gI x4), .val (gI x5), .val (gI x6), .unset, .unset, .val (gI x9), .val (gI x10), .val (gI x11), .val (gI (x12 + 1)), .val (gI x13), .val (gI 1)]) d_GM_call_2_503 rfl (by decide) rfl ?_
      refine wp_goto (tgt := 398) d_GM_call_2_506 (by decide) ?_
      exact wp_md (wpt T (And.intro rfl (And.intro rfl (And.intro rfl (And.intro rfl (And.intro rfl (And.intro rfl (And.intro rfl (And.intro (gI_w _) True.intro)))))))))
  · have T := T.2 h128
    refine wp_aload_n d_GM_call_2_475 rfl rfl (g_nz hX.1) ?_
    refine wp_iload d_GM_call_2_476 rfl ?_
    refine wp_iload d_GM_call_2_478 rfl ?_
    refine wp_iadd d_GM_call_2_480 ?_
    refine xcV_V (md' := true) (As := [gI (x9 + x12)]) (st := []) d_GM_call_2_481 ca_GM_asText ml_GM_338 im_GM_asText se_GM_asText gc_GM hX.1 (gm_o2 hX) hX.2.2.1 rfl (by decide) (by decide) rfl (fun _ => rfl) (fun _ => rfl) T (fun M125 T => ?_)
    refine wp_iload d_GM_call_2_484 rfl ?_
    refine xz_eq (tgt := 492) d_GM_call_2_486 (by decide) (w32_id (g32_c (x := 1) rfl)) (fun h127 => ?_) (fun h127 => ?_)
    · have T := T.1 h127
      refine wp_aload_n d_GM_call_2_492 rfl rfl (g_nz hX.1) ?_
      refine wp_iload d_GM_call_2_493 rfl ?_
      refine wp_iconst d_GM_call_2_495 ?_
      refine wp_ldc2 (n := 4) d_GM_call_2_496 c_GM_354 rfl ?_
      refine xcV_V (md' := true) (As := [gI x6, gI 4, gL 4]) (st := []) d_GM_call_2_499 ca_GM_become ml_GM_347 im_GM_become se_GM_become gc_GM hX.1 (gm_o2 hX) hX.2.2.1 rfl (by decide) (by decide) rfl (fun _ => rfl) (fun _ => rfl) T (fun M126 T => ?_)
      exact wp_return d_GM_call_2_502 rfl (fun _ => rfl) (Nat.zero_le _) (Nat.zero_le _) (kV_mk T)
    · have T := T.2 h127
      refine wp_goto (tgt := 503) d_GM_call_2_489 (by decide) ?_
      refine wp_iinc (L' := [.val (gR G o), .unset, .unset, .unset, .val (gI x4), .val (gI x5), .val (gI x6), .unset, .unset, .val (gI x9), .val (gI x10), .val (gI x11), .val (gI (x12 + 1)), .val (gI x13), .val (gI 1)]) d_GM_call_2_503 rfl (by decide) rfl ?_
      refine wp_goto (tgt := 398) d_GM_call_2_506 (by decide) ?_
      exact wp_md (wpt T (And.intro rfl (And.intro rfl (And.intro rfl (And.intro rfl (And.intro rfl (And.intro rfl (And.intro rfl (And.intro (gI_w _) True.intro)))))))))
set_option maxHeartbeats 4000000 in
theorem w_GM_call_2_583 {l : Launch} {G : gG} {d : Nat} {X : gX} {M : gM} {k : gM → Prop} {o : Nat} (hX : gmX X o) {Q : gQ} (hO : gOld G Q) {x9 : Int} (hx9 : g32 x9) {x12 : Int} (hx12 : g32 x12) {x13 : Int} (hx13 : g32 x13) (T : ((0 : Int) ≤ x12 ∧ x12 < 1200) ∧ (g32 (M (o + 35) (Int.toNat x12)) → ((M (o + 35) (Int.toNat x12) ≤ x13 → (k (gUp M o 50 (w32 (x9 + 1))))) ∧ (¬ M (o + 35) (Int.toNat x12) ≤ x13 → (((0 : Int) ≤ (64 * x12) + x13 ∧ (64 * x12) + x13 < 76800) ∧ ((-128 ≤ M (o + 37) (Int.toNat ((64 * x12) + x13)) ∧ M (o + 37) (Int.toNat ((64 * x12) + x13)) < 128) → (((0 : Int) ≤ (64 * x9) + x13 ∧ (64 * x9) + x13 < 76800) ∧ (wp l G y_GM_call_2 (gRm (d + 5)) true (kkV X k) true 583 [.val (gR G o), .unset, .unset, .unset, .unset, .unset, .unset, .unset, .unset, .val (gI x9), .unset, .unset, .val (gI x12), .val (gI (w32 (x13 + 1))), .unset] [] X (gUp M (o + 37) (Int.toNat ((64 * x9) + x13)) (gByte (M (o + 37) (Int.toNat ((64 * x12) + x13))))) 0 0)))))))) : wp l G y_GM_call_2 (gRm (d + 5)) true (kkV X k) true 583 [.val (gR G o), .unset, .unset, .unset, .unset, .unset, .unset, .unset, .unset, .val (gI x9), .unset, .unset, .val (gI x12), .val (gI x13), .unset] [] X M 0 0 := by
  refine wp_iload d_GM_call_2_583 rfl ?_
  refine wp_aload_n d_GM_call_2_585 rfl rfl (g_nz hX.1) ?_
  refine xgetR d_GM_call_2_586 gc_GM f_GM_119.1 f_GM_119.2.1 f_GM_119.2.2.1 hX.1 (gm_o2 hX) hX.2.2.1 f_GM_119.2.2.2.2.1 (gm_row hX 34 rfl).1 ?_
  refine wp_iload d_GM_call_2_589 rfl ?_
  refine wp_iaload d_GM_call_2_591 (gm_row hX 34 rfl).2.2.1 (gm_row hX 34 rfl).2.2.2 (gm_row hX 34 rfl).2.1 (g32_n T.1 (by decide)) T.1.1 T.1.2 (fun h129 => ?_)
  have T := T.2 h129
  refine xi_ge (tgt := 627) d_GM_call_2_592 (by decide) (w32_id hx13) (w32_id h129) (fun h131 => ?_) (fun h131 => ?_)
  · have T := T.1 h131
    refine wp_aload_n d_GM_call_2_627 rfl rfl (g_nz hX.1) ?_
    refine wp_iload d_GM_call_2_628 rfl ?_
    refine wp_iconst d_GM_call_2_630 ?_
    refine wp_iadd d_GM_call_2_631 ?_
    refine xputI d_GM_call_2_632 gc_GM f_GM_304.1 f_GM_304.2.1 f_GM_304.2.2.1 hX.1 (gm_o2 hX) hX.2.2.1 f_GM_304.2.2.2.1 f_GM_304.2.2.2.2.1 f_GM_304.2.2.2.2.2 rfl ?_
    exact wp_return d_GM_call_2_635 rfl (fun _ => rfl) (Nat.zero_le _) (Nat.zero_le _) (kV_mk T)
  · have T := T.2 h131
    refine wp_aload_n d_GM_call_2_595 rfl rfl (g_nz hX.1) ?_
    refine xgetR d_GM_call_2_596 gc_GM f_GM_126.1 f_GM_126.2.1 f_GM_126.2.2.1 hX.1 (gm_o2 hX) hX.2.2.1 f_GM_126.2.2.2.2.1 (gm_row hX 36 rfl).1 ?_
    refine wp_bipush d_GM_call_2_599 ⟨by decide, by decide⟩ ?_
    refine wp_iload d_GM_call_2_601 rfl ?_
    refine wp_imul d_GM_call_2_603 ?_
    refine wp_iload d_GM_call_2_604 rfl ?_
    refine wp_iadd d_GM_call_2_606 ?_
    refine wp_aload_n d_GM_call_2_607 rfl rfl (g_nz hX.1) ?_
    refine xgetR d_GM_call_2_608 gc_GM f_GM_126.1 f_GM_126.2.1 f_GM_126.2.2.1 hX.1 (gm_o2 hX) hX.2.2.1 f_GM_126.2.2.2.2.1 (gm_row hX 36 rfl).1 ?_
    refine wp_bipush d_GM_call_2_611 ⟨by decide, by decide⟩ ?_
    refine wp_iload d_GM_call_2_613 rfl ?_
    refine wp_imul d_GM_call_2_615 ?_
    refine wp_iload d_GM_call_2_616 rfl ?_
    refine wp_iadd d_GM_call_2_618 ?_
    refine wp_baload d_GM_call_2_619 (gm_row hX 36 rfl).2.2.1 (gm_row hX 36 rfl).2.2.2 (gm_row hX 36 rfl).2.1 (g32_n T.1 (by decide)) T.1.1 T.1.2 (fun h130 => ?_)
    have T := T.2 h130
    refine xbast d_GM_call_2_620 (gm_row hX 36 rfl).2.2.1 (gm_row hX 36 rfl).2.2.2 (gm_row hX 36 rfl).2.1 (by decide) T.1 ?_
    have T := T.2
    refine wp_iinc (L' := [.val (gR G o), .unset, .unset, .unset, .unset, .unset, .unset, .unset, .unset, .val (gI x9), .unset, .unset, .val (gI x12), .val (gI (x13 + 1)), .unset]) d_GM_call_2_621 rfl (by decide) rfl ?_
    refine wp_goto (tgt := 583) d_GM_call_2_624 (by decide) ?_
    exact wp_md (wpt T (And.intro rfl (And.intro rfl (And.intro rfl (And.intro (gI_w _) True.intro)))))
theorem e_GM_call_2 {l : Launch} {G : gG} {d : Nat} {X : gX} {M : gM} {k : gM → Prop} {Q : gQ} {o : Nat} {x1 : Int} (T : wp l G y_GM_call_2 (gRm (d + 5)) true (kkV X k) false 0 [.val (gR G o), .val (gI x1), .unset, .unset, .unset, .unset, .unset, .unset, .unset, .unset, .unset, .unset, .unset, .unset, .unset] [] X M 0 0) : cV l G y_GM_call_2 (gRm (d + 5)) true [gR G o, gI x1] X M k := cen_V (plainFor_of_name rfl) (by simp only [lg_sl_R, lg_sl_I, lg_sl_L, lg_sl_N, List.length_cons, List.length_nil]; decide) (by unfold gEn; simp only [lg_sl_R, lg_sl_I, lg_sl_L, lg_sl_N]; exact wpt T (And.intro rfl (And.intro rfl True.intro)))
