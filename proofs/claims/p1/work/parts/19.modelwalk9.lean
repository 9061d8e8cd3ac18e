/-! Walks of the reference's methods, written by wip/whole/gen_model.py -/
theorem d_GM_evaluate_0 : decode prog_15_method_72_code 0 = .ok (.aload_n 0, 1) := by decide +kernel
theorem d_GM_evaluate_1 : decode prog_15_method_72_code 1 = .ok (.iload_n 1, 1) := by decide +kernel
theorem d_GM_evaluate_2 : decode prog_15_method_72_code 2 = .ok (.putfield 368, 3) := by decide +kernel
theorem d_GM_evaluate_5 : decode prog_15_method_72_code 5 = .ok (.aload_n 0, 1) := by decide +kernel
theorem d_GM_evaluate_6 : decode prog_15_method_72_code 6 = .ok (.iconst 0, 1) := by decide +kernel
theorem d_GM_evaluate_7 : decode prog_15_method_72_code 7 = .ok (.putfield 476, 3) := by decide +kernel
theorem d_GM_evaluate_10 : decode prog_15_method_72_code 10 = .ok (.iconst 0, 1) := by decide +kernel
theorem d_GM_evaluate_11 : decode prog_15_method_72_code 11 = .ok (.istore_n 2, 1) := by decide +kernel
theorem d_GM_evaluate_12 : decode prog_15_method_72_code 12 = .ok (.iload_n 2, 1) := by decide +kernel
theorem d_GM_evaluate_13 : decode prog_15_method_72_code 13 = .ok (.sipush 5200, 3) := by decide +kernel
theorem d_GM_evaluate_16 : decode prog_15_method_72_code 16 = .ok (.if_icmp .ge 195, 3) := by decide +kernel
theorem d_GM_evaluate_211 : decode prog_15_method_72_code 211 = .ok (.iconst 0, 1) := by decide +kernel
theorem d_GM_evaluate_212 : decode prog_15_method_72_code 212 = .ok (.istore_n 2, 1) := by decide +kernel
theorem d_GM_evaluate_19 : decode prog_15_method_72_code 19 = .ok (.iload_n 1, 1) := by decide +kernel
theorem d_GM_evaluate_20 : decode prog_15_method_72_code 20 = .ok (.sipush 5200, 3) := by decide +kernel
theorem d_GM_evaluate_23 : decode prog_15_method_72_code 23 = .ok (.imul, 1) := by decide +kernel
theorem d_GM_evaluate_24 : decode prog_15_method_72_code 24 = .ok (.iload_n 2, 1) := by decide +kernel
theorem d_GM_evaluate_25 : decode prog_15_method_72_code 25 = .ok (.iadd, 1) := by decide +kernel
theorem d_GM_evaluate_26 : decode prog_15_method_72_code 26 = .ok (.istore_n 3, 1) := by decide +kernel
theorem d_GM_evaluate_27 : decode prog_15_method_72_code 27 = .ok (.aload_n 0, 1) := by decide +kernel
theorem d_GM_evaluate_28 : decode prog_15_method_72_code 28 = .ok (.getfield 138, 3) := by decide +kernel
theorem d_GM_evaluate_31 : decode prog_15_method_72_code 31 = .ok (.iload_n 2, 1) := by decide +kernel
theorem d_GM_evaluate_32 : decode prog_15_method_72_code 32 = .ok (.iconst (-1), 1) := by decide +kernel
theorem d_GM_evaluate_33 : decode prog_15_method_72_code 33 = .ok (.iastore, 1) := by decide +kernel
theorem d_GM_evaluate_34 : decode prog_15_method_72_code 34 = .ok (.aload_n 0, 1) := by decide +kernel
theorem d_GM_evaluate_35 : decode prog_15_method_72_code 35 = .ok (.getfield 91, 3) := by decide +kernel
theorem d_GM_evaluate_38 : decode prog_15_method_72_code 38 = .ok (.iload_n 2, 1) := by decide +kernel
theorem d_GM_evaluate_39 : decode prog_15_method_72_code 39 = .ok (.aload_n 0, 1) := by decide +kernel
theorem d_GM_evaluate_40 : decode prog_15_method_72_code 40 = .ok (.getfield 69, 3) := by decide +kernel
theorem d_GM_evaluate_43 : decode prog_15_method_72_code 43 = .ok (.iload_n 3, 1) := by decide +kernel
theorem d_GM_evaluate_44 : decode prog_15_method_72_code 44 = .ok (.iaload, 1) := by decide +kernel
theorem d_GM_evaluate_45 : decode prog_15_method_72_code 45 = .ok (.iconst 3, 1) := by decide +kernel
theorem d_GM_evaluate_46 : decode prog_15_method_72_code 46 = .ok (.if_icmp .ne 7, 3) := by decide +kernel
theorem d_GM_evaluate_53 : decode prog_15_method_72_code 53 = .ok (.aload_n 0, 1) := by decide +kernel
theorem d_GM_evaluate_54 : decode prog_15_method_72_code 54 = .ok (.getfield 69, 3) := by decide +kernel
theorem d_GM_evaluate_57 : decode prog_15_method_72_code 57 = .ok (.iload_n 3, 1) := by decide +kernel
theorem d_GM_evaluate_58 : decode prog_15_method_72_code 58 = .ok (.iaload, 1) := by decide +kernel
theorem d_GM_evaluate_59 : decode prog_15_method_72_code 59 = .ok (.iastore, 1) := by decide +kernel
theorem d_GM_evaluate_60 : decode prog_15_method_72_code 60 = .ok (.aload_n 0, 1) := by decide +kernel
theorem d_GM_evaluate_61 : decode prog_15_method_72_code 61 = .ok (.getfield 103, 3) := by decide +kernel
theorem d_GM_evaluate_64 : decode prog_15_method_72_code 64 = .ok (.iload_n 2, 1) := by decide +kernel
theorem d_GM_evaluate_65 : decode prog_15_method_72_code 65 = .ok (.aload_n 0, 1) := by decide +kernel
theorem d_GM_evaluate_66 : decode prog_15_method_72_code 66 = .ok (.getfield 69, 3) := by decide +kernel
theorem d_GM_evaluate_69 : decode prog_15_method_72_code 69 = .ok (.iload_n 3, 1) := by decide +kernel
theorem d_GM_evaluate_70 : decode prog_15_method_72_code 70 = .ok (.iaload, 1) := by decide +kernel
theorem d_GM_evaluate_71 : decode prog_15_method_72_code 71 = .ok (.iconst 1, 1) := by decide +kernel
theorem d_GM_evaluate_72 : decode prog_15_method_72_code 72 = .ok (.if_icmp .ne 12, 3) := by decide +kernel
theorem d_GM_evaluate_84 : decode prog_15_method_72_code 84 = .ok (.lconst 0, 1) := by decide +kernel
theorem d_GM_evaluate_85 : decode prog_15_method_72_code 85 = .ok (.lastore, 1) := by decide +kernel
theorem d_GM_evaluate_86 : decode prog_15_method_72_code 86 = .ok (.aload_n 0, 1) := by decide +kernel
theorem d_GM_evaluate_87 : decode prog_15_method_72_code 87 = .ok (.getfield 94, 3) := by decide +kernel
theorem d_GM_evaluate_90 : decode prog_15_method_72_code 90 = .ok (.iload_n 2, 1) := by decide +kernel
theorem d_GM_evaluate_91 : decode prog_15_method_72_code 91 = .ok (.aload_n 0, 1) := by decide +kernel
theorem d_GM_evaluate_92 : decode prog_15_method_72_code 92 = .ok (.getfield 69, 3) := by decide +kernel
theorem d_GM_evaluate_95 : decode prog_15_method_72_code 95 = .ok (.iload_n 3, 1) := by decide +kernel
theorem d_GM_evaluate_96 : decode prog_15_method_72_code 96 = .ok (.iaload, 1) := by decide +kernel
theorem d_GM_evaluate_97 : decode prog_15_method_72_code 97 = .ok (.iconst 2, 1) := by decide +kernel
theorem d_GM_evaluate_98 : decode prog_15_method_72_code 98 = .ok (.if_icmp .ne 19, 3) := by decide +kernel
theorem d_GM_evaluate_117 : decode prog_15_method_72_code 117 = .ok (.iconst 0, 1) := by decide +kernel
theorem d_GM_evaluate_118 : decode prog_15_method_72_code 118 = .ok (.iastore, 1) := by decide +kernel
theorem d_GM_evaluate_119 : decode prog_15_method_72_code 119 = .ok (.iconst 0, 1) := by decide +kernel
theorem d_GM_evaluate_120 : decode prog_15_method_72_code 120 = .ok (.istore 4, 2) := by decide +kernel
theorem d_GM_evaluate_101 : decode prog_15_method_72_code 101 = .ok (.aload_n 0, 1) := by decide +kernel
theorem d_GM_evaluate_102 : decode prog_15_method_72_code 102 = .ok (.getfield 75, 3) := by decide +kernel
theorem d_GM_evaluate_105 : decode prog_15_method_72_code 105 = .ok (.iload_n 3, 1) := by decide +kernel
theorem d_GM_evaluate_106 : decode prog_15_method_72_code 106 = .ok (.iaload, 1) := by decide +kernel
theorem d_GM_evaluate_107 : decode prog_15_method_72_code 107 = .ok (.aload_n 0, 1) := by decide +kernel
theorem d_GM_evaluate_108 : decode prog_15_method_72_code 108 = .ok (.getfield 72, 3) := by decide +kernel
theorem d_GM_evaluate_111 : decode prog_15_method_72_code 111 = .ok (.iload_n 3, 1) := by decide +kernel
theorem d_GM_evaluate_112 : decode prog_15_method_72_code 112 = .ok (.iaload, 1) := by decide +kernel
theorem d_GM_evaluate_113 : decode prog_15_method_72_code 113 = .ok (.isub, 1) := by decide +kernel
theorem d_GM_evaluate_114 : decode prog_15_method_72_code 114 = .ok (.goto 4, 3) := by decide +kernel
theorem d_GM_evaluate_75 : decode prog_15_method_72_code 75 = .ok (.aload_n 0, 1) := by decide +kernel
theorem d_GM_evaluate_76 : decode prog_15_method_72_code 76 = .ok (.getfield 81, 3) := by decide +kernel
theorem d_GM_evaluate_79 : decode prog_15_method_72_code 79 = .ok (.iload_n 3, 1) := by decide +kernel
theorem d_GM_evaluate_80 : decode prog_15_method_72_code 80 = .ok (.laload, 1) := by decide +kernel
theorem d_GM_evaluate_81 : decode prog_15_method_72_code 81 = .ok (.goto 4, 3) := by decide +kernel
theorem d_GM_evaluate_49 : decode prog_15_method_72_code 49 = .ok (.iconst 0, 1) := by decide +kernel
theorem d_GM_evaluate_50 : decode prog_15_method_72_code 50 = .ok (.goto 9, 3) := by decide +kernel
theorem d_GM_evaluate_213 : decode prog_15_method_72_code 213 = .ok (.iload_n 2, 1) := by decide +kernel
theorem d_GM_evaluate_214 : decode prog_15_method_72_code 214 = .ok (.bipush 7, 2) := by decide +kernel
theorem d_GM_evaluate_216 : decode prog_15_method_72_code 216 = .ok (.aload_n 0, 1) := by decide +kernel
theorem d_GM_evaluate_217 : decode prog_15_method_72_code 217 = .ok (.getfield 476, 3) := by decide +kernel
theorem d_GM_evaluate_220 : decode prog_15_method_72_code 220 = .ok (.imul, 1) := by decide +kernel
theorem d_GM_evaluate_221 : decode prog_15_method_72_code 221 = .ok (.if_icmp .ge 16, 3) := by decide +kernel
theorem d_GM_evaluate_237 : decode prog_15_method_72_code 237 = .ok (.iconst 0, 1) := by decide +kernel
theorem d_GM_evaluate_238 : decode prog_15_method_72_code 238 = .ok (.istore_n 2, 1) := by decide +kernel
theorem d_GM_evaluate_224 : decode prog_15_method_72_code 224 = .ok (.aload_n 0, 1) := by decide +kernel
theorem d_GM_evaluate_225 : decode prog_15_method_72_code 225 = .ok (.getfield 141, 3) := by decide +kernel
theorem d_GM_evaluate_228 : decode prog_15_method_72_code 228 = .ok (.iload_n 2, 1) := by decide +kernel
theorem d_GM_evaluate_229 : decode prog_15_method_72_code 229 = .ok (.lconst 0, 1) := by decide +kernel
theorem d_GM_evaluate_230 : decode prog_15_method_72_code 230 = .ok (.lastore, 1) := by decide +kernel
theorem d_GM_evaluate_231 : decode prog_15_method_72_code 231 = .ok (.iinc 2 1, 3) := by decide +kernel
theorem d_GM_evaluate_234 : decode prog_15_method_72_code 234 = .ok (.goto (-21), 3) := by decide +kernel
theorem d_GM_evaluate_122 : decode prog_15_method_72_code 122 = .ok (.iload 4, 2) := by decide +kernel
theorem d_GM_evaluate_124 : decode prog_15_method_72_code 124 = .ok (.aload_n 0, 1) := by decide +kernel
theorem d_GM_evaluate_125 : decode prog_15_method_72_code 125 = .ok (.getfield 94, 3) := by decide +kernel
theorem d_GM_evaluate_128 : decode prog_15_method_72_code 128 = .ok (.iload_n 2, 1) := by decide +kernel
theorem d_GM_evaluate_129 : decode prog_15_method_72_code 129 = .ok (.iaload, 1) := by decide +kernel
theorem d_GM_evaluate_130 : decode prog_15_method_72_code 130 = .ok (.if_icmp .ge 35, 3) := by decide +kernel
theorem d_GM_evaluate_165 : decode prog_15_method_72_code 165 = .ok (.aload_n 0, 1) := by decide +kernel
theorem d_GM_evaluate_166 : decode prog_15_method_72_code 166 = .ok (.getfield 69, 3) := by decide +kernel
theorem d_GM_evaluate_169 : decode prog_15_method_72_code 169 = .ok (.iload_n 3, 1) := by decide +kernel
theorem d_GM_evaluate_170 : decode prog_15_method_72_code 170 = .ok (.iaload, 1) := by decide +kernel
theorem d_GM_evaluate_171 : decode prog_15_method_72_code 171 = .ok (.iconst 3, 1) := by decide +kernel
theorem d_GM_evaluate_172 : decode prog_15_method_72_code 172 = .ok (.if_icmp .ne 33, 3) := by decide +kernel
theorem d_GM_evaluate_205 : decode prog_15_method_72_code 205 = .ok (.iinc 2 1, 3) := by decide +kernel
theorem d_GM_evaluate_208 : decode prog_15_method_72_code 208 = .ok (.goto (-196), 3) := by decide +kernel
theorem d_GM_evaluate_175 : decode prog_15_method_72_code 175 = .ok (.aload_n 0, 1) := by decide +kernel
theorem d_GM_evaluate_176 : decode prog_15_method_72_code 176 = .ok (.getfield 138, 3) := by decide +kernel
theorem d_GM_evaluate_179 : decode prog_15_method_72_code 179 = .ok (.iload_n 2, 1) := by decide +kernel
theorem d_GM_evaluate_180 : decode prog_15_method_72_code 180 = .ok (.aload_n 0, 1) := by decide +kernel
theorem d_GM_evaluate_181 : decode prog_15_method_72_code 181 = .ok (.getfield 476, 3) := by decide +kernel
theorem d_GM_evaluate_184 : decode prog_15_method_72_code 184 = .ok (.iastore, 1) := by decide +kernel
theorem d_GM_evaluate_185 : decode prog_15_method_72_code 185 = .ok (.aload_n 0, 1) := by decide +kernel
theorem d_GM_evaluate_186 : decode prog_15_method_72_code 186 = .ok (.getfield 135, 3) := by decide +kernel
theorem d_GM_evaluate_189 : decode prog_15_method_72_code 189 = .ok (.aload_n 0, 1) := by decide +kernel
theorem d_GM_evaluate_190 : decode prog_15_method_72_code 190 = .ok (.getfield 476, 3) := by decide +kernel
theorem d_GM_evaluate_193 : decode prog_15_method_72_code 193 = .ok (.iload_n 2, 1) := by decide +kernel
theorem d_GM_evaluate_194 : decode prog_15_method_72_code 194 = .ok (.iastore, 1) := by decide +kernel
theorem d_GM_evaluate_195 : decode prog_15_method_72_code 195 = .ok (.aload_n 0, 1) := by decide +kernel
theorem d_GM_evaluate_196 : decode prog_15_method_72_code 196 = .ok (.dup, 1) := by decide +kernel
theorem d_GM_evaluate_197 : decode prog_15_method_72_code 197 = .ok (.getfield 476, 3) := by decide +kernel
theorem d_GM_evaluate_200 : decode prog_15_method_72_code 200 = .ok (.iconst 1, 1) := by decide +kernel
theorem d_GM_evaluate_201 : decode prog_15_method_72_code 201 = .ok (.iadd, 1) := by decide +kernel
theorem d_GM_evaluate_202 : decode prog_15_method_72_code 202 = .ok (.putfield 476, 3) := by decide +kernel
theorem d_GM_evaluate_133 : decode prog_15_method_72_code 133 = .ok (.aload_n 0, 1) := by decide +kernel
theorem d_GM_evaluate_134 : decode prog_15_method_72_code 134 = .ok (.getfield 110, 3) := by decide +kernel
theorem d_GM_evaluate_137 : decode prog_15_method_72_code 137 = .ok (.bipush 64, 2) := by decide +kernel
theorem d_GM_evaluate_139 : decode prog_15_method_72_code 139 = .ok (.iload_n 2, 1) := by decide +kernel
theorem d_GM_evaluate_140 : decode prog_15_method_72_code 140 = .ok (.imul, 1) := by decide +kernel
theorem d_GM_evaluate_141 : decode prog_15_method_72_code 141 = .ok (.iload 4, 2) := by decide +kernel
theorem d_GM_evaluate_143 : decode prog_15_method_72_code 143 = .ok (.iadd, 1) := by decide +kernel
theorem d_GM_evaluate_144 : decode prog_15_method_72_code 144 = .ok (.aload_n 0, 1) := by decide +kernel
theorem d_GM_evaluate_145 : decode prog_15_method_72_code 145 = .ok (.getfield 8, 3) := by decide +kernel
theorem d_GM_evaluate_148 : decode prog_15_method_72_code 148 = .ok (.aload_n 0, 1) := by decide +kernel
theorem d_GM_evaluate_149 : decode prog_15_method_72_code 149 = .ok (.getfield 72, 3) := by decide +kernel
theorem d_GM_evaluate_152 : decode prog_15_method_72_code 152 = .ok (.iload_n 3, 1) := by decide +kernel
theorem d_GM_evaluate_153 : decode prog_15_method_72_code 153 = .ok (.iaload, 1) := by decide +kernel
theorem d_GM_evaluate_154 : decode prog_15_method_72_code 154 = .ok (.iload 4, 2) := by decide +kernel
theorem d_GM_evaluate_156 : decode prog_15_method_72_code 156 = .ok (.iadd, 1) := by decide +kernel
theorem d_GM_evaluate_157 : decode prog_15_method_72_code 157 = .ok (.baload, 1) := by decide +kernel
theorem d_GM_evaluate_158 : decode prog_15_method_72_code 158 = .ok (.bastore, 1) := by decide +kernel
theorem d_GM_evaluate_159 : decode prog_15_method_72_code 159 = .ok (.iinc 4 1, 3) := by decide +kernel
theorem d_GM_evaluate_162 : decode prog_15_method_72_code 162 = .ok (.goto (-40), 3) := by decide +kernel
theorem d_GM_evaluate_239 : decode prog_15_method_72_code 239 = .ok (.iload_n 2, 1) := by decide +kernel
theorem d_GM_evaluate_240 : decode prog_15_method_72_code 240 = .ok (.aload_n 0, 1) := by decide +kernel
theorem d_GM_evaluate_241 : decode prog_15_method_72_code 241 = .ok (.getfield 476, 3) := by decide +kernel
theorem d_GM_evaluate_244 : decode prog_15_method_72_code 244 = .ok (.if_icmp .ge 14, 3) := by decide +kernel
theorem d_GM_evaluate_258 : decode prog_15_method_72_code 258 = .ok (.iconst 0, 1) := by decide +kernel
theorem d_GM_evaluate_259 : decode prog_15_method_72_code 259 = .ok (.istore_n 2, 1) := by decide +kernel
theorem d_GM_evaluate_247 : decode prog_15_method_72_code 247 = .ok (.aload_n 0, 1) := by decide +kernel
theorem d_GM_evaluate_248 : decode prog_15_method_72_code 248 = .ok (.iload_n 2, 1) := by decide +kernel
theorem d_GM_evaluate_249 : decode prog_15_method_72_code 249 = .ok (.invokevirtual 479, 3) := by decide +kernel
theorem d_GM_evaluate_252 : decode prog_15_method_72_code 252 = .ok (.iinc 2 1, 3) := by decide +kernel
theorem d_GM_evaluate_255 : decode prog_15_method_72_code 255 = .ok (.goto (-16), 3) := by decide +kernel
theorem d_GM_evaluate_260 : decode prog_15_method_72_code 260 = .ok (.iload_n 2, 1) := by decide +kernel
theorem d_GM_evaluate_261 : decode prog_15_method_72_code 261 = .ok (.bipush 7, 2) := by decide +kernel
theorem d_GM_evaluate_263 : decode prog_15_method_72_code 263 = .ok (.aload_n 0, 1) := by decide +kernel
theorem d_GM_evaluate_264 : decode prog_15_method_72_code 264 = .ok (.getfield 476, 3) := by decide +kernel
theorem d_GM_evaluate_267 : decode prog_15_method_72_code 267 = .ok (.imul, 1) := by decide +kernel
theorem d_GM_evaluate_268 : decode prog_15_method_72_code 268 = .ok (.if_icmp .ge 21, 3) := by decide +kernel
theorem d_GM_evaluate_289 : decode prog_15_method_72_code 289 = .ok (.iconst 0, 1) := by decide +kernel
theorem d_GM_evaluate_290 : decode prog_15_method_72_code 290 = .ok (.istore_n 2, 1) := by decide +kernel
theorem d_GM_evaluate_271 : decode prog_15_method_72_code 271 = .ok (.aload_n 0, 1) := by decide +kernel
theorem d_GM_evaluate_272 : decode prog_15_method_72_code 272 = .ok (.getfield 148, 3) := by decide +kernel
theorem d_GM_evaluate_275 : decode prog_15_method_72_code 275 = .ok (.iload_n 2, 1) := by decide +kernel
theorem d_GM_evaluate_276 : decode prog_15_method_72_code 276 = .ok (.aload_n 0, 1) := by decide +kernel
theorem d_GM_evaluate_277 : decode prog_15_method_72_code 277 = .ok (.getfield 141, 3) := by decide +kernel
theorem d_GM_evaluate_280 : decode prog_15_method_72_code 280 = .ok (.iload_n 2, 1) := by decide +kernel
theorem d_GM_evaluate_281 : decode prog_15_method_72_code 281 = .ok (.laload, 1) := by decide +kernel
theorem d_GM_evaluate_282 : decode prog_15_method_72_code 282 = .ok (.lastore, 1) := by decide +kernel
theorem d_GM_evaluate_283 : decode prog_15_method_72_code 283 = .ok (.iinc 2 1, 3) := by decide +kernel
theorem d_GM_evaluate_286 : decode prog_15_method_72_code 286 = .ok (.goto (-26), 3) := by decide +kernel
theorem d_GM_evaluate_291 : decode prog_15_method_72_code 291 = .ok (.iload_n 2, 1) := by decide +kernel
theorem d_GM_evaluate_292 : decode prog_15_method_72_code 292 = .ok (.aload_n 0, 1) := by decide +kernel
theorem d_GM_evaluate_293 : decode prog_15_method_72_code 293 = .ok (.getfield 476, 3) := by decide +kernel
theorem d_GM_evaluate_296 : decode prog_15_method_72_code 296 = .ok (.if_icmp .ge 80, 3) := by decide +kernel
theorem d_GM_evaluate_376 : decode prog_15_method_72_code 376 = .ok (.aload_n 0, 1) := by decide +kernel
theorem d_GM_evaluate_377 : decode prog_15_method_72_code 377 = .ok (.iconst 0, 1) := by decide +kernel
theorem d_GM_evaluate_378 : decode prog_15_method_72_code 378 = .ok (.putfield 485, 3) := by decide +kernel
theorem d_GM_evaluate_381 : decode prog_15_method_72_code 381 = .ok (.iconst 0, 1) := by decide +kernel
theorem d_GM_evaluate_382 : decode prog_15_method_72_code 382 = .ok (.istore_n 2, 1) := by decide +kernel
theorem d_GM_evaluate_299 : decode prog_15_method_72_code 299 = .ok (.iconst 0, 1) := by decide +kernel
theorem d_GM_evaluate_300 : decode prog_15_method_72_code 300 = .ok (.istore_n 3, 1) := by decide +kernel
theorem d_GM_evaluate_383 : decode prog_15_method_72_code 383 = .ok (.iload_n 2, 1) := by decide +kernel
theorem d_GM_evaluate_384 : decode prog_15_method_72_code 384 = .ok (.aload_n 0, 1) := by decide +kernel
theorem d_GM_evaluate_385 : decode prog_15_method_72_code 385 = .ok (.getfield 476, 3) := by decide +kernel
theorem d_GM_evaluate_388 : decode prog_15_method_72_code 388 = .ok (.if_icmp .ge 59, 3) := by decide +kernel
theorem d_GM_evaluate_447 : decode prog_15_method_72_code 447 = .ok (.iconst 1, 1) := by decide +kernel
theorem d_GM_evaluate_448 : decode prog_15_method_72_code 448 = .ok (.istore_n 2, 1) := by decide +kernel
theorem d_GM_evaluate_391 : decode prog_15_method_72_code 391 = .ok (.aload_n 0, 1) := by decide +kernel
theorem d_GM_evaluate_392 : decode prog_15_method_72_code 392 = .ok (.getfield 144, 3) := by decide +kernel
theorem d_GM_evaluate_395 : decode prog_15_method_72_code 395 = .ok (.iload_n 2, 1) := by decide +kernel
theorem d_GM_evaluate_396 : decode prog_15_method_72_code 396 = .ok (.aload_n 0, 1) := by decide +kernel
theorem d_GM_evaluate_397 : decode prog_15_method_72_code 397 = .ok (.iload_n 2, 1) := by decide +kernel
theorem d_GM_evaluate_398 : decode prog_15_method_72_code 398 = .ok (.iload_n 2, 1) := by decide +kernel
theorem d_GM_evaluate_399 : decode prog_15_method_72_code 399 = .ok (.invokevirtual 482, 3) := by decide +kernel
theorem d_GM_evaluate_402 : decode prog_15_method_72_code 402 = .ok (.bastore, 1) := by decide +kernel
theorem d_GM_evaluate_403 : decode prog_15_method_72_code 403 = .ok (.aload_n 0, 1) := by decide +kernel
theorem d_GM_evaluate_404 : decode prog_15_method_72_code 404 = .ok (.getfield 144, 3) := by decide +kernel
theorem d_GM_evaluate_407 : decode prog_15_method_72_code 407 = .ok (.iload_n 2, 1) := by decide +kernel
theorem d_GM_evaluate_408 : decode prog_15_method_72_code 408 = .ok (.baload, 1) := by decide +kernel
theorem d_GM_evaluate_409 : decode prog_15_method_72_code 409 = .ok (.ifCond .ne 6, 3) := by decide +kernel
theorem d_GM_evaluate_415 : decode prog_15_method_72_code 415 = .ok (.aload_n 0, 1) := by decide +kernel
theorem d_GM_evaluate_416 : decode prog_15_method_72_code 416 = .ok (.getfield 91, 3) := by decide +kernel
theorem d_GM_evaluate_419 : decode prog_15_method_72_code 419 = .ok (.aload_n 0, 1) := by decide +kernel
theorem d_GM_evaluate_420 : decode prog_15_method_72_code 420 = .ok (.getfield 135, 3) := by decide +kernel
theorem d_GM_evaluate_423 : decode prog_15_method_72_code 423 = .ok (.iload_n 2, 1) := by decide +kernel
theorem d_GM_evaluate_424 : decode prog_15_method_72_code 424 = .ok (.iaload, 1) := by decide +kernel
theorem d_GM_evaluate_425 : decode prog_15_method_72_code 425 = .ok (.iconst 4, 1) := by decide +kernel
theorem d_GM_evaluate_426 : decode prog_15_method_72_code 426 = .ok (.iastore, 1) := by decide +kernel
theorem d_GM_evaluate_427 : decode prog_15_method_72_code 427 = .ok (.aload_n 0, 1) := by decide +kernel
theorem d_GM_evaluate_428 : decode prog_15_method_72_code 428 = .ok (.getfield 103, 3) := by decide +kernel
theorem d_GM_evaluate_431 : decode prog_15_method_72_code 431 = .ok (.aload_n 0, 1) := by decide +kernel
theorem d_GM_evaluate_432 : decode prog_15_method_72_code 432 = .ok (.getfield 135, 3) := by decide +kernel
theorem d_GM_evaluate_435 : decode prog_15_method_72_code 435 = .ok (.iload_n 2, 1) := by decide +kernel
theorem d_GM_evaluate_436 : decode prog_15_method_72_code 436 = .ok (.iaload, 1) := by decide +kernel
theorem d_GM_evaluate_437 : decode prog_15_method_72_code 437 = .ok (.ldc2_w 488, 3) := by decide +kernel
theorem d_GM_evaluate_440 : decode prog_15_method_72_code 440 = .ok (.lastore, 1) := by decide +kernel
theorem d_GM_evaluate_441 : decode prog_15_method_72_code 441 = .ok (.iinc 2 1, 3) := by decide +kernel
theorem d_GM_evaluate_444 : decode prog_15_method_72_code 444 = .ok (.goto (-61), 3) := by decide +kernel
theorem d_GM_evaluate_412 : decode prog_15_method_72_code 412 = .ok (.goto 29, 3) := by decide +kernel
theorem d_GM_evaluate_449 : decode prog_15_method_72_code 449 = .ok (.iload_n 2, 1) := by decide +kernel
theorem d_GM_evaluate_450 : decode prog_15_method_72_code 450 = .ok (.ifCond .eq 63, 3) := by decide +kernel
theorem d_GM_evaluate_513 : decode prog_15_method_72_code 513 = .ok (.iconst 0, 1) := by decide +kernel
theorem d_GM_evaluate_514 : decode prog_15_method_72_code 514 = .ok (.istore_n 3, 1) := by decide +kernel
theorem d_GM_evaluate_453 : decode prog_15_method_72_code 453 = .ok (.iconst 0, 1) := by decide +kernel
theorem d_GM_evaluate_454 : decode prog_15_method_72_code 454 = .ok (.istore_n 2, 1) := by decide +kernel
theorem d_GM_evaluate_455 : decode prog_15_method_72_code 455 = .ok (.iconst 0, 1) := by decide +kernel
theorem d_GM_evaluate_456 : decode prog_15_method_72_code 456 = .ok (.istore_n 3, 1) := by decide +kernel
theorem d_GM_evaluate_515 : decode prog_15_method_72_code 515 = .ok (.iload_n 3, 1) := by decide +kernel
theorem d_GM_evaluate_516 : decode prog_15_method_72_code 516 = .ok (.aload_n 0, 1) := by decide +kernel
theorem d_GM_evaluate_517 : decode prog_15_method_72_code 517 = .ok (.getfield 476, 3) := by decide +kernel
theorem d_GM_evaluate_520 : decode prog_15_method_72_code 520 = .ok (.if_icmp .ge 52, 3) := by decide +kernel
theorem d_GM_evaluate_572 : decode prog_15_method_72_code 572 = .ok (.return_, 1) := by decide +kernel
theorem d_GM_evaluate_523 : decode prog_15_method_72_code 523 = .ok (.aload_n 0, 1) := by decide +kernel
theorem d_GM_evaluate_524 : decode prog_15_method_72_code 524 = .ok (.getfield 91, 3) := by decide +kernel
theorem d_GM_evaluate_527 : decode prog_15_method_72_code 527 = .ok (.aload_n 0, 1) := by decide +kernel
theorem d_GM_evaluate_528 : decode prog_15_method_72_code 528 = .ok (.getfield 135, 3) := by decide +kernel
theorem d_GM_evaluate_531 : decode prog_15_method_72_code 531 = .ok (.iload_n 3, 1) := by decide +kernel
theorem d_GM_evaluate_532 : decode prog_15_method_72_code 532 = .ok (.iaload, 1) := by decide +kernel
theorem d_GM_evaluate_533 : decode prog_15_method_72_code 533 = .ok (.iaload, 1) := by decide +kernel
theorem d_GM_evaluate_534 : decode prog_15_method_72_code 534 = .ok (.iconst 4, 1) := by decide +kernel
theorem d_GM_evaluate_535 : decode prog_15_method_72_code 535 = .ok (.if_icmp .ne 31, 3) := by decide +kernel
theorem d_GM_evaluate_566 : decode prog_15_method_72_code 566 = .ok (.iinc 3 1, 3) := by decide +kernel
theorem d_GM_evaluate_569 : decode prog_15_method_72_code 569 = .ok (.goto (-54), 3) := by decide +kernel
theorem d_GM_evaluate_538 : decode prog_15_method_72_code 538 = .ok (.aload_n 0, 1) := by decide +kernel
theorem d_GM_evaluate_539 : decode prog_15_method_72_code 539 = .ok (.getfield 103, 3) := by decide +kernel
theorem d_GM_evaluate_542 : decode prog_15_method_72_code 542 = .ok (.aload_n 0, 1) := by decide +kernel
theorem d_GM_evaluate_543 : decode prog_15_method_72_code 543 = .ok (.getfield 135, 3) := by decide +kernel
theorem d_GM_evaluate_546 : decode prog_15_method_72_code 546 = .ok (.iload_n 3, 1) := by decide +kernel
theorem d_GM_evaluate_547 : decode prog_15_method_72_code 547 = .ok (.iaload, 1) := by decide +kernel
theorem d_GM_evaluate_548 : decode prog_15_method_72_code 548 = .ok (.laload, 1) := by decide +kernel
theorem d_GM_evaluate_549 : decode prog_15_method_72_code 549 = .ok (.ldc2_w 488, 3) := by decide +kernel
theorem d_GM_evaluate_552 : decode prog_15_method_72_code 552 = .ok (.lcmp, 1) := by decide +kernel
theorem d_GM_evaluate_553 : decode prog_15_method_72_code 553 = .ok (.ifCond .ne 13, 3) := by decide +kernel
theorem d_GM_evaluate_556 : decode prog_15_method_72_code 556 = .ok (.aload_n 0, 1) := by decide +kernel
theorem d_GM_evaluate_557 : decode prog_15_method_72_code 557 = .ok (.dup, 1) := by decide +kernel
theorem d_GM_evaluate_558 : decode prog_15_method_72_code 558 = .ok (.getfield 485, 3) := by decide +kernel
theorem d_GM_evaluate_561 : decode prog_15_method_72_code 561 = .ok (.iconst 1, 1) := by decide +kernel
theorem d_GM_evaluate_562 : decode prog_15_method_72_code 562 = .ok (.iadd, 1) := by decide +kernel
theorem d_GM_evaluate_563 : decode prog_15_method_72_code 563 = .ok (.putfield 485, 3) := by decide +kernel
theorem d_GM_evaluate_457 : decode prog_15_method_72_code 457 = .ok (.iload_n 3, 1) := by decide +kernel
theorem d_GM_evaluate_458 : decode prog_15_method_72_code 458 = .ok (.aload_n 0, 1) := by decide +kernel
theorem d_GM_evaluate_459 : decode prog_15_method_72_code 459 = .ok (.getfield 476, 3) := by decide +kernel
theorem d_GM_evaluate_462 : decode prog_15_method_72_code 462 = .ok (.if_icmp .ge 48, 3) := by decide +kernel
theorem d_GM_evaluate_510 : decode prog_15_method_72_code 510 = .ok (.goto (-61), 3) := by decide +kernel
theorem d_GM_evaluate_465 : decode prog_15_method_72_code 465 = .ok (.aload_n 0, 1) := by decide +kernel
theorem d_GM_evaluate_466 : decode prog_15_method_72_code 466 = .ok (.getfield 144, 3) := by decide +kernel
theorem d_GM_evaluate_469 : decode prog_15_method_72_code 469 = .ok (.iload_n 3, 1) := by decide +kernel
theorem d_GM_evaluate_470 : decode prog_15_method_72_code 470 = .ok (.baload, 1) := by decide +kernel
theorem d_GM_evaluate_471 : decode prog_15_method_72_code 471 = .ok (.ifCond .ne 33, 3) := by decide +kernel
theorem d_GM_evaluate_504 : decode prog_15_method_72_code 504 = .ok (.iinc 3 1, 3) := by decide +kernel
theorem d_GM_evaluate_507 : decode prog_15_method_72_code 507 = .ok (.goto (-50), 3) := by decide +kernel
theorem d_GM_evaluate_474 : decode prog_15_method_72_code 474 = .ok (.aload_n 0, 1) := by decide +kernel
theorem d_GM_evaluate_475 : decode prog_15_method_72_code 475 = .ok (.iload_n 3, 1) := by decide +kernel
theorem d_GM_evaluate_476 : decode prog_15_method_72_code 476 = .ok (.invokevirtual 490, 3) := by decide +kernel
theorem d_GM_evaluate_479 : decode prog_15_method_72_code 479 = .ok (.ifCond .ne 6, 3) := by decide +kernel
theorem d_GM_evaluate_485 : decode prog_15_method_72_code 485 = .ok (.aload_n 0, 1) := by decide +kernel
theorem d_GM_evaluate_486 : decode prog_15_method_72_code 486 = .ok (.aload_n 0, 1) := by decide +kernel
theorem d_GM_evaluate_487 : decode prog_15_method_72_code 487 = .ok (.getfield 135, 3) := by decide +kernel
theorem d_GM_evaluate_490 : decode prog_15_method_72_code 490 = .ok (.iload_n 3, 1) := by decide +kernel
theorem d_GM_evaluate_491 : decode prog_15_method_72_code 491 = .ok (.iaload, 1) := by decide +kernel
theorem d_GM_evaluate_492 : decode prog_15_method_72_code 492 = .ok (.invokevirtual 493, 3) := by decide +kernel
theorem d_GM_evaluate_495 : decode prog_15_method_72_code 495 = .ok (.aload_n 0, 1) := by decide +kernel
theorem d_GM_evaluate_496 : decode prog_15_method_72_code 496 = .ok (.getfield 144, 3) := by decide +kernel
theorem d_GM_evaluate_499 : decode prog_15_method_72_code 499 = .ok (.iload_n 3, 1) := by decide +kernel
theorem d_GM_evaluate_500 : decode prog_15_method_72_code 500 = .ok (.iconst 1, 1) := by decide +kernel
theorem d_GM_evaluate_501 : decode prog_15_method_72_code 501 = .ok (.bastore, 1) := by decide +kernel
theorem d_GM_evaluate_502 : decode prog_15_method_72_code 502 = .ok (.iconst 1, 1) := by decide +kernel
theorem d_GM_evaluate_503 : decode prog_15_method_72_code 503 = .ok (.istore_n 2, 1) := by decide +kernel
theorem d_GM_evaluate_482 : decode prog_15_method_72_code 482 = .ok (.goto 22, 3) := by decide +kernel
set_option maxHeartbeats 4000000 in
theorem w_GM_evaluate_0 {l : Launch} {G : gG} {d : Nat} {X : gX} {M : gM} {k : gM → Prop} {o : Nat} (hX : gmX X o) {x1 : Int} (hx1 : g32 x1) (T : wp l G y_GM_evaluate (gRm (d + 1)) true (kkV X k) true 12 [.val (gR G o), .val (gI x1), .val (gI 0), .unset, .unset] [] X (gUp (gUp M o 51 x1) o 66 0) 0 0) : wp l G y_GM_evaluate (gRm (d + 1)) true (kkV X k) false 0 [.val (gR G o), .val (gI x1), .unset, .unset, .unset] [] X M 0 0 := by
  refine wp_aload_n d_GM_evaluate_0 rfl rfl (g_nz hX.1) ?_
  refine wp_iload_n d_GM_evaluate_1 rfl rfl ?_
  refine xputI d_GM_evaluate_2 gc_GM f_GM_368.1 f_GM_368.2.1 f_GM_368.2.2.1 hX.1 (gm_o2 hX) hX.2.2.1 f_GM_368.2.2.2.1 f_GM_368.2.2.2.2.1 f_GM_368.2.2.2.2.2 (w32_id hx1) ?_
  refine wp_aload_n d_GM_evaluate_5 rfl rfl (g_nz hX.1) ?_
  refine wp_iconst d_GM_evaluate_6 ?_
  refine xputI d_GM_evaluate_7 gc_GM f_GM_476.1 f_GM_476.2.1 f_GM_476.2.2.1 hX.1 (gm_o2 hX) hX.2.2.1 f_GM_476.2.2.2.1 f_GM_476.2.2.2.2.1 f_GM_476.2.2.2.2.2 (w32_id (g32_c (x := 0) rfl)) ?_
  refine wp_iconst d_GM_evaluate_10 ?_
  refine wp_istore_n (L' := [.val (gR G o), .val (gI x1), .val (gI 0), .unset, .unset]) d_GM_evaluate_11 rfl (by decide) rfl ?_
  exact wp_md (wpt T (And.intro rfl (And.intro rfl (And.intro rfl True.intro))))
set_option maxHeartbeats 4000000 in
theorem w_GM_evaluate_12 {l : Launch} {G : gG} {d : Nat} {X : gX} {M : gM} {k : gM → Prop} {o : Nat} (hX : gmX X o) {x1 : Int} (hx1 : g32 x1) {x2 : Int} (hx2 : g32 x2) (T : (5200 ≤ x2 → (wp l G y_GM_evaluate (gRm (d + 1)) true (kkV X k) true 213 [.val (gR G o), .unset, .val (gI 0), .unset, .unset] [] X M 0 0)) ∧ (¬ 5200 ≤ x2 → (((0 : Int) ≤ x2 ∧ x2 < 5200) ∧ (((0 : Int) ≤ (x1 * 5200) + x2 ∧ (x1 * 5200) + x2 < 218400) ∧ (g32 ((gUp M (o + 41) (Int.toNat x2) (-1)) (o + 19) (Int.toNat ((x1 * 5200) + x2))) → ((¬ (gUp M (o + 41) (Int.toNat x2) (-1)) (o + 19) (Int.toNat ((x1 * 5200) + x2)) = 3 → (((0 : Int) ≤ (x1 * 5200) + x2 ∧ (x1 * 5200) + x2 < 218400) ∧ (g32 ((gUp M (o + 41) (Int.toNat x2) (-1)) (o + 19) (Int.toNat ((x1 * 5200) + x2))) → (((0 : Int) ≤ x2 ∧ x2 < 5200) ∧ (((0 : Int) ≤ (x1 * 5200) + x2 ∧ (x1 * 5200) + x2 < 218400) ∧ (g32 ((gUp (gUp M (o + 41) (Int.toNat x2) (-1)) (o + 26) (Int.toNat x2) ((gUp M (o + 41) (Int.toNat x2) (-1)) (o + 19) (Int.toNat ((x1 * 5200) + x2)))) (o + 19) (Int.toNat ((x1 * 5200) + x2))) → ((¬ (gUp (gUp M (o + 41) (Int.toNat x2) (-1)) (o + 26) (Int.toNat x2) ((gUp M (o + 41) (Int.toNat x2) (-1)) (o + 19) (Int.toNat ((x1 * 5200) + x2)))) (o + 19) (Int.toNat ((x1 * 5200) + x2)) = 1 → (((0 : Int) ≤ x2 ∧ x2 < 5200) ∧ (((0 : Int) ≤ (x1 * 5200) + x2 ∧ (x1 * 5200) + x2 < 218400) ∧ (g32 ((gUp (gUp (gUp M (o + 41) (Int.toNat x2) (-1)) (o + 26) (Int.toNat x2) ((gUp M (o + 41) (Int.toNat x2) (-1)) (o + 19) (Int.toNat ((x1 * 5200) + x2)))) (o + 30) (Int.toNat x2) 0) (o + 19) (Int.toNat ((x1 * 5200) + x2))) → ((¬ (gUp (gUp (gUp M (o + 41) (Int.toNat x2) (-1)) (o + 26) (Int.toNat x2) ((gUp M (o + 41) (Int.toNat x2) (-1)) (o + 19) (Int.toNat ((x1 * 5200) + x2)))) (o + 30) (Int.toNat x2) 0) (o + 19) (Int.toNat ((x1 * 5200) + x2)) = 2 → (((0 : Int) ≤ x2 ∧ x2 < 5200) ∧ (wp l G y_GM_evaluate (gRm (d + 1)) true (kkV X k) true 122 [.val (gR G o), .val (gI x1), .val (gI x2), .val (gI (w32 ((x1 * 5200) + x2))), .val (gI 0)] [] X (gUp (gUp (gUp (gUp M (o + 41) (Int.toNat x2) (-1)) (o + 26) (Int.toNat x2) ((gUp M (o + 41) (Int.toNat x2) (-1)) (o + 19) (Int.toNat ((x1 * 5200) + x2)))) (o + 30) (Int.toNat x2) 0) (o + 27) (Int.toNat x2) 0) 0 0))) ∧ ((gUp (gUp (gUp M (o + 41) (Int.toNat x2) (-1)) (o + 26) (Int.toNat x2) ((gUp M (o + 41) (Int.toNat x2) (-1)) (o + 19) (Int.toNat ((x1 * 5200) + x2)))) (o + 30) (Int.toNat x2) 0) (o + 19) (Int.toNat ((x1 * 5200) + x2)) = 2 → (((0 : Int) ≤ (x1 * 5200) + x2 ∧ (x1 * 5200) + x2 < 218400) ∧ (g32 ((gUp (gUp (gUp M (o + 41) (Int.toNat x2) (-1)) (o + 26) (Int.toNat x2) ((gUp M (o + 41) (Int.toNat x2) (-1)) (o + 19) (Int.toNat ((x1 * 5200) + x2)))) (o + 30) (Int.toNat x2) 0) (o + 21) (Int.toNat ((x1 * 5200) + x2))) → (((0 : Int) ≤ (x1 * 5200) + x2 ∧ (x1 * 5200) + x2 < 218400) ∧ (g32 ((gUp (gUp (gUp M (o + 41) (Int.toNat x2) (-1)) (o + 26) (Int.toNat x2) ((gUp M (o + 41) (Int.toNat x2) (-1)) (o + 19) (Int.toNat ((x1 * 5200) + x2)))) (o + 30) (Int.toNat x2) 0) (o + 20) (Int.toNat ((x1 * 5200) + x2))) → (((0 : Int) ≤ x2 ∧ x2 < 5200) ∧ (wp l G y_GM_evaluate (gRm (d + 1)) true (kkV X k) true 122 [.val (gR G o), .val (gI x1), .val (gI x2), .val (gI (w32 ((x1 * 5200) + x2))), .val (gI 0)] [] X (gUp (gUp (gUp (gUp M (o + 41) (Int.toNat x2) (-1)) (o + 26) (Int.toNat x2) ((gUp M (o + 41) (Int.toNat x2) (-1)) (o + 19) (Int.toNat ((x1 * 5200) + x2)))) (o + 30) (Int.toNat x2) 0) (o + 27) (Int.toNat x2) (w32 (((gUp (gUp (gUp M (o + 41) (Int.toNat x2) (-1)) (o + 26) (Int.toNat x2) ((gUp M (o + 41) (Int.toNat x2) (-1)) (o + 19) (Int.toNat ((x1 * 5200) + x2)))) (o + 30) (Int.toNat x2) 0) (o + 21) (Int.toNat ((x1 * 5200) + x2))) - ((gUp (gUp (gUp M (o + 41) (Int.toNat x2) (-1)) (o + 26) (Int.toNat x2) ((gUp M (o + 41) (Int.toNat x2) (-1)) (o + 19) (Int.toNat ((x1 * 5200) + x2)))) (o + 30) (Int.toNat x2) 0) (o + 20) (Int.toNat ((x1 * 5200) + x2)))))) 0 0)))))))))))) ∧ ((gUp (gUp M (o + 41) (Int.toNat x2) (-1)) (o + 26) (Int.toNat x2) ((gUp M (o + 41) (Int.toNat x2) (-1)) (o + 19) (Int.toNat ((x1 * 5200) + x2)))) (o + 19) (Int.toNat ((x1 * 5200) + x2)) = 1 → (((0 : Int) ≤ (x1 * 5200) + x2 ∧ (x1 * 5200) + x2 < 218400) ∧ (g64 ((gUp (gUp M (o + 41) (Int.toNat x2) (-1)) (o + 26) (Int.toNat x2) ((gUp M (o + 41) (Int.toNat x2) (-1)) (o + 19) (Int.toNat ((x1 * 5200) + x2)))) (o + 23) (Int.toNat ((x1 * 5200) + x2))) → (((0 : Int) ≤ x2 ∧ x2 < 5200) ∧ (((0 : Int) ≤ (x1 * 5200) + x2 ∧ (x1 * 5200) + x2 < 218400) ∧ (g32 ((gUp (gUp (gUp M (o + 41) (Int.toNat x2) (-1)) (o + 26) (Int.toNat x2) ((gUp M (o + 41) (Int.toNat x2) (-1)) (o + 19) (Int.toNat ((x1 * 5200) + x2)))) (o + 30) (Int.toNat x2) ((gUp (gUp M (o + 41) (Int.toNat x2) (-1)) (o + 26) (Int.toNat x2) ((gUp M (o + 41) (Int.toNat x2) (-1)) (o + 19) (Int.toNat ((x1 * 5200) + x2)))) (o + 23) (Int.toNat ((x1 * 5200) + x2)))) (o + 19) (Int.toNat ((x1 * 5200) + x2))) → ((¬ (gUp (gUp (gUp M (o + 41) (Int.toNat x2) (-1)) (o + 26) (Int.toNat x2) ((gUp M (o + 41) (Int.toNat x2) (-1)) (o + 19) (Int.toNat ((x1 * 5200) + x2)))) (o + 30) (Int.toNat x2) ((gUp (gUp M (o + 41) (Int.toNat x2) (-1)) (o + 26) (Int.toNat x2) ((gUp M (o + 41) (Int.toNat x2) (-1)) (o + 19) (Int.toNat ((x1 * 5200) + x2)))) (o + 23) (Int.toNat ((x1 * 5200) + x2)))) (o + 19) (Int.toNat ((x1 * 5200) + x2)) = 2 → (((0 : Int) ≤ x2 ∧ x2 < 5200) ∧ (wp l G y_GM_evaluate (gRm (d + 1)) true (kkV X k) true 122 [.val (gR G o), .val (gI x1), .val (gI x2), .val (gI (w32 ((x1 * 5200) + x2))), .val (gI 0)] [] X (gUp (gUp (gUp (gUp M (o + 41) (Int.toNat x2) (-1)) (o + 26) (Int.toNat x2) ((gUp M (o + 41) (Int.toNat x2) (-1)) (o + 19) (Int.toNat ((x1 * 5200) + x2)))) (o + 30) (Int.toNat x2) ((gUp (gUp M (o + 41) (Int.toNat x2) (-1)) (o + 26) (Int.toNat x2) ((gUp M (o + 41) (Int.toNat x2) (-1)) (o + 19) (Int.toNat ((x1 * 5200) + x2)))) (o + 23) (Int.toNat ((x1 * 5200) + x2)))) (o + 27) (Int.toNat x2) 0) 0 0))) ∧ ((gUp (gUp (gUp M (o + 41) (Int.toNat x2) (-1)) (o + 26) (Int.toNat x2) ((gUp M (o + 41) (Int.toNat x2) (-1)) (o + 19) (Int.toNat ((x1 * 5200) + x2)))) (o + 30) (Int.toNat x2) ((gUp (gUp M (o + 41) (Int.toNat x2) (-1)) (o + 26) (Int.toNat x2) ((gUp M (o + 41) (Int.toNat x2) (-1)) (o + 19) (Int.toNat ((x1 * 5200) + x2)))) (o + 23) (Int.toNat ((x1 * 5200) + x2)))) (o + 19) (Int.toNat ((x1 * 5200) + x2)) = 2 → (((0 : Int) ≤ (x1 * 5200) + x2 ∧ (x1 * 5200) + x2 < 218400) ∧ (g32 ((gUp (gUp (gUp M (o + 41) (Int.toNat x2) (-1)) (o + 26) (Int.toNat x2) ((gUp M (o + 41) (Int.toNat x2) (-1)) (o + 19) (Int.toNat ((x1 * 5200) + x2)))) (o + 30) (Int.toNat x2) ((gUp (gUp M (o + 41) (Int.toNat x2) (-1)) (o + 26) (Int.toNat x2) ((gUp M (o + 41) (Int.toNat x2) (-1)) (o + 19) (Int.toNat ((x1 * 5200) + x2)))) (o + 23) (Int.toNat ((x1 * 5200) + x2)))) (o + 21) (Int.toNat ((x1 * 5200) + x2))) → (((0 : Int) ≤ (x1 * 5200) + x2 ∧ (x1 * 5200) + x2 < 218400) ∧ (g32 ((gUp (gUp (gUp M (o + 41) (Int.toNat x2) (-1)) (o + 26) (Int.toNat x2) ((gUp M (o + 41) (Int.toNat x2) (-1)) (o + 19) (Int.toNat ((x1 * 5200) + x2)))) (o + 30) (Int.toNat x2) ((gUp (gUp M (o + 41) (Int.toNat x2) (-1)) (o + 26) (Int.toNat x2) ((gUp M (o + 41) (Int.toNat x2) (-1)) (o + 19) (Int.toNat ((x1 * 5200) + x2)))) (o + 23) (Int.toNat ((x1 * 5200) + x2)))) (o + 20) (Int.toNat ((x1 * 5200) + x2))) → (((0 : Int) ≤ x2 ∧ x2 < 5200) ∧ (wp l G y_GM_evaluate (gRm (d + 1)) true (kkV X k) true 122 [.val (gR G o), .val (gI x1), .val (gI x2), .val (gI (w32 ((x1 * 5200) + x2))), .val (gI 0)] [] X (gUp (gUp (gUp (gUp M (o + 41) (Int.toNat x2) (-1)) (o + 26) (Int.toNat x2) ((gUp M (o + 41) (Int.toNat x2) (-1)) (o + 19) (Int.toNat ((x1 * 5200) + x2)))) (o + 30) (Int.toNat x2) ((gUp (gUp M (o + 41) (Int.toNat x2) (-1)) (o + 26) (Int.toNat x2) ((gUp M (o + 41) (Int.toNat x2) (-1)) (o + 19) (Int.toNat ((x1 * 5200) + x2)))) (o + 23) (Int.toNat ((x1 * 5200) + x2)))) (o + 27) (Int.toNat x2) (w32 (((gUp (gUp (gUp M (o + 41) (Int.toNat x2) (-1)) (o + 26) (Int.toNat x2) ((gUp M (o + 41) (Int.toNat x2) (-1)) (o + 19) (Int.toNat ((x1 * 5200) + x2)))) (o + 30) (Int.toNat x2) ((gUp (gUp M (o + 41) (Int.toNat x2) (-1)) (o + 26) (Int.toNat x2) ((gUp M (o + 41) (Int.toNat x2) (-1)) (o + 19) (Int.toNat ((x1 * 5200) + x2)))) (o + 23) (Int.toNat ((x1 * 5200) + x2)))) (o + 21) (Int.toNat ((x1 * 5200) + x2))) - ((gUp (gUp (gUp M (o + 41) (Int.toNat x2) (-1)) (o + 26) (Int.toNat x2) ((gUp M (o + 41) (Int.toNat x2) (-1)) (o + 19) (Int.toNat ((x1 * 5200) + x2)))) (o + 30) (Int.toNat x2) ((gUp (gUp M (o + 41) (Int.toNat x2) (-1)) (o + 26) (Int.toNat x2) ((gUp M (o + 41) (Int.toNat x2) (-1)) (o + 19) (Int.toNat ((x1 * 5200) + x2)))) (o + 23) (Int.toNat ((x1 * 5200) + x2)))) (o + 20) (Int.toNat ((x1 * 5200) + x2)))))) 0 0))))))))))))))))))))) ∧ ((gUp M (o + 41) (Int.toNat x2) (-1)) (o + 19) (Int.toNat ((x1 * 5200) + x2)) = 3 → (((0 : Int) ≤ x2 ∧ x2 < 5200) ∧ (((0 : Int) ≤ (x1 * 5200) + x2 ∧ (x1 * 5200) + x2 < 218400) ∧ (g32 ((gUp (gUp M (o + 41) (Int.toNat x2) (-1)) (o + 26) (Int.toNat x2) 0) (o + 19) (Int.toNat ((x1 * 5200) + x2))) → ((¬ (gUp (gUp M (o + 41) (Int.toNat x2) (-1)) (o + 26) (Int.toNat x2) 0) (o + 19) (Int.toNat ((x1 * 5200) + x2)) = 1 → (((0 : Int) ≤ x2 ∧ x2 < 5200) ∧ (((0 : Int) ≤ (x1 * 5200) + x2 ∧ (x1 * 5200) + x2 < 218400) ∧ (g32 ((gUp (gUp (gUp M (o + 41) (Int.toNat x2) (-1)) (o + 26) (Int.toNat x2) 0) (o + 30) (Int.toNat x2) 0) (o + 19) (Int.toNat ((x1 * 5200) + x2))) → ((¬ (gUp (gUp (gUp M (o + 41) (Int.toNat x2) (-1)) (o + 26) (Int.toNat x2) 0) (o + 30) (Int.toNat x2) 0) (o + 19) (Int.toNat ((x1 * 5200) + x2)) = 2 → (((0 : Int) ≤ x2 ∧ x2 < 5200) ∧ (wp l G y_GM_evaluate (gRm (d + 1)) true (kkV X k) true 122 [.val (gR G o), .val (gI x1), .val (gI x2), .val (gI (w32 ((x1 * 5200) + x2))), .val (gI 0)] [] X (gUp (gUp (gUp (gUp M (o + 41) (Int.toNat x2) (-1)) (o + 26) (Int.toNat x2) 0) (o + 30) (Int.toNat x2) 0) (o + 27) (Int.toNat x2) 0) 0 0))) ∧ ((gUp (gUp (gUp M (o + 41) (Int.toNat x2) (-1)) (o + 26) (Int.toNat x2) 0) (o + 30) (Int.toNat x2) 0) (o + 19) (Int.toNat ((x1 * 5200) + x2)) = 2 → (((0 : Int) ≤ (x1 * 5200) + x2 ∧ (x1 * 5200) + x2 < 218400) ∧ (g32 ((gUp (gUp (gUp M (o + 41) (Int.toNat x2) (-1)) (o + 26) (Int.toNat x2) 0) (o + 30) (Int.toNat x2) 0) (o + 21) (Int.toNat ((x1 * 5200) + x2))) → (((0 : Int) ≤ (x1 * 5200) + x2 ∧ (x1 * 5200) + x2 < 218400) ∧ (g32 ((gUp (gUp (gUp M (o + 41) (Int.toNat x2) (-1)) (o + 26) (Int.toNat x2) 0) (o + 30) (Int.toNat x2) 0) (o + 20) (Int.toNat ((x1 * 5200) + x2))) → (((0 : Int) ≤ x2 ∧ x2 < 5200) ∧ (wp l G y_GM_evaluate (gRm (d + 1)) true (kkV X k) true 122 [.val (gR G o), .val (gI x1), .val (gI x2), .val (gI (w32 ((x1 * 5200) + x2))), .val (gI 0)] [] X (gUp (gUp (gUp (gUp M (o + 41) (Int.toNat x2) (-1)) (o + 26) (Int.toNat x2) 0) (o + 30) (Int.toNat x2) 0) (o + 27) (Int.toNat x2) (w32 (((gUp (gUp (gUp M (o + 41) (Int.toNat x2) (-1)) (o + 26) (Int.toNat x2) 0) (o + 30) (Int.toNat x2) 0) (o + 21) (Int.toNat ((x1 * 5200) + x2))) - ((gUp (gUp (gUp M (o + 41) (Int.toNat x2) (-1)) (o + 26) (Int.toNat x2) 0) (o + 30) (Int.toNat x2) 0) (o + 20) (Int.toNat ((x1 * 5200) + x2)))))) 0 0)))))))))))) ∧ ((gUp (gUp M (o + 41) (Int.toNat x2) (-1)) (o + 26) (Int.toNat x2) 0) (o + 19) (Int.toNat ((x1 * 5200) + x2)) = 1 → (((0 : Int) ≤ (x1 * 5200) + x2 ∧ (x1 * 5200) + x2 < 218400) ∧ (g64 ((gUp (gUp M (o + 41) (Int.toNat x2) (-1)) (o + 26) (Int.toNat x2) 0) (o + 23) (Int.toNat ((x1 * 5200) + x2))) → (((0 : Int) ≤ x2 ∧ x2 < 5200) ∧ (((0 : Int) ≤ (x1 * 5200) + x2 ∧ (x1 * 5200) + x2 < 218400) ∧ (g32 ((gUp (gUp (gUp M (o + 41) (Int.toNat x2) (-1)) (o + 26) (Int.toNat x2) 0) (o + 30) (Int.toNat x2) ((gUp (gUp M (o + 41) (Int.toNat x2) (-1)) (o + 26) (Int.toNat x2) 0) (o + 23) (Int.toNat ((x1 * 5200) + x2)))) (o + 19) (Int.toNat ((x1 * 5200) + x2))) → ((¬ (gUp (gUp (gUp M (o + 41) (Int.toNat x2) (-1)) (o + 26) (Int.toNat x2) 0) (o + 30) (Int.toNat x2) ((gUp (gUp M (o + 41) (Int.toNat x2) (-1)) (o + 26) (Int.toNat x2) 0) (o + 23) (Int.toNat ((x1 * 5200) + x2)))) (o + 19) (Int.toNat ((x1 * 5200) + x2)) = 2 → (((0 : Int) ≤ x2 ∧ x2 < 5200) ∧ (wp l G y_GM_evaluate (gRm (d + 1)) true (kkV X k) true 122 [.val (gR G o), .val (gI x1), .val (gI x2), .val (gI (w32 ((x1 * 5200) + x2))), .val (gI 0)] [] X (gUp (gUp (gUp (gUp M (o + 41) (Int.toNat x2) (-1)) (o + 26) (Int.toNat x2) 0) (o + 30) (Int.toNat x2) ((gUp (gUp M (o + 41) (Int.toNat x2) (-1)) (o + 26) (Int.toNat x2) 0) (o + 23) (Int.toNat ((x1 * 5200) + x2)))) (o + 27) (Int.toNat x2) 0) 0 0))) ∧ ((gUp (gUp (gUp M (o + 41) (Int.toNat x2) (-1)) (o + 26) (Int.toNat x2) 0) (o + 30) (Int.toNat x2) ((gUp (gUp M (o + 41) (Int.toNat x2) (-1)) (o + 26) (Int.toNat x2) 0) (o + 23) (Int.toNat ((x1 * 5200) + x2)))) (o + 19) (Int.toNat ((x1 * 5200) + x2)) = 2 → (((0 : Int) ≤ (x1 * 5200) + x2 ∧ (x1 * 5200) + x2 < 218400) ∧ (g32 ((gUp (gUp (gUp M (o + 41) (Int.toNat x2) (-1)) (o + 26) (Int.toNat x2) 0) (o + 30) (Int.toNat x2) ((gUp (gUp M (o + 41) (Int.toNat x2) (-1)) (o + 26) (Int.toNat x2) 0) (o + 23) (Int.toNat ((x1 * 5200) + x2)))) (o + 21) (Int.toNat ((x1 * 5200) + x2))) → (((0 : Int) ≤ (x1 * 5200) + x2 ∧ (x1 * 5200) + x2 < 218400) ∧ (g32 ((gUp (gUp (gUp M (o + 41) (Int.toNat x2) (-1)) (o + 26) (Int.toNat x2) 0) (o + 30) (Int.toNat x2) ((gUp (gUp M (o + 41) (Int.toNat x2) (-1)) (o + 26) (Int.toNat x2) 0) (o + 23) (Int.toNat ((x1 * 5200) + x2)))) (o + 20) (Int.toNat ((x1 * 5200) + x2))) → (((0 : Int) ≤ x2 ∧ x2 < 5200) ∧ (wp l G y_GM_evaluate (gRm (d + 1)) true (kkV X k) true 122 [.val (gR G o), .val (gI x1), .val (gI x2), .val (gI (w32 ((x1 * 5200) + x2))), .val (gI 0)] [] X (gUp (gUp (gUp (gUp M (o + 41) (Int.toNat x2) (-1)) (o + 26) (Int.toNat x2) 0) (o + 30) (Int.toNat x2) ((gUp (gUp M (o + 41) (Int.toNat x2) (-1)) (o + 26) (Int.toNat x2) 0) (o + 23) (Int.toNat ((x1 * 5200) + x2)))) (o + 27) (Int.toNat x2) (w32 (((gUp (gUp (gUp M (o + 41) (Int.toNat x2) (-1)) (o + 26) (Int.toNat x2) 0) (o + 30) (Int.toNat x2) ((gUp (gUp M (o + 41) (Int.toNat x2) (-1)) (o + 26) (Int.toNat x2) 0) (o + 23) (Int.toNat ((x1 * 5200) + x2)))) (o + 21) (Int.toNat ((x1 * 5200) + x2))) - ((gUp (gUp (gUp M (o + 41) (Int.toNat x2) (-1)) (o + 26) (Int.toNat x2) 0) (o + 30) (Int.toNat x2) ((gUp (gUp M (o + 41) (Int.toNat x2) (-1)) (o + 26) (Int.toNat x2) 0) (o + 23) (Int.toNat ((x1 * 5200) + x2)))) (o + 20) (Int.toNat ((x1 * 5200) + x2)))))) 0 0))))))))))))))))))))))))) : wp l G y_GM_evaluate (gRm (d + 1)) true (kkV X k) true 12 [.val (gR G o), .val (gI x1), .val (gI x2), .unset, .unset] [] X M 0 0 := by
  refine wp_iload_n d_GM_evaluate_12 rfl rfl ?_
  refine wp_sipush d_GM_evaluate_13 ⟨by decide, by decide⟩ ?_
  refine xi_ge (tgt := 211) d_GM_evaluate_16 (by decide) (w32_id hx2) (w32_id (g32_c (x := 5200) rfl)) (fun h26 => ?_) (fun h26 => ?_)
  · have T := T.1 h26
    refine wp_iconst d_GM_evaluate_211 ?_
    refine wp_istore_n (L' := [.val (gR G o), .val (gI x1), .val (gI 0), .unset, .unset]) d_GM_evaluate_212 rfl (by decide) rfl ?_
    exact wp_md (wpt T (And.intro rfl (And.intro rfl True.intro)))
  · have T := T.2 h26
    refine wp_iload_n d_GM_evaluate_19 rfl rfl ?_
    refine wp_sipush d_GM_evaluate_20 ⟨by decide, by decide⟩ ?_
    refine wp_imul d_GM_evaluate_23 ?_
    refine wp_iload_n d_GM_evaluate_24 rfl rfl ?_
    refine wp_iadd d_GM_evaluate_25 ?_
    refine wp_istore_n (L' := [.val (gR G o), .val (gI x1), .val (gI x2), .val (gI ((x1 * 5200) + x2)), .unset]) d_GM_evaluate_26 rfl (by decide) rfl ?_
    refine wp_aload_n d_GM_evaluate_27 rfl rfl (g_nz hX.1) ?_
    refine xgetR d_GM_evaluate_28 gc_GM f_GM_138.1 f_GM_138.2.1 f_GM_138.2.2.1 hX.1 (gm_o2 hX) hX.2.2.1 f_GM_138.2.2.2.2.1 (gm_row hX 40 rfl).1 ?_
    refine wp_iload_n d_GM_evaluate_31 rfl rfl ?_
    refine wp_iconst d_GM_evaluate_32 ?_
    refine xiast d_GM_evaluate_33 (gm_row hX 40 rfl).2.2.1 (gm_row hX 40 rfl).2.2.2 (gm_row hX 40 rfl).2.1 (by decide) T.1 (w32_id (g32_c (x := (-1)) rfl)) ?_
    have T := T.2
    refine wp_aload_n d_GM_evaluate_34 rfl rfl (g_nz hX.1) ?_
    refine xgetR d_GM_evaluate_35 gc_GM f_GM_91.1 f_GM_91.2.1 f_GM_91.2.2.1 hX.1 (gm_o2 hX) hX.2.2.1 f_GM_91.2.2.2.2.1 (gm_row hX 25 rfl).1 ?_
    refine wp_iload_n d_GM_evaluate_38 rfl rfl ?_
    refine wp_aload_n d_GM_evaluate_39 rfl rfl (g_nz hX.1) ?_
    refine xgetR d_GM_evaluate_40 gc_GM f_GM_69.1 f_GM_69.2.1 f_GM_69.2.2.1 hX.1 (gm_o2 hX) hX.2.2.1 f_GM_69.2.2.2.2.1 (gm_row hX 18 rfl).1 ?_
    refine wp_iload_n d_GM_evaluate_43 rfl rfl ?_
    refine wp_iaload d_GM_evaluate_44 (gm_row hX 18 rfl).2.2.1 (gm_row hX 18 rfl).2.2.2 (gm_row hX 18 rfl).2.1 (g32_n T.1 (by decide)) T.1.1 T.1.2 (fun h1 => ?_)
    have T := T.2 h1
    refine wp_iconst d_GM_evaluate_45 ?_
    refine xi_ne (tgt := 53) d_GM_evaluate_46 (by decide) (w32_id h1) (w32_id (g32_c (x := 3) rfl)) (fun h25 => ?_) (fun h25 => ?_)
    · have T := T.1 h25
      refine wp_aload_n d_GM_evaluate_53 rfl rfl (g_nz hX.1) ?_
      refine xgetR d_GM_evaluate_54 gc_GM f_GM_69.1 f_GM_69.2.1 f_GM_69.2.2.1 hX.1 (gm_o2 hX) hX.2.2.1 f_GM_69.2.2.2.2.1 (gm_row hX 18 rfl).1 ?_
      refine wp_iload_n d_GM_evaluate_57 rfl rfl ?_
      refine wp_iaload d_GM_evaluate_58 (gm_row hX 18 rfl).2.2.1 (gm_row hX 18 rfl).2.2.2 (gm_row hX 18 rfl).2.1 (g32_n T.1 (by decide)) T.1.1 T.1.2 (fun h2 => ?_)
      have T := T.2 h2
      refine xiast d_GM_evaluate_59 (gm_row hX 25 rfl).2.2.1 (gm_row hX 25 rfl).2.2.2 (gm_row hX 25 rfl).2.1 (by decide) T.1 (w32_id h2) ?_
      have T := T.2
      refine wp_aload_n d_GM_evaluate_60 rfl rfl (g_nz hX.1) ?_
      refine xgetR d_GM_evaluate_61 gc_GM f_GM_103.1 f_GM_103.2.1 f_GM_103.2.2.1 hX.1 (gm_o2 hX) hX.2.2.1 f_GM_103.2.2.2.2.1 (gm_row hX 29 rfl).1 ?_
      refine wp_iload_n d_GM_evaluate_64 rfl rfl ?_
      refine wp_aload_n d_GM_evaluate_65 rfl rfl (g_nz hX.1) ?_
      refine xgetR d_GM_evaluate_66 gc_GM f_GM_69.1 f_GM_69.2.1 f_GM_69.2.2.1 hX.1 (gm_o2 hX) hX.2.2.1 f_GM_69.2.2.2.2.1 (gm_row hX 18 rfl).1 ?_
      refine wp_iload_n d_GM_evaluate_69 rfl rfl ?_
      refine wp_iaload d_GM_evaluate_70 (gm_row hX 18 rfl).2.2.1 (gm_row hX 18 rfl).2.2.2 (gm_row hX 18 rfl).2.1 (g32_n T.1 (by decide)) T.1.1 T.1.2 (fun h3 => ?_)
      have T := T.2 h3
      refine wp_iconst d_GM_evaluate_71 ?_
      refine xi_ne (tgt := 84) d_GM_evaluate_72 (by decide) (w32_id h3) (w32_id (g32_c (x := 1) rfl)) (fun h13 => ?_) (fun h13 => ?_)
      · have T := T.1 h13
        refine wp_lconst0 d_GM_evaluate_84 ?_
        refine xlast d_GM_evaluate_85 (gm_row hX 29 rfl).2.2.1 (gm_row hX 29 rfl).2.2.2 (gm_row hX 29 rfl).2.1 (by decide) T.1 (w64_id (g64_c (x := 0) rfl)) ?_
        have T := T.2
        refine wp_aload_n d_GM_evaluate_86 rfl rfl (g_nz hX.1) ?_
        refine xgetR d_GM_evaluate_87 gc_GM f_GM_94.1 f_GM_94.2.1 f_GM_94.2.2.1 hX.1 (gm_o2 hX) hX.2.2.1 f_GM_94.2.2.2.2.1 (gm_row hX 26 rfl).1 ?_
        refine wp_iload_n d_GM_evaluate_90 rfl rfl ?_
        refine wp_aload_n d_GM_evaluate_91 rfl rfl (g_nz hX.1) ?_
        refine xgetR d_GM_evaluate_92 gc_GM f_GM_69.1 f_GM_69.2.1 f_GM_69.2.2.1 hX.1 (gm_o2 hX) hX.2.2.1 f_GM_69.2.2.2.2.1 (gm_row hX 18 rfl).1 ?_
        refine wp_iload_n d_GM_evaluate_95 rfl rfl ?_
        refine wp_iaload d_GM_evaluate_96 (gm_row hX 18 rfl).2.2.1 (gm_row hX 18 rfl).2.2.2 (gm_row hX 18 rfl).2.1 (g32_n T.1 (by decide)) T.1.1 T.1.2 (fun h4 => ?_)
        have T := T.2 h4
        refine wp_iconst d_GM_evaluate_97 ?_
        refine xi_ne (tgt := 117) d_GM_evaluate_98 (by decide) (w32_id h4) (w32_id (g32_c (x := 2) rfl)) (fun h7 => ?_) (fun h7 => ?_)
        · have T := T.1 h7
          refine wp_iconst d_GM_evaluate_117 ?_
          refine xiast d_GM_evaluate_118 (gm_row hX 26 rfl).2.2.1 (gm_row hX 26 rfl).2.2.2 (gm_row hX 26 rfl).2.1 (by decide) T.1 (w32_id (g32_c (x := 0) rfl)) ?_
          have T := T.2
          refine wp_iconst d_GM_evaluate_119 ?_
          refine wp_istore (L' := [.val (gR G o), .val (gI x1), .val (gI x2), .val (gI ((x1 * 5200) + x2)), .val (gI 0)]) d_GM_evaluate_120 (by decide) rfl ?_
          exact wp_md (wpt T (And.intro rfl (And.intro rfl (And.intro rfl (And.intro (gI_w _) (And.intro rfl True.intro))))))
        · have T := T.2 h7
          refine wp_aload_n d_GM_evaluate_101 rfl rfl (g_nz hX.1) ?_
          refine xgetR d_GM_evaluate_102 gc_GM f_GM_75.1 f_GM_75.2.1 f_GM_75.2.2.1 hX.1 (gm_o2 hX) hX.2.2.1 f_GM_75.2.2.2.2.1 (gm_row hX 20 rfl).1 ?_
          refine wp_iload_n d_GM_evaluate_105 rfl rfl ?_
          refine wp_iaload d_GM_evaluate_106 (gm_row hX 20 rfl).2.2.1 (gm_row hX 20 rfl).2.2.2 (gm_row hX 20 rfl).2.1 (g32_n T.1 (by decide)) T.1.1 T.1.2 (fun h5 => ?_)
          have T := T.2 h5
          refine wp_aload_n d_GM_evaluate_107 rfl rfl (g_nz hX.1) ?_
          refine xgetR d_GM_evaluate_108 gc_GM f_GM_72.1 f_GM_72.2.1 f_GM_72.2.2.1 hX.1 (gm_o2 hX) hX.2.2.1 f_GM_72.2.2.2.2.1 (gm_row hX 19 rfl).1 ?_
          refine wp_iload_n d_GM_evaluate_111 rfl rfl ?_
          refine wp_iaload d_GM_evaluate_112 (gm_row hX 19 rfl).2.2.1 (gm_row hX 19 rfl).2.2.2 (gm_row hX 19 rfl).2.1 (g32_n T.1 (by decide)) T.1.1 T.1.2 (fun h6 => ?_)
          have T := T.2 h6
          refine wp_isub d_GM_evaluate_113 ?_
          refine wp_goto (tgt := 118) d_GM_evaluate_114 (by decide) ?_
          refine xiast d_GM_evaluate_118 (gm_row hX 26 rfl).2.2.1 (gm_row hX 26 rfl).2.2.2 (gm_row hX 26 rfl).2.1 (by decide) T.1 rfl ?_
          have T := T.2
          refine wp_iconst d_GM_evaluate_119 ?_
          refine wp_istore (L' := [.val (gR G o), .val (gI x1), .val (gI x2), .val (gI ((x1 * 5200) + x2)), .val (gI 0)]) d_GM_evaluate_120 (by decide) rfl ?_
          exact wp_md (wpt T (And.intro rfl (And.intro rfl (And.intro rfl (And.intro (gI_w _) (And.intro rfl True.intro))))))
      · have T := T.2 h13
        refine wp_aload_n d_GM_evaluate_75 rfl rfl (g_nz hX.1) ?_
        refine xgetR d_GM_evaluate_76 gc_GM f_GM_81.1 f_GM_81.2.1 f_GM_81.2.2.1 hX.1 (gm_o2 hX) hX.2.2.1 f_GM_81.2.2.2.2.1 (gm_row hX 22 rfl).1 ?_
        refine wp_iload_n d_GM_evaluate_79 rfl rfl ?_
        refine wp_laload d_GM_evaluate_80 (gm_row hX 22 rfl).2.2.1 (gm_row hX 22 rfl).2.2.2 (gm_row hX 22 rfl).2.1 (g32_n T.1 (by decide)) T.1.1 T.1.2 (fun h8 => ?_)
        have T := T.2 h8
        refine wp_goto (tgt := 85) d_GM_evaluate_81 (by decide) ?_
        refine xlast d_GM_evaluate_85 (gm_row hX 29 rfl).2.2.1 (gm_row hX 29 rfl).2.2.2 (gm_row hX 29 rfl).2.1 (by decide) T.1 (w64_id h8) ?_
        have T := T.2
        refine wp_aload_n d_GM_evaluate_86 rfl rfl (g_nz hX.1) ?_
        refine xgetR d_GM_evaluate_87 gc_GM f_GM_94.1 f_GM_94.2.1 f_GM_94.2.2.1 hX.1 (gm_o2 hX) hX.2.2.1 f_GM_94.2.2.2.2.1 (gm_row hX 26 rfl).1 ?_
        refine wp_iload_n d_GM_evaluate_90 rfl rfl ?_
        refine wp_aload_n d_GM_evaluate_91 rfl rfl (g_nz hX.1) ?_
        refine xgetR d_GM_evaluate_92 gc_GM f_GM_69.1 f_GM_69.2.1 f_GM_69.2.2.1 hX.1 (gm_o2 hX) hX.2.2.1 f_GM_69.2.2.2.2.1 (gm_row hX 18 rfl).1 ?_
        refine wp_iload_n d_GM_evaluate_95 rfl rfl ?_
        refine wp_iaload d_GM_evaluate_96 (gm_row hX 18 rfl).2.2.1 (gm_row hX 18 rfl).2.2.2 (gm_row hX 18 rfl).2.1 (g32_n T.1 (by decide)) T.1.1 T.1.2 (fun h9 => ?_)
        have T := T.2 h9
        refine wp_iconst d_GM_evaluate_97 ?_
        refine xi_ne (tgt := 117) d_GM_evaluate_98 (by decide) (w32_id h9) (w32_id (g32_c (x := 2) rfl)) (fun h12 => ?_) (fun h12 => ?_)
        · have T := T.1 h12
          refine wp_iconst d_GM_evaluate_117 ?_
          refine xiast d_GM_evaluate_118 (gm_row hX 26 rfl).2.2.1 (gm_row hX 26 rfl).2.2.2 (gm_row hX 26 rfl).2.1 (by decide) T.1 (w32_id (g32_c (x := 0) rfl)) ?_
          have T := T.2
          refine wp_iconst d_GM_evaluate_119 ?_
          refine wp_istore (L' := [.val (gR G o), .val (gI x1), .val (gI x2), .val (gI ((x1 * 5200) + x2)), .val (gI 0)]) d_GM_evaluate_120 (by decide) rfl ?_
          exact wp_md (wpt T (And.intro rfl (And.intro rfl (And.intro rfl (And.intro (gI_w _) (And.intro rfl True.intro))))))
        · have T := T.2 h12
          refine wp_aload_n d_GM_evaluate_101 rfl rfl (g_nz hX.1) ?_
          refine xgetR d_GM_evaluate_102 gc_GM f_GM_75.1 f_GM_75.2.1 f_GM_75.2.2.1 hX.1 (gm_o2 hX) hX.2.2.1 f_GM_75.2.2.2.2.1 (gm_row hX 20 rfl).1 ?_
          refine wp_iload_n d_GM_evaluate_105 rfl rfl ?_
          refine wp_iaload d_GM_evaluate_106 (gm_row hX 20 rfl).2.2.1 (gm_row hX 20 rfl).2.2.2 (gm_row hX 20 rfl).2.1 (g32_n T.1 (by decide)) T.1.1 T.1.2 (fun h10 => ?_)
          have T := T.2 h10
          refine wp_aload_n d_GM_evaluate_107 rfl rfl (g_nz hX.1) ?_
          refine xgetR d_GM_evaluate_108 gc_GM f_GM_72.1 f_GM_72.2.1 f_GM_72.2.2.1 hX.1 (gm_o2 hX) hX.2.2.1 f_GM_72.2.2.2.2.1 (gm_row hX 19 rfl).1 ?_
          refine wp_iload_n d_GM_evaluate_111 rfl rfl ?_
          refine wp_iaload d_GM_evaluate_112 (gm_row hX 19 rfl).2.2.1 (gm_row hX 19 rfl).2.2.2 (gm_row hX 19 rfl).2.1 (g32_n T.1 (by decide)) T.1.1 T.1.2 (fun h11 => ?_)
          have T := T.2 h11
          refine wp_isub d_GM_evaluate_113 ?_
          refine wp_goto (tgt := 118) d_GM_evaluate_114 (by decide) ?_
          refine xiast d_GM_evaluate_118 (gm_row hX 26 rfl).2.2.1 (gm_row hX 26 rfl).2.2.2 (gm_row hX 26 rfl).2.1 (by decide) T.1 rfl ?_
          have T := T.2
          refine wp_iconst d_GM_evaluate_119 ?_
          refine wp_istore (L' := [.val (gR G o), .val (gI x1), .val (gI x2), .val (gI ((x1 * 5200) + x2)), .val (gI 0)]) d_GM_evaluate_120 (by decide) rfl ?_
          exact wp_md (wpt T (And.intro rfl (And.intro rfl (And.intro rfl (And.intro (gI_w _) (And.intro rfl True.intro))))))
    · have T := T.2 h25
      refine wp_iconst d_GM_evaluate_49 ?_
      refine wp_goto (tgt := 59) d_GM_evaluate_50 (by decide) ?_
      refine xiast d_GM_evaluate_59 (gm_row hX 25 rfl).2.2.1 (gm_row hX 25 rfl).2.2.2 (gm_row hX 25 rfl).2.1 (by decide) T.1 (w32_id (g32_c (x := 0) rfl)) ?_
      have T := T.2
      refine wp_aload_n d_GM_evaluate_60 rfl rfl (g_nz hX.1) ?_
      refine xgetR d_GM_evaluate_61 gc_GM f_GM_103.1 f_GM_103.2.1 f_GM_103.2.2.1 hX.1 (gm_o2 hX) hX.2.2.1 f_GM_103.2.2.2.2.1 (gm_row hX 29 rfl).1 ?_
      refine wp_iload_n d_GM_evaluate_64 rfl rfl ?_
      refine wp_aload_n d_GM_evaluate_65 rfl rfl (g_nz hX.1) ?_
      refine xgetR d_GM_evaluate_66 gc_GM f_GM_69.1 f_GM_69.2.1 f_GM_69.2.2.1 hX.1 (gm_o2 hX) hX.2.2.1 f_GM_69.2.2.2.2.1 (gm_row hX 18 rfl).1 ?_
      refine wp_iload_n d_GM_evaluate_69 rfl rfl ?_
      refine wp_iaload d_GM_evaluate_70 (gm_row hX 18 rfl).2.2.1 (gm_row hX 18 rfl).2.2.2 (gm_row hX 18 rfl).2.1 (g32_n T.1 (by decide)) T.1.1 T.1.2 (fun h14 => ?_)
      have T := T.2 h14
      refine wp_iconst d_GM_evaluate_71 ?_
      refine xi_ne (tgt := 84) d_GM_evaluate_72 (by decide) (w32_id h14) (w32_id (g32_c (x := 1) rfl)) (fun h24 => ?_) (fun h24 => ?_)
      · have T := T.1 h24
        refine wp_lconst0 d_GM_evaluate_84 ?_
        refine xlast d_GM_evaluate_85 (gm_row hX 29 rfl).2.2.1 (gm_row hX 29 rfl).2.2.2 (gm_row hX 29 rfl).2.1 (by decide) T.1 (w64_id (g64_c (x := 0) rfl)) ?_
        have T := T.2
        refine wp_aload_n d_GM_evaluate_86 rfl rfl (g_nz hX.1) ?_
        refine xgetR d_GM_evaluate_87 gc_GM f_GM_94.1 f_GM_94.2.1 f_GM_94.2.2.1 hX.1 (gm_o2 hX) hX.2.2.1 f_GM_94.2.2.2.2.1 (gm_row hX 26 rfl).1 ?_
        refine wp_iload_n d_GM_evaluate_90 rfl rfl ?_
        refine wp_aload_n d_GM_evaluate_91 rfl rfl (g_nz hX.1) ?_
        refine xgetR d_GM_evaluate_92 gc_GM f_GM_69.1 f_GM_69.2.1 f_GM_69.2.2.1 hX.1 (gm_o2 hX) hX.2.2.1 f_GM_69.2.2.2.2.1 (gm_row hX 18 rfl).1 ?_
        refine wp_iload_n d_GM_evaluate_95 rfl rfl ?_
        refine wp_iaload d_GM_evaluate_96 (gm_row hX 18 rfl).2.2.1 (gm_row hX 18 rfl).2.2.2 (gm_row hX 18 rfl).2.1 (g32_n T.1 (by decide)) T.1.1 T.1.2 (fun h15 => ?_)
        have T := T.2 h15
        refine wp_iconst d_GM_evaluate_97 ?_
        refine xi_ne (tgt := 117) d_GM_evaluate_98 (by decide) (w32_id h15) (w32_id (g32_c (x := 2) rfl)) (fun h18 => ?_) (fun h18 => ?_)
        · have T := T.1 h18
          refine wp_iconst d_GM_evaluate_117 ?_
          refine xiast d_GM_evaluate_118 (gm_row hX 26 rfl).2.2.1 (gm_row hX 26 rfl).2.2.2 (gm_row hX 26 rfl).2.1 (by decide) T.1 (w32_id (g32_c (x := 0) rfl)) ?_
          have T := T.2
          refine wp_iconst d_GM_evaluate_119 ?_
          refine wp_istore (L' := [.val (gR G o), .val (gI x1), .val (gI x2), .val (gI ((x1 * 5200) + x2)), .val (gI 0)]) d_GM_evaluate_120 (by decide) rfl ?_
          exact wp_md (wpt T (And.intro rfl (And.intro rfl (And.intro rfl (And.intro (gI_w _) (And.intro rfl True.intro))))))
        · have T := T.2 h18
          refine wp_aload_n d_GM_evaluate_101 rfl rfl (g_nz hX.1) ?_
          refine xgetR d_GM_evaluate_102 gc_GM f_GM_75.1 f_GM_75.2.1 f_GM_75.2.2.1 hX.1 (gm_o2 hX) hX.2.2.1 f_GM_75.2.2.2.2.1 (gm_row hX 20 rfl).1 ?_
          refine wp_iload_n d_GM_evaluate_105 rfl rfl ?_
          refine wp_iaload d_GM_evaluate_106 (gm_row hX 20 rfl).2.2.1 (gm_row hX 20 rfl).2.2.2 (gm_row hX 20 rfl).2.1 (g32_n T.1 (by decide)) T.1.1 T.1.2 (fun h16 => ?_)
          have T := T.2 h16
          refine wp_aload_n d_GM_evaluate_107 rfl rfl (g_nz hX.1) ?_
          refine xgetR d_GM_evaluate_108 gc_GM f_GM_72.1 f_GM_72.2.1 f_GM_72.2.2.1 hX.1 (gm_o2 hX) hX.2.2.1 f_GM_72.2.2.2.2.1 (gm_row hX 19 rfl).1 ?_
          refine wp_iload_n d_GM_evaluate_111 rfl rfl ?_
          refine wp_iaload d_GM_evaluate_112 (gm_row hX 19 rfl).2.2.1 (gm_row hX 19 rfl).2.2.2 (gm_row hX 19 rfl).2.1 (g32_n T.1 (by decide)) T.1.1 T.1.2 (fun h17 => ?_)
          have T := T.2 h17
          refine wp_isub d_GM_evaluate_113 ?_
          refine wp_goto (tgt := 118) d_GM_evaluate_114 (by decide) ?_
          refine xiast d_GM_evaluate_118 (gm_row hX 26 rfl).2.2.1 (gm_row hX 26 rfl).2.2.2 (gm_row hX 26 rfl).2.1 (by decide) T.1 rfl ?_
          have T := T.2
          refine wp_iconst d_GM_evaluate_119 ?_
          refine wp_istore (L' := [.val (gR G o), .val (gI x1), .val (gI x2), .val (gI ((x1 * 5200) + x2)), .val (gI 0)]) d_GM_evaluate_120 (by decide) rfl ?_
          exact wp_md (wpt T (And.intro rfl (And.intro rfl (And.intro rfl (And.intro (gI_w _) (And.intro rfl True.intro))))))
      · have T := T.2 h24
        refine wp_aload_n d_GM_evaluate_75 rfl rfl (g_nz hX.1) ?_
        refine xgetR d_GM_evaluate_76 gc_GM f_GM_81.1 f_GM_81.2.1 f_GM_81.2.2.1 hX.1 (gm_o2 hX) hX.2.2.1 f_GM_81.2.2.2.2.1 (gm_row hX 22 rfl).1 ?_
        refine wp_iload_n d_GM_evaluate_79 rfl rfl ?_
        refine wp_laload d_GM_evaluate_80 (gm_row hX 22 rfl).2.2.1 (gm_row hX 22 rfl).2.2.2 (gm_row hX 22 rfl).2.1 (g32_n T.1 (by decide)) T.1.1 T.1.2 (fun h19 => ?_)
        have T := T.2 h19
        refine wp_goto (tgt := 85) d_GM_evaluate_81 (by decide) ?_
        refine xlast d_GM_evaluate_85 (gm_row hX 29 rfl).2.2.1 (gm_row hX 29 rfl).2.2.2 (gm_row hX 29 rfl).2.1 (by decide) T.1 (w64_id h19) ?_
        have T := T.2
        refine wp_aload_n d_GM_evaluate_86 rfl rfl (g_nz hX.1) ?_
        refine xgetR d_GM_evaluate_87 gc_GM f_GM_94.1 f_GM_94.2.1 f_GM_94.2.2.1 hX.1 (gm_o2 hX) hX.2.2.1 f_GM_94.2.2.2.2.1 (gm_row hX 26 rfl).1 ?_
        refine wp_iload_n d_GM_evaluate_90 rfl rfl ?_
        refine wp_aload_n d_GM_evaluate_91 rfl rfl (g_nz hX.1) ?_
        refine xgetR d_GM_evaluate_92 gc_GM f_GM_69.1 f_GM_69.2.1 f_GM_69.2.2.1 hX.1 (gm_o2 hX) hX.2.2.1 f_GM_69.2.2.2.2.1 (gm_row hX 18 rfl).1 ?_
        refine wp_iload_n d_GM_evaluate_95 rfl rfl ?_
        refine wp_iaload d_GM_evaluate_96 (gm_row hX 18 rfl).2.2.1 (gm_row hX 18 rfl).2.2.2 (gm_row hX 18 rfl).2.1 (g32_n T.1 (by decide)) T.1.1 T.1.2 (fun h20 => ?_)
        have T := T.2 h20
        refine wp_iconst d_GM_evaluate_97 ?_
        refine xi_ne (tgt := 117) d_GM_evaluate_98 (by decide) (w32_id h20) (w32_id (g32_c (x := 2) rfl)) (fun h23 => ?_) (fun h23 => ?_)
        · have T := T.1 h23
          refine wp_iconst d_GM_evaluate_117 ?_
          refine xiast d_GM_evaluate_118 (gm_row hX 26 rfl).2.2.1 (gm_row hX 26 rfl).2.2.2 (gm_row hX 26 rfl).2.1 (by decide) T.1 (w32_id (g32_c (x := 0) rfl)) ?_
          have T := T.2
          refine wp_iconst d_GM_evaluate_119 ?_
          refine wp_istore (L' := [.val (gR G o), .val (gI x1), .val (gI x2), .val (gI ((x1 * 5200) + x2)), .val (gI 0)]) d_GM_evaluate_120 (by decide) rfl ?_
          exact wp_md (wpt T (And.intro rfl (And.intro rfl (And.intro rfl (And.intro (gI_w _) (And.intro rfl True.intro))))))
        · have T := T.2 h23
          refine wp_aload_n d_GM_evaluate_101 rfl rfl (g_nz hX.1) ?_
          refine xgetR d_GM_evaluate_102 gc_GM f_GM_75.1 f_GM_75.2.1 f_GM_75.2.2.1 hX.1 (gm_o2 hX) hX.2.2.1 f_GM_75.2.2.2.2.1 (gm_row hX 20 rfl).1 ?_
          refine wp_iload_n d_GM_evaluate_105 rfl rfl ?_
          refine wp_iaload d_GM_evaluate_106 (gm_row hX 20 rfl).2.2.1 (gm_row hX 20 rfl).2.2.2 (gm_row hX 20 rfl).2.1 (g32_n T.1 (by decide)) T.1.1 T.1.2 (fun h21 => ?_)
          have T := T.2 h21
          refine wp_aload_n d_GM_evaluate_107 rfl rfl (g_nz hX.1) ?_
          refine xgetR d_GM_evaluate_108 gc_GM f_GM_72.1 f_GM_72.2.1 f_GM_72.2.2.1 hX.1 (gm_o2 hX) hX.2.2.1 f_GM_72.2.2.2.2.1 (gm_row hX 19 rfl).1 ?_
          refine wp_iload_n d_GM_evaluate_111 rfl rfl ?_
          refine wp_iaload d_GM_evaluate_112 (gm_row hX 19 rfl).2.2.1 (gm_row hX 19 rfl).2.2.2 (gm_row hX 19 rfl).2.1 (g32_n T.1 (by decide)) T.1.1 T.1.2 (fun h22 => ?_)
          have T := T.2 h22
          refine wp_isub d_GM_evaluate_113 ?_
          refine wp_goto (tgt := 118) d_GM_evaluate_114 (by decide) ?_
          refine xiast d_GM_evaluate_118 (gm_row hX 26 rfl).2.2.1 (gm_row hX 26 rfl).2.2.2 (gm_row hX 26 rfl).2.1 (by decide) T.1 rfl ?_
          have T := T.2
          refine wp_iconst d_GM_evaluate_119 ?_
          refine wp_istore (L' := [.val (gR G o), .val (gI x1), .val (gI x2), .val (gI ((x1 * 5200) + x2)), .val (gI 0)]) d_GM_evaluate_120 (by decide) rfl ?_
          exact wp_md (wpt T (And.intro rfl (And.intro rfl (And.intro rfl (And.intro (gI_w _) (And.intro rfl True.intro))))))
set_option maxHeartbeats 4000000 in
theorem w_GM_evaluate_213 {l : Launch} {G : gG} {d : Nat} {X : gX} {M : gM} {k : gM → Prop} {o : Nat} (hX : gmX X o) {x2 : Int} (hx2 : g32 x2) (T : g32 (M o 66) → (((w32 (7 * (M o 66))) ≤ x2 → (wp l G y_GM_evaluate (gRm (d + 1)) true (kkV X k) true 239 [.val (gR G o), .unset, .val (gI 0), .unset, .unset] [] X M 0 0)) ∧ (¬ (w32 (7 * (M o 66))) ≤ x2 → (((0 : Int) ≤ x2 ∧ x2 < 2800) ∧ (wp l G y_GM_evaluate (gRm (d + 1)) true (kkV X k) true 213 [.val (gR G o), .unset, .val (gI (w32 (x2 + 1))), .unset, .unset] [] X (gUp M (o + 42) (Int.toNat x2) 0) 0 0))))) : wp l G y_GM_evaluate (gRm (d + 1)) true (kkV X k) true 213 [.val (gR G o), .unset, .val (gI x2), .unset, .unset] [] X M 0 0 := by
  refine wp_iload_n d_GM_evaluate_213 rfl rfl ?_
  refine wp_bipush d_GM_evaluate_214 ⟨by decide, by decide⟩ ?_
  refine wp_aload_n d_GM_evaluate_216 rfl rfl (g_nz hX.1) ?_
  refine xgetI d_GM_evaluate_217 gc_GM f_GM_476.1 f_GM_476.2.1 f_GM_476.2.2.1 hX.1 (gm_o2 hX) hX.2.2.1 f_GM_476.2.2.2.2.1 (fun h27 => ?_)
  have T := T h27
  refine wp_imul d_GM_evaluate_220 ?_
  refine xi_ge (tgt := 237) d_GM_evaluate_221 (by decide) (w32_id hx2) rfl (fun h28 => ?_) (fun h28 => ?_)
  · have T := T.1 h28
    refine wp_iconst d_GM_evaluate_237 ?_
    refine wp_istore_n (L' := [.val (gR G o), .unset, .val (gI 0), .unset, .unset]) d_GM_evaluate_238 rfl (by decide) rfl ?_
    exact wp_md (wpt T (And.intro rfl (And.intro rfl True.intro)))
  · have T := T.2 h28
    refine wp_aload_n d_GM_evaluate_224 rfl rfl (g_nz hX.1) ?_
    refine xgetR d_GM_evaluate_225 gc_GM f_GM_141.1 f_GM_141.2.1 f_GM_141.2.2.1 hX.1 (gm_o2 hX) hX.2.2.1 f_GM_141.2.2.2.2.1 (gm_row hX 41 rfl).1 ?_
    refine wp_iload_n d_GM_evaluate_228 rfl rfl ?_
    refine wp_lconst0 d_GM_evaluate_229 ?_
    refine xlast d_GM_evaluate_230 (gm_row hX 41 rfl).2.2.1 (gm_row hX 41 rfl).2.2.2 (gm_row hX 41 rfl).2.1 (by decide) T.1 (w64_id (g64_c (x := 0) rfl)) ?_
    have T := T.2
    refine wp_iinc (L' := [.val (gR G o), .unset, .val (gI (x2 + 1)), .unset, .unset]) d_GM_evaluate_231 rfl (by decide) rfl ?_
    refine wp_goto (tgt := 213) d_GM_evaluate_234 (by decide) ?_
    exact wp_md (wpt T (And.intro rfl (And.intro (gI_w _) True.intro)))
set_option maxHeartbeats 4000000 in
theorem w_GM_evaluate_122 {l : Launch} {G : gG} {d : Nat} {X : gX} {M : gM} {k : gM → Prop} {o : Nat} (hX : gmX X o) {x1 : Int} (hx1 : g32 x1) {x2 : Int} (hx2 : g32 x2) {x3 : Int} (hx3 : g32 x3) {x4 : Int} (hx4 : g32 x4) (T : ((0 : Int) ≤ x2 ∧ x2 < 5200) ∧ (g32 (M (o + 27) (Int.toNat x2)) → ((M (o + 27) (Int.toNat x2) ≤ x4 → (((0 : Int) ≤ x3 ∧ x3 < 218400) ∧ (g32 (M (o + 19) (Int.toNat x3)) → ((¬ M (o + 19) (Int.toNat x3) = 3 → (wp l G y_GM_evaluate (gRm (d + 1)) true (kkV X k) true 12 [.val (gR G o), .val (gI x1), .val (gI (w32 (x2 + 1))), .unset, .unset] [] X M 0 0)) ∧ (M (o + 19) (Int.toNat x3) = 3 → (g32 (M o 66) → (((0 : Int) ≤ x2 ∧ x2 < 5200) ∧ (g32 ((gUp M (o + 41) (Int.toNat x2) (M o 66)) o 66) → (((0 : Int) ≤ (gUp M (o + 41) (Int.toNat x2) (M o 66)) o 66 ∧ (gUp M (o + 41) (Int.toNat x2) (M o 66)) o 66 < 400) ∧ (g32 ((gUp (gUp M (o + 41) (Int.toNat x2) (M o 66)) (o + 40) (Int.toNat ((gUp M (o + 41) (Int.toNat x2) (M o 66)) o 66)) x2) o 66) → (wp l G y_GM_evaluate (gRm (d + 1)) true (kkV X k) true 12 [.val (gR G o), .val (gI x1), .val (gI (w32 (x2 + 1))), .unset, .unset] [] X (gUp (gUp (gUp M (o + 41) (Int.toNat x2) (M o 66)) (o + 40) (Int.toNat ((gUp M (o + 41) (Int.toNat x2) (M o 66)) o 66)) x2) o 66 (w32 (((gUp (gUp M (o + 41) (Int.toNat x2) (M o 66)) (o + 40) (Int.toNat ((gUp M (o + 41) (Int.toNat x2) (M o 66)) o 66)) x2) o 66) + 1))) 0 0))))))))))) ∧ (¬ M (o + 27) (Int.toNat x2) ≤ x4 → (((0 : Int) ≤ x3 ∧ x3 < 218400) ∧ (g32 (M (o + 20) (Int.toNat x3)) → (((0 : Int) ≤ (M (o + 20) (Int.toNat x3)) + x4 ∧ (M (o + 20) (Int.toNat x3)) + x4 < 90000) ∧ ((-128 ≤ M (o + 1) (Int.toNat ((M (o + 20) (Int.toNat x3)) + x4)) ∧ M (o + 1) (Int.toNat ((M (o + 20) (Int.toNat x3)) + x4)) < 128) → (((0 : Int) ≤ (64 * x2) + x4 ∧ (64 * x2) + x4 < 332800) ∧ (wp l G y_GM_evaluate (gRm (d + 1)) true (kkV X k) true 122 [.val (gR G o), .val (gI x1), .val (gI x2), .val (gI x3), .val (gI (w32 (x4 + 1)))] [] X (gUp M (o + 32) (Int.toNat ((64 * x2) + x4)) (gByte (M (o + 1) (Int.toNat ((M (o + 20) (Int.toNat x3)) + x4))))) 0 0)))))))))) : wp l G y_GM_evaluate (gRm (d + 1)) true (kkV X k) true 122 [.val (gR G o), .val (gI x1), .val (gI x2), .val (gI x3), .val (gI x4)] [] X M 0 0 := by
  refine wp_iload d_GM_evaluate_122 rfl ?_
  refine wp_aload_n d_GM_evaluate_124 rfl rfl (g_nz hX.1) ?_
  refine xgetR d_GM_evaluate_125 gc_GM f_GM_94.1 f_GM_94.2.1 f_GM_94.2.2.1 hX.1 (gm_o2 hX) hX.2.2.1 f_GM_94.2.2.2.2.1 (gm_row hX 26 rfl).1 ?_
  refine wp_iload_n d_GM_evaluate_128 rfl rfl ?_
  refine wp_iaload d_GM_evaluate_129 (gm_row hX 26 rfl).2.2.1 (gm_row hX 26 rfl).2.2.2 (gm_row hX 26 rfl).2.1 (g32_n T.1 (by decide)) T.1.1 T.1.2 (fun h29 => ?_)
  have T := T.2 h29
  refine xi_ge (tgt := 165) d_GM_evaluate_130 (by decide) (w32_id hx4) (w32_id h29) (fun h37 => ?_) (fun h37 => ?_)
  · have T := T.1 h37
    refine wp_aload_n d_GM_evaluate_165 rfl rfl (g_nz hX.1) ?_
    refine xgetR d_GM_evaluate_166 gc_GM f_GM_69.1 f_GM_69.2.1 f_GM_69.2.2.1 hX.1 (gm_o2 hX) hX.2.2.1 f_GM_69.2.2.2.2.1 (gm_row hX 18 rfl).1 ?_
    refine wp_iload_n d_GM_evaluate_169 rfl rfl ?_
    refine wp_iaload d_GM_evaluate_170 (gm_row hX 18 rfl).2.2.1 (gm_row hX 18 rfl).2.2.2 (gm_row hX 18 rfl).2.1 (g32_n T.1 (by decide)) T.1.1 T.1.2 (fun h30 => ?_)
    have T := T.2 h30
    refine wp_iconst d_GM_evaluate_171 ?_
    refine xi_ne (tgt := 205) d_GM_evaluate_172 (by decide) (w32_id h30) (w32_id (g32_c (x := 3) rfl)) (fun h34 => ?_) (fun h34 => ?_)
    · have T := T.1 h34
      refine wp_iinc (L' := [.val (gR G o), .val (gI x1), .val (gI (x2 + 1)), .val (gI x3), .val (gI x4)]) d_GM_evaluate_205 rfl (by decide) rfl ?_
      refine wp_goto (tgt := 12) d_GM_evaluate_208 (by decide) ?_
      exact wp_md (wpt T (And.intro rfl (And.intro rfl (And.intro (gI_w _) True.intro))))
    · have T := T.2 h34
      refine wp_aload_n d_GM_evaluate_175 rfl rfl (g_nz hX.1) ?_
      refine xgetR d_GM_evaluate_176 gc_GM f_GM_138.1 f_GM_138.2.1 f_GM_138.2.2.1 hX.1 (gm_o2 hX) hX.2.2.1 f_GM_138.2.2.2.2.1 (gm_row hX 40 rfl).1 ?_
      refine wp_iload_n d_GM_evaluate_179 rfl rfl ?_
      refine wp_aload_n d_GM_evaluate_180 rfl rfl (g_nz hX.1) ?_
      refine xgetI d_GM_evaluate_181 gc_GM f_GM_476.1 f_GM_476.2.1 f_GM_476.2.2.1 hX.1 (gm_o2 hX) hX.2.2.1 f_GM_476.2.2.2.2.1 (fun h31 => ?_)
      have T := T h31
      refine xiast d_GM_evaluate_184 (gm_row hX 40 rfl).2.2.1 (gm_row hX 40 rfl).2.2.2 (gm_row hX 40 rfl).2.1 (by decide) T.1 (w32_id h31) ?_
      have T := T.2
      refine wp_aload_n d_GM_evaluate_185 rfl rfl (g_nz hX.1) ?_
      refine xgetR d_GM_evaluate_186 gc_GM f_GM_135.1 f_GM_135.2.1 f_GM_135.2.2.1 hX.1 (gm_o2 hX) hX.2.2.1 f_GM_135.2.2.2.2.1 (gm_row hX 39 rfl).1 ?_
      refine wp_aload_n d_GM_evaluate_189 rfl rfl (g_nz hX.1) ?_
      refine xgetI d_GM_evaluate_190 gc_GM f_GM_476.1 f_GM_476.2.1 f_GM_476.2.2.1 hX.1 (gm_o2 hX) hX.2.2.1 f_GM_476.2.2.2.2.1 (fun h32 => ?_)
      have T := T h32
      refine wp_iload_n d_GM_evaluate_193 rfl rfl ?_
      refine xiast d_GM_evaluate_194 (gm_row hX 39 rfl).2.2.1 (gm_row hX 39 rfl).2.2.2 (gm_row hX 39 rfl).2.1 (by decide) T.1 (w32_id hx2) ?_
      have T := T.2
      refine wp_aload_n d_GM_evaluate_195 rfl rfl (g_nz hX.1) ?_
      refine wp_dup d_GM_evaluate_196 (gR_cat _) ?_
      refine xgetI d_GM_evaluate_197 gc_GM f_GM_476.1 f_GM_476.2.1 f_GM_476.2.2.1 hX.1 (gm_o2 hX) hX.2.2.1 f_GM_476.2.2.2.2.1 (fun h33 => ?_)
      have T := T h33
      refine wp_iconst d_GM_evaluate_200 ?_
      refine wp_iadd d_GM_evaluate_201 ?_
      refine xputI d_GM_evaluate_202 gc_GM f_GM_476.1 f_GM_476.2.1 f_GM_476.2.2.1 hX.1 (gm_o2 hX) hX.2.2.1 f_GM_476.2.2.2.1 f_GM_476.2.2.2.2.1 f_GM_476.2.2.2.2.2 rfl ?_
      refine wp_iinc (L' := [.val (gR G o), .val (gI x1), .val (gI (x2 + 1)), .val (gI x3), .val (gI x4)]) d_GM_evaluate_205 rfl (by decide) rfl ?_
      refine wp_goto (tgt := 12) d_GM_evaluate_208 (by decide) ?_
      exact wp_md (wpt T (And.intro rfl (And.intro rfl (And.intro (gI_w _) True.intro))))
  · have T := T.2 h37
    refine wp_aload_n d_GM_evaluate_133 rfl rfl (g_nz hX.1) ?_
    refine xgetR d_GM_evaluate_134 gc_GM f_GM_110.1 f_GM_110.2.1 f_GM_110.2.2.1 hX.1 (gm_o2 hX) hX.2.2.1 f_GM_110.2.2.2.2.1 (gm_row hX 31 rfl).1 ?_
    refine wp_bipush d_GM_evaluate_137 ⟨by decide, by decide⟩ ?_
    refine wp_iload_n d_GM_evaluate_139 rfl rfl ?_
    refine wp_imul d_GM_evaluate_140 ?_
    refine wp_iload d_GM_evaluate_141 rfl ?_
    refine wp_iadd d_GM_evaluate_143 ?_
    refine wp_aload_n d_GM_evaluate_144 rfl rfl (g_nz hX.1) ?_
    refine xgetR d_GM_evaluate_145 gc_GM f_GM_8.1 f_GM_8.2.1 f_GM_8.2.2.1 hX.1 (gm_o2 hX) hX.2.2.1 f_GM_8.2.2.2.2.1 (gm_row hX 0 rfl).1 ?_
    refine wp_aload_n d_GM_evaluate_148 rfl rfl (g_nz hX.1) ?_
    refine xgetR d_GM_evaluate_149 gc_GM f_GM_72.1 f_GM_72.2.1 f_GM_72.2.2.1 hX.1 (gm_o2 hX) hX.2.2.1 f_GM_72.2.2.2.2.1 (gm_row hX 19 rfl).1 ?_
    refine wp_iload_n d_GM_evaluate_152 rfl rfl ?_
    refine wp_iaload d_GM_evaluate_153 (gm_row hX 19 rfl).2.2.1 (gm_row hX 19 rfl).2.2.2 (gm_row hX 19 rfl).2.1 (g32_n T.1 (by decide)) T.1.1 T.1.2 (fun h35 => ?_)
    have T := T.2 h35
    refine wp_iload d_GM_evaluate_154 rfl ?_
    refine wp_iadd d_GM_evaluate_156 ?_
    refine wp_baload d_GM_evaluate_157 (gm_row hX 0 rfl).2.2.1 (gm_row hX 0 rfl).2.2.2 (gm_row hX 0 rfl).2.1 (g32_n T.1 (by decide)) T.1.1 T.1.2 (fun h36 => ?_)
    have T := T.2 h36
    refine xbast d_GM_evaluate_158 (gm_row hX 31 rfl).2.2.1 (gm_row hX 31 rfl).2.2.2 (gm_row hX 31 rfl).2.1 (by decide) T.1 ?_
    have T := T.2
    refine wp_iinc (L' := [.val (gR G o), .val (gI x1), .val (gI x2), .val (gI x3), .val (gI (x4 + 1))]) d_GM_evaluate_159 rfl (by decide) rfl ?_
    refine wp_goto (tgt := 122) d_GM_evaluate_162 (by decide) ?_
    exact wp_md (wpt T (And.intro rfl (And.intro rfl (And.intro rfl (And.intro rfl (And.intro (gI_w _) True.intro))))))
set_option maxHeartbeats 4000000 in
theorem w_GM_evaluate_239 {l : Launch} {G : gG} {d : Nat} {X : gX} {M : gM} {k : gM → Prop} {o : Nat} (hX : gmX X o) {x2 : Int} (hx2 : g32 x2) (T : g32 (M o 66) → ((M o 66 ≤ x2 → (wp l G y_GM_evaluate (gRm (d + 1)) true (kkV X k) true 260 [.val (gR G o), .unset, .val (gI 0), .unset, .unset] [] X M 0 0)) ∧ (¬ M o 66 ≤ x2 → (cV l G y_GM_readsOf (gRm d) true [gR G o, gI x2] X M (fun M39 => (wp l G y_GM_evaluate (gRm (d + 1)) true (kkV X k) true 239 [.val (gR G o), .unset, .val (gI (w32 (x2 + 1))), .unset, .unset] [] X M39 0 0)))))) : wp l G y_GM_evaluate (gRm (d + 1)) true (kkV X k) true 239 [.val (gR G o), .unset, .val (gI x2), .unset, .unset] [] X M 0 0 := by
  refine wp_iload_n d_GM_evaluate_239 rfl rfl ?_
  refine wp_aload_n d_GM_evaluate_240 rfl rfl (g_nz hX.1) ?_
  refine xgetI d_GM_evaluate_241 gc_GM f_GM_476.1 f_GM_476.2.1 f_GM_476.2.2.1 hX.1 (gm_o2 hX) hX.2.2.1 f_GM_476.2.2.2.2.1 (fun h38 => ?_)
  have T := T h38
  refine xi_ge (tgt := 258) d_GM_evaluate_244 (by decide) (w32_id hx2) (w32_id h38) (fun h40 => ?_) (fun h40 => ?_)
  · have T := T.1 h40
    refine wp_iconst d_GM_evaluate_258 ?_
    refine wp_istore_n (L' := [.val (gR G o), .unset, .val (gI 0), .unset, .unset]) d_GM_evaluate_259 rfl (by decide) rfl ?_
    exact wp_md (wpt T (And.intro rfl (And.intro rfl True.intro)))
  · have T := T.2 h40
    refine wp_aload_n d_GM_evaluate_247 rfl rfl (g_nz hX.1) ?_
    refine wp_iload_n d_GM_evaluate_248 rfl rfl ?_
    refine xcV_V (md' := true) (As := [gI x2]) (st := []) d_GM_evaluate_249 ca_GM_readsOf ml_GM_479 im_GM_readsOf se_GM_readsOf gc_GM hX.1 (gm_o2 hX) hX.2.2.1 rfl (by decide) (by decide) rfl (fun _ => rfl) (fun _ => rfl) T (fun M39 T => ?_)
    refine wp_iinc (L' := [.val (gR G o), .unset, .val (gI (x2 + 1)), .unset, .unset]) d_GM_evaluate_252 rfl (by decide) rfl ?_
    refine wp_goto (tgt := 239) d_GM_evaluate_255 (by decide) ?_
    exact wp_md (wpt T (And.intro rfl (And.intro (gI_w _) True.intro)))
set_option maxHeartbeats 4000000 in
theorem w_GM_evaluate_260 {l : Launch} {G : gG} {d : Nat} {X : gX} {M : gM} {k : gM → Prop} {o : Nat} (hX : gmX X o) {x2 : Int} (hx2 : g32 x2) (T : g32 (M o 66) → (((w32 (7 * (M o 66))) ≤ x2 → (wp l G y_GM_evaluate (gRm (d + 1)) true (kkV X k) true 291 [.val (gR G o), .unset, .val (gI 0), .unset, .unset] [] X M 0 0)) ∧ (¬ (w32 (7 * (M o 66))) ≤ x2 → (((0 : Int) ≤ x2 ∧ x2 < 2800) ∧ (g64 (M (o + 42) (Int.toNat x2)) → (((0 : Int) ≤ x2 ∧ x2 < 2800) ∧ (wp l G y_GM_evaluate (gRm (d + 1)) true (kkV X k) true 260 [.val (gR G o), .unset, .val (gI (w32 (x2 + 1))), .unset, .unset] [] X (gUp M (o + 44) (Int.toNat x2) (M (o + 42) (Int.toNat x2))) 0 0))))))) : wp l G y_GM_evaluate (gRm (d + 1)) true (kkV X k) true 260 [.val (gR G o), .unset, .val (gI x2), .unset, .unset] [] X M 0 0 := by
  refine wp_iload_n d_GM_evaluate_260 rfl rfl ?_
  refine wp_bipush d_GM_evaluate_261 ⟨by decide, by decide⟩ ?_
  refine wp_aload_n d_GM_evaluate_263 rfl rfl (g_nz hX.1) ?_
  refine xgetI d_GM_evaluate_264 gc_GM f_GM_476.1 f_GM_476.2.1 f_GM_476.2.2.1 hX.1 (gm_o2 hX) hX.2.2.1 f_GM_476.2.2.2.2.1 (fun h41 => ?_)
  have T := T h41
  refine wp_imul d_GM_evaluate_267 ?_
  refine xi_ge (tgt := 289) d_GM_evaluate_268 (by decide) (w32_id hx2) rfl (fun h43 => ?_) (fun h43 => ?_)
  · have T := T.1 h43
    refine wp_iconst d_GM_evaluate_289 ?_
    refine wp_istore_n (L' := [.val (gR G o), .unset, .val (gI 0), .unset, .unset]) d_GM_evaluate_290 rfl (by decide) rfl ?_
    exact wp_md (wpt T (And.intro rfl (And.intro rfl True.intro)))
  · have T := T.2 h43
    refine wp_aload_n d_GM_evaluate_271 rfl rfl (g_nz hX.1) ?_
    refine xgetR d_GM_evaluate_272 gc_GM f_GM_148.1 f_GM_148.2.1 f_GM_148.2.2.1 hX.1 (gm_o2 hX) hX.2.2.1 f_GM_148.2.2.2.2.1 (gm_row hX 43 rfl).1 ?_
    refine wp_iload_n d_GM_evaluate_275 rfl rfl ?_
    refine wp_aload_n d_GM_evaluate_276 rfl rfl (g_nz hX.1) ?_
    refine xgetR d_GM_evaluate_277 gc_GM f_GM_141.1 f_GM_141.2.1 f_GM_141.2.2.1 hX.1 (gm_o2 hX) hX.2.2.1 f_GM_141.2.2.2.2.1 (gm_row hX 41 rfl).1 ?_
    refine wp_iload_n d_GM_evaluate_280 rfl rfl ?_
    refine wp_laload d_GM_evaluate_281 (gm_row hX 41 rfl).2.2.1 (gm_row hX 41 rfl).2.2.2 (gm_row hX 41 rfl).2.1 (g32_n T.1 (by decide)) T.1.1 T.1.2 (fun h42 => ?_)
    have T := T.2 h42
    refine xlast d_GM_evaluate_282 (gm_row hX 43 rfl).2.2.1 (gm_row hX 43 rfl).2.2.2 (gm_row hX 43 rfl).2.1 (by decide) T.1 (w64_id h42) ?_
    have T := T.2
    refine wp_iinc (L' := [.val (gR G o), .unset, .val (gI (x2 + 1)), .unset, .unset]) d_GM_evaluate_283 rfl (by decide) rfl ?_
    refine wp_goto (tgt := 260) d_GM_evaluate_286 (by decide) ?_
    exact wp_md (wpt T (And.intro rfl (And.intro (gI_w _) True.intro)))
set_option maxHeartbeats 4000000 in
theorem w_GM_evaluate_291 {l : Launch} {G : gG} {d : Nat} {X : gX} {M : gM} {k : gM → Prop} {o : Nat} (hX : gmX X o) {x2 : Int} (hx2 : g32 x2) (T : g32 (M o 66) → ((M o 66 ≤ x2 → (wp l G y_GM_evaluate (gRm (d + 1)) true (kkV X k) true 383 [.val (gR G o), .unset, .val (gI 0), .unset, .unset] [] X (gUp M o 65 0) 0 0)) ∧ (¬ M o 66 ≤ x2 → (wp l G y_GM_evaluate (gRm (d + 1)) true (kkV X k) true 301 [.val (gR G o), .unset, .val (gI x2), .val (gI 0), .unset] [] X M 0 0)))) : wp l G y_GM_evaluate (gRm (d + 1)) true (kkV X k) true 291 [.val (gR G o), .unset, .val (gI x2), .unset, .unset] [] X M 0 0 := by
  refine wp_iload_n d_GM_evaluate_291 rfl rfl ?_
  refine wp_aload_n d_GM_evaluate_292 rfl rfl (g_nz hX.1) ?_
  refine xgetI d_GM_evaluate_293 gc_GM f_GM_476.1 f_GM_476.2.1 f_GM_476.2.2.1 hX.1 (gm_o2 hX) hX.2.2.1 f_GM_476.2.2.2.2.1 (fun h44 => ?_)
  have T := T h44
  refine xi_ge (tgt := 376) d_GM_evaluate_296 (by decide) (w32_id hx2) (w32_id h44) (fun h45 => ?_) (fun h45 => ?_)
  · have T := T.1 h45
    refine wp_aload_n d_GM_evaluate_376 rfl rfl (g_nz hX.1) ?_
    refine wp_iconst d_GM_evaluate_377 ?_
    refine xputI d_GM_evaluate_378 gc_GM f_GM_485.1 f_GM_485.2.1 f_GM_485.2.2.1 hX.1 (gm_o2 hX) hX.2.2.1 f_GM_485.2.2.2.1 f_GM_485.2.2.2.2.1 f_GM_485.2.2.2.2.2 (w32_id (g32_c (x := 0) rfl)) ?_
    refine wp_iconst d_GM_evaluate_381 ?_
    refine wp_istore_n (L' := [.val (gR G o), .unset, .val (gI 0), .unset, .unset]) d_GM_evaluate_382 rfl (by decide) rfl ?_
    exact wp_md (wpt T (And.intro rfl (And.intro rfl True.intro)))
  · have T := T.2 h45
    refine wp_iconst d_GM_evaluate_299 ?_
    refine wp_istore_n (L' := [.val (gR G o), .unset, .val (gI x2), .val (gI 0), .unset]) d_GM_evaluate_300 rfl (by decide) rfl ?_
    exact wp_md (wpt T (And.intro rfl (And.intro rfl (And.intro rfl True.intro))))
set_option maxHeartbeats 4000000 in
theorem w_GM_evaluate_383 {l : Launch} {G : gG} {d : Nat} {X : gX} {M : gM} {k : gM → Prop} {o : Nat} (hX : gmX X o) {x2 : Int} (hx2 : g32 x2) (T : g32 (M o 66) → ((M o 66 ≤ x2 → (wp l G y_GM_evaluate (gRm (d + 1)) true (kkV X k) true 449 [.val (gR G o), .unset, .val (gI 1), .unset, .unset] [] X M 0 0)) ∧ (¬ M o 66 ≤ x2 → (cZ l G y_GM_reaches (gRm d) false [gR G o, gI x2, gI x2] X M (fun v48 M47 => (((0 : Int) ≤ x2 ∧ x2 < 400) ∧ (((0 : Int) ≤ x2 ∧ x2 < 400) ∧ ((0 ≤ (gUp M47 (o + 43) (Int.toNat x2) v48) (o + 43) (Int.toNat x2) ∧ (gUp M47 (o + 43) (Int.toNat x2) v48) (o + 43) (Int.toNat x2) ≤ 1) → ((¬ (gUp M47 (o + 43) (Int.toNat x2) v48) (o + 43) (Int.toNat x2) = 0 → (((0 : Int) ≤ x2 ∧ x2 < 400) ∧ (g32 ((gUp M47 (o + 43) (Int.toNat x2) v48) (o + 40) (Int.toNat x2)) → (((0 : Int) ≤ (gUp M47 (o + 43) (Int.toNat x2) v48) (o + 40) (Int.toNat x2) ∧ (gUp M47 (o + 43) (Int.toNat x2) v48) (o + 40) (Int.toNat x2) < 5200) ∧ (((0 : Int) ≤ x2 ∧ x2 < 400) ∧ (g32 ((gUp (gUp M47 (o + 43) (Int.toNat x2) v48) (o + 26) (Int.toNat ((gUp M47 (o + 43) (Int.toNat x2) v48) (o + 40) (Int.toNat x2))) 4) (o + 40) (Int.toNat x2)) → (((0 : Int) ≤ (gUp (gUp M47 (o + 43) (Int.toNat x2) v48) (o + 26) (Int.toNat ((gUp M47 (o + 43) (Int.toNat x2) v48) (o + 40) (Int.toNat x2))) 4) (o + 40) (Int.toNat x2) ∧ (gUp (gUp M47 (o + 43) (Int.toNat x2) v48) (o + 26) (Int.toNat ((gUp M47 (o + 43) (Int.toNat x2) v48) (o + 40) (Int.toNat x2))) 4) (o + 40) (Int.toNat x2) < 5200) ∧ (wp l G y_GM_evaluate (gRm (d + 1)) true (kkV X k) true 383 [.val (gR G o), .unset, .val (gI (w32 (x2 + 1))), .unset, .unset] [] X (gUp (gUp (gUp M47 (o + 43) (Int.toNat x2) v48) (o + 26) (Int.toNat ((gUp M47 (o + 43) (Int.toNat x2) v48) (o + 40) (Int.toNat x2))) 4) (o + 30) (Int.toNat ((gUp (gUp M47 (o + 43) (Int.toNat x2) v48) (o + 26) (Int.toNat ((gUp M47 (o + 43) (Int.toNat x2) v48) (o + 40) (Int.toNat x2))) 4) (o + 40) (Int.toNat x2))) 8) 0 0)))))))) ∧ ((gUp M47 (o + 43) (Int.toNat x2) v48) (o + 43) (Int.toNat x2) = 0 → (wp l G y_GM_evaluate (gRm (d + 1)) true (kkV X k) true 383 [.val (gR G o), .unset, .val (gI (w32 (x2 + 1))), .unset, .unset] [] X (gUp M47 (o + 43) (Int.toNat x2) v48) 0 0))))))))))) : wp l G y_GM_evaluate (gRm (d + 1)) true (kkV X k) true 383 [.val (gR G o), .unset, .val (gI x2), .unset, .unset] [] X M 0 0 := by
  refine wp_iload_n d_GM_evaluate_383 rfl rfl ?_
  refine wp_aload_n d_GM_evaluate_384 rfl rfl (g_nz hX.1) ?_
  refine xgetI d_GM_evaluate_385 gc_GM f_GM_476.1 f_GM_476.2.1 f_GM_476.2.2.1 hX.1 (gm_o2 hX) hX.2.2.1 f_GM_476.2.2.2.2.1 (fun h46 => ?_)
  have T := T h46
  refine xi_ge (tgt := 447) d_GM_evaluate_388 (by decide) (w32_id hx2) (w32_id h46) (fun h54 => ?_) (fun h54 => ?_)
  · have T := T.1 h54
    refine wp_iconst d_GM_evaluate_447 ?_
    refine wp_istore_n (L' := [.val (gR G o), .unset, .val (gI 1), .unset, .unset]) d_GM_evaluate_448 rfl (by decide) rfl ?_
    exact wp_md (wpt T (And.intro rfl (And.intro rfl True.intro)))
  · have T := T.2 h54
    refine wp_aload_n d_GM_evaluate_391 rfl rfl (g_nz hX.1) ?_
    refine xgetR d_GM_evaluate_392 gc_GM f_GM_144.1 f_GM_144.2.1 f_GM_144.2.2.1 hX.1 (gm_o2 hX) hX.2.2.1 f_GM_144.2.2.2.2.1 (gm_row hX 42 rfl).1 ?_
    refine wp_iload_n d_GM_evaluate_395 rfl rfl ?_
    refine wp_aload_n d_GM_evaluate_396 rfl rfl (g_nz hX.1) ?_
    refine wp_iload_n d_GM_evaluate_397 rfl rfl ?_
    refine wp_iload_n d_GM_evaluate_398 rfl rfl ?_
    refine xcV_Z (md' := true) (As := [gI x2, gI x2]) (st := [gI x2, gR G (o + 43)]) d_GM_evaluate_399 ca_GM_reaches ml_GM_482 im_GM_reaches se_GM_reaches gc_GM hX.1 (gm_o2 hX) hX.2.2.1 rfl (by decide) (by simp only [List.map, gR_cat, gI_cat, gL_cat, List.sum_cons, List.sum_nil]; decide) rfl (fun _ => rfl) (fun _ => rfl) T (fun v48 M47 h49 T => ?_)
    refine xzast d_GM_evaluate_402 (gm_row hX 42 rfl).2.2.1 (gm_row hX 42 rfl).2.2.2 (gm_row hX 42 rfl).2.1 (by decide) T.1 h49 ?_
    have T := T.2
    refine wp_aload_n d_GM_evaluate_403 rfl rfl (g_nz hX.1) ?_
    refine xgetR d_GM_evaluate_404 gc_GM f_GM_144.1 f_GM_144.2.1 f_GM_144.2.2.1 hX.1 (gm_o2 hX) hX.2.2.1 f_GM_144.2.2.2.2.1 (gm_row hX 42 rfl).1 ?_
    refine wp_iload_n d_GM_evaluate_407 rfl rfl ?_
    refine wp_zaload d_GM_evaluate_408 (gm_row hX 42 rfl).2.2.1 (gm_row hX 42 rfl).2.2.2 (gm_row hX 42 rfl).2.1 (g32_n T.1 (by decide)) T.1.1 T.1.2 (fun h50 => ?_)
    have T := T.2 h50
    refine xz_ne (tgt := 415) d_GM_evaluate_409 (by decide) (w32_id (g32_z h50)) (fun h53 => ?_) (fun h53 => ?_)
    · have T := T.1 h53
      refine wp_aload_n d_GM_evaluate_415 rfl rfl (g_nz hX.1) ?_
      refine xgetR d_GM_evaluate_416 gc_GM f_GM_91.1 f_GM_91.2.1 f_GM_91.2.2.1 hX.1 (gm_o2 hX) hX.2.2.1 f_GM_91.2.2.2.2.1 (gm_row hX 25 rfl).1 ?_
      refine wp_aload_n d_GM_evaluate_419 rfl rfl (g_nz hX.1) ?_
      refine xgetR d_GM_evaluate_420 gc_GM f_GM_135.1 f_GM_135.2.1 f_GM_135.2.2.1 hX.1 (gm_o2 hX) hX.2.2.1 f_GM_135.2.2.2.2.1 (gm_row hX 39 rfl).1 ?_
      refine wp_iload_n d_GM_evaluate_423 rfl rfl ?_
      refine wp_iaload d_GM_evaluate_424 (gm_row hX 39 rfl).2.2.1 (gm_row hX 39 rfl).2.2.2 (gm_row hX 39 rfl).2.1 (g32_n T.1 (by decide)) T.1.1 T.1.2 (fun h51 => ?_)
      have T := T.2 h51
      refine wp_iconst d_GM_evaluate_425 ?_
      refine xiast d_GM_evaluate_426 (gm_row hX 25 rfl).2.2.1 (gm_row hX 25 rfl).2.2.2 (gm_row hX 25 rfl).2.1 (by decide) T.1 (w32_id (g32_c (x := 4) rfl)) ?_
      have T := T.2
      refine wp_aload_n d_GM_evaluate_427 rfl rfl (g_nz hX.1) ?_
      refine xgetR d_GM_evaluate_428 gc_GM f_GM_103.1 f_GM_103.2.1 f_GM_103.2.2.1 hX.1 (gm_o2 hX) hX.2.2.1 f_GM_103.2.2.2.2.1 (gm_row hX 29 rfl).1 ?_
      refine wp_aload_n d_GM_evaluate_431 rfl rfl (g_nz hX.1) ?_
      refine xgetR d_GM_evaluate_432 gc_GM f_GM_135.1 f_GM_135.2.1 f_GM_135.2.2.1 hX.1 (gm_o2 hX) hX.2.2.1 f_GM_135.2.2.2.2.1 (gm_row hX 39 rfl).1 ?_
      refine wp_iload_n d_GM_evaluate_435 rfl rfl ?_
      refine wp_iaload d_GM_evaluate_436 (gm_row hX 39 rfl).2.2.1 (gm_row hX 39 rfl).2.2.2 (gm_row hX 39 rfl).2.1 (g32_n T.1 (by decide)) T.1.1 T.1.2 (fun h52 => ?_)
      have T := T.2 h52
      refine wp_ldc2 (n := 8) d_GM_evaluate_437 c_GM_488 rfl ?_
      refine xlast d_GM_evaluate_440 (gm_row hX 29 rfl).2.2.1 (gm_row hX 29 rfl).2.2.2 (gm_row hX 29 rfl).2.1 (by decide) T.1 (w64_id (g64_c (x := 8) rfl)) ?_
      have T := T.2
      refine wp_iinc (L' := [.val (gR G o), .unset, .val (gI (x2 + 1)), .unset, .unset]) d_GM_evaluate_441 rfl (by decide) rfl ?_
      refine wp_goto (tgt := 383) d_GM_evaluate_444 (by decide) ?_
      exact wp_md (wpt T (And.intro rfl (And.intro (gI_w _) True.intro)))
    · have T := T.2 h53
      refine wp_goto (tgt := 441) d_GM_evaluate_412 (by decide) ?_
      refine wp_iinc (L' := [.val (gR G o), .unset, .val (gI (x2 + 1)), .unset, .unset]) d_GM_evaluate_441 rfl (by decide) rfl ?_
      refine wp_goto (tgt := 383) d_GM_evaluate_444 (by decide) ?_
      exact wp_md (wpt T (And.intro rfl (And.intro (gI_w _) True.intro)))
set_option maxHeartbeats 4000000 in
theorem w_GM_evaluate_449 {l : Launch} {G : gG} {d : Nat} {X : gX} {M : gM} {k : gM → Prop} {o : Nat} (hX : gmX X o) {x2 : Int} (hx2 : g32 x2) (T : (x2 = 0 → (wp l G y_GM_evaluate (gRm (d + 1)) true (kkV X k) true 515 [.val (gR G o), .unset, .unset, .val (gI 0), .unset] [] X M 0 0)) ∧ (¬ x2 = 0 → (wp l G y_GM_evaluate (gRm (d + 1)) true (kkV X k) true 457 [.val (gR G o), .unset, .val (gI 0), .val (gI 0), .unset] [] X M 0 0))) : wp l G y_GM_evaluate (gRm (d + 1)) true (kkV X k) true 449 [.val (gR G o), .unset, .val (gI x2), .unset, .unset] [] X M 0 0 := by
  refine wp_iload_n d_GM_evaluate_449 rfl rfl ?_
  refine xz_eq (tgt := 513) d_GM_evaluate_450 (by decide) (w32_id hx2) (fun h61 => ?_) (fun h61 => ?_)
  · have T := T.1 h61
    refine wp_iconst d_GM_evaluate_513 ?_
    refine wp_istore_n (L' := [.val (gR G o), .unset, .val (gI x2), .val (gI 0), .unset]) d_GM_evaluate_514 rfl (by decide) rfl ?_
    exact wp_md (wpt T (And.intro rfl (And.intro rfl True.intro)))
  · have T := T.2 h61
    refine wp_iconst d_GM_evaluate_453 ?_
    refine wp_istore_n (L' := [.val (gR G o), .unset, .val (gI 0), .unset, .unset]) d_GM_evaluate_454 rfl (by decide) rfl ?_
    refine wp_iconst d_GM_evaluate_455 ?_
    refine wp_istore_n (L' := [.val (gR G o), .unset, .val (gI 0), .val (gI 0), .unset]) d_GM_evaluate_456 rfl (by decide) rfl ?_
    exact wp_md (wpt T (And.intro rfl (And.intro rfl (And.intro rfl True.intro))))
set_option maxHeartbeats 4000000 in
theorem w_GM_evaluate_515 {l : Launch} {G : gG} {d : Nat} {X : gX} {M : gM} {k : gM → Prop} {o : Nat} (hX : gmX X o) {x3 : Int} (hx3 : g32 x3) (T : g32 (M o 66) → ((M o 66 ≤ x3 → (k M)) ∧ (¬ M o 66 ≤ x3 → (((0 : Int) ≤ x3 ∧ x3 < 400) ∧ (g32 (M (o + 40) (Int.toNat x3)) → (((0 : Int) ≤ M (o + 40) (Int.toNat x3) ∧ M (o + 40) (Int.toNat x3) < 5200) ∧ (g32 (M (o + 26) (Int.toNat (M (o + 40) (Int.toNat x3)))) → ((¬ M (o + 26) (Int.toNat (M (o + 40) (Int.toNat x3))) = 4 → (wp l G y_GM_evaluate (gRm (d + 1)) true (kkV X k) true 515 [.val (gR G o), .unset, .unset, .val (gI (w32 (x3 + 1))), .unset] [] X M 0 0)) ∧ (M (o + 26) (Int.toNat (M (o + 40) (Int.toNat x3))) = 4 → (((0 : Int) ≤ x3 ∧ x3 < 400) ∧ (g32 (M (o + 40) (Int.toNat x3)) → (((0 : Int) ≤ M (o + 40) (Int.toNat x3) ∧ M (o + 40) (Int.toNat x3) < 5200) ∧ (g64 (M (o + 30) (Int.toNat (M (o + 40) (Int.toNat x3)))) → ((¬ M (o + 30) (Int.toNat (M (o + 40) (Int.toNat x3))) = 8 → (wp l G y_GM_evaluate (gRm (d + 1)) true (kkV X k) true 515 [.val (gR G o), .unset, .unset, .val (gI (w32 (x3 + 1))), .unset] [] X M 0 0)) ∧ (M (o + 30) (Int.toNat (M (o + 40) (Int.toNat x3))) = 8 → (g32 (M o 65) → (wp l G y_GM_evaluate (gRm (d + 1)) true (kkV X k) true 515 [.val (gR G o), .unset, .unset, .val (gI (w32 (x3 + 1))), .unset] [] X (gUp M o 65 (w32 ((M o 65) + 1))) 0 0))))))))))))))))) : wp l G y_GM_evaluate (gRm (d + 1)) true (kkV X k) true 515 [.val (gR G o), .unset, .unset, .val (gI x3), .unset] [] X M 0 0 := by
  refine wp_iload_n d_GM_evaluate_515 rfl rfl ?_
  refine wp_aload_n d_GM_evaluate_516 rfl rfl (g_nz hX.1) ?_
  refine xgetI d_GM_evaluate_517 gc_GM f_GM_476.1 f_GM_476.2.1 f_GM_476.2.2.1 hX.1 (gm_o2 hX) hX.2.2.1 f_GM_476.2.2.2.2.1 (fun h65 => ?_)
  have T := T h65
  refine xi_ge (tgt := 572) d_GM_evaluate_520 (by decide) (w32_id hx3) (w32_id h65) (fun h73 => ?_) (fun h73 => ?_)
  · have T := T.1 h73
    exact wp_return d_GM_evaluate_572 rfl (fun _ => rfl) (Nat.zero_le _) (Nat.zero_le _) (kV_mk T)
  · have T := T.2 h73
    refine wp_aload_n d_GM_evaluate_523 rfl rfl (g_nz hX.1) ?_
    refine xgetR d_GM_evaluate_524 gc_GM f_GM_91.1 f_GM_91.2.1 f_GM_91.2.2.1 hX.1 (gm_o2 hX) hX.2.2.1 f_GM_91.2.2.2.2.1 (gm_row hX 25 rfl).1 ?_
    refine wp_aload_n d_GM_evaluate_527 rfl rfl (g_nz hX.1) ?_
    refine xgetR d_GM_evaluate_528 gc_GM f_GM_135.1 f_GM_135.2.1 f_GM_135.2.2.1 hX.1 (gm_o2 hX) hX.2.2.1 f_GM_135.2.2.2.2.1 (gm_row hX 39 rfl).1 ?_
    refine wp_iload_n d_GM_evaluate_531 rfl rfl ?_
    refine wp_iaload d_GM_evaluate_532 (gm_row hX 39 rfl).2.2.1 (gm_row hX 39 rfl).2.2.2 (gm_row hX 39 rfl).2.1 (g32_n T.1 (by decide)) T.1.1 T.1.2 (fun h66 => ?_)
    have T := T.2 h66
    refine wp_iaload d_GM_evaluate_533 (gm_row hX 25 rfl).2.2.1 (gm_row hX 25 rfl).2.2.2 (gm_row hX 25 rfl).2.1 (g32_n T.1 (by decide)) T.1.1 T.1.2 (fun h67 => ?_)
    have T := T.2 h67
    refine wp_iconst d_GM_evaluate_534 ?_
    refine xi_ne (tgt := 566) d_GM_evaluate_535 (by decide) (w32_id h67) (w32_id (g32_c (x := 4) rfl)) (fun h72 => ?_) (fun h72 => ?_)
    · have T := T.1 h72
      refine wp_iinc (L' := [.val (gR G o), .unset, .unset, .val (gI (x3 + 1)), .unset]) d_GM_evaluate_566 rfl (by decide) rfl ?_
      refine wp_goto (tgt := 515) d_GM_evaluate_569 (by decide) ?_
      exact wp_md (wpt T (And.intro rfl (And.intro (gI_w _) True.intro)))
    · have T := T.2 h72
      refine wp_aload_n d_GM_evaluate_538 rfl rfl (g_nz hX.1) ?_
      refine xgetR d_GM_evaluate_539 gc_GM f_GM_103.1 f_GM_103.2.1 f_GM_103.2.2.1 hX.1 (gm_o2 hX) hX.2.2.1 f_GM_103.2.2.2.2.1 (gm_row hX 29 rfl).1 ?_
      refine wp_aload_n d_GM_evaluate_542 rfl rfl (g_nz hX.1) ?_
      refine xgetR d_GM_evaluate_543 gc_GM f_GM_135.1 f_GM_135.2.1 f_GM_135.2.2.1 hX.1 (gm_o2 hX) hX.2.2.1 f_GM_135.2.2.2.2.1 (gm_row hX 39 rfl).1 ?_
      refine wp_iload_n d_GM_evaluate_546 rfl rfl ?_
      refine wp_iaload d_GM_evaluate_547 (gm_row hX 39 rfl).2.2.1 (gm_row hX 39 rfl).2.2.2 (gm_row hX 39 rfl).2.1 (g32_n T.1 (by decide)) T.1.1 T.1.2 (fun h68 => ?_)
      have T := T.2 h68
      refine wp_laload d_GM_evaluate_548 (gm_row hX 29 rfl).2.2.1 (gm_row hX 29 rfl).2.2.2 (gm_row hX 29 rfl).2.1 (g32_n T.1 (by decide)) T.1.1 T.1.2 (fun h69 => ?_)
      have T := T.2 h69
      refine wp_ldc2 (n := 8) d_GM_evaluate_549 c_GM_488 rfl ?_
      refine xl_ne (tgt := 566) d_GM_evaluate_552 d_GM_evaluate_553 (by decide) (w64_id h69) (w64_id (g64_c (x := 8) rfl)) (fun h71 => ?_) (fun h71 => ?_)
      · have T := T.1 h71
        refine wp_iinc (L' := [.val (gR G o), .unset, .unset, .val (gI (x3 + 1)), .unset]) d_GM_evaluate_566 rfl (by decide) rfl ?_
        refine wp_goto (tgt := 515) d_GM_evaluate_569 (by decide) ?_
        exact wp_md (wpt T (And.intro rfl (And.intro (gI_w _) True.intro)))
      · have T := T.2 h71
        refine wp_aload_n d_GM_evaluate_556 rfl rfl (g_nz hX.1) ?_
        refine wp_dup d_GM_evaluate_557 (gR_cat _) ?_
        refine xgetI d_GM_evaluate_558 gc_GM f_GM_485.1 f_GM_485.2.1 f_GM_485.2.2.1 hX.1 (gm_o2 hX) hX.2.2.1 f_GM_485.2.2.2.2.1 (fun h70 => ?_)
        have T := T h70
        refine wp_iconst d_GM_evaluate_561 ?_
        refine wp_iadd d_GM_evaluate_562 ?_
        refine xputI d_GM_evaluate_563 gc_GM f_GM_485.1 f_GM_485.2.1 f_GM_485.2.2.1 hX.1 (gm_o2 hX) hX.2.2.1 f_GM_485.2.2.2.1 f_GM_485.2.2.2.2.1 f_GM_485.2.2.2.2.2 rfl ?_
        refine wp_iinc (L' := [.val (gR G o), .unset, .unset, .val (gI (x3 + 1)), .unset]) d_GM_evaluate_566 rfl (by decide) rfl ?_
        refine wp_goto (tgt := 515) d_GM_evaluate_569 (by decide) ?_
        exact wp_md (wpt T (And.intro rfl (And.intro (gI_w _) True.intro)))
set_option maxHeartbeats 4000000 in
theorem w_GM_evaluate_457 {l : Launch} {G : gG} {d : Nat} {X : gX} {M : gM} {k : gM → Prop} {o : Nat} (hX : gmX X o) {x2 : Int} (hx2 : g32 x2) {x3 : Int} (hx3 : g32 x3) (T : g32 (M o 66) → ((M o 66 ≤ x3 → (wp l G y_GM_evaluate (gRm (d + 1)) true (kkV X k) true 449 [.val (gR G o), .unset, .val (gI x2), .unset, .unset] [] X M 0 0)) ∧ (¬ M o 66 ≤ x3 → (((0 : Int) ≤ x3 ∧ x3 < 400) ∧ ((0 ≤ M (o + 43) (Int.toNat x3) ∧ M (o + 43) (Int.toNat x3) ≤ 1) → ((¬ M (o + 43) (Int.toNat x3) = 0 → (wp l G y_GM_evaluate (gRm (d + 1)) true (kkV X k) true 457 [.val (gR G o), .unset, .val (gI x2), .val (gI (w32 (x3 + 1))), .unset] [] X M 0 0)) ∧ (M (o + 43) (Int.toNat x3) = 0 → (cZ l G y_GM_ready (gRm d) false [gR G o, gI x3] X M (fun v77 M76 => ((¬ v77 = 0 → (((0 : Int) ≤ x3 ∧ x3 < 400) ∧ (g32 (M76 (o + 40) (Int.toNat x3)) → (cV l G y_GM_workOut (gRm d) true [gR G o, gI (M76 (o + 40) (Int.toNat x3))] X M76 (fun M80 => (((0 : Int) ≤ x3 ∧ x3 < 400) ∧ (wp l G y_GM_evaluate (gRm (d + 1)) true (kkV X k) true 457 [.val (gR G o), .unset, .val (gI 1), .val (gI (w32 (x3 + 1))), .unset] [] X (gUp M80 (o + 43) (Int.toNat x3) 1) 0 0))))))) ∧ (v77 = 0 → (wp l G y_GM_evaluate (gRm (d + 1)) true (kkV X k) true 457 [.val (gR G o), .unset, .val (gI x2), .val (gI (w32 (x3 + 1))), .unset] [] X M76 0 0)))))))))))) : wp l G y_GM_evaluate (gRm (d + 1)) true (kkV X k) true 457 [.val (gR G o), .unset, .val (gI x2), .val (gI x3), .unset] [] X M 0 0 := by
  refine wp_iload_n d_GM_evaluate_457 rfl rfl ?_
  refine wp_aload_n d_GM_evaluate_458 rfl rfl (g_nz hX.1) ?_
  refine xgetI d_GM_evaluate_459 gc_GM f_GM_476.1 f_GM_476.2.1 f_GM_476.2.2.1 hX.1 (gm_o2 hX) hX.2.2.1 f_GM_476.2.2.2.2.1 (fun h74 => ?_)
  have T := T h74
  refine xi_ge (tgt := 510) d_GM_evaluate_462 (by decide) (w32_id hx3) (w32_id h74) (fun h83 => ?_) (fun h83 => ?_)
  · have T := T.1 h83
    refine wp_goto (tgt := 449) d_GM_evaluate_510 (by decide) ?_
    exact wp_md (wpt T (And.intro rfl (And.intro rfl True.intro)))
  · have T := T.2 h83
    refine wp_aload_n d_GM_evaluate_465 rfl rfl (g_nz hX.1) ?_
    refine xgetR d_GM_evaluate_466 gc_GM f_GM_144.1 f_GM_144.2.1 f_GM_144.2.2.1 hX.1 (gm_o2 hX) hX.2.2.1 f_GM_144.2.2.2.2.1 (gm_row hX 42 rfl).1 ?_
    refine wp_iload_n d_GM_evaluate_469 rfl rfl ?_
    refine wp_zaload d_GM_evaluate_470 (gm_row hX 42 rfl).2.2.1 (gm_row hX 42 rfl).2.2.2 (gm_row hX 42 rfl).2.1 (g32_n T.1 (by decide)) T.1.1 T.1.2 (fun h75 => ?_)
    have T := T.2 h75
    refine xz_ne (tgt := 504) d_GM_evaluate_471 (by decide) (w32_id (g32_z h75)) (fun h82 => ?_) (fun h82 => ?_)
    · have T := T.1 h82
      refine wp_iinc (L' := [.val (gR G o), .unset, .val (gI x2), .val (gI (x3 + 1)), .unset]) d_GM_evaluate_504 rfl (by decide) rfl ?_
      refine wp_goto (tgt := 457) d_GM_evaluate_507 (by decide) ?_
      exact wp_md (wpt T (And.intro rfl (And.intro rfl (And.intro (gI_w _) True.intro))))
    · have T := T.2 h82
      refine wp_aload_n d_GM_evaluate_474 rfl rfl (g_nz hX.1) ?_
      refine wp_iload_n d_GM_evaluate_475 rfl rfl ?_
      refine xcV_Z (md' := true) (As := [gI x3]) (st := []) d_GM_evaluate_476 ca_GM_ready ml_GM_490 im_GM_ready se_GM_ready gc_GM hX.1 (gm_o2 hX) hX.2.2.1 rfl (by decide) (by decide) rfl (fun _ => rfl) (fun _ => rfl) T (fun v77 M76 h78 T => ?_)
      refine xz_ne (tgt := 485) d_GM_evaluate_479 (by decide) (w32_id (g32_z h78)) (fun h81 => ?_) (fun h81 => ?_)
      · have T := T.1 h81
        refine wp_aload_n d_GM_evaluate_485 rfl rfl (g_nz hX.1) ?_
        refine wp_aload_n d_GM_evaluate_486 rfl rfl (g_nz hX.1) ?_
        refine xgetR d_GM_evaluate_487 gc_GM f_GM_135.1 f_GM_135.2.1 f_GM_135.2.2.1 hX.1 (gm_o2 hX) hX.2.2.1 f_GM_135.2.2.2.2.1 (gm_row hX 39 rfl).1 ?_
        refine wp_iload_n d_GM_evaluate_490 rfl rfl ?_
        refine wp_iaload d_GM_evaluate_491 (gm_row hX 39 rfl).2.2.1 (gm_row hX 39 rfl).2.2.2 (gm_row hX 39 rfl).2.1 (g32_n T.1 (by decide)) T.1.1 T.1.2 (fun h79 => ?_)
        have T := T.2 h79
        refine xcV_V (md' := true) (As := [gI (M76 (o + 40) (Int.toNat x3))]) (st := []) d_GM_evaluate_492 ca_GM_workOut ml_GM_493 im_GM_workOut se_GM_workOut gc_GM hX.1 (gm_o2 hX) hX.2.2.1 rfl (by decide) (by decide) rfl (fun _ => rfl) (fun _ => rfl) T (fun M80 T => ?_)
        refine wp_aload_n d_GM_evaluate_495 rfl rfl (g_nz hX.1) ?_
        refine xgetR d_GM_evaluate_496 gc_GM f_GM_144.1 f_GM_144.2.1 f_GM_144.2.2.1 hX.1 (gm_o2 hX) hX.2.2.1 f_GM_144.2.2.2.2.1 (gm_row hX 42 rfl).1 ?_
        refine wp_iload_n d_GM_evaluate_499 rfl rfl ?_
        refine wp_iconst d_GM_evaluate_500 ?_
        refine xzast d_GM_evaluate_501 (gm_row hX 42 rfl).2.2.1 (gm_row hX 42 rfl).2.2.2 (gm_row hX 42 rfl).2.1 (by decide) T.1 (⟨by decide, by decide⟩ : (0 : Int) ≤ 1 ∧ (1 : Int) ≤ 1) ?_
        have T := T.2
        refine wp_iconst d_GM_evaluate_502 ?_
        refine wp_istore_n (L' := [.val (gR G o), .unset, .val (gI 1), .val (gI x3), .unset]) d_GM_evaluate_503 rfl (by decide) rfl ?_
        refine wp_iinc (L' := [.val (gR G o), .unset, .val (gI 1), .val (gI (x3 + 1)), .unset]) d_GM_evaluate_504 rfl (by decide) rfl ?_
        refine wp_goto (tgt := 457) d_GM_evaluate_507 (by decide) ?_
        exact wp_md (wpt T (And.intro rfl (And.intro rfl (And.intro (gI_w _) True.intro))))
      · have T := T.2 h81
        refine wp_goto (tgt := 504) d_GM_evaluate_482 (by decide) ?_
        refine wp_iinc (L' := [.val (gR G o), .unset, .val (gI x2), .val (gI (x3 + 1)), .unset]) d_GM_evaluate_504 rfl (by decide) rfl ?_
        refine wp_goto (tgt := 457) d_GM_evaluate_507 (by decide) ?_
        exact wp_md (wpt T (And.intro rfl (And.intro rfl (And.intro (gI_w _) True.intro))))
theorem e_GM_evaluate {l : Launch} {G : gG} {d : Nat} {X : gX} {M : gM} {k : gM → Prop} {o : Nat} {x1 : Int} (T : wp l G y_GM_evaluate (gRm (d + 1)) true (kkV X k) false 0 [.val (gR G o), .val (gI x1), .unset, .unset, .unset] [] X M 0 0) : cV l G y_GM_evaluate (gRm (d + 1)) true [gR G o, gI x1] X M k := cen_V (plainFor_of_name rfl) (by simp only [lg_sl_R, lg_sl_I, lg_sl_L, lg_sl_N, List.length_cons, List.length_nil]; decide) (by unfold gEn; simp only [lg_sl_R, lg_sl_I, lg_sl_L, lg_sl_N]; exact wpt T (And.intro rfl (And.intro rfl True.intro)))
