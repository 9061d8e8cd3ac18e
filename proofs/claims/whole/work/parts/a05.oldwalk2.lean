/-! Walks over Work and strings, written by wip/whole/gen_more.py -/
theorem d_Ma_reckon_0 : decode prog_6_method_10_code 0 = .ok (.aload_n 0, 1) := by decide +kernel
theorem d_Ma_reckon_1 : decode prog_6_method_10_code 1 = .ok (.getfield 14, 3) := by decide +kernel
theorem d_Ma_reckon_4 : decode prog_6_method_10_code 4 = .ok (.getfield 149, 3) := by decide +kernel
theorem d_Ma_reckon_7 : decode prog_6_method_10_code 7 = .ok (.iload_n 2, 1) := by decide +kernel
theorem d_Ma_reckon_8 : decode prog_6_method_10_code 8 = .ok (.laload, 1) := by decide +kernel
theorem d_Ma_reckon_9 : decode prog_6_method_10_code 9 = .ok (.lstore_n 3, 1) := by decide +kernel
theorem d_Ma_reckon_10 : decode prog_6_method_10_code 10 = .ok (.aload_n 0, 1) := by decide +kernel
theorem d_Ma_reckon_11 : decode prog_6_method_10_code 11 = .ok (.getfield 14, 3) := by decide +kernel
theorem d_Ma_reckon_14 : decode prog_6_method_10_code 14 = .ok (.getfield 149, 3) := by decide +kernel
theorem d_Ma_reckon_17 : decode prog_6_method_10_code 17 = .ok (.iload_n 2, 1) := by decide +kernel
theorem d_Ma_reckon_18 : decode prog_6_method_10_code 18 = .ok (.iconst 1, 1) := by decide +kernel
theorem d_Ma_reckon_19 : decode prog_6_method_10_code 19 = .ok (.iadd, 1) := by decide +kernel
theorem d_Ma_reckon_20 : decode prog_6_method_10_code 20 = .ok (.laload, 1) := by decide +kernel
theorem d_Ma_reckon_21 : decode prog_6_method_10_code 21 = .ok (.lstore 5, 2) := by decide +kernel
theorem d_Ma_reckon_23 : decode prog_6_method_10_code 23 = .ok (.getstatic 189, 3) := by decide +kernel
theorem d_Ma_reckon_26 : decode prog_6_method_10_code 26 = .ok (.aload_n 1, 1) := by decide +kernel
theorem d_Ma_reckon_27 : decode prog_6_method_10_code 27 = .ok (.invokevirtual 194, 3) := by decide +kernel
theorem d_Ma_reckon_30 : decode prog_6_method_10_code 30 = .ok (.iaload, 1) := by decide +kernel
theorem d_Ma_reckon_31 : decode prog_6_method_10_code 31 = .ok (.tableswitch 213 8 16 #[49, 67, 88, 106, 117, 128, 142, 165, 198], 49) := by decide +kernel
theorem d_Ma_reckon_80 : decode prog_6_method_10_code 80 = .ok (.aload_n 0, 1) := by decide +kernel
theorem d_Ma_reckon_81 : decode prog_6_method_10_code 81 = .ok (.iload_n 2, 1) := by decide +kernel
theorem d_Ma_reckon_82 : decode prog_6_method_10_code 82 = .ok (.lload_n 3, 1) := by decide +kernel
theorem d_Ma_reckon_83 : decode prog_6_method_10_code 83 = .ok (.lload 5, 2) := by decide +kernel
theorem d_Ma_reckon_85 : decode prog_6_method_10_code 85 = .ok (.ladd, 1) := by decide +kernel
theorem d_Ma_reckon_86 : decode prog_6_method_10_code 86 = .ok (.lload_n 3, 1) := by decide +kernel
theorem d_Ma_reckon_87 : decode prog_6_method_10_code 87 = .ok (.lload 5, 2) := by decide +kernel
theorem d_Ma_reckon_89 : decode prog_6_method_10_code 89 = .ok (.invokestatic 201, 3) := by decide +kernel
theorem d_Ma_reckon_92 : decode prog_6_method_10_code 92 = .ok (.invokevirtual 205, 3) := by decide +kernel
theorem d_Ma_reckon_95 : decode prog_6_method_10_code 95 = .ok (.goto 157, 3) := by decide +kernel
theorem d_Ma_reckon_98 : decode prog_6_method_10_code 98 = .ok (.aload_n 0, 1) := by decide +kernel
theorem d_Ma_reckon_99 : decode prog_6_method_10_code 99 = .ok (.iload_n 2, 1) := by decide +kernel
theorem d_Ma_reckon_100 : decode prog_6_method_10_code 100 = .ok (.lload_n 3, 1) := by decide +kernel
theorem d_Ma_reckon_101 : decode prog_6_method_10_code 101 = .ok (.lload 5, 2) := by decide +kernel
theorem d_Ma_reckon_103 : decode prog_6_method_10_code 103 = .ok (.lsub, 1) := by decide +kernel
theorem d_Ma_reckon_104 : decode prog_6_method_10_code 104 = .ok (.lload_n 3, 1) := by decide +kernel
theorem d_Ma_reckon_105 : decode prog_6_method_10_code 105 = .ok (.lload 5, 2) := by decide +kernel
theorem d_Ma_reckon_107 : decode prog_6_method_10_code 107 = .ok (.lsub, 1) := by decide +kernel
theorem d_Ma_reckon_108 : decode prog_6_method_10_code 108 = .ok (.lload 5, 2) := by decide +kernel
theorem d_Ma_reckon_110 : decode prog_6_method_10_code 110 = .ok (.invokestatic 201, 3) := by decide +kernel
theorem d_Ma_reckon_113 : decode prog_6_method_10_code 113 = .ok (.invokevirtual 205, 3) := by decide +kernel
theorem d_Ma_reckon_116 : decode prog_6_method_10_code 116 = .ok (.goto 136, 3) := by decide +kernel
theorem d_Ma_reckon_119 : decode prog_6_method_10_code 119 = .ok (.aload_n 0, 1) := by decide +kernel
theorem d_Ma_reckon_120 : decode prog_6_method_10_code 120 = .ok (.iload_n 2, 1) := by decide +kernel
theorem d_Ma_reckon_121 : decode prog_6_method_10_code 121 = .ok (.lload_n 3, 1) := by decide +kernel
theorem d_Ma_reckon_122 : decode prog_6_method_10_code 122 = .ok (.lload 5, 2) := by decide +kernel
theorem d_Ma_reckon_124 : decode prog_6_method_10_code 124 = .ok (.lmul, 1) := by decide +kernel
theorem d_Ma_reckon_125 : decode prog_6_method_10_code 125 = .ok (.lload_n 3, 1) := by decide +kernel
theorem d_Ma_reckon_126 : decode prog_6_method_10_code 126 = .ok (.lload 5, 2) := by decide +kernel
theorem d_Ma_reckon_128 : decode prog_6_method_10_code 128 = .ok (.invokestatic 209, 3) := by decide +kernel
theorem d_Ma_reckon_131 : decode prog_6_method_10_code 131 = .ok (.invokevirtual 205, 3) := by decide +kernel
theorem d_Ma_reckon_134 : decode prog_6_method_10_code 134 = .ok (.goto 118, 3) := by decide +kernel
theorem d_Ma_reckon_137 : decode prog_6_method_10_code 137 = .ok (.aload_n 0, 1) := by decide +kernel
theorem d_Ma_reckon_138 : decode prog_6_method_10_code 138 = .ok (.iload_n 2, 1) := by decide +kernel
theorem d_Ma_reckon_139 : decode prog_6_method_10_code 139 = .ok (.lload_n 3, 1) := by decide +kernel
theorem d_Ma_reckon_140 : decode prog_6_method_10_code 140 = .ok (.lload 5, 2) := by decide +kernel
theorem d_Ma_reckon_142 : decode prog_6_method_10_code 142 = .ok (.invokevirtual 212, 3) := by decide +kernel
theorem d_Ma_reckon_145 : decode prog_6_method_10_code 145 = .ok (.goto 107, 3) := by decide +kernel
theorem d_Ma_reckon_148 : decode prog_6_method_10_code 148 = .ok (.aload_n 0, 1) := by decide +kernel
theorem d_Ma_reckon_149 : decode prog_6_method_10_code 149 = .ok (.iload_n 2, 1) := by decide +kernel
theorem d_Ma_reckon_150 : decode prog_6_method_10_code 150 = .ok (.lload_n 3, 1) := by decide +kernel
theorem d_Ma_reckon_151 : decode prog_6_method_10_code 151 = .ok (.lload 5, 2) := by decide +kernel
theorem d_Ma_reckon_153 : decode prog_6_method_10_code 153 = .ok (.invokevirtual 216, 3) := by decide +kernel
theorem d_Ma_reckon_156 : decode prog_6_method_10_code 156 = .ok (.goto 96, 3) := by decide +kernel
theorem d_Ma_reckon_159 : decode prog_6_method_10_code 159 = .ok (.aload_n 0, 1) := by decide +kernel
theorem d_Ma_reckon_160 : decode prog_6_method_10_code 160 = .ok (.iload_n 2, 1) := by decide +kernel
theorem d_Ma_reckon_161 : decode prog_6_method_10_code 161 = .ok (.lload_n 3, 1) := by decide +kernel
theorem d_Ma_reckon_162 : decode prog_6_method_10_code 162 = .ok (.ldc2_w 219, 3) := by decide +kernel
theorem d_Ma_reckon_165 : decode prog_6_method_10_code 165 = .ok (.ldiv, 1) := by decide +kernel
theorem d_Ma_reckon_166 : decode prog_6_method_10_code 166 = .ok (.iconst 1, 1) := by decide +kernel
theorem d_Ma_reckon_167 : decode prog_6_method_10_code 167 = .ok (.invokevirtual 205, 3) := by decide +kernel
theorem d_Ma_reckon_170 : decode prog_6_method_10_code 170 = .ok (.goto 82, 3) := by decide +kernel
theorem d_Ma_reckon_173 : decode prog_6_method_10_code 173 = .ok (.aload_n 0, 1) := by decide +kernel
theorem d_Ma_reckon_174 : decode prog_6_method_10_code 174 = .ok (.iload_n 2, 1) := by decide +kernel
theorem d_Ma_reckon_175 : decode prog_6_method_10_code 175 = .ok (.lload_n 3, 1) := by decide +kernel
theorem d_Ma_reckon_176 : decode prog_6_method_10_code 176 = .ok (.lneg, 1) := by decide +kernel
theorem d_Ma_reckon_177 : decode prog_6_method_10_code 177 = .ok (.lload_n 3, 1) := by decide +kernel
theorem d_Ma_reckon_178 : decode prog_6_method_10_code 178 = .ok (.ldc2_w 223, 3) := by decide +kernel
theorem d_Ma_reckon_181 : decode prog_6_method_10_code 181 = .ok (.lcmp, 1) := by decide +kernel
theorem d_Ma_reckon_182 : decode prog_6_method_10_code 182 = .ok (.ifCond .eq 7, 3) := by decide +kernel
theorem d_Ma_reckon_189 : decode prog_6_method_10_code 189 = .ok (.iconst 0, 1) := by decide +kernel
theorem d_Ma_reckon_190 : decode prog_6_method_10_code 190 = .ok (.invokevirtual 205, 3) := by decide +kernel
theorem d_Ma_reckon_193 : decode prog_6_method_10_code 193 = .ok (.goto 59, 3) := by decide +kernel
theorem d_Ma_reckon_185 : decode prog_6_method_10_code 185 = .ok (.iconst 1, 1) := by decide +kernel
theorem d_Ma_reckon_186 : decode prog_6_method_10_code 186 = .ok (.goto 4, 3) := by decide +kernel
theorem d_Ma_reckon_196 : decode prog_6_method_10_code 196 = .ok (.aload_n 0, 1) := by decide +kernel
theorem d_Ma_reckon_197 : decode prog_6_method_10_code 197 = .ok (.iload_n 2, 1) := by decide +kernel
theorem d_Ma_reckon_198 : decode prog_6_method_10_code 198 = .ok (.lload_n 3, 1) := by decide +kernel
theorem d_Ma_reckon_199 : decode prog_6_method_10_code 199 = .ok (.lconst 0, 1) := by decide +kernel
theorem d_Ma_reckon_200 : decode prog_6_method_10_code 200 = .ok (.lcmp, 1) := by decide +kernel
theorem d_Ma_reckon_201 : decode prog_6_method_10_code 201 = .ok (.ifCond .ge 8, 3) := by decide +kernel
theorem d_Ma_reckon_209 : decode prog_6_method_10_code 209 = .ok (.lload_n 3, 1) := by decide +kernel
theorem d_Ma_reckon_204 : decode prog_6_method_10_code 204 = .ok (.lload_n 3, 1) := by decide +kernel
theorem d_Ma_reckon_205 : decode prog_6_method_10_code 205 = .ok (.lneg, 1) := by decide +kernel
theorem d_Ma_reckon_206 : decode prog_6_method_10_code 206 = .ok (.goto 4, 3) := by decide +kernel
theorem d_Ma_reckon_229 : decode prog_6_method_10_code 229 = .ok (.aload_n 0, 1) := by decide +kernel
theorem d_Ma_reckon_230 : decode prog_6_method_10_code 230 = .ok (.iload_n 2, 1) := by decide +kernel
theorem d_Ma_reckon_231 : decode prog_6_method_10_code 231 = .ok (.lload_n 3, 1) := by decide +kernel
theorem d_Ma_reckon_232 : decode prog_6_method_10_code 232 = .ok (.lconst 0, 1) := by decide +kernel
theorem d_Ma_reckon_233 : decode prog_6_method_10_code 233 = .ok (.invokestatic 225, 3) := by decide +kernel
theorem d_Ma_reckon_236 : decode prog_6_method_10_code 236 = .ok (.i2l, 1) := by decide +kernel
theorem d_Ma_reckon_237 : decode prog_6_method_10_code 237 = .ok (.iconst 1, 1) := by decide +kernel
theorem d_Ma_reckon_238 : decode prog_6_method_10_code 238 = .ok (.invokevirtual 205, 3) := by decide +kernel
theorem d_Ma_reckon_241 : decode prog_6_method_10_code 241 = .ok (.goto 11, 3) := by decide +kernel
theorem d_Ma_reckon_244 : decode prog_6_method_10_code 244 = .ok (.aload_n 0, 1) := by decide +kernel
theorem d_Ma_reckon_245 : decode prog_6_method_10_code 245 = .ok (.iload_n 2, 1) := by decide +kernel
theorem d_Ma_reckon_246 : decode prog_6_method_10_code 246 = .ok (.lload_n 3, 1) := by decide +kernel
theorem d_Ma_reckon_247 : decode prog_6_method_10_code 247 = .ok (.lload 5, 2) := by decide +kernel
theorem d_Ma_reckon_249 : decode prog_6_method_10_code 249 = .ok (.invokevirtual 228, 3) := by decide +kernel
theorem d_Ma_reckon_252 : decode prog_6_method_10_code 252 = .ok (.return_, 1) := by decide +kernel
theorem d_Ma_reckon_210 : decode prog_6_method_10_code 210 = .ok (.lload_n 3, 1) := by decide +kernel
theorem d_Ma_reckon_211 : decode prog_6_method_10_code 211 = .ok (.ldc2_w 223, 3) := by decide +kernel
theorem d_Ma_reckon_214 : decode prog_6_method_10_code 214 = .ok (.lcmp, 1) := by decide +kernel
theorem d_Ma_reckon_215 : decode prog_6_method_10_code 215 = .ok (.ifCond .eq 7, 3) := by decide +kernel
theorem d_Ma_reckon_222 : decode prog_6_method_10_code 222 = .ok (.iconst 0, 1) := by decide +kernel
theorem d_Ma_reckon_223 : decode prog_6_method_10_code 223 = .ok (.invokevirtual 205, 3) := by decide +kernel
theorem d_Ma_reckon_226 : decode prog_6_method_10_code 226 = .ok (.goto 26, 3) := by decide +kernel
theorem d_Ma_reckon_218 : decode prog_6_method_10_code 218 = .ok (.iconst 1, 1) := by decide +kernel
theorem d_Ma_reckon_219 : decode prog_6_method_10_code 219 = .ok (.goto 4, 3) := by decide +kernel
set_option maxHeartbeats 4000000 in
theorem w_Ma_reckon_0 {l : Launch} {G : gG} {d : Nat} {X : gX} {M : gM} {k : gM → Prop} {c : Nat} (hX : glX X c) {Q : gQ} (hO : gOld G Q) {w1 : Nat} (hw1 : w1 < 52) {x2 : Int} (hx2 : g32 x2)  (T : ((0 : Int) ≤ x2 ∧ x2 < 104) ∧ (g64 (M ((c + 1058) + 2) (Int.toNat x2)) → (((0 : Int) ≤ x2 + 1 ∧ x2 + 1 < 104) ∧ (g64 (M ((c + 1058) + 2) (Int.toNat (x2 + 1))) → ((gSw w1 = 8 → (cZ l G y_Vl_plusFits (gRm d) false [gL (M ((c + 1058) + 2) (Int.toNat x2)), gL (M ((c + 1058) + 2) (Int.toNat (x2 + 1)))] X M (fun v4 M3 => (cV l G y_Ma_settle (gRm d) true [gR G (c + 1057), gI x2, gL ((M ((c + 1058) + 2) (Int.toNat x2)) + (M ((c + 1058) + 2) (Int.toNat (x2 + 1)))), gI v4] X M3 (fun M6 => (wp l G y_Ma_reckon (gRm (d + 1)) true (kkV X k) true 252 [.unset, .unset, .unset, .unset, .unset, .unset, .unset] [] X M6 0 0)))))) ∧ (gSw w1 = 9 → (cZ l G y_Vl_plusFits (gRm d) false [gL ((M ((c + 1058) + 2) (Int.toNat x2)) - (M ((c + 1058) + 2) (Int.toNat (x2 + 1)))), gL (M ((c + 1058) + 2) (Int.toNat (x2 + 1)))] X M (fun v8 M7 => (cV l G y_Ma_settle (gRm d) true [gR G (c + 1057), gI x2, gL ((M ((c + 1058) + 2) (Int.toNat x2)) - (M ((c + 1058) + 2) (Int.toNat (x2 + 1)))), gI v8] X M7 (fun M10 => (wp l G y_Ma_reckon (gRm (d + 1)) true (kkV X k) true 252 [.unset, .unset, .unset, .unset, .unset, .unset, .unset] [] X M10 0 0)))))) ∧ (gSw w1 = 10 → (cZ l G y_Vl_timesFits (gRm d) false [gL (M ((c + 1058) + 2) (Int.toNat x2)), gL (M ((c + 1058) + 2) (Int.toNat (x2 + 1)))] X M (fun v12 M11 => (cV l G y_Ma_settle (gRm d) true [gR G (c + 1057), gI x2, gL ((M ((c + 1058) + 2) (Int.toNat x2)) * (M ((c + 1058) + 2) (Int.toNat (x2 + 1)))), gI v12] X M11 (fun M14 => (wp l G y_Ma_reckon (gRm (d + 1)) true (kkV X k) true 252 [.unset, .unset, .unset, .unset, .unset, .unset, .unset] [] X M14 0 0)))))) ∧ (gSw w1 = 11 → (cV l G y_Ma_divide (gRm d) true [gR G (c + 1057), gI x2, gL (M ((c + 1058) + 2) (Int.toNat x2)), gL (M ((c + 1058) + 2) (Int.toNat (x2 + 1)))] X M (fun M15 => (wp l G y_Ma_reckon (gRm (d + 1)) true (kkV X k) true 252 [.unset, .unset, .unset, .unset, .unset, .unset, .unset] [] X M15 0 0)))) ∧ (gSw w1 = 12 → (cV l G y_Ma_raise (gRm d) true [gR G (c + 1057), gI x2, gL (M ((c + 1058) + 2) (Int.toNat x2)), gL (M ((c + 1058) + 2) (Int.toNat (x2 + 1)))] X M (fun M16 => (wp l G y_Ma_reckon (gRm (d + 1)) true (kkV X k) true 252 [.unset, .unset, .unset, .unset, .unset, .unset, .unset] [] X M16 0 0)))) ∧ (gSw w1 = 13 → (cV l G y_Ma_settle (gRm d) true [gR G (c + 1057), gI x2, gL ((M ((c + 1058) + 2) (Int.toNat x2)).tdiv 100), gI 1] X M (fun M17 => (wp l G y_Ma_reckon (gRm (d + 1)) true (kkV X k) true 252 [.unset, .unset, .unset, .unset, .unset, .unset, .unset] [] X M17 0 0)))) ∧ (gSw w1 = 14 → ((M ((c + 1058) + 2) (Int.toNat x2) = (-9223372036854775808) → (cV l G y_Ma_settle (gRm d) true [gR G (c + 1057), gI x2, gL (-(M ((c + 1058) + 2) (Int.toNat x2))), gI 0] X M (fun M18 => (wp l G y_Ma_reckon (gRm (d + 1)) true (kkV X k) true 252 [.unset, .unset, .unset, .unset, .unset, .unset, .unset] [] X M18 0 0)))) ∧ (¬ M ((c + 1058) + 2) (Int.toNat x2) = (-9223372036854775808) → (cV l G y_Ma_settle (gRm d) true [gR G (c + 1057), gI x2, gL (-(M ((c + 1058) + 2) (Int.toNat x2))), gI 1] X M (fun M19 => (wp l G y_Ma_reckon (gRm (d + 1)) true (kkV X k) true 252 [.unset, .unset, .unset, .unset, .unset, .unset, .unset] [] X M19 0 0)))))) ∧ (gSw w1 = 15 → ((0 ≤ M ((c + 1058) + 2) (Int.toNat x2) → (wp l G y_Ma_reckon (gRm (d + 1)) true (kkV X k) true 210 [.unset, .unset, .unset, .val (gL (M ((c + 1058) + 2) (Int.toNat x2))), .unset, .unset, .unset] [gL (M ((c + 1058) + 2) (Int.toNat x2)), gI x2, gR G (c + 1057)] X M 0 0)) ∧ (¬ 0 ≤ M ((c + 1058) + 2) (Int.toNat x2) → (wp l G y_Ma_reckon (gRm (d + 1)) true (kkV X k) true 210 [.unset, .unset, .unset, .val (gL (M ((c + 1058) + 2) (Int.toNat x2))), .unset, .unset, .unset] [gL (w64 (-(M ((c + 1058) + 2) (Int.toNat x2)))), gI x2, gR G (c + 1057)] X M 0 0)))) ∧ (gSw w1 = 16 → (cI l G y_jLong_compare (gRm d) false [gL (M ((c + 1058) + 2) (Int.toNat x2)), gL 0] X M (fun v23 M22 => (cV l G y_Ma_settle (gRm d) true [gR G (c + 1057), gI x2, gL v23, gI 1] X M22 (fun M25 => (wp l G y_Ma_reckon (gRm (d + 1)) true (kkV X k) true 252 [.unset, .unset, .unset, .unset, .unset, .unset, .unset] [] X M25 0 0)))))) ∧ ((¬ gSw w1 = 8 ∧ ¬ gSw w1 = 9 ∧ ¬ gSw w1 = 10 ∧ ¬ gSw w1 = 11 ∧ ¬ gSw w1 = 12 ∧ ¬ gSw w1 = 13 ∧ ¬ gSw w1 = 14 ∧ ¬ gSw w1 = 15 ∧ ¬ gSw w1 = 16) → (cV l G y_Ma_modulo (gRm d) true [gR G (c + 1057), gI x2, gL (M ((c + 1058) + 2) (Int.toNat x2)), gL (M ((c + 1058) + 2) (Int.toNat (x2 + 1)))] X M (fun M26 => (wp l G y_Ma_reckon (gRm (d + 1)) true (kkV X k) true 252 [.unset, .unset, .unset, .unset, .unset, .unset, .unset] [] X M26 0 0))))))))) : wp l G y_Ma_reckon (gRm (d + 1)) true (kkV X k) false 0 [.val (gR G (c + 1057)), .val (.ref (Q.1 w1)), .val (gI x2), .unset, .unset, .unset, .unset] [] X M 0 0 := by
  refine wp_aload_n d_Ma_reckon_0 rfl rfl (g_nz (gl_1 hX 1057)) ?_
  refine xgetR d_Ma_reckon_1 gc_Ma f_Ma_14.1 f_Ma_14.2.1 f_Ma_14.2.2.1 (gl_1 hX 1057) (gl_2 hX (a := 1057) (by decide)) (gl_s hX 37 rfl) f_Ma_14.2.2.2.2.1 (gl_f hX 42 rfl) ?_
  refine xgetR d_Ma_reckon_4 gc_Vl f_Ma_149.1 f_Ma_149.2.1 f_Ma_149.2.2.1 (gl_stk hX).1 (gv_2 (gl_stk hX)) (gl_stk hX).2.2.1 f_Ma_149.2.2.2.2.1 (gv_r2 (gl_stk hX)).1 ?_
  refine wp_iload_n d_Ma_reckon_7 rfl rfl ?_
  refine wp_laload d_Ma_reckon_8 (gv_r2 (gl_stk hX)).2.2.1 (gv_r2 (gl_stk hX)).2.2.2 (gv_r2 (gl_stk hX)).2.1 (g32_n T.1 (gv_n (gl_stk hX))) T.1.1 T.1.2 (fun h1 => ?_)
  have T := T.2 h1
  refine wp_lstore_n (L' := [.val (gR G (c + 1057)), .val (.ref (Q.1 w1)), .val (gI x2), .val (gL (M ((c + 1058) + 2) (Int.toNat x2))), .unset, .unset, .unset]) d_Ma_reckon_9 rfl (by decide) rfl ?_
  refine wp_aload_n d_Ma_reckon_10 rfl rfl (g_nz (gl_1 hX 1057)) ?_
  refine xgetR d_Ma_reckon_11 gc_Ma f_Ma_14.1 f_Ma_14.2.1 f_Ma_14.2.2.1 (gl_1 hX 1057) (gl_2 hX (a := 1057) (by decide)) (gl_s hX 37 rfl) f_Ma_14.2.2.2.2.1 (gl_f hX 42 rfl) ?_
  refine xgetR d_Ma_reckon_14 gc_Vl f_Ma_149.1 f_Ma_149.2.1 f_Ma_149.2.2.1 (gl_stk hX).1 (gv_2 (gl_stk hX)) (gl_stk hX).2.2.1 f_Ma_149.2.2.2.2.1 (gv_r2 (gl_stk hX)).1 ?_
  refine wp_iload_n d_Ma_reckon_17 rfl rfl ?_
  refine wp_iconst d_Ma_reckon_18 ?_
  refine wp_iadd d_Ma_reckon_19 ?_
  refine wp_laload d_Ma_reckon_20 (gv_r2 (gl_stk hX)).2.2.1 (gv_r2 (gl_stk hX)).2.2.2 (gv_r2 (gl_stk hX)).2.1 (g32_n T.1 (gv_n (gl_stk hX))) T.1.1 T.1.2 (fun h2 => ?_)
  have T := T.2 h2
  refine wp_lstore (L' := [.val (gR G (c + 1057)), .val (.ref (Q.1 w1)), .val (gI x2), .val (gL (M ((c + 1058) + 2) (Int.toNat x2))), .unset, .val (gL (M ((c + 1058) + 2) (Int.toNat (x2 + 1)))), .unset]) d_Ma_reckon_21 (by decide) rfl ?_
  refine wp_gets d_Ma_reckon_23 fs_Ma_189 (fun U hU => (hO U hU).2.2.2.2.1.1) ?_
  refine wp_aloadO_n d_Ma_reckon_26 rfl rfl ?_
  refine xo_ord hO hw1 d_Ma_reckon_27 (gWs_ord ml_Ma_194) (by simp only [List.map, gR_cat, gI_cat, gL_cat, g_rcat, List.sum_cons, List.sum_nil]; decide) ?_
  refine xo_sw hO d_Ma_reckon_30 hw1 ?_
  obtain ⟨T0, T1, T2, T3, T4, T5, T6, T7, T8, T9⟩ := T
  by_cases hc0 : gSw w1 = 8
  · refine xtabIn (tgt := 80) d_Ma_reckon_31 (w32_id (gS32 hw1)) 8 hc0 rfl rfl (by decide) ?_
    have T := T0 hc0
    refine wp_aload_n d_Ma_reckon_80 rfl rfl (g_nz (gl_1 hX 1057)) ?_
    refine wp_iload_n d_Ma_reckon_81 rfl rfl ?_
    refine wp_lload_n d_Ma_reckon_82 rfl rfl ?_
    refine wp_lload d_Ma_reckon_83 rfl ?_
    refine wp_ladd d_Ma_reckon_85 ?_
    refine wp_lload_n d_Ma_reckon_86 rfl rfl ?_
    refine wp_lload d_Ma_reckon_87 rfl ?_
    refine xcS_Z (md' := false) (As := [gL (M ((c + 1058) + 2) (Int.toNat x2)), gL (M ((c + 1058) + 2) (Int.toNat (x2 + 1)))]) (st := [gL ((M ((c + 1058) + 2) (Int.toNat x2)) + (M ((c + 1058) + 2) (Int.toNat (x2 + 1)))), gI x2, gR G (c + 1057)]) d_Ma_reckon_89 ca_Vl_plusFits ml_Ma_201 sm_Vl_plusFits rfl (by decide) (by simp only [List.map, gR_cat, gI_cat, gL_cat, List.sum_cons, List.sum_nil]; decide) rfl id id T (fun v4 M3 h5 T => ?_)
    refine xcV_V (md' := true) (As := [gI x2, gL ((M ((c + 1058) + 2) (Int.toNat x2)) + (M ((c + 1058) + 2) (Int.toNat (x2 + 1)))), gI v4]) (st := []) d_Ma_reckon_92 ca_Ma_settle ml_Ma_205 im_Ma_settle se_Ma_settle gc_Ma (gl_1 hX 1057) (gl_2 hX (a := 1057) (by decide)) (gl_s hX 37 rfl) rfl (by decide) (by decide) rfl (fun _ => rfl) (fun _ => rfl) T (fun M6 T => ?_)
    refine wp_goto (tgt := 252) d_Ma_reckon_95 (by decide) ?_
    exact wp_md (wpt T True.intro)
  by_cases hc1 : gSw w1 = 9
  · refine xtabIn (tgt := 98) d_Ma_reckon_31 (w32_id (gS32 hw1)) 9 hc1 rfl rfl (by decide) ?_
    have T := T1 hc1
    refine wp_aload_n d_Ma_reckon_98 rfl rfl (g_nz (gl_1 hX 1057)) ?_
    refine wp_iload_n d_Ma_reckon_99 rfl rfl ?_
    refine wp_lload_n d_Ma_reckon_100 rfl rfl ?_
    refine wp_lload d_Ma_reckon_101 rfl ?_
    refine wp_lsub d_Ma_reckon_103 ?_
    refine wp_lload_n d_Ma_reckon_104 rfl rfl ?_
    refine wp_lload d_Ma_reckon_105 rfl ?_
    refine wp_lsub d_Ma_reckon_107 ?_
    refine wp_lload d_Ma_reckon_108 rfl ?_
    refine xcS_Z (md' := false) (As := [gL ((M ((c + 1058) + 2) (Int.toNat x2)) - (M ((c + 1058) + 2) (Int.toNat (x2 + 1)))), gL (M ((c + 1058) + 2) (Int.toNat (x2 + 1)))]) (st := [gL ((M ((c + 1058) + 2) (Int.toNat x2)) - (M ((c + 1058) + 2) (Int.toNat (x2 + 1)))), gI x2, gR G (c + 1057)]) d_Ma_reckon_110 ca_Vl_plusFits ml_Ma_201 sm_Vl_plusFits rfl (by decide) (by simp only [List.map, gR_cat, gI_cat, gL_cat, List.sum_cons, List.sum_nil]; decide) rfl id id T (fun v8 M7 h9 T => ?_)
    refine xcV_V (md' := true) (As := [gI x2, gL ((M ((c + 1058) + 2) (Int.toNat x2)) - (M ((c + 1058) + 2) (Int.toNat (x2 + 1)))), gI v8]) (st := []) d_Ma_reckon_113 ca_Ma_settle ml_Ma_205 im_Ma_settle se_Ma_settle gc_Ma (gl_1 hX 1057) (gl_2 hX (a := 1057) (by decide)) (gl_s hX 37 rfl) rfl (by decide) (by decide) rfl (fun _ => rfl) (fun _ => rfl) T (fun M10 T => ?_)
    refine wp_goto (tgt := 252) d_Ma_reckon_116 (by decide) ?_
    exact wp_md (wpt T True.intro)
  by_cases hc2 : gSw w1 = 10
  · refine xtabIn (tgt := 119) d_Ma_reckon_31 (w32_id (gS32 hw1)) 10 hc2 rfl rfl (by decide) ?_
    have T := T2 hc2
    refine wp_aload_n d_Ma_reckon_119 rfl rfl (g_nz (gl_1 hX 1057)) ?_
    refine wp_iload_n d_Ma_reckon_120 rfl rfl ?_
    refine wp_lload_n d_Ma_reckon_121 rfl rfl ?_
    refine wp_lload d_Ma_reckon_122 rfl ?_
    refine wp_lmul d_Ma_reckon_124 ?_
    refine wp_lload_n d_Ma_reckon_125 rfl rfl ?_
    refine wp_lload d_Ma_reckon_126 rfl ?_
    refine xcS_Z (md' := false) (As := [gL (M ((c + 1058) + 2) (Int.toNat x2)), gL (M ((c + 1058) + 2) (Int.toNat (x2 + 1)))]) (st := [gL ((M ((c + 1058) + 2) (Int.toNat x2)) * (M ((c + 1058) + 2) (Int.toNat (x2 + 1)))), gI x2, gR G (c + 1057)]) d_Ma_reckon_128 ca_Vl_timesFits ml_Ma_209 sm_Vl_timesFits rfl (by decide) (by simp only [List.map, gR_cat, gI_cat, gL_cat, List.sum_cons, List.sum_nil]; decide) rfl id id T (fun v12 M11 h13 T => ?_)
    refine xcV_V (md' := true) (As := [gI x2, gL ((M ((c + 1058) + 2) (Int.toNat x2)) * (M ((c + 1058) + 2) (Int.toNat (x2 + 1)))), gI v12]) (st := []) d_Ma_reckon_131 ca_Ma_settle ml_Ma_205 im_Ma_settle se_Ma_settle gc_Ma (gl_1 hX 1057) (gl_2 hX (a := 1057) (by decide)) (gl_s hX 37 rfl) rfl (by decide) (by decide) rfl (fun _ => rfl) (fun _ => rfl) T (fun M14 T => ?_)
    refine wp_goto (tgt := 252) d_Ma_reckon_134 (by decide) ?_
    exact wp_md (wpt T True.intro)
  by_cases hc3 : gSw w1 = 11
  · refine xtabIn (tgt := 137) d_Ma_reckon_31 (w32_id (gS32 hw1)) 11 hc3 rfl rfl (by decide) ?_
    have T := T3 hc3
    refine wp_aload_n d_Ma_reckon_137 rfl rfl (g_nz (gl_1 hX 1057)) ?_
    refine wp_iload_n d_Ma_reckon_138 rfl rfl ?_
    refine wp_lload_n d_Ma_reckon_139 rfl rfl ?_
    refine wp_lload d_Ma_reckon_140 rfl ?_
    refine xcV_V (md' := true) (As := [gI x2, gL (M ((c + 1058) + 2) (Int.toNat x2)), gL (M ((c + 1058) + 2) (Int.toNat (x2 + 1)))]) (st := []) d_Ma_reckon_142 ca_Ma_divide ml_Ma_212 im_Ma_divide se_Ma_divide gc_Ma (gl_1 hX 1057) (gl_2 hX (a := 1057) (by decide)) (gl_s hX 37 rfl) rfl (by decide) (by decide) rfl (fun _ => rfl) (fun _ => rfl) T (fun M15 T => ?_)
    refine wp_goto (tgt := 252) d_Ma_reckon_145 (by decide) ?_
    exact wp_md (wpt T True.intro)
  by_cases hc4 : gSw w1 = 12
  · refine xtabIn (tgt := 148) d_Ma_reckon_31 (w32_id (gS32 hw1)) 12 hc4 rfl rfl (by decide) ?_
    have T := T4 hc4
    refine wp_aload_n d_Ma_reckon_148 rfl rfl (g_nz (gl_1 hX 1057)) ?_
    refine wp_iload_n d_Ma_reckon_149 rfl rfl ?_
    refine wp_lload_n d_Ma_reckon_150 rfl rfl ?_
    refine wp_lload d_Ma_reckon_151 rfl ?_
    refine xcV_V (md' := true) (As := [gI x2, gL (M ((c + 1058) + 2) (Int.toNat x2)), gL (M ((c + 1058) + 2) (Int.toNat (x2 + 1)))]) (st := []) d_Ma_reckon_153 ca_Ma_raise ml_Ma_216 im_Ma_raise se_Ma_raise gc_Ma (gl_1 hX 1057) (gl_2 hX (a := 1057) (by decide)) (gl_s hX 37 rfl) rfl (by decide) (by decide) rfl (fun _ => rfl) (fun _ => rfl) T (fun M16 T => ?_)
    refine wp_goto (tgt := 252) d_Ma_reckon_156 (by decide) ?_
    exact wp_md (wpt T True.intro)
  by_cases hc5 : gSw w1 = 13
  · refine xtabIn (tgt := 159) d_Ma_reckon_31 (w32_id (gS32 hw1)) 13 hc5 rfl rfl (by decide) ?_
    have T := T5 hc5
    refine wp_aload_n d_Ma_reckon_159 rfl rfl (g_nz (gl_1 hX 1057)) ?_
    refine wp_iload_n d_Ma_reckon_160 rfl rfl ?_
    refine wp_lload_n d_Ma_reckon_161 rfl rfl ?_
    refine wp_ldc2 (n := 100) d_Ma_reckon_162 c_Ma_219 rfl ?_
    refine xldiv d_Ma_reckon_165 (w64_id h1) (w64_id (g64_c (x := 100) rfl)) (by decide) ?_
    refine wp_iconst d_Ma_reckon_166 ?_
    refine xcV_V (md' := true) (As := [gI x2, gL ((M ((c + 1058) + 2) (Int.toNat x2)).tdiv 100), gI 1]) (st := []) d_Ma_reckon_167 ca_Ma_settle ml_Ma_205 im_Ma_settle se_Ma_settle gc_Ma (gl_1 hX 1057) (gl_2 hX (a := 1057) (by decide)) (gl_s hX 37 rfl) rfl (by decide) (by decide) rfl (fun _ => rfl) (fun _ => rfl) T (fun M17 T => ?_)
    refine wp_goto (tgt := 252) d_Ma_reckon_170 (by decide) ?_
    exact wp_md (wpt T True.intro)
  by_cases hc6 : gSw w1 = 14
  · refine xtabIn (tgt := 173) d_Ma_reckon_31 (w32_id (gS32 hw1)) 14 hc6 rfl rfl (by decide) ?_
    have T := T6 hc6
    refine wp_aload_n d_Ma_reckon_173 rfl rfl (g_nz (gl_1 hX 1057)) ?_
    refine wp_iload_n d_Ma_reckon_174 rfl rfl ?_
    refine wp_lload_n d_Ma_reckon_175 rfl rfl ?_
    refine wp_lneg d_Ma_reckon_176 ?_
    refine wp_lload_n d_Ma_reckon_177 rfl rfl ?_
    refine wp_ldc2 (n := (-9223372036854775808)) d_Ma_reckon_178 c_Ma_223 rfl ?_
    refine xl_eq (tgt := 189) d_Ma_reckon_181 d_Ma_reckon_182 (by decide) (w64_id h1) (w64_id (g64_c (x := (-9223372036854775808)) rfl)) (fun h20 => ?_) (fun h20 => ?_)
    · have T := T.1 h20
      refine wp_iconst d_Ma_reckon_189 ?_
      refine xcV_V (md' := true) (As := [gI x2, gL (-(M ((c + 1058) + 2) (Int.toNat x2))), gI 0]) (st := []) d_Ma_reckon_190 ca_Ma_settle ml_Ma_205 im_Ma_settle se_Ma_settle gc_Ma (gl_1 hX 1057) (gl_2 hX (a := 1057) (by decide)) (gl_s hX 37 rfl) rfl (by decide) (by decide) rfl (fun _ => rfl) (fun _ => rfl) T (fun M18 T => ?_)
      refine wp_goto (tgt := 252) d_Ma_reckon_193 (by decide) ?_
      exact wp_md (wpt T True.intro)
    · have T := T.2 h20
      refine wp_iconst d_Ma_reckon_185 ?_
      refine wp_goto (tgt := 190) d_Ma_reckon_186 (by decide) ?_
      refine xcV_V (md' := true) (As := [gI x2, gL (-(M ((c + 1058) + 2) (Int.toNat x2))), gI 1]) (st := []) d_Ma_reckon_190 ca_Ma_settle ml_Ma_205 im_Ma_settle se_Ma_settle gc_Ma (gl_1 hX 1057) (gl_2 hX (a := 1057) (by decide)) (gl_s hX 37 rfl) rfl (by decide) (by decide) rfl (fun _ => rfl) (fun _ => rfl) T (fun M19 T => ?_)
      refine wp_goto (tgt := 252) d_Ma_reckon_193 (by decide) ?_
      exact wp_md (wpt T True.intro)
  by_cases hc7 : gSw w1 = 15
  · refine xtabIn (tgt := 196) d_Ma_reckon_31 (w32_id (gS32 hw1)) 15 hc7 rfl rfl (by decide) ?_
    have T := T7 hc7
    refine wp_aload_n d_Ma_reckon_196 rfl rfl (g_nz (gl_1 hX 1057)) ?_
    refine wp_iload_n d_Ma_reckon_197 rfl rfl ?_
    refine wp_lload_n d_Ma_reckon_198 rfl rfl ?_
    refine wp_lconst0 d_Ma_reckon_199 ?_
    refine xl_ge (tgt := 209) d_Ma_reckon_200 d_Ma_reckon_201 (by decide) (w64_id h1) (w64_id (g64_c (x := 0) rfl)) (fun h21 => ?_) (fun h21 => ?_)
    · have T := T.1 h21
      refine wp_lload_n d_Ma_reckon_209 rfl rfl ?_
      exact wp_md (wpt T (And.intro rfl True.intro))
    · have T := T.2 h21
      refine wp_lload_n d_Ma_reckon_204 rfl rfl ?_
      refine wp_lneg d_Ma_reckon_205 ?_
      refine wp_goto (tgt := 210) d_Ma_reckon_206 (by decide) ?_
      exact wp_md (wp_st (st' := [gL (w64 (-(M ((c + 1058) + 2) (Int.toNat x2)))), gI x2, gR G (c + 1057)]) (by simp only [gI_w, gL_w]) (wpt T (And.intro rfl True.intro)))
  by_cases hc8 : gSw w1 = 16
  · refine xtabIn (tgt := 229) d_Ma_reckon_31 (w32_id (gS32 hw1)) 16 hc8 rfl rfl (by decide) ?_
    have T := T8 hc8
    refine wp_aload_n d_Ma_reckon_229 rfl rfl (g_nz (gl_1 hX 1057)) ?_
    refine wp_iload_n d_Ma_reckon_230 rfl rfl ?_
    refine wp_lload_n d_Ma_reckon_231 rfl rfl ?_
    refine wp_lconst0 d_Ma_reckon_232 ?_
    refine xcS_I (md' := false) (As := [gL (M ((c + 1058) + 2) (Int.toNat x2)), gL 0]) (st := [gI x2, gR G (c + 1057)]) d_Ma_reckon_233 ca_jLong_compare ml_Ma_225 sm_jLong_compare rfl (by decide) (by simp only [List.map, gR_cat, gI_cat, gL_cat, List.sum_cons, List.sum_nil]; decide) rfl id id T (fun v23 M22 h24 T => ?_)
    refine xi2l d_Ma_reckon_236 (w32_id h24) ?_
    refine wp_iconst d_Ma_reckon_237 ?_
    refine xcV_V (md' := true) (As := [gI x2, gL v23, gI 1]) (st := []) d_Ma_reckon_238 ca_Ma_settle ml_Ma_205 im_Ma_settle se_Ma_settle gc_Ma (gl_1 hX 1057) (gl_2 hX (a := 1057) (by decide)) (gl_s hX 37 rfl) rfl (by decide) (by decide) rfl (fun _ => rfl) (fun _ => rfl) T (fun M25 T => ?_)
    refine wp_goto (tgt := 252) d_Ma_reckon_241 (by decide) ?_
    exact wp_md (wpt T True.intro)
  refine xtabOut (tgt := 244) d_Ma_reckon_31 (w32_id (gS32 hw1)) (by omega) (by decide) ?_
  have T := T9 ⟨hc0, hc1, hc2, hc3, hc4, hc5, hc6, hc7, hc8⟩
  refine wp_aload_n d_Ma_reckon_244 rfl rfl (g_nz (gl_1 hX 1057)) ?_
  refine wp_iload_n d_Ma_reckon_245 rfl rfl ?_
  refine wp_lload_n d_Ma_reckon_246 rfl rfl ?_
  refine wp_lload d_Ma_reckon_247 rfl ?_
  refine xcV_V (md' := true) (As := [gI x2, gL (M ((c + 1058) + 2) (Int.toNat x2)), gL (M ((c + 1058) + 2) (Int.toNat (x2 + 1)))]) (st := []) d_Ma_reckon_249 ca_Ma_modulo ml_Ma_228 im_Ma_modulo se_Ma_modulo gc_Ma (gl_1 hX 1057) (gl_2 hX (a := 1057) (by decide)) (gl_s hX 37 rfl) rfl (by decide) (by decide) rfl (fun _ => rfl) (fun _ => rfl) T (fun M26 T => ?_)
  exact wp_md (wpt T True.intro)
set_option maxHeartbeats 4000000 in
theorem w_Ma_reckon_252 {l : Launch} {G : gG} {d : Nat} {X : gX} {M : gM} {k : gM → Prop} {c : Nat} (hX : glX X c) {Q : gQ} (hO : gOld G Q)   (T : k M) : wp l G y_Ma_reckon (gRm (d + 1)) true (kkV X k) true 252 [.unset, .unset, .unset, .unset, .unset, .unset, .unset] [] X M 0 0 := by
  exact wp_return d_Ma_reckon_252 rfl (fun _ => rfl) (Nat.zero_le _) (Nat.zero_le _) (kV_mk T)
set_option maxHeartbeats 4000000 in
theorem w_Ma_reckon_210 {l : Launch} {G : gG} {d : Nat} {X : gX} {M : gM} {k : gM → Prop} {c : Nat} (hX : glX X c) {Q : gQ} (hO : gOld G Q) {x3 : Int} (hx3 : g64 x3) {s0 : Int} (hs0 : g64 s0) {s1 : Int} (hs1 : g32 s1)  (T : (x3 = (-9223372036854775808) → (cV l G y_Ma_settle (gRm d) true [gR G (c + 1057), gI s1, gL s0, gI 0] X M (fun M27 => (wp l G y_Ma_reckon (gRm (d + 1)) true (kkV X k) true 252 [.unset, .unset, .unset, .unset, .unset, .unset, .unset] [] X M27 0 0)))) ∧ (¬ x3 = (-9223372036854775808) → (cV l G y_Ma_settle (gRm d) true [gR G (c + 1057), gI s1, gL s0, gI 1] X M (fun M28 => (wp l G y_Ma_reckon (gRm (d + 1)) true (kkV X k) true 252 [.unset, .unset, .unset, .unset, .unset, .unset, .unset] [] X M28 0 0))))) : wp l G y_Ma_reckon (gRm (d + 1)) true (kkV X k) true 210 [.unset, .unset, .unset, .val (gL x3), .unset, .unset, .unset] [gL s0, gI s1, gR G (c + 1057)] X M 0 0 := by
  refine wp_lload_n d_Ma_reckon_210 rfl rfl ?_
  refine wp_ldc2 (n := (-9223372036854775808)) d_Ma_reckon_211 c_Ma_223 rfl ?_
  refine xl_eq (tgt := 222) d_Ma_reckon_214 d_Ma_reckon_215 (by decide) (w64_id hx3) (w64_id (g64_c (x := (-9223372036854775808)) rfl)) (fun h29 => ?_) (fun h29 => ?_)
  · have T := T.1 h29
    refine wp_iconst d_Ma_reckon_222 ?_
    refine xcV_V (md' := true) (As := [gI s1, gL s0, gI 0]) (st := []) d_Ma_reckon_223 ca_Ma_settle ml_Ma_205 im_Ma_settle se_Ma_settle gc_Ma (gl_1 hX 1057) (gl_2 hX (a := 1057) (by decide)) (gl_s hX 37 rfl) rfl (by decide) (by decide) rfl (fun _ => rfl) (fun _ => rfl) T (fun M27 T => ?_)
    refine wp_goto (tgt := 252) d_Ma_reckon_226 (by decide) ?_
    exact wp_md (wpt T True.intro)
  · have T := T.2 h29
    refine wp_iconst d_Ma_reckon_218 ?_
    refine wp_goto (tgt := 223) d_Ma_reckon_219 (by decide) ?_
    refine xcV_V (md' := true) (As := [gI s1, gL s0, gI 1]) (st := []) d_Ma_reckon_223 ca_Ma_settle ml_Ma_205 im_Ma_settle se_Ma_settle gc_Ma (gl_1 hX 1057) (gl_2 hX (a := 1057) (by decide)) (gl_s hX 37 rfl) rfl (by decide) (by decide) rfl (fun _ => rfl) (fun _ => rfl) T (fun M28 T => ?_)
    refine wp_goto (tgt := 252) d_Ma_reckon_226 (by decide) ?_
    exact wp_md (wpt T True.intro)
theorem e_Ma_reckon {l : Launch} {G : gG} {d : Nat} {X : gX} {M : gM} {k : gM → Prop} {Q : gQ} {c : Nat} {x2 : Int} {w1 : Nat} (T : wp l G y_Ma_reckon (gRm (d + 1)) true (kkV X k) false 0 [.val (gR G (c + 1057)), .val (.ref (Q.1 w1)), .val (gI x2), .unset, .unset, .unset, .unset] [] X M 0 0) : cV l G y_Ma_reckon (gRm (d + 1)) true [gR G (c + 1057), .ref (Q.1 w1), gI x2] X M k := cen_V (plainFor_of_name rfl) (by simp only [lg_sl_R, lg_sl_I, lg_sl_L, lg_sl_O, lg_sl_N, List.length_cons, List.length_nil]; decide) (by unfold gEn; simp only [lg_sl_R, lg_sl_I, lg_sl_L, lg_sl_O, lg_sl_N]; exact wpt T (And.intro rfl (And.intro rfl (And.intro rfl True.intro))))
theorem d_Ma_decide_0 : decode prog_6_method_15_code 0 = .ok (.aload_n 0, 1) := by decide +kernel
theorem d_Ma_decide_1 : decode prog_6_method_15_code 1 = .ok (.getfield 14, 3) := by decide +kernel
theorem d_Ma_decide_4 : decode prog_6_method_15_code 4 = .ok (.getfield 149, 3) := by decide +kernel
theorem d_Ma_decide_7 : decode prog_6_method_15_code 7 = .ok (.iload_n 2, 1) := by decide +kernel
theorem d_Ma_decide_8 : decode prog_6_method_15_code 8 = .ok (.laload, 1) := by decide +kernel
theorem d_Ma_decide_9 : decode prog_6_method_15_code 9 = .ok (.lconst 0, 1) := by decide +kernel
theorem d_Ma_decide_10 : decode prog_6_method_15_code 10 = .ok (.lcmp, 1) := by decide +kernel
theorem d_Ma_decide_11 : decode prog_6_method_15_code 11 = .ok (.ifCond .eq 7, 3) := by decide +kernel
theorem d_Ma_decide_18 : decode prog_6_method_15_code 18 = .ok (.iconst 0, 1) := by decide +kernel
theorem d_Ma_decide_14 : decode prog_6_method_15_code 14 = .ok (.iconst 1, 1) := by decide +kernel
theorem d_Ma_decide_15 : decode prog_6_method_15_code 15 = .ok (.goto 4, 3) := by decide +kernel
theorem d_Ma_decide_19 : decode prog_6_method_15_code 19 = .ok (.istore_n 3, 1) := by decide +kernel
theorem d_Ma_decide_20 : decode prog_6_method_15_code 20 = .ok (.aload_n 0, 1) := by decide +kernel
theorem d_Ma_decide_21 : decode prog_6_method_15_code 21 = .ok (.getfield 14, 3) := by decide +kernel
theorem d_Ma_decide_24 : decode prog_6_method_15_code 24 = .ok (.getfield 149, 3) := by decide +kernel
theorem d_Ma_decide_27 : decode prog_6_method_15_code 27 = .ok (.iload_n 2, 1) := by decide +kernel
theorem d_Ma_decide_28 : decode prog_6_method_15_code 28 = .ok (.iconst 1, 1) := by decide +kernel
theorem d_Ma_decide_29 : decode prog_6_method_15_code 29 = .ok (.iadd, 1) := by decide +kernel
theorem d_Ma_decide_30 : decode prog_6_method_15_code 30 = .ok (.laload, 1) := by decide +kernel
theorem d_Ma_decide_31 : decode prog_6_method_15_code 31 = .ok (.lconst 0, 1) := by decide +kernel
theorem d_Ma_decide_32 : decode prog_6_method_15_code 32 = .ok (.lcmp, 1) := by decide +kernel
theorem d_Ma_decide_33 : decode prog_6_method_15_code 33 = .ok (.ifCond .eq 7, 3) := by decide +kernel
theorem d_Ma_decide_40 : decode prog_6_method_15_code 40 = .ok (.iconst 0, 1) := by decide +kernel
theorem d_Ma_decide_36 : decode prog_6_method_15_code 36 = .ok (.iconst 1, 1) := by decide +kernel
theorem d_Ma_decide_37 : decode prog_6_method_15_code 37 = .ok (.goto 4, 3) := by decide +kernel
theorem d_Ma_decide_41 : decode prog_6_method_15_code 41 = .ok (.istore 4, 2) := by decide +kernel
theorem d_Ma_decide_43 : decode prog_6_method_15_code 43 = .ok (.getstatic 189, 3) := by decide +kernel
theorem d_Ma_decide_46 : decode prog_6_method_15_code 46 = .ok (.aload_n 1, 1) := by decide +kernel
theorem d_Ma_decide_47 : decode prog_6_method_15_code 47 = .ok (.invokevirtual 194, 3) := by decide +kernel
theorem d_Ma_decide_50 : decode prog_6_method_15_code 50 = .ok (.iaload, 1) := by decide +kernel
theorem d_Ma_decide_51 : decode prog_6_method_15_code 51 = .ok (.lookupswitch 75 #[(17, 25), (18, 50)], 25) := by decide +kernel
theorem d_Ma_decide_76 : decode prog_6_method_15_code 76 = .ok (.aload_n 0, 1) := by decide +kernel
theorem d_Ma_decide_77 : decode prog_6_method_15_code 77 = .ok (.getfield 14, 3) := by decide +kernel
theorem d_Ma_decide_80 : decode prog_6_method_15_code 80 = .ok (.iload_n 2, 1) := by decide +kernel
theorem d_Ma_decide_81 : decode prog_6_method_15_code 81 = .ok (.iload_n 3, 1) := by decide +kernel
theorem d_Ma_decide_82 : decode prog_6_method_15_code 82 = .ok (.ifCond .eq 12, 3) := by decide +kernel
theorem d_Ma_decide_94 : decode prog_6_method_15_code 94 = .ok (.iconst 0, 1) := by decide +kernel
theorem d_Ma_decide_95 : decode prog_6_method_15_code 95 = .ok (.invokevirtual 197, 3) := by decide +kernel
theorem d_Ma_decide_98 : decode prog_6_method_15_code 98 = .ok (.goto 45, 3) := by decide +kernel
theorem d_Ma_decide_85 : decode prog_6_method_15_code 85 = .ok (.iload 4, 2) := by decide +kernel
theorem d_Ma_decide_87 : decode prog_6_method_15_code 87 = .ok (.ifCond .eq 7, 3) := by decide +kernel
theorem d_Ma_decide_90 : decode prog_6_method_15_code 90 = .ok (.iconst 1, 1) := by decide +kernel
theorem d_Ma_decide_91 : decode prog_6_method_15_code 91 = .ok (.goto 4, 3) := by decide +kernel
theorem d_Ma_decide_101 : decode prog_6_method_15_code 101 = .ok (.aload_n 0, 1) := by decide +kernel
theorem d_Ma_decide_102 : decode prog_6_method_15_code 102 = .ok (.getfield 14, 3) := by decide +kernel
theorem d_Ma_decide_105 : decode prog_6_method_15_code 105 = .ok (.iload_n 2, 1) := by decide +kernel
theorem d_Ma_decide_106 : decode prog_6_method_15_code 106 = .ok (.iload_n 3, 1) := by decide +kernel
theorem d_Ma_decide_107 : decode prog_6_method_15_code 107 = .ok (.ifCond .ne 8, 3) := by decide +kernel
theorem d_Ma_decide_115 : decode prog_6_method_15_code 115 = .ok (.iconst 1, 1) := by decide +kernel
theorem d_Ma_decide_116 : decode prog_6_method_15_code 116 = .ok (.goto 4, 3) := by decide +kernel
theorem d_Ma_decide_120 : decode prog_6_method_15_code 120 = .ok (.invokevirtual 197, 3) := by decide +kernel
theorem d_Ma_decide_123 : decode prog_6_method_15_code 123 = .ok (.goto 20, 3) := by decide +kernel
theorem d_Ma_decide_110 : decode prog_6_method_15_code 110 = .ok (.iload 4, 2) := by decide +kernel
theorem d_Ma_decide_112 : decode prog_6_method_15_code 112 = .ok (.ifCond .eq 7, 3) := by decide +kernel
theorem d_Ma_decide_119 : decode prog_6_method_15_code 119 = .ok (.iconst 0, 1) := by decide +kernel
theorem d_Ma_decide_126 : decode prog_6_method_15_code 126 = .ok (.aload_n 0, 1) := by decide +kernel
theorem d_Ma_decide_127 : decode prog_6_method_15_code 127 = .ok (.getfield 14, 3) := by decide +kernel
theorem d_Ma_decide_130 : decode prog_6_method_15_code 130 = .ok (.iload_n 2, 1) := by decide +kernel
theorem d_Ma_decide_131 : decode prog_6_method_15_code 131 = .ok (.iload_n 3, 1) := by decide +kernel
theorem d_Ma_decide_132 : decode prog_6_method_15_code 132 = .ok (.ifCond .ne 7, 3) := by decide +kernel
theorem d_Ma_decide_139 : decode prog_6_method_15_code 139 = .ok (.iconst 0, 1) := by decide +kernel
theorem d_Ma_decide_140 : decode prog_6_method_15_code 140 = .ok (.invokevirtual 197, 3) := by decide +kernel
theorem d_Ma_decide_135 : decode prog_6_method_15_code 135 = .ok (.iconst 1, 1) := by decide +kernel
theorem d_Ma_decide_136 : decode prog_6_method_15_code 136 = .ok (.goto 4, 3) := by decide +kernel
theorem d_Ma_decide_143 : decode prog_6_method_15_code 143 = .ok (.return_, 1) := by decide +kernel
set_option maxHeartbeats 4000000 in
theorem w_Ma_decide_0 {l : Launch} {G : gG} {d : Nat} {X : gX} {M : gM} {k : gM → Prop} {c : Nat} (hX : glX X c) {Q : gQ} (hO : gOld G Q) {w1 : Nat} (hw1 : w1 < 52) {x2 : Int} (hx2 : g32 x2)  (T : ((0 : Int) ≤ x2 ∧ x2 < 104) ∧ (g64 (M ((c + 1058) + 2) (Int.toNat x2)) → ((M ((c + 1058) + 2) (Int.toNat x2) = 0 → (wp l G y_Ma_decide (gRm (d + 1)) true (kkV X k) true 19 [.val (gR G (c + 1057)), .val (.ref (Q.1 w1)), .val (gI x2), .unset, .unset] [gI 0] X M 0 0)) ∧ (¬ M ((c + 1058) + 2) (Int.toNat x2) = 0 → (wp l G y_Ma_decide (gRm (d + 1)) true (kkV X k) true 19 [.val (gR G (c + 1057)), .val (.ref (Q.1 w1)), .val (gI x2), .unset, .unset] [gI 1] X M 0 0))))) : wp l G y_Ma_decide (gRm (d + 1)) true (kkV X k) false 0 [.val (gR G (c + 1057)), .val (.ref (Q.1 w1)), .val (gI x2), .unset, .unset] [] X M 0 0 := by
  refine wp_aload_n d_Ma_decide_0 rfl rfl (g_nz (gl_1 hX 1057)) ?_
  refine xgetR d_Ma_decide_1 gc_Ma f_Ma_14.1 f_Ma_14.2.1 f_Ma_14.2.2.1 (gl_1 hX 1057) (gl_2 hX (a := 1057) (by decide)) (gl_s hX 37 rfl) f_Ma_14.2.2.2.2.1 (gl_f hX 42 rfl) ?_
  refine xgetR d_Ma_decide_4 gc_Vl f_Ma_149.1 f_Ma_149.2.1 f_Ma_149.2.2.1 (gl_stk hX).1 (gv_2 (gl_stk hX)) (gl_stk hX).2.2.1 f_Ma_149.2.2.2.2.1 (gv_r2 (gl_stk hX)).1 ?_
  refine wp_iload_n d_Ma_decide_7 rfl rfl ?_
  refine wp_laload d_Ma_decide_8 (gv_r2 (gl_stk hX)).2.2.1 (gv_r2 (gl_stk hX)).2.2.2 (gv_r2 (gl_stk hX)).2.1 (g32_n T.1 (gv_n (gl_stk hX))) T.1.1 T.1.2 (fun h1 => ?_)
  have T := T.2 h1
  refine wp_lconst0 d_Ma_decide_9 ?_
  refine xl_eq (tgt := 18) d_Ma_decide_10 d_Ma_decide_11 (by decide) (w64_id h1) (w64_id (g64_c (x := 0) rfl)) (fun h2 => ?_) (fun h2 => ?_)
  · have T := T.1 h2
    refine wp_iconst d_Ma_decide_18 ?_
    exact wp_md (wpt T (And.intro rfl (And.intro rfl (And.intro rfl True.intro))))
  · have T := T.2 h2
    refine wp_iconst d_Ma_decide_14 ?_
    refine wp_goto (tgt := 19) d_Ma_decide_15 (by decide) ?_
    exact wp_md (wpt T (And.intro rfl (And.intro rfl (And.intro rfl True.intro))))
set_option maxHeartbeats 4000000 in
theorem w_Ma_decide_19 {l : Launch} {G : gG} {d : Nat} {X : gX} {M : gM} {k : gM → Prop} {c : Nat} (hX : glX X c) {Q : gQ} (hO : gOld G Q) {x2 : Int} (hx2 : g32 x2) {s0 : Int} (hs0 : g32 s0)  {w1 : Nat} (hw1 : w1 < 52) (T : ((0 : Int) ≤ x2 + 1 ∧ x2 + 1 < 104) ∧ (g64 (M ((c + 1058) + 2) (Int.toNat (x2 + 1))) → ((M ((c + 1058) + 2) (Int.toNat (x2 + 1)) = 0 → (wp l G y_Ma_decide (gRm (d + 1)) true (kkV X k) true 41 [.val (gR G (c + 1057)), .val (.ref (Q.1 w1)), .val (gI x2), .val (gI s0), .unset] [gI 0] X M 0 0)) ∧ (¬ M ((c + 1058) + 2) (Int.toNat (x2 + 1)) = 0 → (wp l G y_Ma_decide (gRm (d + 1)) true (kkV X k) true 41 [.val (gR G (c + 1057)), .val (.ref (Q.1 w1)), .val (gI x2), .val (gI s0), .unset] [gI 1] X M 0 0))))) : wp l G y_Ma_decide (gRm (d + 1)) true (kkV X k) true 19 [.val (gR G (c + 1057)), .val (.ref (Q.1 w1)), .val (gI x2), .unset, .unset] [gI s0] X M 0 0 := by
  refine wp_istore_n (L' := [.val (gR G (c + 1057)), .val (.ref (Q.1 w1)), .val (gI x2), .val (gI s0), .unset]) d_Ma_decide_19 rfl (by decide) rfl ?_
  refine wp_aload_n d_Ma_decide_20 rfl rfl (g_nz (gl_1 hX 1057)) ?_
  refine xgetR d_Ma_decide_21 gc_Ma f_Ma_14.1 f_Ma_14.2.1 f_Ma_14.2.2.1 (gl_1 hX 1057) (gl_2 hX (a := 1057) (by decide)) (gl_s hX 37 rfl) f_Ma_14.2.2.2.2.1 (gl_f hX 42 rfl) ?_
  refine xgetR d_Ma_decide_24 gc_Vl f_Ma_149.1 f_Ma_149.2.1 f_Ma_149.2.2.1 (gl_stk hX).1 (gv_2 (gl_stk hX)) (gl_stk hX).2.2.1 f_Ma_149.2.2.2.2.1 (gv_r2 (gl_stk hX)).1 ?_
  refine wp_iload_n d_Ma_decide_27 rfl rfl ?_
  refine wp_iconst d_Ma_decide_28 ?_
  refine wp_iadd d_Ma_decide_29 ?_
  refine wp_laload d_Ma_decide_30 (gv_r2 (gl_stk hX)).2.2.1 (gv_r2 (gl_stk hX)).2.2.2 (gv_r2 (gl_stk hX)).2.1 (g32_n T.1 (gv_n (gl_stk hX))) T.1.1 T.1.2 (fun h3 => ?_)
  have T := T.2 h3
  refine wp_lconst0 d_Ma_decide_31 ?_
  refine xl_eq (tgt := 40) d_Ma_decide_32 d_Ma_decide_33 (by decide) (w64_id h3) (w64_id (g64_c (x := 0) rfl)) (fun h4 => ?_) (fun h4 => ?_)
  · have T := T.1 h4
    refine wp_iconst d_Ma_decide_40 ?_
    exact wp_md (wpt T (And.intro rfl (And.intro rfl (And.intro rfl (And.intro rfl True.intro)))))
  · have T := T.2 h4
    refine wp_iconst d_Ma_decide_36 ?_
    refine wp_goto (tgt := 41) d_Ma_decide_37 (by decide) ?_
    exact wp_md (wpt T (And.intro rfl (And.intro rfl (And.intro rfl (And.intro rfl True.intro)))))
set_option maxHeartbeats 4000000 in
theorem w_Ma_decide_41 {l : Launch} {G : gG} {d : Nat} {X : gX} {M : gM} {k : gM → Prop} {c : Nat} (hX : glX X c) {Q : gQ} (hO : gOld G Q) {x2 : Int} (hx2 : g32 x2) {x3 : Int} (hx3 : g32 x3) {s0 : Int} (hs0 : g32 s0)  {w1 : Nat} (hw1 : w1 < 52) (T : (gSw w1 = 17 → ((x3 = 0 → (cV l G y_Vl_setTruth (gRm d) true [gR G (c + 1058), gI x2, gI 0] X M (fun M5 => (wp l G y_Ma_decide (gRm (d + 1)) true (kkV X k) true 143 [.unset, .unset, .unset, .unset, .unset] [] X M5 0 0)))) ∧ (¬ x3 = 0 → ((s0 = 0 → (cV l G y_Vl_setTruth (gRm d) true [gR G (c + 1058), gI x2, gI 0] X M (fun M6 => (wp l G y_Ma_decide (gRm (d + 1)) true (kkV X k) true 143 [.unset, .unset, .unset, .unset, .unset] [] X M6 0 0)))) ∧ (¬ s0 = 0 → (cV l G y_Vl_setTruth (gRm d) true [gR G (c + 1058), gI x2, gI 1] X M (fun M7 => (wp l G y_Ma_decide (gRm (d + 1)) true (kkV X k) true 143 [.unset, .unset, .unset, .unset, .unset] [] X M7 0 0)))))))) ∧ (gSw w1 = 18 → ((¬ x3 = 0 → (cV l G y_Vl_setTruth (gRm d) true [gR G (c + 1058), gI x2, gI 1] X M (fun M10 => (wp l G y_Ma_decide (gRm (d + 1)) true (kkV X k) true 143 [.unset, .unset, .unset, .unset, .unset] [] X M10 0 0)))) ∧ (x3 = 0 → ((s0 = 0 → (cV l G y_Vl_setTruth (gRm d) true [gR G (c + 1058), gI x2, gI 0] X M (fun M11 => (wp l G y_Ma_decide (gRm (d + 1)) true (kkV X k) true 143 [.unset, .unset, .unset, .unset, .unset] [] X M11 0 0)))) ∧ (¬ s0 = 0 → (cV l G y_Vl_setTruth (gRm d) true [gR G (c + 1058), gI x2, gI 1] X M (fun M12 => (wp l G y_Ma_decide (gRm (d + 1)) true (kkV X k) true 143 [.unset, .unset, .unset, .unset, .unset] [] X M12 0 0)))))))) ∧ ((¬ gSw w1 = 17 ∧ ¬ gSw w1 = 18) → ((¬ x3 = 0 → (cV l G y_Vl_setTruth (gRm d) true [gR G (c + 1058), gI x2, gI 0] X M (fun M15 => (wp l G y_Ma_decide (gRm (d + 1)) true (kkV X k) true 143 [.unset, .unset, .unset, .unset, .unset] [] X M15 0 0)))) ∧ (x3 = 0 → (cV l G y_Vl_setTruth (gRm d) true [gR G (c + 1058), gI x2, gI 1] X M (fun M16 => (wp l G y_Ma_decide (gRm (d + 1)) true (kkV X k) true 143 [.unset, .unset, .unset, .unset, .unset] [] X M16 0 0))))))) : wp l G y_Ma_decide (gRm (d + 1)) true (kkV X k) true 41 [.val (gR G (c + 1057)), .val (.ref (Q.1 w1)), .val (gI x2), .val (gI x3), .unset] [gI s0] X M 0 0 := by
  refine wp_istore (L' := [.val (gR G (c + 1057)), .val (.ref (Q.1 w1)), .val (gI x2), .val (gI x3), .val (gI s0)]) d_Ma_decide_41 (by decide) rfl ?_
  refine wp_gets d_Ma_decide_43 fs_Ma_189 (fun U hU => (hO U hU).2.2.2.2.1.1) ?_
  refine wp_aloadO_n d_Ma_decide_46 rfl rfl ?_
  refine xo_ord hO hw1 d_Ma_decide_47 (gWs_ord ml_Ma_194) (by simp only [List.map, gR_cat, gI_cat, gL_cat, g_rcat, List.sum_cons, List.sum_nil]; decide) ?_
  refine xo_sw hO d_Ma_decide_50 hw1 ?_
  obtain ⟨T0, T1, T2⟩ := T
  by_cases hc0 : gSw w1 = 17
  · refine xlook (off := 25) (tgt := 76) d_Ma_decide_51 (w32_id (gS32 hw1)) rfl (by rw [hc0]; rfl) (by decide) ?_
    have T := T0 hc0
    refine wp_aload_n d_Ma_decide_76 rfl rfl (g_nz (gl_1 hX 1057)) ?_
    refine xgetR d_Ma_decide_77 gc_Ma f_Ma_14.1 f_Ma_14.2.1 f_Ma_14.2.2.1 (gl_1 hX 1057) (gl_2 hX (a := 1057) (by decide)) (gl_s hX 37 rfl) f_Ma_14.2.2.2.2.1 (gl_f hX 42 rfl) ?_
    refine wp_iload_n d_Ma_decide_80 rfl rfl ?_
    refine wp_iload_n d_Ma_decide_81 rfl rfl ?_
    refine xz_eq (tgt := 94) d_Ma_decide_82 (by decide) (w32_id hx3) (fun h9 => ?_) (fun h9 => ?_)
    · have T := T.1 h9
      refine wp_iconst d_Ma_decide_94 ?_
      refine xcV_V (md' := true) (As := [gI x2, gI 0]) (st := []) d_Ma_decide_95 ca_Vl_setTruth ml_Ma_197 im_Vl_setTruth se_Vl_setTruth gc_Vl (gl_stk hX).1 (gv_2 (gl_stk hX)) (gl_stk hX).2.2.1 rfl (by decide) (by decide) rfl (fun _ => rfl) (fun _ => rfl) T (fun M5 T => ?_)
      refine wp_goto (tgt := 143) d_Ma_decide_98 (by decide) ?_
      exact wp_md (wpt T True.intro)
    · have T := T.2 h9
      refine wp_iload d_Ma_decide_85 rfl ?_
      refine xz_eq (tgt := 94) d_Ma_decide_87 (by decide) (w32_id hs0) (fun h8 => ?_) (fun h8 => ?_)
      · have T := T.1 h8
        refine wp_iconst d_Ma_decide_94 ?_
        refine xcV_V (md' := true) (As := [gI x2, gI 0]) (st := []) d_Ma_decide_95 ca_Vl_setTruth ml_Ma_197 im_Vl_setTruth se_Vl_setTruth gc_Vl (gl_stk hX).1 (gv_2 (gl_stk hX)) (gl_stk hX).2.2.1 rfl (by decide) (by decide) rfl (fun _ => rfl) (fun _ => rfl) T (fun M6 T => ?_)
        refine wp_goto (tgt := 143) d_Ma_decide_98 (by decide) ?_
        exact wp_md (wpt T True.intro)
      · have T := T.2 h8
        refine wp_iconst d_Ma_decide_90 ?_
        refine wp_goto (tgt := 95) d_Ma_decide_91 (by decide) ?_
        refine xcV_V (md' := true) (As := [gI x2, gI 1]) (st := []) d_Ma_decide_95 ca_Vl_setTruth ml_Ma_197 im_Vl_setTruth se_Vl_setTruth gc_Vl (gl_stk hX).1 (gv_2 (gl_stk hX)) (gl_stk hX).2.2.1 rfl (by decide) (by decide) rfl (fun _ => rfl) (fun _ => rfl) T (fun M7 T => ?_)
        refine wp_goto (tgt := 143) d_Ma_decide_98 (by decide) ?_
        exact wp_md (wpt T True.intro)
  by_cases hc1 : gSw w1 = 18
  · refine xlook (off := 50) (tgt := 101) d_Ma_decide_51 (w32_id (gS32 hw1)) rfl (by rw [hc1]; rfl) (by decide) ?_
    have T := T1 hc1
    refine wp_aload_n d_Ma_decide_101 rfl rfl (g_nz (gl_1 hX 1057)) ?_
    refine xgetR d_Ma_decide_102 gc_Ma f_Ma_14.1 f_Ma_14.2.1 f_Ma_14.2.2.1 (gl_1 hX 1057) (gl_2 hX (a := 1057) (by decide)) (gl_s hX 37 rfl) f_Ma_14.2.2.2.2.1 (gl_f hX 42 rfl) ?_
    refine wp_iload_n d_Ma_decide_105 rfl rfl ?_
    refine wp_iload_n d_Ma_decide_106 rfl rfl ?_
    refine xz_ne (tgt := 115) d_Ma_decide_107 (by decide) (w32_id hx3) (fun h14 => ?_) (fun h14 => ?_)
    · have T := T.1 h14
      refine wp_iconst d_Ma_decide_115 ?_
      refine wp_goto (tgt := 120) d_Ma_decide_116 (by decide) ?_
      refine xcV_V (md' := true) (As := [gI x2, gI 1]) (st := []) d_Ma_decide_120 ca_Vl_setTruth ml_Ma_197 im_Vl_setTruth se_Vl_setTruth gc_Vl (gl_stk hX).1 (gv_2 (gl_stk hX)) (gl_stk hX).2.2.1 rfl (by decide) (by decide) rfl (fun _ => rfl) (fun _ => rfl) T (fun M10 T => ?_)
      refine wp_goto (tgt := 143) d_Ma_decide_123 (by decide) ?_
      exact wp_md (wpt T True.intro)
    · have T := T.2 h14
      refine wp_iload d_Ma_decide_110 rfl ?_
      refine xz_eq (tgt := 119) d_Ma_decide_112 (by decide) (w32_id hs0) (fun h13 => ?_) (fun h13 => ?_)
      · have T := T.1 h13
        refine wp_iconst d_Ma_decide_119 ?_
        refine xcV_V (md' := true) (As := [gI x2, gI 0]) (st := []) d_Ma_decide_120 ca_Vl_setTruth ml_Ma_197 im_Vl_setTruth se_Vl_setTruth gc_Vl (gl_stk hX).1 (gv_2 (gl_stk hX)) (gl_stk hX).2.2.1 rfl (by decide) (by decide) rfl (fun _ => rfl) (fun _ => rfl) T (fun M11 T => ?_)
        refine wp_goto (tgt := 143) d_Ma_decide_123 (by decide) ?_
        exact wp_md (wpt T True.intro)
      · have T := T.2 h13
        refine wp_iconst d_Ma_decide_115 ?_
        refine wp_goto (tgt := 120) d_Ma_decide_116 (by decide) ?_
        refine xcV_V (md' := true) (As := [gI x2, gI 1]) (st := []) d_Ma_decide_120 ca_Vl_setTruth ml_Ma_197 im_Vl_setTruth se_Vl_setTruth gc_Vl (gl_stk hX).1 (gv_2 (gl_stk hX)) (gl_stk hX).2.2.1 rfl (by decide) (by decide) rfl (fun _ => rfl) (fun _ => rfl) T (fun M12 T => ?_)
        refine wp_goto (tgt := 143) d_Ma_decide_123 (by decide) ?_
        exact wp_md (wpt T True.intro)
  refine xlook (off := 75) (tgt := 126) d_Ma_decide_51 (w32_id (gS32 hw1)) rfl (show Op.lookupswitch.offset [(17, 25), (18, 50)] 75 (gSw w1) = 75 by simp only [Op.lookupswitch.offset, if_neg (Ne.symm hc0), if_neg (Ne.symm hc1)]) (by decide) ?_
  have T := T2 ⟨hc0, hc1⟩
  refine wp_aload_n d_Ma_decide_126 rfl rfl (g_nz (gl_1 hX 1057)) ?_
  refine xgetR d_Ma_decide_127 gc_Ma f_Ma_14.1 f_Ma_14.2.1 f_Ma_14.2.2.1 (gl_1 hX 1057) (gl_2 hX (a := 1057) (by decide)) (gl_s hX 37 rfl) f_Ma_14.2.2.2.2.1 (gl_f hX 42 rfl) ?_
  refine wp_iload_n d_Ma_decide_130 rfl rfl ?_
  refine wp_iload_n d_Ma_decide_131 rfl rfl ?_
  refine xz_ne (tgt := 139) d_Ma_decide_132 (by decide) (w32_id hx3) (fun h17 => ?_) (fun h17 => ?_)
  · have T := T.1 h17
    refine wp_iconst d_Ma_decide_139 ?_
    refine xcV_V (md' := true) (As := [gI x2, gI 0]) (st := []) d_Ma_decide_140 ca_Vl_setTruth ml_Ma_197 im_Vl_setTruth se_Vl_setTruth gc_Vl (gl_stk hX).1 (gv_2 (gl_stk hX)) (gl_stk hX).2.2.1 rfl (by decide) (by decide) rfl (fun _ => rfl) (fun _ => rfl) T (fun M15 T => ?_)
    exact wp_md (wpt T True.intro)
  · have T := T.2 h17
    refine wp_iconst d_Ma_decide_135 ?_
    refine wp_goto (tgt := 140) d_Ma_decide_136 (by decide) ?_
    refine xcV_V (md' := true) (As := [gI x2, gI 1]) (st := []) d_Ma_decide_140 ca_Vl_setTruth ml_Ma_197 im_Vl_setTruth se_Vl_setTruth gc_Vl (gl_stk hX).1 (gv_2 (gl_stk hX)) (gl_stk hX).2.2.1 rfl (by decide) (by decide) rfl (fun _ => rfl) (fun _ => rfl) T (fun M16 T => ?_)
    exact wp_md (wpt T True.intro)
set_option maxHeartbeats 4000000 in
theorem w_Ma_decide_143 {l : Launch} {G : gG} {d : Nat} {X : gX} {M : gM} {k : gM → Prop} {c : Nat} (hX : glX X c) {Q : gQ} (hO : gOld G Q)   (T : k M) : wp l G y_Ma_decide (gRm (d + 1)) true (kkV X k) true 143 [.unset, .unset, .unset, .unset, .unset] [] X M 0 0 := by
  exact wp_return d_Ma_decide_143 rfl (fun _ => rfl) (Nat.zero_le _) (Nat.zero_le _) (kV_mk T)
theorem e_Ma_decide {l : Launch} {G : gG} {d : Nat} {X : gX} {M : gM} {k : gM → Prop} {Q : gQ} {c : Nat} {x2 : Int} {w1 : Nat} (T : wp l G y_Ma_decide (gRm (d + 1)) true (kkV X k) false 0 [.val (gR G (c + 1057)), .val (.ref (Q.1 w1)), .val (gI x2), .unset, .unset] [] X M 0 0) : cV l G y_Ma_decide (gRm (d + 1)) true [gR G (c + 1057), .ref (Q.1 w1), gI x2] X M k := cen_V (plainFor_of_name rfl) (by simp only [lg_sl_R, lg_sl_I, lg_sl_L, lg_sl_O, lg_sl_N, List.length_cons, List.length_nil]; decide) (by unfold gEn; simp only [lg_sl_R, lg_sl_I, lg_sl_L, lg_sl_O, lg_sl_N]; exact wpt T (And.intro rfl (And.intro rfl (And.intro rfl True.intro))))
theorem d_Ma_ask_0 : decode prog_6_method_16_code 0 = .ok (.aload_n 0, 1) := by decide +kernel
theorem d_Ma_ask_1 : decode prog_6_method_16_code 1 = .ok (.getfield 14, 3) := by decide +kernel
theorem d_Ma_ask_4 : decode prog_6_method_16_code 4 = .ok (.getfield 107, 3) := by decide +kernel
theorem d_Ma_ask_7 : decode prog_6_method_16_code 7 = .ok (.iload_n 2, 1) := by decide +kernel
theorem d_Ma_ask_8 : decode prog_6_method_16_code 8 = .ok (.iaload, 1) := by decide +kernel
theorem d_Ma_ask_9 : decode prog_6_method_16_code 9 = .ok (.istore_n 3, 1) := by decide +kernel
theorem d_Ma_ask_10 : decode prog_6_method_16_code 10 = .ok (.getstatic 189, 3) := by decide +kernel
theorem d_Ma_ask_13 : decode prog_6_method_16_code 13 = .ok (.aload_n 1, 1) := by decide +kernel
theorem d_Ma_ask_14 : decode prog_6_method_16_code 14 = .ok (.invokevirtual 194, 3) := by decide +kernel
theorem d_Ma_ask_17 : decode prog_6_method_16_code 17 = .ok (.iaload, 1) := by decide +kernel
theorem d_Ma_ask_18 : decode prog_6_method_16_code 18 = .ok (.tableswitch 113 19 22 #[30, 51, 72, 93], 30) := by decide +kernel
theorem d_Ma_ask_48 : decode prog_6_method_16_code 48 = .ok (.aload_n 0, 1) := by decide +kernel
theorem d_Ma_ask_49 : decode prog_6_method_16_code 49 = .ok (.getfield 14, 3) := by decide +kernel
theorem d_Ma_ask_52 : decode prog_6_method_16_code 52 = .ok (.iload_n 2, 1) := by decide +kernel
theorem d_Ma_ask_53 : decode prog_6_method_16_code 53 = .ok (.iload_n 3, 1) := by decide +kernel
theorem d_Ma_ask_54 : decode prog_6_method_16_code 54 = .ok (.iconst 4, 1) := by decide +kernel
theorem d_Ma_ask_55 : decode prog_6_method_16_code 55 = .ok (.if_icmp .ne 7, 3) := by decide +kernel
theorem d_Ma_ask_62 : decode prog_6_method_16_code 62 = .ok (.iconst 0, 1) := by decide +kernel
theorem d_Ma_ask_63 : decode prog_6_method_16_code 63 = .ok (.invokevirtual 197, 3) := by decide +kernel
theorem d_Ma_ask_66 : decode prog_6_method_16_code 66 = .ok (.goto 77, 3) := by decide +kernel
theorem d_Ma_ask_143 : decode prog_6_method_16_code 143 = .ok (.return_, 1) := by decide +kernel
theorem d_Ma_ask_58 : decode prog_6_method_16_code 58 = .ok (.iconst 1, 1) := by decide +kernel
theorem d_Ma_ask_59 : decode prog_6_method_16_code 59 = .ok (.goto 4, 3) := by decide +kernel
theorem d_Ma_ask_69 : decode prog_6_method_16_code 69 = .ok (.aload_n 0, 1) := by decide +kernel
theorem d_Ma_ask_70 : decode prog_6_method_16_code 70 = .ok (.getfield 14, 3) := by decide +kernel
theorem d_Ma_ask_73 : decode prog_6_method_16_code 73 = .ok (.iload_n 2, 1) := by decide +kernel
theorem d_Ma_ask_74 : decode prog_6_method_16_code 74 = .ok (.iload_n 3, 1) := by decide +kernel
theorem d_Ma_ask_75 : decode prog_6_method_16_code 75 = .ok (.iconst 1, 1) := by decide +kernel
theorem d_Ma_ask_76 : decode prog_6_method_16_code 76 = .ok (.if_icmp .ne 7, 3) := by decide +kernel
theorem d_Ma_ask_83 : decode prog_6_method_16_code 83 = .ok (.iconst 0, 1) := by decide +kernel
theorem d_Ma_ask_84 : decode prog_6_method_16_code 84 = .ok (.invokevirtual 197, 3) := by decide +kernel
theorem d_Ma_ask_87 : decode prog_6_method_16_code 87 = .ok (.goto 56, 3) := by decide +kernel
theorem d_Ma_ask_79 : decode prog_6_method_16_code 79 = .ok (.iconst 1, 1) := by decide +kernel
theorem d_Ma_ask_80 : decode prog_6_method_16_code 80 = .ok (.goto 4, 3) := by decide +kernel
theorem d_Ma_ask_90 : decode prog_6_method_16_code 90 = .ok (.aload_n 0, 1) := by decide +kernel
theorem d_Ma_ask_91 : decode prog_6_method_16_code 91 = .ok (.getfield 14, 3) := by decide +kernel
theorem d_Ma_ask_94 : decode prog_6_method_16_code 94 = .ok (.iload_n 2, 1) := by decide +kernel
theorem d_Ma_ask_95 : decode prog_6_method_16_code 95 = .ok (.iload_n 3, 1) := by decide +kernel
theorem d_Ma_ask_96 : decode prog_6_method_16_code 96 = .ok (.iconst 2, 1) := by decide +kernel
theorem d_Ma_ask_97 : decode prog_6_method_16_code 97 = .ok (.if_icmp .ne 7, 3) := by decide +kernel
theorem d_Ma_ask_104 : decode prog_6_method_16_code 104 = .ok (.iconst 0, 1) := by decide +kernel
theorem d_Ma_ask_105 : decode prog_6_method_16_code 105 = .ok (.invokevirtual 197, 3) := by decide +kernel
theorem d_Ma_ask_108 : decode prog_6_method_16_code 108 = .ok (.goto 35, 3) := by decide +kernel
theorem d_Ma_ask_100 : decode prog_6_method_16_code 100 = .ok (.iconst 1, 1) := by decide +kernel
theorem d_Ma_ask_101 : decode prog_6_method_16_code 101 = .ok (.goto 4, 3) := by decide +kernel
theorem d_Ma_ask_111 : decode prog_6_method_16_code 111 = .ok (.aload_n 0, 1) := by decide +kernel
theorem d_Ma_ask_112 : decode prog_6_method_16_code 112 = .ok (.getfield 14, 3) := by decide +kernel
theorem d_Ma_ask_115 : decode prog_6_method_16_code 115 = .ok (.iload_n 2, 1) := by decide +kernel
theorem d_Ma_ask_116 : decode prog_6_method_16_code 116 = .ok (.iload_n 3, 1) := by decide +kernel
theorem d_Ma_ask_117 : decode prog_6_method_16_code 117 = .ok (.ifCond .ne 7, 3) := by decide +kernel
theorem d_Ma_ask_124 : decode prog_6_method_16_code 124 = .ok (.iconst 0, 1) := by decide +kernel
theorem d_Ma_ask_125 : decode prog_6_method_16_code 125 = .ok (.invokevirtual 197, 3) := by decide +kernel
theorem d_Ma_ask_128 : decode prog_6_method_16_code 128 = .ok (.goto 15, 3) := by decide +kernel
theorem d_Ma_ask_120 : decode prog_6_method_16_code 120 = .ok (.iconst 1, 1) := by decide +kernel
theorem d_Ma_ask_121 : decode prog_6_method_16_code 121 = .ok (.goto 4, 3) := by decide +kernel
theorem d_Ma_ask_131 : decode prog_6_method_16_code 131 = .ok (.aload_n 0, 1) := by decide +kernel
theorem d_Ma_ask_132 : decode prog_6_method_16_code 132 = .ok (.getfield 14, 3) := by decide +kernel
theorem d_Ma_ask_135 : decode prog_6_method_16_code 135 = .ok (.iload_n 2, 1) := by decide +kernel
theorem d_Ma_ask_136 : decode prog_6_method_16_code 136 = .ok (.iconst 4, 1) := by decide +kernel
theorem d_Ma_ask_137 : decode prog_6_method_16_code 137 = .ok (.ldc2_w 248, 3) := by decide +kernel
theorem d_Ma_ask_140 : decode prog_6_method_16_code 140 = .ok (.invokevirtual 110, 3) := by decide +kernel
set_option maxHeartbeats 4000000 in
theorem w_Ma_ask_0 {l : Launch} {G : gG} {d : Nat} {X : gX} {M : gM} {k : gM → Prop} {c : Nat} (hX : glX X c) {Q : gQ} (hO : gOld G Q) {w1 : Nat} (hw1 : w1 < 52) {x2 : Int} (hx2 : g32 x2)  (T : ((0 : Int) ≤ x2 ∧ x2 < 104) ∧ (g32 (M ((c + 1058) + 1) (Int.toNat x2)) → ((gSw w1 = 19 → ((¬ M ((c + 1058) + 1) (Int.toNat x2) = 4 → (cV l G y_Vl_setTruth (gRm d) true [gR G (c + 1058), gI x2, gI 0] X M (fun M2 => (k M2)))) ∧ (M ((c + 1058) + 1) (Int.toNat x2) = 4 → (cV l G y_Vl_setTruth (gRm d) true [gR G (c + 1058), gI x2, gI 1] X M (fun M3 => (k M3)))))) ∧ (gSw w1 = 20 → ((¬ M ((c + 1058) + 1) (Int.toNat x2) = 1 → (cV l G y_Vl_setTruth (gRm d) true [gR G (c + 1058), gI x2, gI 0] X M (fun M5 => (k M5)))) ∧ (M ((c + 1058) + 1) (Int.toNat x2) = 1 → (cV l G y_Vl_setTruth (gRm d) true [gR G (c + 1058), gI x2, gI 1] X M (fun M6 => (k M6)))))) ∧ (gSw w1 = 21 → ((¬ M ((c + 1058) + 1) (Int.toNat x2) = 2 → (cV l G y_Vl_setTruth (gRm d) true [gR G (c + 1058), gI x2, gI 0] X M (fun M8 => (k M8)))) ∧ (M ((c + 1058) + 1) (Int.toNat x2) = 2 → (cV l G y_Vl_setTruth (gRm d) true [gR G (c + 1058), gI x2, gI 1] X M (fun M9 => (k M9)))))) ∧ (gSw w1 = 22 → ((¬ M ((c + 1058) + 1) (Int.toNat x2) = 0 → (cV l G y_Vl_setTruth (gRm d) true [gR G (c + 1058), gI x2, gI 0] X M (fun M11 => (k M11)))) ∧ (M ((c + 1058) + 1) (Int.toNat x2) = 0 → (cV l G y_Vl_setTruth (gRm d) true [gR G (c + 1058), gI x2, gI 1] X M (fun M12 => (k M12)))))) ∧ ((¬ gSw w1 = 19 ∧ ¬ gSw w1 = 20 ∧ ¬ gSw w1 = 21 ∧ ¬ gSw w1 = 22) → (cV l G y_Vl_set (gRm d) true [gR G (c + 1058), gI x2, gI 4, gL 7] X M (fun M14 => (k M14))))))) : wp l G y_Ma_ask (gRm (d + 1)) true (kkV X k) false 0 [.val (gR G (c + 1057)), .val (.ref (Q.1 w1)), .val (gI x2), .unset] [] X M 0 0 := by
  refine wp_aload_n d_Ma_ask_0 rfl rfl (g_nz (gl_1 hX 1057)) ?_
  refine xgetR d_Ma_ask_1 gc_Ma f_Ma_14.1 f_Ma_14.2.1 f_Ma_14.2.2.1 (gl_1 hX 1057) (gl_2 hX (a := 1057) (by decide)) (gl_s hX 37 rfl) f_Ma_14.2.2.2.2.1 (gl_f hX 42 rfl) ?_
  refine xgetR d_Ma_ask_4 gc_Vl f_Ma_107.1 f_Ma_107.2.1 f_Ma_107.2.2.1 (gl_stk hX).1 (gv_2 (gl_stk hX)) (gl_stk hX).2.2.1 f_Ma_107.2.2.2.2.1 (gv_r1 (gl_stk hX)).1 ?_
  refine wp_iload_n d_Ma_ask_7 rfl rfl ?_
  refine wp_iaload d_Ma_ask_8 (gv_r1 (gl_stk hX)).2.2.1 (gv_r1 (gl_stk hX)).2.2.2 (gv_r1 (gl_stk hX)).2.1 (g32_n T.1 (gv_n (gl_stk hX))) T.1.1 T.1.2 (fun h1 => ?_)
  have T := T.2 h1
  refine wp_istore_n (L' := [.val (gR G (c + 1057)), .val (.ref (Q.1 w1)), .val (gI x2), .val (gI (M ((c + 1058) + 1) (Int.toNat x2)))]) d_Ma_ask_9 rfl (by decide) rfl ?_
  refine wp_gets d_Ma_ask_10 fs_Ma_189 (fun U hU => (hO U hU).2.2.2.2.1.1) ?_
  refine wp_aloadO_n d_Ma_ask_13 rfl rfl ?_
  refine xo_ord hO hw1 d_Ma_ask_14 (gWs_ord ml_Ma_194) (by simp only [List.map, gR_cat, gI_cat, gL_cat, g_rcat, List.sum_cons, List.sum_nil]; decide) ?_
  refine xo_sw hO d_Ma_ask_17 hw1 ?_
  obtain ⟨T0, T1, T2, T3, T4⟩ := T
  by_cases hc0 : gSw w1 = 19
  · refine xtabIn (tgt := 48) d_Ma_ask_18 (w32_id (gS32 hw1)) 19 hc0 rfl rfl (by decide) ?_
    have T := T0 hc0
    refine wp_aload_n d_Ma_ask_48 rfl rfl (g_nz (gl_1 hX 1057)) ?_
    refine xgetR d_Ma_ask_49 gc_Ma f_Ma_14.1 f_Ma_14.2.1 f_Ma_14.2.2.1 (gl_1 hX 1057) (gl_2 hX (a := 1057) (by decide)) (gl_s hX 37 rfl) f_Ma_14.2.2.2.2.1 (gl_f hX 42 rfl) ?_
    refine wp_iload_n d_Ma_ask_52 rfl rfl ?_
    refine wp_iload_n d_Ma_ask_53 rfl rfl ?_
    refine wp_iconst d_Ma_ask_54 ?_
    refine xi_ne (tgt := 62) d_Ma_ask_55 (by decide) (w32_id h1) (w32_id (g32_c (x := 4) rfl)) (fun h4 => ?_) (fun h4 => ?_)
    · have T := T.1 h4
      refine wp_iconst d_Ma_ask_62 ?_
      refine xcV_V (md' := true) (As := [gI x2, gI 0]) (st := []) d_Ma_ask_63 ca_Vl_setTruth ml_Ma_197 im_Vl_setTruth se_Vl_setTruth gc_Vl (gl_stk hX).1 (gv_2 (gl_stk hX)) (gl_stk hX).2.2.1 rfl (by decide) (by decide) rfl (fun _ => rfl) (fun _ => rfl) T (fun M2 T => ?_)
      refine wp_goto (tgt := 143) d_Ma_ask_66 (by decide) ?_
      exact wp_return d_Ma_ask_143 rfl (fun _ => rfl) (Nat.zero_le _) (Nat.zero_le _) (kV_mk T)
    · have T := T.2 h4
      refine wp_iconst d_Ma_ask_58 ?_
      refine wp_goto (tgt := 63) d_Ma_ask_59 (by decide) ?_
      refine xcV_V (md' := true) (As := [gI x2, gI 1]) (st := []) d_Ma_ask_63 ca_Vl_setTruth ml_Ma_197 im_Vl_setTruth se_Vl_setTruth gc_Vl (gl_stk hX).1 (gv_2 (gl_stk hX)) (gl_stk hX).2.2.1 rfl (by decide) (by decide) rfl (fun _ => rfl) (fun _ => rfl) T (fun M3 T => ?_)
      refine wp_goto (tgt := 143) d_Ma_ask_66 (by decide) ?_
      exact wp_return d_Ma_ask_143 rfl (fun _ => rfl) (Nat.zero_le _) (Nat.zero_le _) (kV_mk T)
  by_cases hc1 : gSw w1 = 20
  · refine xtabIn (tgt := 69) d_Ma_ask_18 (w32_id (gS32 hw1)) 20 hc1 rfl rfl (by decide) ?_
    have T := T1 hc1
    refine wp_aload_n d_Ma_ask_69 rfl rfl (g_nz (gl_1 hX 1057)) ?_
    refine xgetR d_Ma_ask_70 gc_Ma f_Ma_14.1 f_Ma_14.2.1 f_Ma_14.2.2.1 (gl_1 hX 1057) (gl_2 hX (a := 1057) (by decide)) (gl_s hX 37 rfl) f_Ma_14.2.2.2.2.1 (gl_f hX 42 rfl) ?_
    refine wp_iload_n d_Ma_ask_73 rfl rfl ?_
    refine wp_iload_n d_Ma_ask_74 rfl rfl ?_
    refine wp_iconst d_Ma_ask_75 ?_
    refine xi_ne (tgt := 83) d_Ma_ask_76 (by decide) (w32_id h1) (w32_id (g32_c (x := 1) rfl)) (fun h7 => ?_) (fun h7 => ?_)
    · have T := T.1 h7
      refine wp_iconst d_Ma_ask_83 ?_
      refine xcV_V (md' := true) (As := [gI x2, gI 0]) (st := []) d_Ma_ask_84 ca_Vl_setTruth ml_Ma_197 im_Vl_setTruth se_Vl_setTruth gc_Vl (gl_stk hX).1 (gv_2 (gl_stk hX)) (gl_stk hX).2.2.1 rfl (by decide) (by decide) rfl (fun _ => rfl) (fun _ => rfl) T (fun M5 T => ?_)
      refine wp_goto (tgt := 143) d_Ma_ask_87 (by decide) ?_
      exact wp_return d_Ma_ask_143 rfl (fun _ => rfl) (Nat.zero_le _) (Nat.zero_le _) (kV_mk T)
    · have T := T.2 h7
      refine wp_iconst d_Ma_ask_79 ?_
      refine wp_goto (tgt := 84) d_Ma_ask_80 (by decide) ?_
      refine xcV_V (md' := true) (As := [gI x2, gI 1]) (st := []) d_Ma_ask_84 ca_Vl_setTruth ml_Ma_197 im_Vl_setTruth se_Vl_setTruth gc_Vl (gl_stk hX).1 (gv_2 (gl_stk hX)) (gl_stk hX).2.2.1 rfl (by decide) (by decide) rfl (fun _ => rfl) (fun _ => rfl) T (fun M6 T => ?_)
      refine wp_goto (tgt := 143) d_Ma_ask_87 (by decide) ?_
      exact wp_return d_Ma_ask_143 rfl (fun _ => rfl) (Nat.zero_le _) (Nat.zero_le _) (kV_mk T)
  by_cases hc2 : gSw w1 = 21
  · refine xtabIn (tgt := 90) d_Ma_ask_18 (w32_id (gS32 hw1)) 21 hc2 rfl rfl (by decide) ?_
    have T := T2 hc2
    refine wp_aload_n d_Ma_ask_90 rfl rfl (g_nz (gl_1 hX 1057)) ?_
    refine xgetR d_Ma_ask_91 gc_Ma f_Ma_14.1 f_Ma_14.2.1 f_Ma_14.2.2.1 (gl_1 hX 1057) (gl_2 hX (a := 1057) (by decide)) (gl_s hX 37 rfl) f_Ma_14.2.2.2.2.1 (gl_f hX 42 rfl) ?_
    refine wp_iload_n d_Ma_ask_94 rfl rfl ?_
    refine wp_iload_n d_Ma_ask_95 rfl rfl ?_
    refine wp_iconst d_Ma_ask_96 ?_
    refine xi_ne (tgt := 104) d_Ma_ask_97 (by decide) (w32_id h1) (w32_id (g32_c (x := 2) rfl)) (fun h10 => ?_) (fun h10 => ?_)
    · have T := T.1 h10
      refine wp_iconst d_Ma_ask_104 ?_
      refine xcV_V (md' := true) (As := [gI x2, gI 0]) (st := []) d_Ma_ask_105 ca_Vl_setTruth ml_Ma_197 im_Vl_setTruth se_Vl_setTruth gc_Vl (gl_stk hX).1 (gv_2 (gl_stk hX)) (gl_stk hX).2.2.1 rfl (by decide) (by decide) rfl (fun _ => rfl) (fun _ => rfl) T (fun M8 T => ?_)
      refine wp_goto (tgt := 143) d_Ma_ask_108 (by decide) ?_
      exact wp_return d_Ma_ask_143 rfl (fun _ => rfl) (Nat.zero_le _) (Nat.zero_le _) (kV_mk T)
    · have T := T.2 h10
      refine wp_iconst d_Ma_ask_100 ?_
      refine wp_goto (tgt := 105) d_Ma_ask_101 (by decide) ?_
      refine xcV_V (md' := true) (As := [gI x2, gI 1]) (st := []) d_Ma_ask_105 ca_Vl_setTruth ml_Ma_197 im_Vl_setTruth se_Vl_setTruth gc_Vl (gl_stk hX).1 (gv_2 (gl_stk hX)) (gl_stk hX).2.2.1 rfl (by decide) (by decide) rfl (fun _ => rfl) (fun _ => rfl) T (fun M9 T => ?_)
      refine wp_goto (tgt := 143) d_Ma_ask_108 (by decide) ?_
      exact wp_return d_Ma_ask_143 rfl (fun _ => rfl) (Nat.zero_le _) (Nat.zero_le _) (kV_mk T)
  by_cases hc3 : gSw w1 = 22
  · refine xtabIn (tgt := 111) d_Ma_ask_18 (w32_id (gS32 hw1)) 22 hc3 rfl rfl (by decide) ?_
    have T := T3 hc3
    refine wp_aload_n d_Ma_ask_111 rfl rfl (g_nz (gl_1 hX 1057)) ?_
    refine xgetR d_Ma_ask_112 gc_Ma f_Ma_14.1 f_Ma_14.2.1 f_Ma_14.2.2.1 (gl_1 hX 1057) (gl_2 hX (a := 1057) (by decide)) (gl_s hX 37 rfl) f_Ma_14.2.2.2.2.1 (gl_f hX 42 rfl) ?_
    refine wp_iload_n d_Ma_ask_115 rfl rfl ?_
    refine wp_iload_n d_Ma_ask_116 rfl rfl ?_
    refine xz_ne (tgt := 124) d_Ma_ask_117 (by decide) (w32_id h1) (fun h13 => ?_) (fun h13 => ?_)
    · have T := T.1 h13
      refine wp_iconst d_Ma_ask_124 ?_
      refine xcV_V (md' := true) (As := [gI x2, gI 0]) (st := []) d_Ma_ask_125 ca_Vl_setTruth ml_Ma_197 im_Vl_setTruth se_Vl_setTruth gc_Vl (gl_stk hX).1 (gv_2 (gl_stk hX)) (gl_stk hX).2.2.1 rfl (by decide) (by decide) rfl (fun _ => rfl) (fun _ => rfl) T (fun M11 T => ?_)
      refine wp_goto (tgt := 143) d_Ma_ask_128 (by decide) ?_
      exact wp_return d_Ma_ask_143 rfl (fun _ => rfl) (Nat.zero_le _) (Nat.zero_le _) (kV_mk T)
    · have T := T.2 h13
      refine wp_iconst d_Ma_ask_120 ?_
      refine wp_goto (tgt := 125) d_Ma_ask_121 (by decide) ?_
      refine xcV_V (md' := true) (As := [gI x2, gI 1]) (st := []) d_Ma_ask_125 ca_Vl_setTruth ml_Ma_197 im_Vl_setTruth se_Vl_setTruth gc_Vl (gl_stk hX).1 (gv_2 (gl_stk hX)) (gl_stk hX).2.2.1 rfl (by decide) (by decide) rfl (fun _ => rfl) (fun _ => rfl) T (fun M12 T => ?_)
      refine wp_goto (tgt := 143) d_Ma_ask_128 (by decide) ?_
      exact wp_return d_Ma_ask_143 rfl (fun _ => rfl) (Nat.zero_le _) (Nat.zero_le _) (kV_mk T)
  refine xtabOut (tgt := 131) d_Ma_ask_18 (w32_id (gS32 hw1)) (by omega) (by decide) ?_
  have T := T4 ⟨hc0, hc1, hc2, hc3⟩
  refine wp_aload_n d_Ma_ask_131 rfl rfl (g_nz (gl_1 hX 1057)) ?_
  refine xgetR d_Ma_ask_132 gc_Ma f_Ma_14.1 f_Ma_14.2.1 f_Ma_14.2.2.1 (gl_1 hX 1057) (gl_2 hX (a := 1057) (by decide)) (gl_s hX 37 rfl) f_Ma_14.2.2.2.2.1 (gl_f hX 42 rfl) ?_
  refine wp_iload_n d_Ma_ask_135 rfl rfl ?_
  refine wp_iconst d_Ma_ask_136 ?_
  refine wp_ldc2 (n := 7) d_Ma_ask_137 c_Ma_248 rfl ?_
  refine xcV_V (md' := true) (As := [gI x2, gI 4, gL 7]) (st := []) d_Ma_ask_140 ca_Vl_set ml_Ma_110 im_Vl_set se_Vl_set gc_Vl (gl_stk hX).1 (gv_2 (gl_stk hX)) (gl_stk hX).2.2.1 rfl (by decide) (by decide) rfl (fun _ => rfl) (fun _ => rfl) T (fun M14 T => ?_)
  exact wp_return d_Ma_ask_143 rfl (fun _ => rfl) (Nat.zero_le _) (Nat.zero_le _) (kV_mk T)
theorem e_Ma_ask {l : Launch} {G : gG} {d : Nat} {X : gX} {M : gM} {k : gM → Prop} {Q : gQ} {c : Nat} {x2 : Int} {w1 : Nat} (T : wp l G y_Ma_ask (gRm (d + 1)) true (kkV X k) false 0 [.val (gR G (c + 1057)), .val (.ref (Q.1 w1)), .val (gI x2), .unset] [] X M 0 0) : cV l G y_Ma_ask (gRm (d + 1)) true [gR G (c + 1057), .ref (Q.1 w1), gI x2] X M k := cen_V (plainFor_of_name rfl) (by simp only [lg_sl_R, lg_sl_I, lg_sl_L, lg_sl_O, lg_sl_N, List.length_cons, List.length_nil]; decide) (by unfold gEn; simp only [lg_sl_R, lg_sl_I, lg_sl_L, lg_sl_O, lg_sl_N]; exact wpt T (And.intro rfl (And.intro rfl (And.intro rfl True.intro))))
theorem d_Ma_write_0 : decode prog_6_method_17_code 0 = .ok (.aload_n 0, 1) := by decide +kernel
theorem d_Ma_write_1 : decode prog_6_method_17_code 1 = .ok (.getfield 14, 3) := by decide +kernel
theorem d_Ma_write_4 : decode prog_6_method_17_code 4 = .ok (.getfield 149, 3) := by decide +kernel
theorem d_Ma_write_7 : decode prog_6_method_17_code 7 = .ok (.iload_n 2, 1) := by decide +kernel
theorem d_Ma_write_8 : decode prog_6_method_17_code 8 = .ok (.laload, 1) := by decide +kernel
theorem d_Ma_write_9 : decode prog_6_method_17_code 9 = .ok (.l2i, 1) := by decide +kernel
theorem d_Ma_write_10 : decode prog_6_method_17_code 10 = .ok (.istore_n 3, 1) := by decide +kernel
theorem d_Ma_write_11 : decode prog_6_method_17_code 11 = .ok (.aload_n 0, 1) := by decide +kernel
theorem d_Ma_write_12 : decode prog_6_method_17_code 12 = .ok (.getfield 14, 3) := by decide +kernel
theorem d_Ma_write_15 : decode prog_6_method_17_code 15 = .ok (.getfield 149, 3) := by decide +kernel
theorem d_Ma_write_18 : decode prog_6_method_17_code 18 = .ok (.iload_n 2, 1) := by decide +kernel
theorem d_Ma_write_19 : decode prog_6_method_17_code 19 = .ok (.iconst 1, 1) := by decide +kernel
theorem d_Ma_write_20 : decode prog_6_method_17_code 20 = .ok (.iadd, 1) := by decide +kernel
theorem d_Ma_write_21 : decode prog_6_method_17_code 21 = .ok (.laload, 1) := by decide +kernel
theorem d_Ma_write_22 : decode prog_6_method_17_code 22 = .ok (.lstore 4, 2) := by decide +kernel
theorem d_Ma_write_24 : decode prog_6_method_17_code 24 = .ok (.getstatic 189, 3) := by decide +kernel
theorem d_Ma_write_27 : decode prog_6_method_17_code 27 = .ok (.aload_n 1, 1) := by decide +kernel
theorem d_Ma_write_28 : decode prog_6_method_17_code 28 = .ok (.invokevirtual 194, 3) := by decide +kernel
theorem d_Ma_write_31 : decode prog_6_method_17_code 31 = .ok (.iaload, 1) := by decide +kernel
theorem d_Ma_write_32 : decode prog_6_method_17_code 32 = .ok (.tableswitch 164 23 30 #[48, 56, 70, 82, 94, 105, 129, 156], 48) := by decide +kernel
theorem d_Ma_write_80 : decode prog_6_method_17_code 80 = .ok (.aload_n 0, 1) := by decide +kernel
theorem d_Ma_write_81 : decode prog_6_method_17_code 81 = .ok (.iload_n 2, 1) := by decide +kernel
theorem d_Ma_write_82 : decode prog_6_method_17_code 82 = .ok (.invokevirtual 250, 3) := by decide +kernel
theorem d_Ma_write_85 : decode prog_6_method_17_code 85 = .ok (.goto 116, 3) := by decide +kernel
theorem d_Ma_write_201 : decode prog_6_method_17_code 201 = .ok (.return_, 1) := by decide +kernel
theorem d_Ma_write_88 : decode prog_6_method_17_code 88 = .ok (.aload_n 0, 1) := by decide +kernel
theorem d_Ma_write_89 : decode prog_6_method_17_code 89 = .ok (.getfield 14, 3) := by decide +kernel
theorem d_Ma_write_92 : decode prog_6_method_17_code 92 = .ok (.iload_n 2, 1) := by decide +kernel
theorem d_Ma_write_93 : decode prog_6_method_17_code 93 = .ok (.iconst 1, 1) := by decide +kernel
theorem d_Ma_write_94 : decode prog_6_method_17_code 94 = .ok (.iload_n 3, 1) := by decide +kernel
theorem d_Ma_write_95 : decode prog_6_method_17_code 95 = .ok (.i2l, 1) := by decide +kernel
theorem d_Ma_write_96 : decode prog_6_method_17_code 96 = .ok (.invokevirtual 110, 3) := by decide +kernel
theorem d_Ma_write_99 : decode prog_6_method_17_code 99 = .ok (.goto 102, 3) := by decide +kernel
theorem d_Ma_write_102 : decode prog_6_method_17_code 102 = .ok (.aload_n 0, 1) := by decide +kernel
theorem d_Ma_write_103 : decode prog_6_method_17_code 103 = .ok (.iload_n 2, 1) := by decide +kernel
theorem d_Ma_write_104 : decode prog_6_method_17_code 104 = .ok (.bipush 97, 2) := by decide +kernel
theorem d_Ma_write_106 : decode prog_6_method_17_code 106 = .ok (.bipush 65, 2) := by decide +kernel
theorem d_Ma_write_108 : decode prog_6_method_17_code 108 = .ok (.invokevirtual 253, 3) := by decide +kernel
theorem d_Ma_write_111 : decode prog_6_method_17_code 111 = .ok (.goto 90, 3) := by decide +kernel
theorem d_Ma_write_114 : decode prog_6_method_17_code 114 = .ok (.aload_n 0, 1) := by decide +kernel
theorem d_Ma_write_115 : decode prog_6_method_17_code 115 = .ok (.iload_n 2, 1) := by decide +kernel
theorem d_Ma_write_116 : decode prog_6_method_17_code 116 = .ok (.bipush 65, 2) := by decide +kernel
theorem d_Ma_write_118 : decode prog_6_method_17_code 118 = .ok (.bipush 97, 2) := by decide +kernel
theorem d_Ma_write_120 : decode prog_6_method_17_code 120 = .ok (.invokevirtual 253, 3) := by decide +kernel
theorem d_Ma_write_123 : decode prog_6_method_17_code 123 = .ok (.goto 78, 3) := by decide +kernel
theorem d_Ma_write_126 : decode prog_6_method_17_code 126 = .ok (.aload_n 0, 1) := by decide +kernel
theorem d_Ma_write_127 : decode prog_6_method_17_code 127 = .ok (.iload_n 2, 1) := by decide +kernel
theorem d_Ma_write_128 : decode prog_6_method_17_code 128 = .ok (.lconst 0, 1) := by decide +kernel
theorem d_Ma_write_129 : decode prog_6_method_17_code 129 = .ok (.lload 4, 2) := by decide +kernel
theorem d_Ma_write_131 : decode prog_6_method_17_code 131 = .ok (.invokevirtual 257, 3) := by decide +kernel
theorem d_Ma_write_134 : decode prog_6_method_17_code 134 = .ok (.goto 67, 3) := by decide +kernel
theorem d_Ma_write_137 : decode prog_6_method_17_code 137 = .ok (.aload_n 0, 1) := by decide +kernel
theorem d_Ma_write_138 : decode prog_6_method_17_code 138 = .ok (.iload_n 2, 1) := by decide +kernel
theorem d_Ma_write_139 : decode prog_6_method_17_code 139 = .ok (.iload_n 3, 1) := by decide +kernel
theorem d_Ma_write_140 : decode prog_6_method_17_code 140 = .ok (.i2l, 1) := by decide +kernel
theorem d_Ma_write_141 : decode prog_6_method_17_code 141 = .ok (.lload 4, 2) := by decide +kernel
theorem d_Ma_write_143 : decode prog_6_method_17_code 143 = .ok (.lconst 0, 1) := by decide +kernel
theorem d_Ma_write_144 : decode prog_6_method_17_code 144 = .ok (.invokestatic 260, 3) := by decide +kernel
theorem d_Ma_write_147 : decode prog_6_method_17_code 147 = .ok (.iload_n 3, 1) := by decide +kernel
theorem d_Ma_write_148 : decode prog_6_method_17_code 148 = .ok (.i2l, 1) := by decide +kernel
theorem d_Ma_write_149 : decode prog_6_method_17_code 149 = .ok (.invokestatic 245, 3) := by decide +kernel
theorem d_Ma_write_152 : decode prog_6_method_17_code 152 = .ok (.lsub, 1) := by decide +kernel
theorem d_Ma_write_153 : decode prog_6_method_17_code 153 = .ok (.lload 4, 2) := by decide +kernel
theorem d_Ma_write_155 : decode prog_6_method_17_code 155 = .ok (.invokevirtual 257, 3) := by decide +kernel
theorem d_Ma_write_158 : decode prog_6_method_17_code 158 = .ok (.goto 43, 3) := by decide +kernel
theorem d_Ma_write_161 : decode prog_6_method_17_code 161 = .ok (.aload_n 0, 1) := by decide +kernel
theorem d_Ma_write_162 : decode prog_6_method_17_code 162 = .ok (.iload_n 2, 1) := by decide +kernel
theorem d_Ma_write_163 : decode prog_6_method_17_code 163 = .ok (.lload 4, 2) := by decide +kernel
theorem d_Ma_write_165 : decode prog_6_method_17_code 165 = .ok (.lconst 0, 1) := by decide +kernel
theorem d_Ma_write_166 : decode prog_6_method_17_code 166 = .ok (.invokestatic 260, 3) := by decide +kernel
theorem d_Ma_write_169 : decode prog_6_method_17_code 169 = .ok (.lconst 1, 1) := by decide +kernel
theorem d_Ma_write_170 : decode prog_6_method_17_code 170 = .ok (.lsub, 1) := by decide +kernel
theorem d_Ma_write_171 : decode prog_6_method_17_code 171 = .ok (.aload_n 0, 1) := by decide +kernel
theorem d_Ma_write_172 : decode prog_6_method_17_code 172 = .ok (.getfield 14, 3) := by decide +kernel
theorem d_Ma_write_175 : decode prog_6_method_17_code 175 = .ok (.getfield 149, 3) := by decide +kernel
theorem d_Ma_write_178 : decode prog_6_method_17_code 178 = .ok (.iload_n 2, 1) := by decide +kernel
theorem d_Ma_write_179 : decode prog_6_method_17_code 179 = .ok (.iconst 2, 1) := by decide +kernel
theorem d_Ma_write_180 : decode prog_6_method_17_code 180 = .ok (.iadd, 1) := by decide +kernel
theorem d_Ma_write_181 : decode prog_6_method_17_code 181 = .ok (.laload, 1) := by decide +kernel
theorem d_Ma_write_182 : decode prog_6_method_17_code 182 = .ok (.invokevirtual 257, 3) := by decide +kernel
theorem d_Ma_write_185 : decode prog_6_method_17_code 185 = .ok (.goto 16, 3) := by decide +kernel
theorem d_Ma_write_188 : decode prog_6_method_17_code 188 = .ok (.aload_n 0, 1) := by decide +kernel
theorem d_Ma_write_189 : decode prog_6_method_17_code 189 = .ok (.iload_n 2, 1) := by decide +kernel
theorem d_Ma_write_190 : decode prog_6_method_17_code 190 = .ok (.invokevirtual 263, 3) := by decide +kernel
theorem d_Ma_write_193 : decode prog_6_method_17_code 193 = .ok (.goto 8, 3) := by decide +kernel
theorem d_Ma_write_196 : decode prog_6_method_17_code 196 = .ok (.aload_n 0, 1) := by decide +kernel
theorem d_Ma_write_197 : decode prog_6_method_17_code 197 = .ok (.iload_n 2, 1) := by decide +kernel
theorem d_Ma_write_198 : decode prog_6_method_17_code 198 = .ok (.invokevirtual 266, 3) := by decide +kernel
set_option maxHeartbeats 4000000 in
theorem w_Ma_write_0 {l : Launch} {G : gG} {d : Nat} {X : gX} {M : gM} {k : gM → Prop} {c : Nat} (hX : glX X c) {Q : gQ} (hO : gOld G Q) {w1 : Nat} (hw1 : w1 < 52) {x2 : Int} (hx2 : g32 x2)  (T : ((0 : Int) ≤ x2 ∧ x2 < 104) ∧ (g64 (M ((c + 1058) + 2) (Int.toNat x2)) → (((0 : Int) ≤ x2 + 1 ∧ x2 + 1 < 104) ∧ (g64 (M ((c + 1058) + 2) (Int.toNat (x2 + 1))) → ((gSw w1 = 23 → (cV l G y_Ma_join (gRm d) true [gR G (c + 1057), gI x2] X M (fun M3 => (k M3)))) ∧ (gSw w1 = 24 → (cV l G y_Vl_set (gRm d) true [gR G (c + 1058), gI x2, gI 1, gL (w32 (M ((c + 1058) + 2) (Int.toNat x2)))] X M (fun M4 => (k M4)))) ∧ (gSw w1 = 25 → (cV l G y_Ma_changeCase (gRm d) true [gR G (c + 1057), gI x2, gI 97, gI 65] X M (fun M5 => (k M5)))) ∧ (gSw w1 = 26 → (cV l G y_Ma_changeCase (gRm d) true [gR G (c + 1057), gI x2, gI 65, gI 97] X M (fun M6 => (k M6)))) ∧ (gSw w1 = 27 → (cV l G y_Ma_cutOut (gRm d) true [gR G (c + 1057), gI x2, gL 0, gL (M ((c + 1058) + 2) (Int.toNat (x2 + 1)))] X M (fun M7 => (k M7)))) ∧ (gSw w1 = 28 → (cL l G y_jMath_max_2 (gRm d) false [gL (M ((c + 1058) + 2) (Int.toNat (x2 + 1))), gL 0] X M (fun v9 M8 => (cL l G y_jMath_min_2 (gRm d) false [gL v9, gL (w32 (M ((c + 1058) + 2) (Int.toNat x2)))] X M8 (fun v12 M11 => (cV l G y_Ma_cutOut (gRm d) true [gR G (c + 1057), gI x2, gL ((w32 (M ((c + 1058) + 2) (Int.toNat x2))) - v12), gL (M ((c + 1058) + 2) (Int.toNat (x2 + 1)))] X M11 (fun M14 => (k M14)))))))) ∧ (gSw w1 = 29 → (cL l G y_jMath_max_2 (gRm d) false [gL (M ((c + 1058) + 2) (Int.toNat (x2 + 1))), gL 0] X M (fun v16 M15 => (((0 : Int) ≤ x2 + 2 ∧ x2 + 2 < 104) ∧ (g64 (M15 ((c + 1058) + 2) (Int.toNat (x2 + 2))) → (cV l G y_Ma_cutOut (gRm d) true [gR G (c + 1057), gI x2, gL (v16 - 1), gL (M15 ((c + 1058) + 2) (Int.toNat (x2 + 2)))] X M15 (fun M19 => (k M19)))))))) ∧ (gSw w1 = 30 → (cV l G y_Ma_find (gRm d) true [gR G (c + 1057), gI x2] X M (fun M20 => (k M20)))) ∧ ((¬ gSw w1 = 23 ∧ ¬ gSw w1 = 24 ∧ ¬ gSw w1 = 25 ∧ ¬ gSw w1 = 26 ∧ ¬ gSw w1 = 27 ∧ ¬ gSw w1 = 28 ∧ ¬ gSw w1 = 29 ∧ ¬ gSw w1 = 30) → (cV l G y_Ma_exchange (gRm d) true [gR G (c + 1057), gI x2] X M (fun M21 => (k M21))))))))) : wp l G y_Ma_write (gRm (d + 1)) true (kkV X k) false 0 [.val (gR G (c + 1057)), .val (.ref (Q.1 w1)), .val (gI x2), .unset, .unset, .unset] [] X M 0 0 := by
  refine wp_aload_n d_Ma_write_0 rfl rfl (g_nz (gl_1 hX 1057)) ?_
  refine xgetR d_Ma_write_1 gc_Ma f_Ma_14.1 f_Ma_14.2.1 f_Ma_14.2.2.1 (gl_1 hX 1057) (gl_2 hX (a := 1057) (by decide)) (gl_s hX 37 rfl) f_Ma_14.2.2.2.2.1 (gl_f hX 42 rfl) ?_
  refine xgetR d_Ma_write_4 gc_Vl f_Ma_149.1 f_Ma_149.2.1 f_Ma_149.2.2.1 (gl_stk hX).1 (gv_2 (gl_stk hX)) (gl_stk hX).2.2.1 f_Ma_149.2.2.2.2.1 (gv_r2 (gl_stk hX)).1 ?_
  refine wp_iload_n d_Ma_write_7 rfl rfl ?_
  refine wp_laload d_Ma_write_8 (gv_r2 (gl_stk hX)).2.2.1 (gv_r2 (gl_stk hX)).2.2.2 (gv_r2 (gl_stk hX)).2.1 (g32_n T.1 (gv_n (gl_stk hX))) T.1.1 T.1.2 (fun h1 => ?_)
  have T := T.2 h1
  refine wp_l2i d_Ma_write_9 ?_
  refine wp_istore_n (L' := [.val (gR G (c + 1057)), .val (.ref (Q.1 w1)), .val (gI x2), .val (gI (M ((c + 1058) + 2) (Int.toNat x2))), .unset, .unset]) d_Ma_write_10 rfl (by decide) rfl ?_
  refine wp_aload_n d_Ma_write_11 rfl rfl (g_nz (gl_1 hX 1057)) ?_
  refine xgetR d_Ma_write_12 gc_Ma f_Ma_14.1 f_Ma_14.2.1 f_Ma_14.2.2.1 (gl_1 hX 1057) (gl_2 hX (a := 1057) (by decide)) (gl_s hX 37 rfl) f_Ma_14.2.2.2.2.1 (gl_f hX 42 rfl) ?_
  refine xgetR d_Ma_write_15 gc_Vl f_Ma_149.1 f_Ma_149.2.1 f_Ma_149.2.2.1 (gl_stk hX).1 (gv_2 (gl_stk hX)) (gl_stk hX).2.2.1 f_Ma_149.2.2.2.2.1 (gv_r2 (gl_stk hX)).1 ?_
  refine wp_iload_n d_Ma_write_18 rfl rfl ?_
  refine wp_iconst d_Ma_write_19 ?_
  refine wp_iadd d_Ma_write_20 ?_
  refine wp_laload d_Ma_write_21 (gv_r2 (gl_stk hX)).2.2.1 (gv_r2 (gl_stk hX)).2.2.2 (gv_r2 (gl_stk hX)).2.1 (g32_n T.1 (gv_n (gl_stk hX))) T.1.1 T.1.2 (fun h2 => ?_)
  have T := T.2 h2
  refine wp_lstore (L' := [.val (gR G (c + 1057)), .val (.ref (Q.1 w1)), .val (gI x2), .val (gI (M ((c + 1058) + 2) (Int.toNat x2))), .val (gL (M ((c + 1058) + 2) (Int.toNat (x2 + 1)))), .unset]) d_Ma_write_22 (by decide) rfl ?_
  refine wp_gets d_Ma_write_24 fs_Ma_189 (fun U hU => (hO U hU).2.2.2.2.1.1) ?_
  refine wp_aloadO_n d_Ma_write_27 rfl rfl ?_
  refine xo_ord hO hw1 d_Ma_write_28 (gWs_ord ml_Ma_194) (by simp only [List.map, gR_cat, gI_cat, gL_cat, g_rcat, List.sum_cons, List.sum_nil]; decide) ?_
  refine xo_sw hO d_Ma_write_31 hw1 ?_
  obtain ⟨T0, T1, T2, T3, T4, T5, T6, T7, T8⟩ := T
  by_cases hc0 : gSw w1 = 23
  · refine xtabIn (tgt := 80) d_Ma_write_32 (w32_id (gS32 hw1)) 23 hc0 rfl rfl (by decide) ?_
    have T := T0 hc0
    refine wp_aload_n d_Ma_write_80 rfl rfl (g_nz (gl_1 hX 1057)) ?_
    refine wp_iload_n d_Ma_write_81 rfl rfl ?_
    refine xcV_V (md' := true) (As := [gI x2]) (st := []) d_Ma_write_82 ca_Ma_join ml_Ma_250 im_Ma_join se_Ma_join gc_Ma (gl_1 hX 1057) (gl_2 hX (a := 1057) (by decide)) (gl_s hX 37 rfl) rfl (by decide) (by decide) rfl (fun _ => rfl) (fun _ => rfl) T (fun M3 T => ?_)
    refine wp_goto (tgt := 201) d_Ma_write_85 (by decide) ?_
    exact wp_return d_Ma_write_201 rfl (fun _ => rfl) (Nat.zero_le _) (Nat.zero_le _) (kV_mk T)
  by_cases hc1 : gSw w1 = 24
  · refine xtabIn (tgt := 88) d_Ma_write_32 (w32_id (gS32 hw1)) 24 hc1 rfl rfl (by decide) ?_
    have T := T1 hc1
    refine wp_aload_n d_Ma_write_88 rfl rfl (g_nz (gl_1 hX 1057)) ?_
    refine xgetR d_Ma_write_89 gc_Ma f_Ma_14.1 f_Ma_14.2.1 f_Ma_14.2.2.1 (gl_1 hX 1057) (gl_2 hX (a := 1057) (by decide)) (gl_s hX 37 rfl) f_Ma_14.2.2.2.2.1 (gl_f hX 42 rfl) ?_
    refine wp_iload_n d_Ma_write_92 rfl rfl ?_
    refine wp_iconst d_Ma_write_93 ?_
    refine wp_iload_n d_Ma_write_94 rfl rfl ?_
    refine xi2l d_Ma_write_95 rfl ?_
    refine xcV_V (md' := true) (As := [gI x2, gI 1, gL (w32 (M ((c + 1058) + 2) (Int.toNat x2)))]) (st := []) d_Ma_write_96 ca_Vl_set ml_Ma_110 im_Vl_set se_Vl_set gc_Vl (gl_stk hX).1 (gv_2 (gl_stk hX)) (gl_stk hX).2.2.1 rfl (by decide) (by decide) rfl (fun _ => rfl) (fun _ => rfl) T (fun M4 T => ?_)
    refine wp_goto (tgt := 201) d_Ma_write_99 (by decide) ?_
    exact wp_return d_Ma_write_201 rfl (fun _ => rfl) (Nat.zero_le _) (Nat.zero_le _) (kV_mk T)
  by_cases hc2 : gSw w1 = 25
  · refine xtabIn (tgt := 102) d_Ma_write_32 (w32_id (gS32 hw1)) 25 hc2 rfl rfl (by decide) ?_
    have T := T2 hc2
    refine wp_aload_n d_Ma_write_102 rfl rfl (g_nz (gl_1 hX 1057)) ?_
    refine wp_iload_n d_Ma_write_103 rfl rfl ?_
    refine wp_bipush d_Ma_write_104 ⟨by decide, by decide⟩ ?_
    refine wp_bipush d_Ma_write_106 ⟨by decide, by decide⟩ ?_
    refine xcV_V (md' := true) (As := [gI x2, gI 97, gI 65]) (st := []) d_Ma_write_108 ca_Ma_changeCase ml_Ma_253 im_Ma_changeCase se_Ma_changeCase gc_Ma (gl_1 hX 1057) (gl_2 hX (a := 1057) (by decide)) (gl_s hX 37 rfl) rfl (by decide) (by decide) rfl (fun _ => rfl) (fun _ => rfl) T (fun M5 T => ?_)
    refine wp_goto (tgt := 201) d_Ma_write_111 (by decide) ?_
    exact wp_return d_Ma_write_201 rfl (fun _ => rfl) (Nat.zero_le _) (Nat.zero_le _) (kV_mk T)
  by_cases hc3 : gSw w1 = 26
  · refine xtabIn (tgt := 114) d_Ma_write_32 (w32_id (gS32 hw1)) 26 hc3 rfl rfl (by decide) ?_
    have T := T3 hc3
    refine wp_aload_n d_Ma_write_114 rfl rfl (g_nz (gl_1 hX 1057)) ?_
    refine wp_iload_n d_Ma_write_115 rfl rfl ?_
    refine wp_bipush d_Ma_write_116 ⟨by decide, by decide⟩ ?_
    refine wp_bipush d_Ma_write_118 ⟨by decide, by decide⟩ ?_
    refine xcV_V (md' := true) (As := [gI x2, gI 65, gI 97]) (st := []) d_Ma_write_120 ca_Ma_changeCase ml_Ma_253 im_Ma_changeCase se_Ma_changeCase gc_Ma (gl_1 hX 1057) (gl_2 hX (a := 1057) (by decide)) (gl_s hX 37 rfl) rfl (by decide) (by decide) rfl (fun _ => rfl) (fun _ => rfl) T (fun M6 T => ?_)
    refine wp_goto (tgt := 201) d_Ma_write_123 (by decide) ?_
    exact wp_return d_Ma_write_201 rfl (fun _ => rfl) (Nat.zero_le _) (Nat.zero_le _) (kV_mk T)
  by_cases hc4 : gSw w1 = 27
  · refine xtabIn (tgt := 126) d_Ma_write_32 (w32_id (gS32 hw1)) 27 hc4 rfl rfl (by decide) ?_
    have T := T4 hc4
    refine wp_aload_n d_Ma_write_126 rfl rfl (g_nz (gl_1 hX 1057)) ?_
    refine wp_iload_n d_Ma_write_127 rfl rfl ?_
    refine wp_lconst0 d_Ma_write_128 ?_
    refine wp_lload d_Ma_write_129 rfl ?_
    refine xcV_V (md' := true) (As := [gI x2, gL 0, gL (M ((c + 1058) + 2) (Int.toNat (x2 + 1)))]) (st := []) d_Ma_write_131 ca_Ma_cutOut ml_Ma_257 im_Ma_cutOut se_Ma_cutOut gc_Ma (gl_1 hX 1057) (gl_2 hX (a := 1057) (by decide)) (gl_s hX 37 rfl) rfl (by decide) (by decide) rfl (fun _ => rfl) (fun _ => rfl) T (fun M7 T => ?_)
    refine wp_goto (tgt := 201) d_Ma_write_134 (by decide) ?_
    exact wp_return d_Ma_write_201 rfl (fun _ => rfl) (Nat.zero_le _) (Nat.zero_le _) (kV_mk T)
  by_cases hc5 : gSw w1 = 28
  · refine xtabIn (tgt := 137) d_Ma_write_32 (w32_id (gS32 hw1)) 28 hc5 rfl rfl (by decide) ?_
    have T := T5 hc5
    refine wp_aload_n d_Ma_write_137 rfl rfl (g_nz (gl_1 hX 1057)) ?_
    refine wp_iload_n d_Ma_write_138 rfl rfl ?_
    refine wp_iload_n d_Ma_write_139 rfl rfl ?_
    refine xi2l d_Ma_write_140 rfl ?_
    refine wp_lload d_Ma_write_141 rfl ?_
    refine wp_lconst0 d_Ma_write_143 ?_
    refine xcS_L (md' := false) (As := [gL (M ((c + 1058) + 2) (Int.toNat (x2 + 1))), gL 0]) (st := [gL (w32 (M ((c + 1058) + 2) (Int.toNat x2))), gI x2, gR G (c + 1057)]) d_Ma_write_144 ca_jMath_max_2 ml_Ma_260 sm_jMath_max_2 rfl (by decide) (by simp only [List.map, gR_cat, gI_cat, gL_cat, List.sum_cons, List.sum_nil]; decide) rfl id id T (fun v9 M8 h10 T => ?_)
    refine wp_iload_n d_Ma_write_147 rfl rfl ?_
    refine xi2l d_Ma_write_148 rfl ?_
    refine xcS_L (md' := false) (As := [gL v9, gL (w32 (M ((c + 1058) + 2) (Int.toNat x2)))]) (st := [gL (w32 (M ((c + 1058) + 2) (Int.toNat x2))), gI x2, gR G (c + 1057)]) d_Ma_write_149 ca_jMath_min_2 ml_Ma_245 sm_jMath_min_2 rfl (by decide) (by simp only [List.map, gR_cat, gI_cat, gL_cat, List.sum_cons, List.sum_nil]; decide) rfl id id T (fun v12 M11 h13 T => ?_)
    refine wp_lsub d_Ma_write_152 ?_
    refine wp_lload d_Ma_write_153 rfl ?_
    refine xcV_V (md' := true) (As := [gI x2, gL ((w32 (M ((c + 1058) + 2) (Int.toNat x2))) - v12), gL (M ((c + 1058) + 2) (Int.toNat (x2 + 1)))]) (st := []) d_Ma_write_155 ca_Ma_cutOut ml_Ma_257 im_Ma_cutOut se_Ma_cutOut gc_Ma (gl_1 hX 1057) (gl_2 hX (a := 1057) (by decide)) (gl_s hX 37 rfl) rfl (by decide) (by decide) rfl (fun _ => rfl) (fun _ => rfl) T (fun M14 T => ?_)
    refine wp_goto (tgt := 201) d_Ma_write_158 (by decide) ?_
    exact wp_return d_Ma_write_201 rfl (fun _ => rfl) (Nat.zero_le _) (Nat.zero_le _) (kV_mk T)
  by_cases hc6 : gSw w1 = 29
  · refine xtabIn (tgt := 161) d_Ma_write_32 (w32_id (gS32 hw1)) 29 hc6 rfl rfl (by decide) ?_
    have T := T6 hc6
    refine wp_aload_n d_Ma_write_161 rfl rfl (g_nz (gl_1 hX 1057)) ?_
    refine wp_iload_n d_Ma_write_162 rfl rfl ?_
    refine wp_lload d_Ma_write_163 rfl ?_
    refine wp_lconst0 d_Ma_write_165 ?_
    refine xcS_L (md' := false) (As := [gL (M ((c + 1058) + 2) (Int.toNat (x2 + 1))), gL 0]) (st := [gI x2, gR G (c + 1057)]) d_Ma_write_166 ca_jMath_max_2 ml_Ma_260 sm_jMath_max_2 rfl (by decide) (by simp only [List.map, gR_cat, gI_cat, gL_cat, List.sum_cons, List.sum_nil]; decide) rfl id id T (fun v16 M15 h17 T => ?_)
    refine wp_lconst1 d_Ma_write_169 ?_
    refine wp_lsub d_Ma_write_170 ?_
    refine wp_aload_n d_Ma_write_171 rfl rfl (g_nz (gl_1 hX 1057)) ?_
    refine xgetR d_Ma_write_172 gc_Ma f_Ma_14.1 f_Ma_14.2.1 f_Ma_14.2.2.1 (gl_1 hX 1057) (gl_2 hX (a := 1057) (by decide)) (gl_s hX 37 rfl) f_Ma_14.2.2.2.2.1 (gl_f hX 42 rfl) ?_
    refine xgetR d_Ma_write_175 gc_Vl f_Ma_149.1 f_Ma_149.2.1 f_Ma_149.2.2.1 (gl_stk hX).1 (gv_2 (gl_stk hX)) (gl_stk hX).2.2.1 f_Ma_149.2.2.2.2.1 (gv_r2 (gl_stk hX)).1 ?_
    refine wp_iload_n d_Ma_write_178 rfl rfl ?_
    refine wp_iconst d_Ma_write_179 ?_
    refine wp_iadd d_Ma_write_180 ?_
    refine wp_laload d_Ma_write_181 (gv_r2 (gl_stk hX)).2.2.1 (gv_r2 (gl_stk hX)).2.2.2 (gv_r2 (gl_stk hX)).2.1 (g32_n T.1 (gv_n (gl_stk hX))) T.1.1 T.1.2 (fun h18 => ?_)
    have T := T.2 h18
    refine xcV_V (md' := true) (As := [gI x2, gL (v16 - 1), gL (M15 ((c + 1058) + 2) (Int.toNat (x2 + 2)))]) (st := []) d_Ma_write_182 ca_Ma_cutOut ml_Ma_257 im_Ma_cutOut se_Ma_cutOut gc_Ma (gl_1 hX 1057) (gl_2 hX (a := 1057) (by decide)) (gl_s hX 37 rfl) rfl (by decide) (by decide) rfl (fun _ => rfl) (fun _ => rfl) T (fun M19 T => ?_)
    refine wp_goto (tgt := 201) d_Ma_write_185 (by decide) ?_
    exact wp_return d_Ma_write_201 rfl (fun _ => rfl) (Nat.zero_le _) (Nat.zero_le _) (kV_mk T)
  by_cases hc7 : gSw w1 = 30
  · refine xtabIn (tgt := 188) d_Ma_write_32 (w32_id (gS32 hw1)) 30 hc7 rfl rfl (by decide) ?_
    have T := T7 hc7
    refine wp_aload_n d_Ma_write_188 rfl rfl (g_nz (gl_1 hX 1057)) ?_
    refine wp_iload_n d_Ma_write_189 rfl rfl ?_
    refine xcV_V (md' := true) (As := [gI x2]) (st := []) d_Ma_write_190 ca_Ma_find ml_Ma_263 im_Ma_find se_Ma_find gc_Ma (gl_1 hX 1057) (gl_2 hX (a := 1057) (by decide)) (gl_s hX 37 rfl) rfl (by decide) (by decide) rfl (fun _ => rfl) (fun _ => rfl) T (fun M20 T => ?_)
    refine wp_goto (tgt := 201) d_Ma_write_193 (by decide) ?_
    exact wp_return d_Ma_write_201 rfl (fun _ => rfl) (Nat.zero_le _) (Nat.zero_le _) (kV_mk T)
  refine xtabOut (tgt := 196) d_Ma_write_32 (w32_id (gS32 hw1)) (by omega) (by decide) ?_
  have T := T8 ⟨hc0, hc1, hc2, hc3, hc4, hc5, hc6, hc7⟩
  refine wp_aload_n d_Ma_write_196 rfl rfl (g_nz (gl_1 hX 1057)) ?_
  refine wp_iload_n d_Ma_write_197 rfl rfl ?_
  refine xcV_V (md' := true) (As := [gI x2]) (st := []) d_Ma_write_198 ca_Ma_exchange ml_Ma_266 im_Ma_exchange se_Ma_exchange gc_Ma (gl_1 hX 1057) (gl_2 hX (a := 1057) (by decide)) (gl_s hX 37 rfl) rfl (by decide) (by decide) rfl (fun _ => rfl) (fun _ => rfl) T (fun M21 T => ?_)
  exact wp_return d_Ma_write_201 rfl (fun _ => rfl) (Nat.zero_le _) (Nat.zero_le _) (kV_mk T)
theorem e_Ma_write {l : Launch} {G : gG} {d : Nat} {X : gX} {M : gM} {k : gM → Prop} {Q : gQ} {c : Nat} {x2 : Int} {w1 : Nat} (T : wp l G y_Ma_write (gRm (d + 1)) true (kkV X k) false 0 [.val (gR G (c + 1057)), .val (.ref (Q.1 w1)), .val (gI x2), .unset, .unset, .unset] [] X M 0 0) : cV l G y_Ma_write (gRm (d + 1)) true [gR G (c + 1057), .ref (Q.1 w1), gI x2] X M k := cen_V (plainFor_of_name rfl) (by simp only [lg_sl_R, lg_sl_I, lg_sl_L, lg_sl_O, lg_sl_N, List.length_cons, List.length_nil]; decide) (by unfold gEn; simp only [lg_sl_R, lg_sl_I, lg_sl_L, lg_sl_O, lg_sl_N]; exact wpt T (And.intro rfl (And.intro rfl (And.intro rfl True.intro))))
theorem d_Rd_readExpression_0 : decode prog_8_method_6_code 0 = .ok (.aload_n 0, 1) := by decide +kernel
theorem d_Rd_readExpression_1 : decode prog_8_method_6_code 1 = .ok (.iload_n 2, 1) := by decide +kernel
theorem d_Rd_readExpression_2 : decode prog_8_method_6_code 2 = .ok (.invokevirtual 96, 3) := by decide +kernel
theorem d_Rd_readExpression_5 : decode prog_8_method_6_code 5 = .ok (.bipush 100, 2) := by decide +kernel
theorem d_Rd_readExpression_7 : decode prog_8_method_6_code 7 = .ok (.istore_n 3, 1) := by decide +kernel
theorem d_Rd_readExpression_8 : decode prog_8_method_6_code 8 = .ok (.iload_n 3, 1) := by decide +kernel
theorem d_Rd_readExpression_9 : decode prog_8_method_6_code 9 = .ok (.ifCond .le 76, 3) := by decide +kernel
theorem d_Rd_readExpression_85 : decode prog_8_method_6_code 85 = .ok (.return_, 1) := by decide +kernel
theorem d_Rd_readExpression_12 : decode prog_8_method_6_code 12 = .ok (.aload_n 0, 1) := by decide +kernel
theorem d_Rd_readExpression_13 : decode prog_8_method_6_code 13 = .ok (.getfield 79, 3) := by decide +kernel
theorem d_Rd_readExpression_16 : decode prog_8_method_6_code 16 = .ok (.ifCond .ne 69, 3) := by decide +kernel
theorem d_Rd_readExpression_19 : decode prog_8_method_6_code 19 = .ok (.aload_n 0, 1) := by decide +kernel
theorem d_Rd_readExpression_20 : decode prog_8_method_6_code 20 = .ok (.getfield 28, 3) := by decide +kernel
theorem d_Rd_readExpression_23 : decode prog_8_method_6_code 23 = .ok (.getfield 93, 3) := by decide +kernel
theorem d_Rd_readExpression_26 : decode prog_8_method_6_code 26 = .ok (.aload_n 0, 1) := by decide +kernel
theorem d_Rd_readExpression_27 : decode prog_8_method_6_code 27 = .ok (.getfield 71, 3) := by decide +kernel
theorem d_Rd_readExpression_30 : decode prog_8_method_6_code 30 = .ok (.iaload, 1) := by decide +kernel
theorem d_Rd_readExpression_31 : decode prog_8_method_6_code 31 = .ok (.istore 4, 2) := by decide +kernel
theorem d_Rd_readExpression_33 : decode prog_8_method_6_code 33 = .ok (.getstatic 99, 3) := by decide +kernel
theorem d_Rd_readExpression_36 : decode prog_8_method_6_code 36 = .ok (.iload 4, 2) := by decide +kernel
theorem d_Rd_readExpression_38 : decode prog_8_method_6_code 38 = .ok (.iaload, 1) := by decide +kernel
theorem d_Rd_readExpression_39 : decode prog_8_method_6_code 39 = .ok (.iload_n 1, 1) := by decide +kernel
theorem d_Rd_readExpression_40 : decode prog_8_method_6_code 40 = .ok (.if_icmp .ge 4, 3) := by decide +kernel
theorem d_Rd_readExpression_44 : decode prog_8_method_6_code 44 = .ok (.aload_n 0, 1) := by decide +kernel
theorem d_Rd_readExpression_45 : decode prog_8_method_6_code 45 = .ok (.dup, 1) := by decide +kernel
theorem d_Rd_readExpression_46 : decode prog_8_method_6_code 46 = .ok (.getfield 71, 3) := by decide +kernel
theorem d_Rd_readExpression_49 : decode prog_8_method_6_code 49 = .ok (.iconst 1, 1) := by decide +kernel
theorem d_Rd_readExpression_50 : decode prog_8_method_6_code 50 = .ok (.iadd, 1) := by decide +kernel
theorem d_Rd_readExpression_51 : decode prog_8_method_6_code 51 = .ok (.putfield 71, 3) := by decide +kernel
theorem d_Rd_readExpression_54 : decode prog_8_method_6_code 54 = .ok (.aload_n 0, 1) := by decide +kernel
theorem d_Rd_readExpression_55 : decode prog_8_method_6_code 55 = .ok (.getstatic 99, 3) := by decide +kernel
theorem d_Rd_readExpression_58 : decode prog_8_method_6_code 58 = .ok (.iload 4, 2) := by decide +kernel
theorem d_Rd_readExpression_60 : decode prog_8_method_6_code 60 = .ok (.iaload, 1) := by decide +kernel
theorem d_Rd_readExpression_61 : decode prog_8_method_6_code 61 = .ok (.iconst 1, 1) := by decide +kernel
theorem d_Rd_readExpression_62 : decode prog_8_method_6_code 62 = .ok (.iadd, 1) := by decide +kernel
theorem d_Rd_readExpression_63 : decode prog_8_method_6_code 63 = .ok (.iload_n 2, 1) := by decide +kernel
theorem d_Rd_readExpression_64 : decode prog_8_method_6_code 64 = .ok (.invokevirtual 83, 3) := by decide +kernel
theorem d_Rd_readExpression_67 : decode prog_8_method_6_code 67 = .ok (.aload_n 0, 1) := by decide +kernel
theorem d_Rd_readExpression_68 : decode prog_8_method_6_code 68 = .ok (.getfield 19, 3) := by decide +kernel
theorem d_Rd_readExpression_71 : decode prog_8_method_6_code 71 = .ok (.bipush 11, 2) := by decide +kernel
theorem d_Rd_readExpression_73 : decode prog_8_method_6_code 73 = .ok (.iload 4, 2) := by decide +kernel
theorem d_Rd_readExpression_75 : decode prog_8_method_6_code 75 = .ok (.i2l, 1) := by decide +kernel
theorem d_Rd_readExpression_76 : decode prog_8_method_6_code 76 = .ok (.invokevirtual 59, 3) := by decide +kernel
theorem d_Rd_readExpression_79 : decode prog_8_method_6_code 79 = .ok (.iinc 3 (-1), 3) := by decide +kernel
theorem d_Rd_readExpression_82 : decode prog_8_method_6_code 82 = .ok (.goto (-74), 3) := by decide +kernel
theorem d_Rd_readExpression_43 : decode prog_8_method_6_code 43 = .ok (.return_, 1) := by decide +kernel
set_option maxHeartbeats 4000000 in
theorem w_Rd_readExpression_0 {l : Launch} {G : gG} {d : Nat} {X : gX} {M : gM} {k : gM → Prop} {c : Nat} (hX : glX X c) {Q : gQ} (hO : gOld G Q) {x1 : Int} (hx1 : g32 x1) {x2 : Int} (hx2 : g32 x2)  (T : cV l G y_Rd_readOperand (gRm d) true [gR G (c + 14), gI x2] X M (fun M1 => (wp l G y_Rd_readExpression (gRm (d + 1)) true (kkV X k) true 8 [.val (gR G (c + 14)), .val (gI x1), .val (gI x2), .val (gI 100), .unset] [] X M1 0 0))) : wp l G y_Rd_readExpression (gRm (d + 1)) true (kkV X k) false 0 [.val (gR G (c + 14)), .val (gI x1), .val (gI x2), .unset, .unset] [] X M 0 0 := by
  refine wp_aload_n d_Rd_readExpression_0 rfl rfl (g_nz (gl_1 hX 14)) ?_
  refine wp_iload_n d_Rd_readExpression_1 rfl rfl ?_
  refine xcV_V (md' := true) (As := [gI x2]) (st := []) d_Rd_readExpression_2 ca_Rd_readOperand ml_Rd_96 im_Rd_readOperand se_Rd_readOperand gc_Rd (gl_1 hX 14) (gl_2 hX (a := 14) (by decide)) (gl_s hX 14 rfl) rfl (by decide) (by decide) rfl (fun _ => rfl) (fun _ => rfl) T (fun M1 T => ?_)
  refine wp_bipush d_Rd_readExpression_5 ⟨by decide, by decide⟩ ?_
  refine wp_istore_n (L' := [.val (gR G (c + 14)), .val (gI x1), .val (gI x2), .val (gI 100), .unset]) d_Rd_readExpression_7 rfl (by decide) rfl ?_
  exact wp_md (wpt T (And.intro rfl (And.intro rfl (And.intro rfl (And.intro rfl True.intro)))))
set_option maxHeartbeats 4000000 in
theorem w_Rd_readExpression_8 {l : Launch} {G : gG} {d : Nat} {X : gX} {M : gM} {k : gM → Prop} {c : Nat} (hX : glX X c) {Q : gQ} (hO : gOld G Q) {x1 : Int} (hx1 : g32 x1) {x2 : Int} (hx2 : g32 x2) {x3 : Int} (hx3 : g32 x3)  (T : (x3 ≤ 0 → (k M)) ∧ (¬ x3 ≤ 0 → ((0 ≤ M (c + 14) 5 ∧ M (c + 14) 5 ≤ 1) → ((¬ M (c + 14) 5 = 0 → (k M)) ∧ (M (c + 14) 5 = 0 → (g32 (M (c + 14) 4) → (((0 : Int) ≤ M (c + 14) 4 ∧ M (c + 14) 4 < 104) ∧ (g32 (M (c + 17) (Int.toNat (M (c + 14) 4))) → (((0 : Int) ≤ M (c + 17) (Int.toNat (M (c + 14) 4)) ∧ M (c + 17) (Int.toNat (M (c + 14) 4)) < 25) ∧ ((x1 ≤ gTg (Int.toNat (M (c + 17) (Int.toNat (M (c + 14) 4)))) → (g32 (M (c + 14) 4) → (((0 : Int) ≤ M (c + 17) (Int.toNat (M (c + 14) 4)) ∧ M (c + 17) (Int.toNat (M (c + 14) 4)) < 25) ∧ (cV l G y_Rd_readExpression (gRm d) true [gR G (c + 14), gI ((gTg (Int.toNat (M (c + 17) (Int.toNat (M (c + 14) 4))))) + 1), gI x2] X (gUp M (c + 14) 4 (w32 ((M (c + 14) 4) + 1))) (fun M8 => (cV l G y_Cn_emit (gRm d) true [gR G (c + 2), gI 11, gL (M (c + 17) (Int.toNat (M (c + 14) 4)))] X M8 (fun M9 => (wp l G y_Rd_readExpression (gRm (d + 1)) true (kkV X k) true 8 [.val (gR G (c + 14)), .val (gI x1), .val (gI x2), .val (gI (w32 (x3 + (-1)))), .unset] [] X M9 0 0)))))))) ∧ (¬ x1 ≤ gTg (Int.toNat (M (c + 17) (Int.toNat (M (c + 14) 4)))) → (k M)))))))))))) : wp l G y_Rd_readExpression (gRm (d + 1)) true (kkV X k) true 8 [.val (gR G (c + 14)), .val (gI x1), .val (gI x2), .val (gI x3), .unset] [] X M 0 0 := by
  refine wp_iload_n d_Rd_readExpression_8 rfl rfl ?_
  refine xz_le (tgt := 85) d_Rd_readExpression_9 (by decide) (w32_id hx3) (fun h12 => ?_) (fun h12 => ?_)
  · have T := T.1 h12
    exact wp_return d_Rd_readExpression_85 rfl (fun _ => rfl) (Nat.zero_le _) (Nat.zero_le _) (kV_mk T)
  · have T := T.2 h12
    refine wp_aload_n d_Rd_readExpression_12 rfl rfl (g_nz (gl_1 hX 14)) ?_
    refine xgetZ d_Rd_readExpression_13 gc_Rd f_Rd_79.1 f_Rd_79.2.1 f_Rd_79.2.2.1 (gl_1 hX 14) (gl_2 hX (a := 14) (by decide)) (gl_s hX 14 rfl) f_Rd_79.2.2.2.2.1 (fun h2 => ?_)
    have T := T h2
    refine xz_ne (tgt := 85) d_Rd_readExpression_16 (by decide) (w32_id (g32_z h2)) (fun h11 => ?_) (fun h11 => ?_)
    · have T := T.1 h11
      exact wp_return d_Rd_readExpression_85 rfl (fun _ => rfl) (Nat.zero_le _) (Nat.zero_le _) (kV_mk T)
    · have T := T.2 h11
      refine wp_aload_n d_Rd_readExpression_19 rfl rfl (g_nz (gl_1 hX 14)) ?_
      refine xgetR d_Rd_readExpression_20 gc_Rd f_Rd_28.1 f_Rd_28.2.1 f_Rd_28.2.2.1 (gl_1 hX 14) (gl_2 hX (a := 14) (by decide)) (gl_s hX 14 rfl) f_Rd_28.2.2.2.2.1 (gl_f hX 17 rfl) ?_
      refine xgetR d_Rd_readExpression_23 gc_Tk f_Rd_93.1 f_Rd_93.2.1 f_Rd_93.2.2.1 (gl_1 hX 16) (gl_2 hX (a := 16) (by decide)) (gl_s hX 16 rfl) f_Rd_93.2.2.2.2.1 (gl_f hX 18 rfl) ?_
      refine wp_aload_n d_Rd_readExpression_26 rfl rfl (g_nz (gl_1 hX 14)) ?_
      refine xgetI d_Rd_readExpression_27 gc_Rd f_Rd_71.1 f_Rd_71.2.1 f_Rd_71.2.2.1 (gl_1 hX 14) (gl_2 hX (a := 14) (by decide)) (gl_s hX 14 rfl) f_Rd_71.2.2.2.2.1 (fun h3 => ?_)
      have T := T h3
      refine wp_iaload d_Rd_readExpression_30 (gl_1 hX 17) (gl_2 hX (a := 17) (by decide)) (gl_s hX 17 rfl) (g32_n T.1 (by decide)) T.1.1 T.1.2 (fun h4 => ?_)
      have T := T.2 h4
      refine wp_istore (L' := [.val (gR G (c + 14)), .val (gI x1), .val (gI x2), .val (gI x3), .val (gI (M (c + 17) (Int.toNat (M (c + 14) 4))))]) d_Rd_readExpression_31 (by decide) rfl ?_
      refine wp_getsN d_Rd_readExpression_33 fs_Rd_99 (fun U hU => (hO U hU).2.2.2.1.1) ?_
      refine wp_iload d_Rd_readExpression_36 rfl ?_
      have q5 := T.1
      have T := T.2
      refine xo_tg hO d_Rd_readExpression_38 (w32_id h4) q5 ?_
      refine wp_iload_n d_Rd_readExpression_39 rfl rfl ?_
      refine xi_ge (tgt := 44) d_Rd_readExpression_40 (by decide) (w32_id (gT32 q5)) (w32_id hx1) (fun h10 => ?_) (fun h10 => ?_)
      · have T := T.1 h10
        refine wp_aload_n d_Rd_readExpression_44 rfl rfl (g_nz (gl_1 hX 14)) ?_
        refine wp_dup d_Rd_readExpression_45 (gR_cat _) ?_
        refine xgetI d_Rd_readExpression_46 gc_Rd f_Rd_71.1 f_Rd_71.2.1 f_Rd_71.2.2.1 (gl_1 hX 14) (gl_2 hX (a := 14) (by decide)) (gl_s hX 14 rfl) f_Rd_71.2.2.2.2.1 (fun h6 => ?_)
        have T := T h6
        refine wp_iconst d_Rd_readExpression_49 ?_
        refine wp_iadd d_Rd_readExpression_50 ?_
        refine xputI d_Rd_readExpression_51 gc_Rd f_Rd_71.1 f_Rd_71.2.1 f_Rd_71.2.2.1 (gl_1 hX 14) (gl_2 hX (a := 14) (by decide)) (gl_s hX 14 rfl) f_Rd_71.2.2.2.1 f_Rd_71.2.2.2.2.1 f_Rd_71.2.2.2.2.2 rfl ?_
        refine wp_aload_n d_Rd_readExpression_54 rfl rfl (g_nz (gl_1 hX 14)) ?_
        refine wp_getsN d_Rd_readExpression_55 fs_Rd_99 (fun U hU => (hO U hU).2.2.2.1.1) ?_
        refine wp_iload d_Rd_readExpression_58 rfl ?_
        have q7 := T.1
        have T := T.2
        refine xo_tg hO d_Rd_readExpression_60 (w32_id h4) q7 ?_
        refine wp_iconst d_Rd_readExpression_61 ?_
        refine wp_iadd d_Rd_readExpression_62 ?_
        refine wp_iload_n d_Rd_readExpression_63 rfl rfl ?_
        refine xcV_V (md' := true) (As := [gI ((gTg (Int.toNat (M (c + 17) (Int.toNat (M (c + 14) 4))))) + 1), gI x2]) (st := []) d_Rd_readExpression_64 ca_Rd_readExpression ml_Rd_83 im_Rd_readExpression se_Rd_readExpression gc_Rd (gl_1 hX 14) (gl_2 hX (a := 14) (by decide)) (gl_s hX 14 rfl) rfl (by decide) (by decide) rfl (fun _ => rfl) (fun _ => rfl) T (fun M8 T => ?_)
        refine wp_aload_n d_Rd_readExpression_67 rfl rfl (g_nz (gl_1 hX 14)) ?_
        refine xgetR d_Rd_readExpression_68 gc_Rd f_Rd_19.1 f_Rd_19.2.1 f_Rd_19.2.2.1 (gl_1 hX 14) (gl_2 hX (a := 14) (by decide)) (gl_s hX 14 rfl) f_Rd_19.2.2.2.2.1 (gl_f hX 16 rfl) ?_
        refine wp_bipush d_Rd_readExpression_71 ⟨by decide, by decide⟩ ?_
        refine wp_iload d_Rd_readExpression_73 rfl ?_
        refine xi2l d_Rd_readExpression_75 (w32_id h4) ?_
        refine xcV_V (md' := true) (As := [gI 11, gL (M (c + 17) (Int.toNat (M (c + 14) 4)))]) (st := []) d_Rd_readExpression_76 ca_Cn_emit ml_Rd_59 im_Cn_emit se_Cn_emit gc_Cn (gl_1 hX 2) (gl_2 hX (a := 2) (by decide)) (gl_s hX 2 rfl) rfl (by decide) (by decide) rfl (fun _ => rfl) (fun _ => rfl) T (fun M9 T => ?_)
        refine wp_iinc (L' := [.val (gR G (c + 14)), .val (gI x1), .val (gI x2), .val (gI (x3 + (-1))), .val (gI (M (c + 17) (Int.toNat (M (c + 14) 4))))]) d_Rd_readExpression_79 rfl (by decide) rfl ?_
        refine wp_goto (tgt := 8) d_Rd_readExpression_82 (by decide) ?_
        exact wp_md (wpt T (And.intro rfl (And.intro rfl (And.intro rfl (And.intro (gI_w _) True.intro)))))
      · have T := T.2 h10
        exact wp_return d_Rd_readExpression_43 rfl (fun _ => rfl) (Nat.zero_le _) (Nat.zero_le _) (kV_mk T)
theorem e_Rd_readExpression {l : Launch} {G : gG} {d : Nat} {X : gX} {M : gM} {k : gM → Prop} {Q : gQ} {c : Nat} {x1 : Int} {x2 : Int} (T : wp l G y_Rd_readExpression (gRm (d + 1)) true (kkV X k) false 0 [.val (gR G (c + 14)), .val (gI x1), .val (gI x2), .unset, .unset] [] X M 0 0) : cV l G y_Rd_readExpression (gRm (d + 1)) true [gR G (c + 14), gI x1, gI x2] X M k := cen_V (plainFor_of_name rfl) (by simp only [lg_sl_R, lg_sl_I, lg_sl_L, lg_sl_N, List.length_cons, List.length_nil]; decide) (by unfold gEn; simp only [lg_sl_R, lg_sl_I, lg_sl_L, lg_sl_N]; exact wpt T (And.intro rfl (And.intro rfl (And.intro rfl True.intro))))
