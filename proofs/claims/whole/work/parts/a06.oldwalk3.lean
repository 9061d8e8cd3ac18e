/-! Walks over Work and strings, written by wip/whole/gen_more.py -/
theorem d_Rd_readCall_0 : decode prog_8_method_10_code 0 = .ok (.aload_n 0, 1) := by decide +kernel
theorem d_Rd_readCall_1 : decode prog_8_method_10_code 1 = .ok (.getfield 19, 3) := by decide +kernel
theorem d_Rd_readCall_4 : decode prog_8_method_10_code 4 = .ok (.getfield 137, 3) := by decide +kernel
theorem d_Rd_readCall_7 : decode prog_8_method_10_code 7 = .ok (.istore_n 3, 1) := by decide +kernel
theorem d_Rd_readCall_8 : decode prog_8_method_10_code 8 = .ok (.iload_n 1, 1) := by decide +kernel
theorem d_Rd_readCall_9 : decode prog_8_method_10_code 9 = .ok (.ifCond .ge 8, 3) := by decide +kernel
theorem d_Rd_readCall_17 : decode prog_8_method_10_code 17 = .ok (.getstatic 142, 3) := by decide +kernel
theorem d_Rd_readCall_20 : decode prog_8_method_10_code 20 = .ok (.iload_n 1, 1) := by decide +kernel
theorem d_Rd_readCall_21 : decode prog_8_method_10_code 21 = .ok (.aaload, 1) := by decide +kernel
theorem d_Rd_readCall_22 : decode prog_8_method_10_code 22 = .ok (.getfield 146, 3) := by decide +kernel
theorem d_Rd_readCall_25 : decode prog_8_method_10_code 25 = .ok (.astore 4, 2) := by decide +kernel
theorem d_Rd_readCall_27 : decode prog_8_method_10_code 27 = .ok (.iconst 1, 1) := by decide +kernel
theorem d_Rd_readCall_28 : decode prog_8_method_10_code 28 = .ok (.istore 5, 2) := by decide +kernel
theorem d_Rd_readCall_30 : decode prog_8_method_10_code 30 = .ok (.iconst 0, 1) := by decide +kernel
theorem d_Rd_readCall_31 : decode prog_8_method_10_code 31 = .ok (.istore 6, 2) := by decide +kernel
theorem d_Rd_readCall_33 : decode prog_8_method_10_code 33 = .ok (.aload_n 0, 1) := by decide +kernel
theorem d_Rd_readCall_34 : decode prog_8_method_10_code 34 = .ok (.bipush 13, 2) := by decide +kernel
theorem d_Rd_readCall_36 : decode prog_8_method_10_code 36 = .ok (.invokevirtual 87, 3) := by decide +kernel
theorem d_Rd_readCall_39 : decode prog_8_method_10_code 39 = .ok (.aload_n 0, 1) := by decide +kernel
theorem d_Rd_readCall_40 : decode prog_8_method_10_code 40 = .ok (.getfield 79, 3) := by decide +kernel
theorem d_Rd_readCall_43 : decode prog_8_method_10_code 43 = .ok (.ifCond .ne 24, 3) := by decide +kernel
theorem d_Rd_readCall_67 : decode prog_8_method_10_code 67 = .ok (.iconst 0, 1) := by decide +kernel
theorem d_Rd_readCall_68 : decode prog_8_method_10_code 68 = .ok (.istore 7, 2) := by decide +kernel
theorem d_Rd_readCall_46 : decode prog_8_method_10_code 46 = .ok (.aload_n 0, 1) := by decide +kernel
theorem d_Rd_readCall_47 : decode prog_8_method_10_code 47 = .ok (.getfield 28, 3) := by decide +kernel
theorem d_Rd_readCall_50 : decode prog_8_method_10_code 50 = .ok (.getfield 93, 3) := by decide +kernel
theorem d_Rd_readCall_53 : decode prog_8_method_10_code 53 = .ok (.aload_n 0, 1) := by decide +kernel
theorem d_Rd_readCall_54 : decode prog_8_method_10_code 54 = .ok (.getfield 71, 3) := by decide +kernel
theorem d_Rd_readCall_57 : decode prog_8_method_10_code 57 = .ok (.iaload, 1) := by decide +kernel
theorem d_Rd_readCall_58 : decode prog_8_method_10_code 58 = .ok (.bipush 14, 2) := by decide +kernel
theorem d_Rd_readCall_60 : decode prog_8_method_10_code 60 = .ok (.if_icmp .eq 7, 3) := by decide +kernel
theorem d_Rd_readCall_63 : decode prog_8_method_10_code 63 = .ok (.iconst 1, 1) := by decide +kernel
theorem d_Rd_readCall_64 : decode prog_8_method_10_code 64 = .ok (.goto 4, 3) := by decide +kernel
theorem d_Rd_readCall_12 : decode prog_8_method_10_code 12 = .ok (.ldc 140, 2) := by decide +kernel
theorem d_Rd_readCall_14 : decode prog_8_method_10_code 14 = .ok (.goto 11, 3) := by decide +kernel
theorem d_Rd_readCall_70 : decode prog_8_method_10_code 70 = .ok (.iload 7, 2) := by decide +kernel
theorem d_Rd_readCall_72 : decode prog_8_method_10_code 72 = .ok (.ifCond .eq 91, 3) := by decide +kernel
theorem d_Rd_readCall_75 : decode prog_8_method_10_code 75 = .ok (.iload 6, 2) := by decide +kernel
theorem d_Rd_readCall_77 : decode prog_8_method_10_code 77 = .ok (.bipush 100, 2) := by decide +kernel
theorem d_Rd_readCall_79 : decode prog_8_method_10_code 79 = .ok (.if_icmp .ge 84, 3) := by decide +kernel
theorem d_Rd_readCall_82 : decode prog_8_method_10_code 82 = .ok (.aload_n 0, 1) := by decide +kernel
theorem d_Rd_readCall_83 : decode prog_8_method_10_code 83 = .ok (.iload_n 1, 1) := by decide +kernel
theorem d_Rd_readCall_84 : decode prog_8_method_10_code 84 = .ok (.iload 6, 2) := by decide +kernel
theorem d_Rd_readCall_86 : decode prog_8_method_10_code 86 = .ok (.iload_n 2, 1) := by decide +kernel
theorem d_Rd_readCall_87 : decode prog_8_method_10_code 87 = .ok (.iconst 1, 1) := by decide +kernel
theorem d_Rd_readCall_88 : decode prog_8_method_10_code 88 = .ok (.iadd, 1) := by decide +kernel
theorem d_Rd_readCall_89 : decode prog_8_method_10_code 89 = .ok (.invokevirtual 152, 3) := by decide +kernel
theorem d_Rd_readCall_92 : decode prog_8_method_10_code 92 = .ok (.ifCond .eq 12, 3) := by decide +kernel
theorem d_Rd_readCall_95 : decode prog_8_method_10_code 95 = .ok (.iload 5, 2) := by decide +kernel
theorem d_Rd_readCall_97 : decode prog_8_method_10_code 97 = .ok (.ifCond .eq 7, 3) := by decide +kernel
theorem d_Rd_readCall_100 : decode prog_8_method_10_code 100 = .ok (.iconst 1, 1) := by decide +kernel
theorem d_Rd_readCall_101 : decode prog_8_method_10_code 101 = .ok (.goto 4, 3) := by decide +kernel
theorem d_Rd_readCall_105 : decode prog_8_method_10_code 105 = .ok (.istore 5, 2) := by decide +kernel
theorem d_Rd_readCall_107 : decode prog_8_method_10_code 107 = .ok (.iinc 6 1, 3) := by decide +kernel
theorem d_Rd_readCall_110 : decode prog_8_method_10_code 110 = .ok (.aload_n 0, 1) := by decide +kernel
theorem d_Rd_readCall_111 : decode prog_8_method_10_code 111 = .ok (.getfield 79, 3) := by decide +kernel
theorem d_Rd_readCall_114 : decode prog_8_method_10_code 114 = .ok (.ifCond .ne 24, 3) := by decide +kernel
theorem d_Rd_readCall_138 : decode prog_8_method_10_code 138 = .ok (.iconst 0, 1) := by decide +kernel
theorem d_Rd_readCall_139 : decode prog_8_method_10_code 139 = .ok (.istore 7, 2) := by decide +kernel
theorem d_Rd_readCall_141 : decode prog_8_method_10_code 141 = .ok (.aload_n 0, 1) := by decide +kernel
theorem d_Rd_readCall_142 : decode prog_8_method_10_code 142 = .ok (.dup, 1) := by decide +kernel
theorem d_Rd_readCall_143 : decode prog_8_method_10_code 143 = .ok (.getfield 71, 3) := by decide +kernel
theorem d_Rd_readCall_146 : decode prog_8_method_10_code 146 = .ok (.iload 7, 2) := by decide +kernel
theorem d_Rd_readCall_148 : decode prog_8_method_10_code 148 = .ok (.ifCond .eq 7, 3) := by decide +kernel
theorem d_Rd_readCall_155 : decode prog_8_method_10_code 155 = .ok (.iconst 0, 1) := by decide +kernel
theorem d_Rd_readCall_156 : decode prog_8_method_10_code 156 = .ok (.iadd, 1) := by decide +kernel
theorem d_Rd_readCall_157 : decode prog_8_method_10_code 157 = .ok (.putfield 71, 3) := by decide +kernel
theorem d_Rd_readCall_160 : decode prog_8_method_10_code 160 = .ok (.goto (-90), 3) := by decide +kernel
theorem d_Rd_readCall_151 : decode prog_8_method_10_code 151 = .ok (.iconst 1, 1) := by decide +kernel
theorem d_Rd_readCall_152 : decode prog_8_method_10_code 152 = .ok (.goto 4, 3) := by decide +kernel
theorem d_Rd_readCall_117 : decode prog_8_method_10_code 117 = .ok (.aload_n 0, 1) := by decide +kernel
theorem d_Rd_readCall_118 : decode prog_8_method_10_code 118 = .ok (.getfield 28, 3) := by decide +kernel
theorem d_Rd_readCall_121 : decode prog_8_method_10_code 121 = .ok (.getfield 93, 3) := by decide +kernel
theorem d_Rd_readCall_124 : decode prog_8_method_10_code 124 = .ok (.aload_n 0, 1) := by decide +kernel
theorem d_Rd_readCall_125 : decode prog_8_method_10_code 125 = .ok (.getfield 71, 3) := by decide +kernel
theorem d_Rd_readCall_128 : decode prog_8_method_10_code 128 = .ok (.iaload, 1) := by decide +kernel
theorem d_Rd_readCall_129 : decode prog_8_method_10_code 129 = .ok (.bipush 15, 2) := by decide +kernel
theorem d_Rd_readCall_131 : decode prog_8_method_10_code 131 = .ok (.if_icmp .ne 7, 3) := by decide +kernel
theorem d_Rd_readCall_134 : decode prog_8_method_10_code 134 = .ok (.iconst 1, 1) := by decide +kernel
theorem d_Rd_readCall_135 : decode prog_8_method_10_code 135 = .ok (.goto 4, 3) := by decide +kernel
theorem d_Rd_readCall_163 : decode prog_8_method_10_code 163 = .ok (.aload_n 0, 1) := by decide +kernel
theorem d_Rd_readCall_164 : decode prog_8_method_10_code 164 = .ok (.bipush 14, 2) := by decide +kernel
theorem d_Rd_readCall_166 : decode prog_8_method_10_code 166 = .ok (.invokevirtual 87, 3) := by decide +kernel
theorem d_Rd_readCall_169 : decode prog_8_method_10_code 169 = .ok (.aload_n 0, 1) := by decide +kernel
theorem d_Rd_readCall_170 : decode prog_8_method_10_code 170 = .ok (.getfield 79, 3) := by decide +kernel
theorem d_Rd_readCall_173 : decode prog_8_method_10_code 173 = .ok (.ifCond .eq 4, 3) := by decide +kernel
theorem d_Rd_readCall_177 : decode prog_8_method_10_code 177 = .ok (.iload_n 1, 1) := by decide +kernel
theorem d_Rd_readCall_178 : decode prog_8_method_10_code 178 = .ok (.ifCond .ge 12, 3) := by decide +kernel
theorem d_Rd_readCall_190 : decode prog_8_method_10_code 190 = .ok (.iload 5, 2) := by decide +kernel
theorem d_Rd_readCall_192 : decode prog_8_method_10_code 192 = .ok (.ifCond .eq 13, 3) := by decide +kernel
theorem d_Rd_readCall_205 : decode prog_8_method_10_code 205 = .ok (.aload_n 0, 1) := by decide +kernel
theorem d_Rd_readCall_206 : decode prog_8_method_10_code 206 = .ok (.iload_n 3, 1) := by decide +kernel
theorem d_Rd_readCall_207 : decode prog_8_method_10_code 207 = .ok (.iconst 4, 1) := by decide +kernel
theorem d_Rd_readCall_208 : decode prog_8_method_10_code 208 = .ok (.invokevirtual 156, 3) := by decide +kernel
theorem d_Rd_readCall_211 : decode prog_8_method_10_code 211 = .ok (.goto 38, 3) := by decide +kernel
theorem d_Rd_readCall_249 : decode prog_8_method_10_code 249 = .ok (.return_, 1) := by decide +kernel
theorem d_Rd_readCall_195 : decode prog_8_method_10_code 195 = .ok (.iload 6, 2) := by decide +kernel
theorem d_Rd_readCall_197 : decode prog_8_method_10_code 197 = .ok (.aload 4, 2) := by decide +kernel
theorem d_Rd_readCall_199 : decode prog_8_method_10_code 199 = .ok (.invokevirtual 159, 3) := by decide +kernel
theorem d_Rd_readCall_202 : decode prog_8_method_10_code 202 = .ok (.if_icmp .eq 12, 3) := by decide +kernel
theorem d_Rd_readCall_214 : decode prog_8_method_10_code 214 = .ok (.getstatic 142, 3) := by decide +kernel
theorem d_Rd_readCall_217 : decode prog_8_method_10_code 217 = .ok (.iload_n 1, 1) := by decide +kernel
theorem d_Rd_readCall_218 : decode prog_8_method_10_code 218 = .ok (.aaload, 1) := by decide +kernel
theorem d_Rd_readCall_219 : decode prog_8_method_10_code 219 = .ok (.getfield 164, 3) := by decide +kernel
theorem d_Rd_readCall_222 : decode prog_8_method_10_code 222 = .ok (.iconst 5, 1) := by decide +kernel
theorem d_Rd_readCall_223 : decode prog_8_method_10_code 223 = .ok (.if_icmp .ne 15, 3) := by decide +kernel
theorem d_Rd_readCall_238 : decode prog_8_method_10_code 238 = .ok (.aload_n 0, 1) := by decide +kernel
theorem d_Rd_readCall_239 : decode prog_8_method_10_code 239 = .ok (.getfield 19, 3) := by decide +kernel
theorem d_Rd_readCall_242 : decode prog_8_method_10_code 242 = .ok (.bipush 11, 2) := by decide +kernel
theorem d_Rd_readCall_244 : decode prog_8_method_10_code 244 = .ok (.iload_n 1, 1) := by decide +kernel
theorem d_Rd_readCall_245 : decode prog_8_method_10_code 245 = .ok (.i2l, 1) := by decide +kernel
theorem d_Rd_readCall_246 : decode prog_8_method_10_code 246 = .ok (.invokevirtual 59, 3) := by decide +kernel
theorem d_Rd_readCall_226 : decode prog_8_method_10_code 226 = .ok (.aload_n 0, 1) := by decide +kernel
theorem d_Rd_readCall_227 : decode prog_8_method_10_code 227 = .ok (.iload 6, 2) := by decide +kernel
theorem d_Rd_readCall_229 : decode prog_8_method_10_code 229 = .ok (.iload_n 2, 1) := by decide +kernel
theorem d_Rd_readCall_230 : decode prog_8_method_10_code 230 = .ok (.iconst 1, 1) := by decide +kernel
theorem d_Rd_readCall_231 : decode prog_8_method_10_code 231 = .ok (.iadd, 1) := by decide +kernel
theorem d_Rd_readCall_232 : decode prog_8_method_10_code 232 = .ok (.invokevirtual 167, 3) := by decide +kernel
theorem d_Rd_readCall_235 : decode prog_8_method_10_code 235 = .ok (.goto 14, 3) := by decide +kernel
theorem d_Rd_readCall_181 : decode prog_8_method_10_code 181 = .ok (.aload_n 0, 1) := by decide +kernel
theorem d_Rd_readCall_182 : decode prog_8_method_10_code 182 = .ok (.iload_n 3, 1) := by decide +kernel
theorem d_Rd_readCall_183 : decode prog_8_method_10_code 183 = .ok (.iconst 3, 1) := by decide +kernel
theorem d_Rd_readCall_184 : decode prog_8_method_10_code 184 = .ok (.invokevirtual 156, 3) := by decide +kernel
theorem d_Rd_readCall_187 : decode prog_8_method_10_code 187 = .ok (.goto 62, 3) := by decide +kernel
theorem d_Rd_readCall_176 : decode prog_8_method_10_code 176 = .ok (.return_, 1) := by decide +kernel
theorem d_Rd_readCall_104 : decode prog_8_method_10_code 104 = .ok (.iconst 0, 1) := by decide +kernel
set_option maxHeartbeats 4000000 in
theorem w_Rd_readCall_0 {l : Launch} {G : gG} {d : Nat} {X : gX} {M : gM} {k : gM → Prop} {c : Nat} (hX : glX X c) {Q : gQ} (hO : gOld G Q) {x1 : Int} (hx1 : g32 x1) {x2 : Int} (hx2 : g32 x2)  (T : g32 (M (c + 2) 12) → ((0 ≤ x1 → (((0 : Int) ≤ x1 ∧ x1 < 52) ∧ (cV l G y_Rd_expect (gRm (d + 4)) true [gR G (c + 14), gI 13] X M (fun M3 => ((0 ≤ M3 (c + 14) 5 ∧ M3 (c + 14) 5 ≤ 1) → ((¬ M3 (c + 14) 5 = 0 → (wp l G y_Rd_readCall (gRm (d + 5)) true (kkV X k) true 70 [.val (gR G (c + 14)), .val (gI x1), .val (gI x2), .val (gI (M (c + 2) 12)), .val (.ref (Q.2.1 (gWta (Int.toNat x1)))), .val (gI 1), .val (gI 0), .val (gI 0)] [] X M3 0 0)) ∧ (M3 (c + 14) 5 = 0 → (g32 (M3 (c + 14) 4) → (((0 : Int) ≤ M3 (c + 14) 4 ∧ M3 (c + 14) 4 < 104) ∧ (g32 (M3 (c + 17) (Int.toNat (M3 (c + 14) 4))) → ((M3 (c + 17) (Int.toNat (M3 (c + 14) 4)) = 14 → (wp l G y_Rd_readCall (gRm (d + 5)) true (kkV X k) true 70 [.val (gR G (c + 14)), .val (gI x1), .val (gI x2), .val (gI (M (c + 2) 12)), .val (.ref (Q.2.1 (gWta (Int.toNat x1)))), .val (gI 1), .val (gI 0), .val (gI 0)] [] X M3 0 0)) ∧ (¬ M3 (c + 17) (Int.toNat (M3 (c + 14) 4)) = 14 → (wp l G y_Rd_readCall (gRm (d + 5)) true (kkV X k) true 70 [.val (gR G (c + 14)), .val (gI x1), .val (gI x2), .val (gI (M (c + 2) 12)), .val (.ref (Q.2.1 (gWta (Int.toNat x1)))), .val (gI 1), .val (gI 0), .val (gI 1)] [] X M3 0 0))))))))))))) ∧ (¬ 0 ≤ x1 → (cV l G y_Rd_expect (gRm (d + 4)) true [gR G (c + 14), gI 13] X M (fun M9 => ((0 ≤ M9 (c + 14) 5 ∧ M9 (c + 14) 5 ≤ 1) → ((¬ M9 (c + 14) 5 = 0 → (wp l G y_Rd_readCall (gRm (d + 5)) true (kkV X k) true 70 [.val (gR G (c + 14)), .val (gI x1), .val (gI x2), .val (gI (M (c + 2) 12)), .val (.ref (Q.2.1 2)), .val (gI 1), .val (gI 0), .val (gI 0)] [] X M9 0 0)) ∧ (M9 (c + 14) 5 = 0 → (g32 (M9 (c + 14) 4) → (((0 : Int) ≤ M9 (c + 14) 4 ∧ M9 (c + 14) 4 < 104) ∧ (g32 (M9 (c + 17) (Int.toNat (M9 (c + 14) 4))) → ((M9 (c + 17) (Int.toNat (M9 (c + 14) 4)) = 14 → (wp l G y_Rd_readCall (gRm (d + 5)) true (kkV X k) true 70 [.val (gR G (c + 14)), .val (gI x1), .val (gI x2), .val (gI (M (c + 2) 12)), .val (.ref (Q.2.1 2)), .val (gI 1), .val (gI 0), .val (gI 0)] [] X M9 0 0)) ∧ (¬ M9 (c + 17) (Int.toNat (M9 (c + 14) 4)) = 14 → (wp l G y_Rd_readCall (gRm (d + 5)) true (kkV X k) true 70 [.val (gR G (c + 14)), .val (gI x1), .val (gI x2), .val (gI (M (c + 2) 12)), .val (.ref (Q.2.1 2)), .val (gI 1), .val (gI 0), .val (gI 1)] [] X M9 0 0)))))))))))))) : wp l G y_Rd_readCall (gRm (d + 5)) true (kkV X k) false 0 [.val (gR G (c + 14)), .val (gI x1), .val (gI x2), .unset, .unset, .unset, .unset, .unset] [] X M 0 0 := by
  refine wp_aload_n d_Rd_readCall_0 rfl rfl (g_nz (gl_1 hX 14)) ?_
  refine xgetR d_Rd_readCall_1 gc_Rd f_Rd_19.1 f_Rd_19.2.1 f_Rd_19.2.2.1 (gl_1 hX 14) (gl_2 hX (a := 14) (by decide)) (gl_s hX 14 rfl) f_Rd_19.2.2.2.2.1 (gl_f hX 16 rfl) ?_
  refine xgetI d_Rd_readCall_4 gc_Cn f_Rd_137.1 f_Rd_137.2.1 f_Rd_137.2.2.1 (gl_1 hX 2) (gl_2 hX (a := 2) (by decide)) (gl_s hX 2 rfl) f_Rd_137.2.2.2.2.1 (fun h1 => ?_)
  have T := T h1
  refine wp_istore_n (L' := [.val (gR G (c + 14)), .val (gI x1), .val (gI x2), .val (gI (M (c + 2) 12)), .unset, .unset, .unset, .unset]) d_Rd_readCall_7 rfl (by decide) rfl ?_
  refine wp_iload_n d_Rd_readCall_8 rfl rfl ?_
  refine xz_ge (tgt := 17) d_Rd_readCall_9 (by decide) (w32_id hx1) (fun h15 => ?_) (fun h15 => ?_)
  · have T := T.1 h15
    refine wp_getsN d_Rd_readCall_17 fs_Rd_142 (fun U hU => (hO U hU).2.2.1.1) ?_
    refine wp_iload_n d_Rd_readCall_20 rfl rfl ?_
    have q2 := T.1
    have T := T.2
    refine xo_aald hO d_Rd_readCall_21 (w32_id hx1) q2 ?_
    refine wp_oget d_Rd_readCall_22 fo_Rd_146 (fun U hU => ((hO U hU).1 _ (g52 q2)).2.2.2.2.1) ?_
    refine wp_astoreO (L' := [.val (gR G (c + 14)), .val (gI x1), .val (gI x2), .val (gI (M (c + 2) 12)), .val (.ref (Q.2.1 (gWta (Int.toNat x1)))), .unset, .unset, .unset]) d_Rd_readCall_25 (by decide) rfl ?_
    refine wp_iconst d_Rd_readCall_27 ?_
    refine wp_istore (L' := [.val (gR G (c + 14)), .val (gI x1), .val (gI x2), .val (gI (M (c + 2) 12)), .val (.ref (Q.2.1 (gWta (Int.toNat x1)))), .val (gI 1), .unset, .unset]) d_Rd_readCall_28 (by decide) rfl ?_
    refine wp_iconst d_Rd_readCall_30 ?_
    refine wp_istore (L' := [.val (gR G (c + 14)), .val (gI x1), .val (gI x2), .val (gI (M (c + 2) 12)), .val (.ref (Q.2.1 (gWta (Int.toNat x1)))), .val (gI 1), .val (gI 0), .unset]) d_Rd_readCall_31 (by decide) rfl ?_
    refine wp_aload_n d_Rd_readCall_33 rfl rfl (g_nz (gl_1 hX 14)) ?_
    refine wp_bipush d_Rd_readCall_34 ⟨by decide, by decide⟩ ?_
    refine xcV_V (md' := true) (As := [gI 13]) (st := []) d_Rd_readCall_36 ca_Rd_expect ml_Rd_87 im_Rd_expect se_Rd_expect gc_Rd (gl_1 hX 14) (gl_2 hX (a := 14) (by decide)) (gl_s hX 14 rfl) rfl (by decide) (by decide) rfl (fun _ => rfl) (fun _ => rfl) T (fun M3 T => ?_)
    refine wp_aload_n d_Rd_readCall_39 rfl rfl (g_nz (gl_1 hX 14)) ?_
    refine xgetZ d_Rd_readCall_40 gc_Rd f_Rd_79.1 f_Rd_79.2.1 f_Rd_79.2.2.1 (gl_1 hX 14) (gl_2 hX (a := 14) (by decide)) (gl_s hX 14 rfl) f_Rd_79.2.2.2.2.1 (fun h4 => ?_)
    have T := T h4
    refine xz_ne (tgt := 67) d_Rd_readCall_43 (by decide) (w32_id (g32_z h4)) (fun h8 => ?_) (fun h8 => ?_)
    · have T := T.1 h8
      refine wp_iconst d_Rd_readCall_67 ?_
      refine wp_istore (L' := [.val (gR G (c + 14)), .val (gI x1), .val (gI x2), .val (gI (M (c + 2) 12)), .val (.ref (Q.2.1 (gWta (Int.toNat x1)))), .val (gI 1), .val (gI 0), .val (gI 0)]) d_Rd_readCall_68 (by decide) rfl ?_
      exact wp_md (wpt T (And.intro rfl (And.intro rfl (And.intro rfl (And.intro rfl (And.intro rfl (And.intro rfl (And.intro rfl (And.intro rfl True.intro)))))))))
    · have T := T.2 h8
      refine wp_aload_n d_Rd_readCall_46 rfl rfl (g_nz (gl_1 hX 14)) ?_
      refine xgetR d_Rd_readCall_47 gc_Rd f_Rd_28.1 f_Rd_28.2.1 f_Rd_28.2.2.1 (gl_1 hX 14) (gl_2 hX (a := 14) (by decide)) (gl_s hX 14 rfl) f_Rd_28.2.2.2.2.1 (gl_f hX 17 rfl) ?_
      refine xgetR d_Rd_readCall_50 gc_Tk f_Rd_93.1 f_Rd_93.2.1 f_Rd_93.2.2.1 (gl_1 hX 16) (gl_2 hX (a := 16) (by decide)) (gl_s hX 16 rfl) f_Rd_93.2.2.2.2.1 (gl_f hX 18 rfl) ?_
      refine wp_aload_n d_Rd_readCall_53 rfl rfl (g_nz (gl_1 hX 14)) ?_
      refine xgetI d_Rd_readCall_54 gc_Rd f_Rd_71.1 f_Rd_71.2.1 f_Rd_71.2.2.1 (gl_1 hX 14) (gl_2 hX (a := 14) (by decide)) (gl_s hX 14 rfl) f_Rd_71.2.2.2.2.1 (fun h5 => ?_)
      have T := T h5
      refine wp_iaload d_Rd_readCall_57 (gl_1 hX 17) (gl_2 hX (a := 17) (by decide)) (gl_s hX 17 rfl) (g32_n T.1 (by decide)) T.1.1 T.1.2 (fun h6 => ?_)
      have T := T.2 h6
      refine wp_bipush d_Rd_readCall_58 ⟨by decide, by decide⟩ ?_
      refine xi_eq (tgt := 67) d_Rd_readCall_60 (by decide) (w32_id h6) (w32_id (g32_c (x := 14) rfl)) (fun h7 => ?_) (fun h7 => ?_)
      · have T := T.1 h7
        refine wp_iconst d_Rd_readCall_67 ?_
        refine wp_istore (L' := [.val (gR G (c + 14)), .val (gI x1), .val (gI x2), .val (gI (M (c + 2) 12)), .val (.ref (Q.2.1 (gWta (Int.toNat x1)))), .val (gI 1), .val (gI 0), .val (gI 0)]) d_Rd_readCall_68 (by decide) rfl ?_
        exact wp_md (wpt T (And.intro rfl (And.intro rfl (And.intro rfl (And.intro rfl (And.intro rfl (And.intro rfl (And.intro rfl (And.intro rfl True.intro)))))))))
      · have T := T.2 h7
        refine wp_iconst d_Rd_readCall_63 ?_
        refine wp_goto (tgt := 68) d_Rd_readCall_64 (by decide) ?_
        refine wp_istore (L' := [.val (gR G (c + 14)), .val (gI x1), .val (gI x2), .val (gI (M (c + 2) 12)), .val (.ref (Q.2.1 (gWta (Int.toNat x1)))), .val (gI 1), .val (gI 0), .val (gI 1)]) d_Rd_readCall_68 (by decide) rfl ?_
        exact wp_md (wpt T (And.intro rfl (And.intro rfl (And.intro rfl (And.intro rfl (And.intro rfl (And.intro rfl (And.intro rfl (And.intro rfl True.intro)))))))))
  · have T := T.2 h15
    refine wp_ldcS d_Rd_readCall_12 (fun U hU => ((hO U hU).2.1 2 (by decide)).2.2.2.2 ("GridLedger$Reader", 140, "") rfl) ?_
    refine wp_goto (tgt := 25) d_Rd_readCall_14 (by decide) ?_
    refine wp_astoreO (L' := [.val (gR G (c + 14)), .val (gI x1), .val (gI x2), .val (gI (M (c + 2) 12)), .val (.ref (Q.2.1 2)), .unset, .unset, .unset]) d_Rd_readCall_25 (by decide) rfl ?_
    refine wp_iconst d_Rd_readCall_27 ?_
    refine wp_istore (L' := [.val (gR G (c + 14)), .val (gI x1), .val (gI x2), .val (gI (M (c + 2) 12)), .val (.ref (Q.2.1 2)), .val (gI 1), .unset, .unset]) d_Rd_readCall_28 (by decide) rfl ?_
    refine wp_iconst d_Rd_readCall_30 ?_
    refine wp_istore (L' := [.val (gR G (c + 14)), .val (gI x1), .val (gI x2), .val (gI (M (c + 2) 12)), .val (.ref (Q.2.1 2)), .val (gI 1), .val (gI 0), .unset]) d_Rd_readCall_31 (by decide) rfl ?_
    refine wp_aload_n d_Rd_readCall_33 rfl rfl (g_nz (gl_1 hX 14)) ?_
    refine wp_bipush d_Rd_readCall_34 ⟨by decide, by decide⟩ ?_
    refine xcV_V (md' := true) (As := [gI 13]) (st := []) d_Rd_readCall_36 ca_Rd_expect ml_Rd_87 im_Rd_expect se_Rd_expect gc_Rd (gl_1 hX 14) (gl_2 hX (a := 14) (by decide)) (gl_s hX 14 rfl) rfl (by decide) (by decide) rfl (fun _ => rfl) (fun _ => rfl) T (fun M9 T => ?_)
    refine wp_aload_n d_Rd_readCall_39 rfl rfl (g_nz (gl_1 hX 14)) ?_
    refine xgetZ d_Rd_readCall_40 gc_Rd f_Rd_79.1 f_Rd_79.2.1 f_Rd_79.2.2.1 (gl_1 hX 14) (gl_2 hX (a := 14) (by decide)) (gl_s hX 14 rfl) f_Rd_79.2.2.2.2.1 (fun h10 => ?_)
    have T := T h10
    refine xz_ne (tgt := 67) d_Rd_readCall_43 (by decide) (w32_id (g32_z h10)) (fun h14 => ?_) (fun h14 => ?_)
    · have T := T.1 h14
      refine wp_iconst d_Rd_readCall_67 ?_
      refine wp_istore (L' := [.val (gR G (c + 14)), .val (gI x1), .val (gI x2), .val (gI (M (c + 2) 12)), .val (.ref (Q.2.1 2)), .val (gI 1), .val (gI 0), .val (gI 0)]) d_Rd_readCall_68 (by decide) rfl ?_
      exact wp_md (wpt T (And.intro rfl (And.intro rfl (And.intro rfl (And.intro rfl (And.intro rfl (And.intro rfl (And.intro rfl (And.intro rfl True.intro)))))))))
    · have T := T.2 h14
      refine wp_aload_n d_Rd_readCall_46 rfl rfl (g_nz (gl_1 hX 14)) ?_
      refine xgetR d_Rd_readCall_47 gc_Rd f_Rd_28.1 f_Rd_28.2.1 f_Rd_28.2.2.1 (gl_1 hX 14) (gl_2 hX (a := 14) (by decide)) (gl_s hX 14 rfl) f_Rd_28.2.2.2.2.1 (gl_f hX 17 rfl) ?_
      refine xgetR d_Rd_readCall_50 gc_Tk f_Rd_93.1 f_Rd_93.2.1 f_Rd_93.2.2.1 (gl_1 hX 16) (gl_2 hX (a := 16) (by decide)) (gl_s hX 16 rfl) f_Rd_93.2.2.2.2.1 (gl_f hX 18 rfl) ?_
      refine wp_aload_n d_Rd_readCall_53 rfl rfl (g_nz (gl_1 hX 14)) ?_
      refine xgetI d_Rd_readCall_54 gc_Rd f_Rd_71.1 f_Rd_71.2.1 f_Rd_71.2.2.1 (gl_1 hX 14) (gl_2 hX (a := 14) (by decide)) (gl_s hX 14 rfl) f_Rd_71.2.2.2.2.1 (fun h11 => ?_)
      have T := T h11
      refine wp_iaload d_Rd_readCall_57 (gl_1 hX 17) (gl_2 hX (a := 17) (by decide)) (gl_s hX 17 rfl) (g32_n T.1 (by decide)) T.1.1 T.1.2 (fun h12 => ?_)
      have T := T.2 h12
      refine wp_bipush d_Rd_readCall_58 ⟨by decide, by decide⟩ ?_
      refine xi_eq (tgt := 67) d_Rd_readCall_60 (by decide) (w32_id h12) (w32_id (g32_c (x := 14) rfl)) (fun h13 => ?_) (fun h13 => ?_)
      · have T := T.1 h13
        refine wp_iconst d_Rd_readCall_67 ?_
        refine wp_istore (L' := [.val (gR G (c + 14)), .val (gI x1), .val (gI x2), .val (gI (M (c + 2) 12)), .val (.ref (Q.2.1 2)), .val (gI 1), .val (gI 0), .val (gI 0)]) d_Rd_readCall_68 (by decide) rfl ?_
        exact wp_md (wpt T (And.intro rfl (And.intro rfl (And.intro rfl (And.intro rfl (And.intro rfl (And.intro rfl (And.intro rfl (And.intro rfl True.intro)))))))))
      · have T := T.2 h13
        refine wp_iconst d_Rd_readCall_63 ?_
        refine wp_goto (tgt := 68) d_Rd_readCall_64 (by decide) ?_
        refine wp_istore (L' := [.val (gR G (c + 14)), .val (gI x1), .val (gI x2), .val (gI (M (c + 2) 12)), .val (.ref (Q.2.1 2)), .val (gI 1), .val (gI 0), .val (gI 1)]) d_Rd_readCall_68 (by decide) rfl ?_
        exact wp_md (wpt T (And.intro rfl (And.intro rfl (And.intro rfl (And.intro rfl (And.intro rfl (And.intro rfl (And.intro rfl (And.intro rfl True.intro)))))))))
set_option maxHeartbeats 4000000 in
theorem w_Rd_readCall_70 {l : Launch} {G : gG} {d : Nat} {X : gX} {M : gM} {k : gM → Prop} {c : Nat} (hX : glX X c) {Q : gQ} (hO : gOld G Q) {x1 : Int} (hx1 : g32 x1) {x2 : Int} (hx2 : g32 x2) {x3 : Int} (hx3 : g32 x3) {tk4 : Nat} (htk4 : tk4 < 66) {x5 : Int} (hx5 : g32 x5) {x6 : Int} (hx6 : g32 x6) {x7 : Int} (hx7 : g32 x7)  (T : (x7 = 0 → (wp l G y_Rd_readCall (gRm (d + 5)) true (kkV X k) true 163 [.val (gR G (c + 14)), .val (gI x1), .val (gI x2), .val (gI x3), .val (.ref (Q.2.1 tk4)), .val (gI x5), .val (gI x6), .unset] [] X M 0 0)) ∧ (¬ x7 = 0 → ((100 ≤ x6 → (wp l G y_Rd_readCall (gRm (d + 5)) true (kkV X k) true 163 [.val (gR G (c + 14)), .val (gI x1), .val (gI x2), .val (gI x3), .val (.ref (Q.2.1 tk4)), .val (gI x5), .val (gI x6), .unset] [] X M 0 0)) ∧ (¬ 100 ≤ x6 → (cZ l G y_Rd_readArgument (gRm (d + 4)) true [gR G (c + 14), gI x1, gI x6, gI (x2 + 1)] X M (fun v17 M16 => ((v17 = 0 → (wp l G y_Rd_readCall (gRm (d + 5)) true (kkV X k) true 104 [.val (gR G (c + 14)), .val (gI x1), .val (gI x2), .val (gI x3), .val (.ref (Q.2.1 tk4)), .unset, .val (gI x6), .unset] [] X M16 0 0)) ∧ (¬ v17 = 0 → ((x5 = 0 → (wp l G y_Rd_readCall (gRm (d + 5)) true (kkV X k) true 104 [.val (gR G (c + 14)), .val (gI x1), .val (gI x2), .val (gI x3), .val (.ref (Q.2.1 tk4)), .unset, .val (gI x6), .unset] [] X M16 0 0)) ∧ (¬ x5 = 0 → ((0 ≤ M16 (c + 14) 5 ∧ M16 (c + 14) 5 ≤ 1) → ((¬ M16 (c + 14) 5 = 0 → (g32 (M16 (c + 14) 4) → (((0 : Int) = 0 → (wp l G y_Rd_readCall (gRm (d + 5)) true (kkV X k) true 70 [.val (gR G (c + 14)), .val (gI x1), .val (gI x2), .val (gI x3), .val (.ref (Q.2.1 tk4)), .val (gI 1), .val (gI (w32 (x6 + 1))), .val (gI 0)] [] X (gUp M16 (c + 14) 4 (w32 ((M16 (c + 14) 4) + 0))) 0 0)) ∧ (¬ (0 : Int) = 0 → (wp l G y_Rd_readCall (gRm (d + 5)) true (kkV X k) true 70 [.val (gR G (c + 14)), .val (gI x1), .val (gI x2), .val (gI x3), .val (.ref (Q.2.1 tk4)), .val (gI 1), .val (gI (w32 (x6 + 1))), .val (gI 0)] [] X (gUp M16 (c + 14) 4 (w32 ((M16 (c + 14) 4) + 1))) 0 0))))) ∧ (M16 (c + 14) 5 = 0 → (g32 (M16 (c + 14) 4) → (((0 : Int) ≤ M16 (c + 14) 4 ∧ M16 (c + 14) 4 < 104) ∧ (g32 (M16 (c + 17) (Int.toNat (M16 (c + 14) 4))) → ((¬ M16 (c + 17) (Int.toNat (M16 (c + 14) 4)) = 15 → (g32 (M16 (c + 14) 4) → (((0 : Int) = 0 → (wp l G y_Rd_readCall (gRm (d + 5)) true (kkV X k) true 70 [.val (gR G (c + 14)), .val (gI x1), .val (gI x2), .val (gI x3), .val (.ref (Q.2.1 tk4)), .val (gI 1), .val (gI (w32 (x6 + 1))), .val (gI 0)] [] X (gUp M16 (c + 14) 4 (w32 ((M16 (c + 14) 4) + 0))) 0 0)) ∧ (¬ (0 : Int) = 0 → (wp l G y_Rd_readCall (gRm (d + 5)) true (kkV X k) true 70 [.val (gR G (c + 14)), .val (gI x1), .val (gI x2), .val (gI x3), .val (.ref (Q.2.1 tk4)), .val (gI 1), .val (gI (w32 (x6 + 1))), .val (gI 0)] [] X (gUp M16 (c + 14) 4 (w32 ((M16 (c + 14) 4) + 1))) 0 0))))) ∧ (M16 (c + 17) (Int.toNat (M16 (c + 14) 4)) = 15 → (g32 (M16 (c + 14) 4) → (((1 : Int) = 0 → (wp l G y_Rd_readCall (gRm (d + 5)) true (kkV X k) true 70 [.val (gR G (c + 14)), .val (gI x1), .val (gI x2), .val (gI x3), .val (.ref (Q.2.1 tk4)), .val (gI 1), .val (gI (w32 (x6 + 1))), .val (gI 1)] [] X (gUp M16 (c + 14) 4 (w32 ((M16 (c + 14) 4) + 0))) 0 0)) ∧ (¬ (1 : Int) = 0 → (wp l G y_Rd_readCall (gRm (d + 5)) true (kkV X k) true 70 [.val (gR G (c + 14)), .val (gI x1), .val (gI x2), .val (gI x3), .val (.ref (Q.2.1 tk4)), .val (gI 1), .val (gI (w32 (x6 + 1))), .val (gI 1)] [] X (gUp M16 (c + 14) 4 (w32 ((M16 (c + 14) 4) + 1))) 0 0)))))))))))))))))))))) : wp l G y_Rd_readCall (gRm (d + 5)) true (kkV X k) true 70 [.val (gR G (c + 14)), .val (gI x1), .val (gI x2), .val (gI x3), .val (.ref (Q.2.1 tk4)), .val (gI x5), .val (gI x6), .val (gI x7)] [] X M 0 0 := by
  refine wp_iload d_Rd_readCall_70 rfl ?_
  refine xz_eq (tgt := 163) d_Rd_readCall_72 (by decide) (w32_id hx7) (fun h33 => ?_) (fun h33 => ?_)
  · have T := T.1 h33
    exact wp_md (wpt T (And.intro rfl (And.intro rfl (And.intro rfl (And.intro rfl (And.intro rfl (And.intro rfl (And.intro rfl True.intro))))))))
  · have T := T.2 h33
    refine wp_iload d_Rd_readCall_75 rfl ?_
    refine wp_bipush d_Rd_readCall_77 ⟨by decide, by decide⟩ ?_
    refine xi_ge (tgt := 163) d_Rd_readCall_79 (by decide) (w32_id hx6) (w32_id (g32_c (x := 100) rfl)) (fun h32 => ?_) (fun h32 => ?_)
    · have T := T.1 h32
      exact wp_md (wpt T (And.intro rfl (And.intro rfl (And.intro rfl (And.intro rfl (And.intro rfl (And.intro rfl (And.intro rfl True.intro))))))))
    · have T := T.2 h32
      refine wp_aload_n d_Rd_readCall_82 rfl rfl (g_nz (gl_1 hX 14)) ?_
      refine wp_iload_n d_Rd_readCall_83 rfl rfl ?_
      refine wp_iload d_Rd_readCall_84 rfl ?_
      refine wp_iload_n d_Rd_readCall_86 rfl rfl ?_
      refine wp_iconst d_Rd_readCall_87 ?_
      refine wp_iadd d_Rd_readCall_88 ?_
      refine xcV_Z (md' := true) (As := [gI x1, gI x6, gI (x2 + 1)]) (st := []) d_Rd_readCall_89 ca_Rd_readArgument ml_Rd_152 im_Rd_readArgument se_Rd_readArgument gc_Rd (gl_1 hX 14) (gl_2 hX (a := 14) (by decide)) (gl_s hX 14 rfl) rfl (by decide) (by decide) rfl (fun _ => rfl) (fun _ => rfl) T (fun v17 M16 h18 T => ?_)
      refine xz_eq (tgt := 104) d_Rd_readCall_92 (by decide) (w32_id (g32_z h18)) (fun h31 => ?_) (fun h31 => ?_)
      · have T := T.1 h31
        exact wp_md (wpt T (And.intro rfl (And.intro rfl (And.intro rfl (And.intro rfl (And.intro rfl (And.intro rfl True.intro)))))))
      · have T := T.2 h31
        refine wp_iload d_Rd_readCall_95 rfl ?_
        refine xz_eq (tgt := 104) d_Rd_readCall_97 (by decide) (w32_id hx5) (fun h30 => ?_) (fun h30 => ?_)
        · have T := T.1 h30
          exact wp_md (wpt T (And.intro rfl (And.intro rfl (And.intro rfl (And.intro rfl (And.intro rfl (And.intro rfl True.intro)))))))
        · have T := T.2 h30
          refine wp_iconst d_Rd_readCall_100 ?_
          refine wp_goto (tgt := 105) d_Rd_readCall_101 (by decide) ?_
          refine wp_istore (L' := [.val (gR G (c + 14)), .val (gI x1), .val (gI x2), .val (gI x3), .val (.ref (Q.2.1 tk4)), .val (gI 1), .val (gI x6), .val (gI x7)]) d_Rd_readCall_105 (by decide) rfl ?_
          refine wp_iinc (L' := [.val (gR G (c + 14)), .val (gI x1), .val (gI x2), .val (gI x3), .val (.ref (Q.2.1 tk4)), .val (gI 1), .val (gI (x6 + 1)), .val (gI x7)]) d_Rd_readCall_107 rfl (by decide) rfl ?_
          refine wp_aload_n d_Rd_readCall_110 rfl rfl (g_nz (gl_1 hX 14)) ?_
          refine xgetZ d_Rd_readCall_111 gc_Rd f_Rd_79.1 f_Rd_79.2.1 f_Rd_79.2.2.1 (gl_1 hX 14) (gl_2 hX (a := 14) (by decide)) (gl_s hX 14 rfl) f_Rd_79.2.2.2.2.1 (fun h19 => ?_)
          have T := T h19
          refine xz_ne (tgt := 138) d_Rd_readCall_114 (by decide) (w32_id (g32_z h19)) (fun h29 => ?_) (fun h29 => ?_)
          · have T := T.1 h29
            refine wp_iconst d_Rd_readCall_138 ?_
            refine wp_istore (L' := [.val (gR G (c + 14)), .val (gI x1), .val (gI x2), .val (gI x3), .val (.ref (Q.2.1 tk4)), .val (gI 1), .val (gI (x6 + 1)), .val (gI 0)]) d_Rd_readCall_139 (by decide) rfl ?_
            refine wp_aload_n d_Rd_readCall_141 rfl rfl (g_nz (gl_1 hX 14)) ?_
            refine wp_dup d_Rd_readCall_142 (gR_cat _) ?_
            refine xgetI d_Rd_readCall_143 gc_Rd f_Rd_71.1 f_Rd_71.2.1 f_Rd_71.2.2.1 (gl_1 hX 14) (gl_2 hX (a := 14) (by decide)) (gl_s hX 14 rfl) f_Rd_71.2.2.2.2.1 (fun h20 => ?_)
            have T := T h20
            refine wp_iload d_Rd_readCall_146 rfl ?_
            refine xz_eq (tgt := 155) d_Rd_readCall_148 (by decide) (w32_id (g32_c (x := 0) rfl)) (fun h21 => ?_) (fun h21 => ?_)
            · have T := T.1 h21
              refine wp_iconst d_Rd_readCall_155 ?_
              refine wp_iadd d_Rd_readCall_156 ?_
              refine xputI d_Rd_readCall_157 gc_Rd f_Rd_71.1 f_Rd_71.2.1 f_Rd_71.2.2.1 (gl_1 hX 14) (gl_2 hX (a := 14) (by decide)) (gl_s hX 14 rfl) f_Rd_71.2.2.2.1 f_Rd_71.2.2.2.2.1 f_Rd_71.2.2.2.2.2 rfl ?_
              refine wp_goto (tgt := 70) d_Rd_readCall_160 (by decide) ?_
              exact wp_md (wpt T (And.intro rfl (And.intro rfl (And.intro rfl (And.intro rfl (And.intro rfl (And.intro rfl (And.intro (gI_w _) (And.intro rfl True.intro)))))))))
            · have T := T.2 h21
              refine wp_iconst d_Rd_readCall_151 ?_
              refine wp_goto (tgt := 156) d_Rd_readCall_152 (by decide) ?_
              refine wp_iadd d_Rd_readCall_156 ?_
              refine xputI d_Rd_readCall_157 gc_Rd f_Rd_71.1 f_Rd_71.2.1 f_Rd_71.2.2.1 (gl_1 hX 14) (gl_2 hX (a := 14) (by decide)) (gl_s hX 14 rfl) f_Rd_71.2.2.2.1 f_Rd_71.2.2.2.2.1 f_Rd_71.2.2.2.2.2 rfl ?_
              refine wp_goto (tgt := 70) d_Rd_readCall_160 (by decide) ?_
              exact wp_md (wpt T (And.intro rfl (And.intro rfl (And.intro rfl (And.intro rfl (And.intro rfl (And.intro rfl (And.intro (gI_w _) (And.intro rfl True.intro)))))))))
          · have T := T.2 h29
            refine wp_aload_n d_Rd_readCall_117 rfl rfl (g_nz (gl_1 hX 14)) ?_
            refine xgetR d_Rd_readCall_118 gc_Rd f_Rd_28.1 f_Rd_28.2.1 f_Rd_28.2.2.1 (gl_1 hX 14) (gl_2 hX (a := 14) (by decide)) (gl_s hX 14 rfl) f_Rd_28.2.2.2.2.1 (gl_f hX 17 rfl) ?_
            refine xgetR d_Rd_readCall_121 gc_Tk f_Rd_93.1 f_Rd_93.2.1 f_Rd_93.2.2.1 (gl_1 hX 16) (gl_2 hX (a := 16) (by decide)) (gl_s hX 16 rfl) f_Rd_93.2.2.2.2.1 (gl_f hX 18 rfl) ?_
            refine wp_aload_n d_Rd_readCall_124 rfl rfl (g_nz (gl_1 hX 14)) ?_
            refine xgetI d_Rd_readCall_125 gc_Rd f_Rd_71.1 f_Rd_71.2.1 f_Rd_71.2.2.1 (gl_1 hX 14) (gl_2 hX (a := 14) (by decide)) (gl_s hX 14 rfl) f_Rd_71.2.2.2.2.1 (fun h22 => ?_)
            have T := T h22
            refine wp_iaload d_Rd_readCall_128 (gl_1 hX 17) (gl_2 hX (a := 17) (by decide)) (gl_s hX 17 rfl) (g32_n T.1 (by decide)) T.1.1 T.1.2 (fun h23 => ?_)
            have T := T.2 h23
            refine wp_bipush d_Rd_readCall_129 ⟨by decide, by decide⟩ ?_
            refine xi_ne (tgt := 138) d_Rd_readCall_131 (by decide) (w32_id h23) (w32_id (g32_c (x := 15) rfl)) (fun h28 => ?_) (fun h28 => ?_)
            · have T := T.1 h28
              refine wp_iconst d_Rd_readCall_138 ?_
              refine wp_istore (L' := [.val (gR G (c + 14)), .val (gI x1), .val (gI x2), .val (gI x3), .val (.ref (Q.2.1 tk4)), .val (gI 1), .val (gI (x6 + 1)), .val (gI 0)]) d_Rd_readCall_139 (by decide) rfl ?_
              refine wp_aload_n d_Rd_readCall_141 rfl rfl (g_nz (gl_1 hX 14)) ?_
              refine wp_dup d_Rd_readCall_142 (gR_cat _) ?_
              refine xgetI d_Rd_readCall_143 gc_Rd f_Rd_71.1 f_Rd_71.2.1 f_Rd_71.2.2.1 (gl_1 hX 14) (gl_2 hX (a := 14) (by decide)) (gl_s hX 14 rfl) f_Rd_71.2.2.2.2.1 (fun h24 => ?_)
              have T := T h24
              refine wp_iload d_Rd_readCall_146 rfl ?_
              refine xz_eq (tgt := 155) d_Rd_readCall_148 (by decide) (w32_id (g32_c (x := 0) rfl)) (fun h25 => ?_) (fun h25 => ?_)
              · have T := T.1 h25
                refine wp_iconst d_Rd_readCall_155 ?_
                refine wp_iadd d_Rd_readCall_156 ?_
                refine xputI d_Rd_readCall_157 gc_Rd f_Rd_71.1 f_Rd_71.2.1 f_Rd_71.2.2.1 (gl_1 hX 14) (gl_2 hX (a := 14) (by decide)) (gl_s hX 14 rfl) f_Rd_71.2.2.2.1 f_Rd_71.2.2.2.2.1 f_Rd_71.2.2.2.2.2 rfl ?_
                refine wp_goto (tgt := 70) d_Rd_readCall_160 (by decide) ?_
                exact wp_md (wpt T (And.intro rfl (And.intro rfl (And.intro rfl (And.intro rfl (And.intro rfl (And.intro rfl (And.intro (gI_w _) (And.intro rfl True.intro)))))))))
              · have T := T.2 h25
                refine wp_iconst d_Rd_readCall_151 ?_
                refine wp_goto (tgt := 156) d_Rd_readCall_152 (by decide) ?_
                refine wp_iadd d_Rd_readCall_156 ?_
                refine xputI d_Rd_readCall_157 gc_Rd f_Rd_71.1 f_Rd_71.2.1 f_Rd_71.2.2.1 (gl_1 hX 14) (gl_2 hX (a := 14) (by decide)) (gl_s hX 14 rfl) f_Rd_71.2.2.2.1 f_Rd_71.2.2.2.2.1 f_Rd_71.2.2.2.2.2 rfl ?_
                refine wp_goto (tgt := 70) d_Rd_readCall_160 (by decide) ?_
                exact wp_md (wpt T (And.intro rfl (And.intro rfl (And.intro rfl (And.intro rfl (And.intro rfl (And.intro rfl (And.intro (gI_w _) (And.intro rfl True.intro)))))))))
            · have T := T.2 h28
              refine wp_iconst d_Rd_readCall_134 ?_
              refine wp_goto (tgt := 139) d_Rd_readCall_135 (by decide) ?_
              refine wp_istore (L' := [.val (gR G (c + 14)), .val (gI x1), .val (gI x2), .val (gI x3), .val (.ref (Q.2.1 tk4)), .val (gI 1), .val (gI (x6 + 1)), .val (gI 1)]) d_Rd_readCall_139 (by decide) rfl ?_
              refine wp_aload_n d_Rd_readCall_141 rfl rfl (g_nz (gl_1 hX 14)) ?_
              refine wp_dup d_Rd_readCall_142 (gR_cat _) ?_
              refine xgetI d_Rd_readCall_143 gc_Rd f_Rd_71.1 f_Rd_71.2.1 f_Rd_71.2.2.1 (gl_1 hX 14) (gl_2 hX (a := 14) (by decide)) (gl_s hX 14 rfl) f_Rd_71.2.2.2.2.1 (fun h26 => ?_)
              have T := T h26
              refine wp_iload d_Rd_readCall_146 rfl ?_
              refine xz_eq (tgt := 155) d_Rd_readCall_148 (by decide) (w32_id (g32_c (x := 1) rfl)) (fun h27 => ?_) (fun h27 => ?_)
              · have T := T.1 h27
                refine wp_iconst d_Rd_readCall_155 ?_
                refine wp_iadd d_Rd_readCall_156 ?_
                refine xputI d_Rd_readCall_157 gc_Rd f_Rd_71.1 f_Rd_71.2.1 f_Rd_71.2.2.1 (gl_1 hX 14) (gl_2 hX (a := 14) (by decide)) (gl_s hX 14 rfl) f_Rd_71.2.2.2.1 f_Rd_71.2.2.2.2.1 f_Rd_71.2.2.2.2.2 rfl ?_
                refine wp_goto (tgt := 70) d_Rd_readCall_160 (by decide) ?_
                exact wp_md (wpt T (And.intro rfl (And.intro rfl (And.intro rfl (And.intro rfl (And.intro rfl (And.intro rfl (And.intro (gI_w _) (And.intro rfl True.intro)))))))))
              · have T := T.2 h27
                refine wp_iconst d_Rd_readCall_151 ?_
                refine wp_goto (tgt := 156) d_Rd_readCall_152 (by decide) ?_
                refine wp_iadd d_Rd_readCall_156 ?_
                refine xputI d_Rd_readCall_157 gc_Rd f_Rd_71.1 f_Rd_71.2.1 f_Rd_71.2.2.1 (gl_1 hX 14) (gl_2 hX (a := 14) (by decide)) (gl_s hX 14 rfl) f_Rd_71.2.2.2.1 f_Rd_71.2.2.2.2.1 f_Rd_71.2.2.2.2.2 rfl ?_
                refine wp_goto (tgt := 70) d_Rd_readCall_160 (by decide) ?_
                exact wp_md (wpt T (And.intro rfl (And.intro rfl (And.intro rfl (And.intro rfl (And.intro rfl (And.intro rfl (And.intro (gI_w _) (And.intro rfl True.intro)))))))))
set_option maxHeartbeats 4000000 in
theorem w_Rd_readCall_163 {l : Launch} {G : gG} {d : Nat} {X : gX} {M : gM} {k : gM → Prop} {c : Nat} (hX : glX X c) {Q : gQ} (hO : gOld G Q) {x1 : Int} (hx1 : g32 x1) {x2 : Int} (hx2 : g32 x2) {x3 : Int} (hx3 : g32 x3) {tk4 : Nat} (htk4 : tk4 < 66) {x5 : Int} (hx5 : g32 x5) {x6 : Int} (hx6 : g32 x6)  (T : cV l G y_Rd_expect (gRm (d + 4)) true [gR G (c + 14), gI 14] X M (fun M34 => ((0 ≤ M34 (c + 14) 5 ∧ M34 (c + 14) 5 ≤ 1) → ((M34 (c + 14) 5 = 0 → ((0 ≤ x1 → ((x5 = 0 → (cV l G y_Rd_replaceCode (gRm (d + 4)) true [gR G (c + 14), gI x3, gI 4] X M34 (fun M36 => (k M36)))) ∧ (¬ x5 = 0 → ((x6 = (gSl tk4 : Int) → (((0 : Int) ≤ x1 ∧ x1 < 52) ∧ ((¬ gWgr (Int.toNat x1) = 5 → (cV l G y_Cn_emit (gRm (d + 4)) true [gR G (c + 2), gI 11, gL x1] X M34 (fun M38 => (k M38)))) ∧ (gWgr (Int.toNat x1) = 5 → (cV l G y_Rd_closePicks (gRm (d + 4)) true [gR G (c + 14), gI x6, gI (x2 + 1)] X M34 (fun M39 => (k M39))))))) ∧ (¬ x6 = (gSl tk4 : Int) → (cV l G y_Rd_replaceCode (gRm (d + 4)) true [gR G (c + 14), gI x3, gI 4] X M34 (fun M41 => (k M41)))))))) ∧ (¬ 0 ≤ x1 → (cV l G y_Rd_replaceCode (gRm (d + 4)) true [gR G (c + 14), gI x3, gI 3] X M34 (fun M44 => (k M44)))))) ∧ (¬ M34 (c + 14) 5 = 0 → (k M34)))))) : wp l G y_Rd_readCall (gRm (d + 5)) true (kkV X k) true 163 [.val (gR G (c + 14)), .val (gI x1), .val (gI x2), .val (gI x3), .val (.ref (Q.2.1 tk4)), .val (gI x5), .val (gI x6), .unset] [] X M 0 0 := by
  refine wp_aload_n d_Rd_readCall_163 rfl rfl (g_nz (gl_1 hX 14)) ?_
  refine wp_bipush d_Rd_readCall_164 ⟨by decide, by decide⟩ ?_
  refine xcV_V (md' := true) (As := [gI 14]) (st := []) d_Rd_readCall_166 ca_Rd_expect ml_Rd_87 im_Rd_expect se_Rd_expect gc_Rd (gl_1 hX 14) (gl_2 hX (a := 14) (by decide)) (gl_s hX 14 rfl) rfl (by decide) (by decide) rfl (fun _ => rfl) (fun _ => rfl) T (fun M34 T => ?_)
  refine wp_aload_n d_Rd_readCall_169 rfl rfl (g_nz (gl_1 hX 14)) ?_
  refine xgetZ d_Rd_readCall_170 gc_Rd f_Rd_79.1 f_Rd_79.2.1 f_Rd_79.2.2.1 (gl_1 hX 14) (gl_2 hX (a := 14) (by decide)) (gl_s hX 14 rfl) f_Rd_79.2.2.2.2.1 (fun h35 => ?_)
  have T := T h35
  refine xz_eq (tgt := 177) d_Rd_readCall_173 (by decide) (w32_id (g32_z h35)) (fun h46 => ?_) (fun h46 => ?_)
  · have T := T.1 h46
    refine wp_iload_n d_Rd_readCall_177 rfl rfl ?_
    refine xz_ge (tgt := 190) d_Rd_readCall_178 (by decide) (w32_id hx1) (fun h45 => ?_) (fun h45 => ?_)
    · have T := T.1 h45
      refine wp_iload d_Rd_readCall_190 rfl ?_
      refine xz_eq (tgt := 205) d_Rd_readCall_192 (by decide) (w32_id hx5) (fun h43 => ?_) (fun h43 => ?_)
      · have T := T.1 h43
        refine wp_aload_n d_Rd_readCall_205 rfl rfl (g_nz (gl_1 hX 14)) ?_
        refine wp_iload_n d_Rd_readCall_206 rfl rfl ?_
        refine wp_iconst d_Rd_readCall_207 ?_
        refine xcV_V (md' := true) (As := [gI x3, gI 4]) (st := []) d_Rd_readCall_208 ca_Rd_replaceCode ml_Rd_156 im_Rd_replaceCode se_Rd_replaceCode gc_Rd (gl_1 hX 14) (gl_2 hX (a := 14) (by decide)) (gl_s hX 14 rfl) rfl (by decide) (by decide) rfl (fun _ => rfl) (fun _ => rfl) T (fun M36 T => ?_)
        refine wp_goto (tgt := 249) d_Rd_readCall_211 (by decide) ?_
        exact wp_return d_Rd_readCall_249 rfl (fun _ => rfl) (Nat.zero_le _) (Nat.zero_le _) (kV_mk T)
      · have T := T.2 h43
        refine wp_iload d_Rd_readCall_195 rfl ?_
        refine wp_aloadO d_Rd_readCall_197 rfl ?_
        refine xo_len hO htk4 d_Rd_readCall_199 ml_Rd_159 (by simp only [List.map, gR_cat, gI_cat, gL_cat, g_rcat, List.sum_cons, List.sum_nil]; decide) ?_
        refine xi_eq (tgt := 214) d_Rd_readCall_202 (by decide) (w32_id hx6) (w32_id (g32_h4 (gSl_ok htk4))) (fun h42 => ?_) (fun h42 => ?_)
        · have T := T.1 h42
          refine wp_getsN d_Rd_readCall_214 fs_Rd_142 (fun U hU => (hO U hU).2.2.1.1) ?_
          refine wp_iload_n d_Rd_readCall_217 rfl rfl ?_
          have q37 := T.1
          have T := T.2
          refine xo_aald hO d_Rd_readCall_218 (w32_id hx1) q37 ?_
          refine wp_oget d_Rd_readCall_219 fo_Rd_164 (fun U hU => ((hO U hU).1 _ (g52 q37)).2.2.2.2.2) ?_
          refine wp_iconst d_Rd_readCall_222 ?_
          refine xi_ne (tgt := 238) d_Rd_readCall_223 (by decide) (w32_id (gG32 (g52 q37))) (w32_id (g32_c (x := 5) rfl)) (fun h40 => ?_) (fun h40 => ?_)
          · have T := T.1 h40
            refine wp_aload_n d_Rd_readCall_238 rfl rfl (g_nz (gl_1 hX 14)) ?_
            refine xgetR d_Rd_readCall_239 gc_Rd f_Rd_19.1 f_Rd_19.2.1 f_Rd_19.2.2.1 (gl_1 hX 14) (gl_2 hX (a := 14) (by decide)) (gl_s hX 14 rfl) f_Rd_19.2.2.2.2.1 (gl_f hX 16 rfl) ?_
            refine wp_bipush d_Rd_readCall_242 ⟨by decide, by decide⟩ ?_
            refine wp_iload_n d_Rd_readCall_244 rfl rfl ?_
            refine xi2l d_Rd_readCall_245 (w32_id hx1) ?_
            refine xcV_V (md' := true) (As := [gI 11, gL x1]) (st := []) d_Rd_readCall_246 ca_Cn_emit ml_Rd_59 im_Cn_emit se_Cn_emit gc_Cn (gl_1 hX 2) (gl_2 hX (a := 2) (by decide)) (gl_s hX 2 rfl) rfl (by decide) (by decide) rfl (fun _ => rfl) (fun _ => rfl) T (fun M38 T => ?_)
            exact wp_return d_Rd_readCall_249 rfl (fun _ => rfl) (Nat.zero_le _) (Nat.zero_le _) (kV_mk T)
          · have T := T.2 h40
            refine wp_aload_n d_Rd_readCall_226 rfl rfl (g_nz (gl_1 hX 14)) ?_
            refine wp_iload d_Rd_readCall_227 rfl ?_
            refine wp_iload_n d_Rd_readCall_229 rfl rfl ?_
            refine wp_iconst d_Rd_readCall_230 ?_
            refine wp_iadd d_Rd_readCall_231 ?_
            refine xcV_V (md' := true) (As := [gI x6, gI (x2 + 1)]) (st := []) d_Rd_readCall_232 ca_Rd_closePicks ml_Rd_167 im_Rd_closePicks se_Rd_closePicks gc_Rd (gl_1 hX 14) (gl_2 hX (a := 14) (by decide)) (gl_s hX 14 rfl) rfl (by decide) (by decide) rfl (fun _ => rfl) (fun _ => rfl) T (fun M39 T => ?_)
            refine wp_goto (tgt := 249) d_Rd_readCall_235 (by decide) ?_
            exact wp_return d_Rd_readCall_249 rfl (fun _ => rfl) (Nat.zero_le _) (Nat.zero_le _) (kV_mk T)
        · have T := T.2 h42
          refine wp_aload_n d_Rd_readCall_205 rfl rfl (g_nz (gl_1 hX 14)) ?_
          refine wp_iload_n d_Rd_readCall_206 rfl rfl ?_
          refine wp_iconst d_Rd_readCall_207 ?_
          refine xcV_V (md' := true) (As := [gI x3, gI 4]) (st := []) d_Rd_readCall_208 ca_Rd_replaceCode ml_Rd_156 im_Rd_replaceCode se_Rd_replaceCode gc_Rd (gl_1 hX 14) (gl_2 hX (a := 14) (by decide)) (gl_s hX 14 rfl) rfl (by decide) (by decide) rfl (fun _ => rfl) (fun _ => rfl) T (fun M41 T => ?_)
          refine wp_goto (tgt := 249) d_Rd_readCall_211 (by decide) ?_
          exact wp_return d_Rd_readCall_249 rfl (fun _ => rfl) (Nat.zero_le _) (Nat.zero_le _) (kV_mk T)
    · have T := T.2 h45
      refine wp_aload_n d_Rd_readCall_181 rfl rfl (g_nz (gl_1 hX 14)) ?_
      refine wp_iload_n d_Rd_readCall_182 rfl rfl ?_
      refine wp_iconst d_Rd_readCall_183 ?_
      refine xcV_V (md' := true) (As := [gI x3, gI 3]) (st := []) d_Rd_readCall_184 ca_Rd_replaceCode ml_Rd_156 im_Rd_replaceCode se_Rd_replaceCode gc_Rd (gl_1 hX 14) (gl_2 hX (a := 14) (by decide)) (gl_s hX 14 rfl) rfl (by decide) (by decide) rfl (fun _ => rfl) (fun _ => rfl) T (fun M44 T => ?_)
      refine wp_goto (tgt := 249) d_Rd_readCall_187 (by decide) ?_
      exact wp_return d_Rd_readCall_249 rfl (fun _ => rfl) (Nat.zero_le _) (Nat.zero_le _) (kV_mk T)
  · have T := T.2 h46
    exact wp_return d_Rd_readCall_176 rfl (fun _ => rfl) (Nat.zero_le _) (Nat.zero_le _) (kV_mk T)
set_option maxHeartbeats 4000000 in
theorem w_Rd_readCall_104 {l : Launch} {G : gG} {d : Nat} {X : gX} {M : gM} {k : gM → Prop} {c : Nat} (hX : glX X c) {Q : gQ} (hO : gOld G Q) {x1 : Int} (hx1 : g32 x1) {x2 : Int} (hx2 : g32 x2) {x3 : Int} (hx3 : g32 x3) {tk4 : Nat} (htk4 : tk4 < 66) {x6 : Int} (hx6 : g32 x6)  (T : (0 ≤ M (c + 14) 5 ∧ M (c + 14) 5 ≤ 1) → ((¬ M (c + 14) 5 = 0 → (g32 (M (c + 14) 4) → (((0 : Int) = 0 → (wp l G y_Rd_readCall (gRm (d + 5)) true (kkV X k) true 70 [.val (gR G (c + 14)), .val (gI x1), .val (gI x2), .val (gI x3), .val (.ref (Q.2.1 tk4)), .val (gI 0), .val (gI (w32 (x6 + 1))), .val (gI 0)] [] X (gUp M (c + 14) 4 (w32 ((M (c + 14) 4) + 0))) 0 0)) ∧ (¬ (0 : Int) = 0 → (wp l G y_Rd_readCall (gRm (d + 5)) true (kkV X k) true 70 [.val (gR G (c + 14)), .val (gI x1), .val (gI x2), .val (gI x3), .val (.ref (Q.2.1 tk4)), .val (gI 0), .val (gI (w32 (x6 + 1))), .val (gI 0)] [] X (gUp M (c + 14) 4 (w32 ((M (c + 14) 4) + 1))) 0 0))))) ∧ (M (c + 14) 5 = 0 → (g32 (M (c + 14) 4) → (((0 : Int) ≤ M (c + 14) 4 ∧ M (c + 14) 4 < 104) ∧ (g32 (M (c + 17) (Int.toNat (M (c + 14) 4))) → ((¬ M (c + 17) (Int.toNat (M (c + 14) 4)) = 15 → (g32 (M (c + 14) 4) → (((0 : Int) = 0 → (wp l G y_Rd_readCall (gRm (d + 5)) true (kkV X k) true 70 [.val (gR G (c + 14)), .val (gI x1), .val (gI x2), .val (gI x3), .val (.ref (Q.2.1 tk4)), .val (gI 0), .val (gI (w32 (x6 + 1))), .val (gI 0)] [] X (gUp M (c + 14) 4 (w32 ((M (c + 14) 4) + 0))) 0 0)) ∧ (¬ (0 : Int) = 0 → (wp l G y_Rd_readCall (gRm (d + 5)) true (kkV X k) true 70 [.val (gR G (c + 14)), .val (gI x1), .val (gI x2), .val (gI x3), .val (.ref (Q.2.1 tk4)), .val (gI 0), .val (gI (w32 (x6 + 1))), .val (gI 0)] [] X (gUp M (c + 14) 4 (w32 ((M (c + 14) 4) + 1))) 0 0))))) ∧ (M (c + 17) (Int.toNat (M (c + 14) 4)) = 15 → (g32 (M (c + 14) 4) → (((1 : Int) = 0 → (wp l G y_Rd_readCall (gRm (d + 5)) true (kkV X k) true 70 [.val (gR G (c + 14)), .val (gI x1), .val (gI x2), .val (gI x3), .val (.ref (Q.2.1 tk4)), .val (gI 0), .val (gI (w32 (x6 + 1))), .val (gI 1)] [] X (gUp M (c + 14) 4 (w32 ((M (c + 14) 4) + 0))) 0 0)) ∧ (¬ (1 : Int) = 0 → (wp l G y_Rd_readCall (gRm (d + 5)) true (kkV X k) true 70 [.val (gR G (c + 14)), .val (gI x1), .val (gI x2), .val (gI x3), .val (.ref (Q.2.1 tk4)), .val (gI 0), .val (gI (w32 (x6 + 1))), .val (gI 1)] [] X (gUp M (c + 14) 4 (w32 ((M (c + 14) 4) + 1))) 0 0)))))))))))) : wp l G y_Rd_readCall (gRm (d + 5)) true (kkV X k) true 104 [.val (gR G (c + 14)), .val (gI x1), .val (gI x2), .val (gI x3), .val (.ref (Q.2.1 tk4)), .unset, .val (gI x6), .unset] [] X M 0 0 := by
  refine wp_iconst d_Rd_readCall_104 ?_
  refine wp_istore (L' := [.val (gR G (c + 14)), .val (gI x1), .val (gI x2), .val (gI x3), .val (.ref (Q.2.1 tk4)), .val (gI 0), .val (gI x6), .unset]) d_Rd_readCall_105 (by decide) rfl ?_
  refine wp_iinc (L' := [.val (gR G (c + 14)), .val (gI x1), .val (gI x2), .val (gI x3), .val (.ref (Q.2.1 tk4)), .val (gI 0), .val (gI (x6 + 1)), .unset]) d_Rd_readCall_107 rfl (by decide) rfl ?_
  refine wp_aload_n d_Rd_readCall_110 rfl rfl (g_nz (gl_1 hX 14)) ?_
  refine xgetZ d_Rd_readCall_111 gc_Rd f_Rd_79.1 f_Rd_79.2.1 f_Rd_79.2.2.1 (gl_1 hX 14) (gl_2 hX (a := 14) (by decide)) (gl_s hX 14 rfl) f_Rd_79.2.2.2.2.1 (fun h47 => ?_)
  have T := T h47
  refine xz_ne (tgt := 138) d_Rd_readCall_114 (by decide) (w32_id (g32_z h47)) (fun h57 => ?_) (fun h57 => ?_)
  · have T := T.1 h57
    refine wp_iconst d_Rd_readCall_138 ?_
    refine wp_istore (L' := [.val (gR G (c + 14)), .val (gI x1), .val (gI x2), .val (gI x3), .val (.ref (Q.2.1 tk4)), .val (gI 0), .val (gI (x6 + 1)), .val (gI 0)]) d_Rd_readCall_139 (by decide) rfl ?_
    refine wp_aload_n d_Rd_readCall_141 rfl rfl (g_nz (gl_1 hX 14)) ?_
    refine wp_dup d_Rd_readCall_142 (gR_cat _) ?_
    refine xgetI d_Rd_readCall_143 gc_Rd f_Rd_71.1 f_Rd_71.2.1 f_Rd_71.2.2.1 (gl_1 hX 14) (gl_2 hX (a := 14) (by decide)) (gl_s hX 14 rfl) f_Rd_71.2.2.2.2.1 (fun h48 => ?_)
    have T := T h48
    refine wp_iload d_Rd_readCall_146 rfl ?_
    refine xz_eq (tgt := 155) d_Rd_readCall_148 (by decide) (w32_id (g32_c (x := 0) rfl)) (fun h49 => ?_) (fun h49 => ?_)
    · have T := T.1 h49
      refine wp_iconst d_Rd_readCall_155 ?_
      refine wp_iadd d_Rd_readCall_156 ?_
      refine xputI d_Rd_readCall_157 gc_Rd f_Rd_71.1 f_Rd_71.2.1 f_Rd_71.2.2.1 (gl_1 hX 14) (gl_2 hX (a := 14) (by decide)) (gl_s hX 14 rfl) f_Rd_71.2.2.2.1 f_Rd_71.2.2.2.2.1 f_Rd_71.2.2.2.2.2 rfl ?_
      refine wp_goto (tgt := 70) d_Rd_readCall_160 (by decide) ?_
      exact wp_md (wpt T (And.intro rfl (And.intro rfl (And.intro rfl (And.intro rfl (And.intro rfl (And.intro rfl (And.intro (gI_w _) (And.intro rfl True.intro)))))))))
    · have T := T.2 h49
      refine wp_iconst d_Rd_readCall_151 ?_
      refine wp_goto (tgt := 156) d_Rd_readCall_152 (by decide) ?_
      refine wp_iadd d_Rd_readCall_156 ?_
      refine xputI d_Rd_readCall_157 gc_Rd f_Rd_71.1 f_Rd_71.2.1 f_Rd_71.2.2.1 (gl_1 hX 14) (gl_2 hX (a := 14) (by decide)) (gl_s hX 14 rfl) f_Rd_71.2.2.2.1 f_Rd_71.2.2.2.2.1 f_Rd_71.2.2.2.2.2 rfl ?_
      refine wp_goto (tgt := 70) d_Rd_readCall_160 (by decide) ?_
      exact wp_md (wpt T (And.intro rfl (And.intro rfl (And.intro rfl (And.intro rfl (And.intro rfl (And.intro rfl (And.intro (gI_w _) (And.intro rfl True.intro)))))))))
  · have T := T.2 h57
    refine wp_aload_n d_Rd_readCall_117 rfl rfl (g_nz (gl_1 hX 14)) ?_
    refine xgetR d_Rd_readCall_118 gc_Rd f_Rd_28.1 f_Rd_28.2.1 f_Rd_28.2.2.1 (gl_1 hX 14) (gl_2 hX (a := 14) (by decide)) (gl_s hX 14 rfl) f_Rd_28.2.2.2.2.1 (gl_f hX 17 rfl) ?_
    refine xgetR d_Rd_readCall_121 gc_Tk f_Rd_93.1 f_Rd_93.2.1 f_Rd_93.2.2.1 (gl_1 hX 16) (gl_2 hX (a := 16) (by decide)) (gl_s hX 16 rfl) f_Rd_93.2.2.2.2.1 (gl_f hX 18 rfl) ?_
    refine wp_aload_n d_Rd_readCall_124 rfl rfl (g_nz (gl_1 hX 14)) ?_
    refine xgetI d_Rd_readCall_125 gc_Rd f_Rd_71.1 f_Rd_71.2.1 f_Rd_71.2.2.1 (gl_1 hX 14) (gl_2 hX (a := 14) (by decide)) (gl_s hX 14 rfl) f_Rd_71.2.2.2.2.1 (fun h50 => ?_)
    have T := T h50
    refine wp_iaload d_Rd_readCall_128 (gl_1 hX 17) (gl_2 hX (a := 17) (by decide)) (gl_s hX 17 rfl) (g32_n T.1 (by decide)) T.1.1 T.1.2 (fun h51 => ?_)
    have T := T.2 h51
    refine wp_bipush d_Rd_readCall_129 ⟨by decide, by decide⟩ ?_
    refine xi_ne (tgt := 138) d_Rd_readCall_131 (by decide) (w32_id h51) (w32_id (g32_c (x := 15) rfl)) (fun h56 => ?_) (fun h56 => ?_)
    · have T := T.1 h56
      refine wp_iconst d_Rd_readCall_138 ?_
      refine wp_istore (L' := [.val (gR G (c + 14)), .val (gI x1), .val (gI x2), .val (gI x3), .val (.ref (Q.2.1 tk4)), .val (gI 0), .val (gI (x6 + 1)), .val (gI 0)]) d_Rd_readCall_139 (by decide) rfl ?_
      refine wp_aload_n d_Rd_readCall_141 rfl rfl (g_nz (gl_1 hX 14)) ?_
      refine wp_dup d_Rd_readCall_142 (gR_cat _) ?_
      refine xgetI d_Rd_readCall_143 gc_Rd f_Rd_71.1 f_Rd_71.2.1 f_Rd_71.2.2.1 (gl_1 hX 14) (gl_2 hX (a := 14) (by decide)) (gl_s hX 14 rfl) f_Rd_71.2.2.2.2.1 (fun h52 => ?_)
      have T := T h52
      refine wp_iload d_Rd_readCall_146 rfl ?_
      refine xz_eq (tgt := 155) d_Rd_readCall_148 (by decide) (w32_id (g32_c (x := 0) rfl)) (fun h53 => ?_) (fun h53 => ?_)
      · have T := T.1 h53
        refine wp_iconst d_Rd_readCall_155 ?_
        refine wp_iadd d_Rd_readCall_156 ?_
        refine xputI d_Rd_readCall_157 gc_Rd f_Rd_71.1 f_Rd_71.2.1 f_Rd_71.2.2.1 (gl_1 hX 14) (gl_2 hX (a := 14) (by decide)) (gl_s hX 14 rfl) f_Rd_71.2.2.2.1 f_Rd_71.2.2.2.2.1 f_Rd_71.2.2.2.2.2 rfl ?_
        refine wp_goto (tgt := 70) d_Rd_readCall_160 (by decide) ?_
        exact wp_md (wpt T (And.intro rfl (And.intro rfl (And.intro rfl (And.intro rfl (And.intro rfl (And.intro rfl (And.intro (gI_w _) (And.intro rfl True.intro)))))))))
      · have T := T.2 h53
        refine wp_iconst d_Rd_readCall_151 ?_
        refine wp_goto (tgt := 156) d_Rd_readCall_152 (by decide) ?_
        refine wp_iadd d_Rd_readCall_156 ?_
        refine xputI d_Rd_readCall_157 gc_Rd f_Rd_71.1 f_Rd_71.2.1 f_Rd_71.2.2.1 (gl_1 hX 14) (gl_2 hX (a := 14) (by decide)) (gl_s hX 14 rfl) f_Rd_71.2.2.2.1 f_Rd_71.2.2.2.2.1 f_Rd_71.2.2.2.2.2 rfl ?_
        refine wp_goto (tgt := 70) d_Rd_readCall_160 (by decide) ?_
        exact wp_md (wpt T (And.intro rfl (And.intro rfl (And.intro rfl (And.intro rfl (And.intro rfl (And.intro rfl (And.intro (gI_w _) (And.intro rfl True.intro)))))))))
    · have T := T.2 h56
      refine wp_iconst d_Rd_readCall_134 ?_
      refine wp_goto (tgt := 139) d_Rd_readCall_135 (by decide) ?_
      refine wp_istore (L' := [.val (gR G (c + 14)), .val (gI x1), .val (gI x2), .val (gI x3), .val (.ref (Q.2.1 tk4)), .val (gI 0), .val (gI (x6 + 1)), .val (gI 1)]) d_Rd_readCall_139 (by decide) rfl ?_
      refine wp_aload_n d_Rd_readCall_141 rfl rfl (g_nz (gl_1 hX 14)) ?_
      refine wp_dup d_Rd_readCall_142 (gR_cat _) ?_
      refine xgetI d_Rd_readCall_143 gc_Rd f_Rd_71.1 f_Rd_71.2.1 f_Rd_71.2.2.1 (gl_1 hX 14) (gl_2 hX (a := 14) (by decide)) (gl_s hX 14 rfl) f_Rd_71.2.2.2.2.1 (fun h54 => ?_)
      have T := T h54
      refine wp_iload d_Rd_readCall_146 rfl ?_
      refine xz_eq (tgt := 155) d_Rd_readCall_148 (by decide) (w32_id (g32_c (x := 1) rfl)) (fun h55 => ?_) (fun h55 => ?_)
      · have T := T.1 h55
        refine wp_iconst d_Rd_readCall_155 ?_
        refine wp_iadd d_Rd_readCall_156 ?_
        refine xputI d_Rd_readCall_157 gc_Rd f_Rd_71.1 f_Rd_71.2.1 f_Rd_71.2.2.1 (gl_1 hX 14) (gl_2 hX (a := 14) (by decide)) (gl_s hX 14 rfl) f_Rd_71.2.2.2.1 f_Rd_71.2.2.2.2.1 f_Rd_71.2.2.2.2.2 rfl ?_
        refine wp_goto (tgt := 70) d_Rd_readCall_160 (by decide) ?_
        exact wp_md (wpt T (And.intro rfl (And.intro rfl (And.intro rfl (And.intro rfl (And.intro rfl (And.intro rfl (And.intro (gI_w _) (And.intro rfl True.intro)))))))))
      · have T := T.2 h55
        refine wp_iconst d_Rd_readCall_151 ?_
        refine wp_goto (tgt := 156) d_Rd_readCall_152 (by decide) ?_
        refine wp_iadd d_Rd_readCall_156 ?_
        refine xputI d_Rd_readCall_157 gc_Rd f_Rd_71.1 f_Rd_71.2.1 f_Rd_71.2.2.1 (gl_1 hX 14) (gl_2 hX (a := 14) (by decide)) (gl_s hX 14 rfl) f_Rd_71.2.2.2.1 f_Rd_71.2.2.2.2.1 f_Rd_71.2.2.2.2.2 rfl ?_
        refine wp_goto (tgt := 70) d_Rd_readCall_160 (by decide) ?_
        exact wp_md (wpt T (And.intro rfl (And.intro rfl (And.intro rfl (And.intro rfl (And.intro rfl (And.intro rfl (And.intro (gI_w _) (And.intro rfl True.intro)))))))))
theorem e_Rd_readCall {l : Launch} {G : gG} {d : Nat} {X : gX} {M : gM} {k : gM → Prop} {Q : gQ} {c : Nat} {x1 : Int} {x2 : Int} (T : wp l G y_Rd_readCall (gRm (d + 5)) true (kkV X k) false 0 [.val (gR G (c + 14)), .val (gI x1), .val (gI x2), .unset, .unset, .unset, .unset, .unset] [] X M 0 0) : cV l G y_Rd_readCall (gRm (d + 5)) true [gR G (c + 14), gI x1, gI x2] X M k := cen_V (plainFor_of_name rfl) (by simp only [lg_sl_R, lg_sl_I, lg_sl_L, lg_sl_N, List.length_cons, List.length_nil]; decide) (by unfold gEn; simp only [lg_sl_R, lg_sl_I, lg_sl_L, lg_sl_N]; exact wpt T (And.intro rfl (And.intro rfl (And.intro rfl True.intro))))
theorem d_Rd_readArgument_0 : decode prog_8_method_12_code 0 = .ok (.iload_n 3, 1) := by decide +kernel
theorem d_Rd_readArgument_1 : decode prog_8_method_12_code 1 = .ok (.bipush 20, 2) := by decide +kernel
theorem d_Rd_readArgument_3 : decode prog_8_method_12_code 3 = .ok (.if_icmp .le 10, 3) := by decide +kernel
theorem d_Rd_readArgument_13 : decode prog_8_method_12_code 13 = .ok (.iload_n 1, 1) := by decide +kernel
theorem d_Rd_readArgument_14 : decode prog_8_method_12_code 14 = .ok (.ifCond .ge 8, 3) := by decide +kernel
theorem d_Rd_readArgument_22 : decode prog_8_method_12_code 22 = .ok (.getstatic 142, 3) := by decide +kernel
theorem d_Rd_readArgument_25 : decode prog_8_method_12_code 25 = .ok (.iload_n 1, 1) := by decide +kernel
theorem d_Rd_readArgument_26 : decode prog_8_method_12_code 26 = .ok (.aaload, 1) := by decide +kernel
theorem d_Rd_readArgument_27 : decode prog_8_method_12_code 27 = .ok (.getfield 146, 3) := by decide +kernel
theorem d_Rd_readArgument_17 : decode prog_8_method_12_code 17 = .ok (.ldc 140, 2) := by decide +kernel
theorem d_Rd_readArgument_19 : decode prog_8_method_12_code 19 = .ok (.goto 11, 3) := by decide +kernel
theorem d_Rd_readArgument_6 : decode prog_8_method_12_code 6 = .ok (.aload_n 0, 1) := by decide +kernel
theorem d_Rd_readArgument_7 : decode prog_8_method_12_code 7 = .ok (.iconst 1, 1) := by decide +kernel
theorem d_Rd_readArgument_8 : decode prog_8_method_12_code 8 = .ok (.putfield 79, 3) := by decide +kernel
theorem d_Rd_readArgument_11 : decode prog_8_method_12_code 11 = .ok (.iconst 0, 1) := by decide +kernel
theorem d_Rd_readArgument_12 : decode prog_8_method_12_code 12 = .ok (.ireturn, 1) := by decide +kernel
theorem d_Rd_readArgument_30 : decode prog_8_method_12_code 30 = .ok (.astore 4, 2) := by decide +kernel
theorem d_Rd_readArgument_32 : decode prog_8_method_12_code 32 = .ok (.iload_n 2, 1) := by decide +kernel
theorem d_Rd_readArgument_33 : decode prog_8_method_12_code 33 = .ok (.aload 4, 2) := by decide +kernel
theorem d_Rd_readArgument_35 : decode prog_8_method_12_code 35 = .ok (.invokevirtual 159, 3) := by decide +kernel
theorem d_Rd_readArgument_38 : decode prog_8_method_12_code 38 = .ok (.if_icmp .ge 7, 3) := by decide +kernel
theorem d_Rd_readArgument_45 : decode prog_8_method_12_code 45 = .ok (.iconst 0, 1) := by decide +kernel
theorem d_Rd_readArgument_46 : decode prog_8_method_12_code 46 = .ok (.istore 5, 2) := by decide +kernel
theorem d_Rd_readArgument_48 : decode prog_8_method_12_code 48 = .ok (.iload 5, 2) := by decide +kernel
theorem d_Rd_readArgument_50 : decode prog_8_method_12_code 50 = .ok (.ifCond .eq 18, 3) := by decide +kernel
theorem d_Rd_readArgument_53 : decode prog_8_method_12_code 53 = .ok (.aload 4, 2) := by decide +kernel
theorem d_Rd_readArgument_55 : decode prog_8_method_12_code 55 = .ok (.iload_n 2, 1) := by decide +kernel
theorem d_Rd_readArgument_56 : decode prog_8_method_12_code 56 = .ok (.invokevirtual 170, 3) := by decide +kernel
theorem d_Rd_readArgument_59 : decode prog_8_method_12_code 59 = .ok (.bipush 114, 2) := by decide +kernel
theorem d_Rd_readArgument_61 : decode prog_8_method_12_code 61 = .ok (.if_icmp .ne 7, 3) := by decide +kernel
theorem d_Rd_readArgument_64 : decode prog_8_method_12_code 64 = .ok (.iconst 1, 1) := by decide +kernel
theorem d_Rd_readArgument_65 : decode prog_8_method_12_code 65 = .ok (.goto 4, 3) := by decide +kernel
theorem d_Rd_readArgument_69 : decode prog_8_method_12_code 69 = .ok (.istore 6, 2) := by decide +kernel
theorem d_Rd_readArgument_71 : decode prog_8_method_12_code 71 = .ok (.aload_n 0, 1) := by decide +kernel
theorem d_Rd_readArgument_72 : decode prog_8_method_12_code 72 = .ok (.getfield 28, 3) := by decide +kernel
theorem d_Rd_readArgument_75 : decode prog_8_method_12_code 75 = .ok (.getfield 93, 3) := by decide +kernel
theorem d_Rd_readArgument_78 : decode prog_8_method_12_code 78 = .ok (.aload_n 0, 1) := by decide +kernel
theorem d_Rd_readArgument_79 : decode prog_8_method_12_code 79 = .ok (.getfield 71, 3) := by decide +kernel
theorem d_Rd_readArgument_82 : decode prog_8_method_12_code 82 = .ok (.iaload, 1) := by decide +kernel
theorem d_Rd_readArgument_83 : decode prog_8_method_12_code 83 = .ok (.bipush 19, 2) := by decide +kernel
theorem d_Rd_readArgument_85 : decode prog_8_method_12_code 85 = .ok (.if_icmp .ne 48, 3) := by decide +kernel
theorem d_Rd_readArgument_88 : decode prog_8_method_12_code 88 = .ok (.aload_n 0, 1) := by decide +kernel
theorem d_Rd_readArgument_89 : decode prog_8_method_12_code 89 = .ok (.getfield 28, 3) := by decide +kernel
theorem d_Rd_readArgument_92 : decode prog_8_method_12_code 92 = .ok (.getfield 93, 3) := by decide +kernel
theorem d_Rd_readArgument_95 : decode prog_8_method_12_code 95 = .ok (.aload_n 0, 1) := by decide +kernel
theorem d_Rd_readArgument_96 : decode prog_8_method_12_code 96 = .ok (.getfield 71, 3) := by decide +kernel
theorem d_Rd_readArgument_99 : decode prog_8_method_12_code 99 = .ok (.iconst 1, 1) := by decide +kernel
theorem d_Rd_readArgument_100 : decode prog_8_method_12_code 100 = .ok (.iadd, 1) := by decide +kernel
theorem d_Rd_readArgument_101 : decode prog_8_method_12_code 101 = .ok (.iaload, 1) := by decide +kernel
theorem d_Rd_readArgument_102 : decode prog_8_method_12_code 102 = .ok (.bipush 16, 2) := by decide +kernel
theorem d_Rd_readArgument_104 : decode prog_8_method_12_code 104 = .ok (.if_icmp .ne 29, 3) := by decide +kernel
theorem d_Rd_readArgument_107 : decode prog_8_method_12_code 107 = .ok (.aload_n 0, 1) := by decide +kernel
theorem d_Rd_readArgument_108 : decode prog_8_method_12_code 108 = .ok (.getfield 28, 3) := by decide +kernel
theorem d_Rd_readArgument_111 : decode prog_8_method_12_code 111 = .ok (.getfield 93, 3) := by decide +kernel
theorem d_Rd_readArgument_114 : decode prog_8_method_12_code 114 = .ok (.aload_n 0, 1) := by decide +kernel
theorem d_Rd_readArgument_115 : decode prog_8_method_12_code 115 = .ok (.getfield 71, 3) := by decide +kernel
theorem d_Rd_readArgument_118 : decode prog_8_method_12_code 118 = .ok (.iconst 2, 1) := by decide +kernel
theorem d_Rd_readArgument_119 : decode prog_8_method_12_code 119 = .ok (.iadd, 1) := by decide +kernel
theorem d_Rd_readArgument_120 : decode prog_8_method_12_code 120 = .ok (.iaload, 1) := by decide +kernel
theorem d_Rd_readArgument_121 : decode prog_8_method_12_code 121 = .ok (.bipush 19, 2) := by decide +kernel
theorem d_Rd_readArgument_123 : decode prog_8_method_12_code 123 = .ok (.if_icmp .ne 10, 3) := by decide +kernel
theorem d_Rd_readArgument_126 : decode prog_8_method_12_code 126 = .ok (.aload_n 0, 1) := by decide +kernel
theorem d_Rd_readArgument_127 : decode prog_8_method_12_code 127 = .ok (.invokevirtual 174, 3) := by decide +kernel
theorem d_Rd_readArgument_130 : decode prog_8_method_12_code 130 = .ok (.iload 6, 2) := by decide +kernel
theorem d_Rd_readArgument_132 : decode prog_8_method_12_code 132 = .ok (.ireturn, 1) := by decide +kernel
theorem d_Rd_readArgument_41 : decode prog_8_method_12_code 41 = .ok (.iconst 1, 1) := by decide +kernel
theorem d_Rd_readArgument_42 : decode prog_8_method_12_code 42 = .ok (.goto 4, 3) := by decide +kernel
theorem d_Rd_readArgument_68 : decode prog_8_method_12_code 68 = .ok (.iconst 0, 1) := by decide +kernel
theorem d_Rd_readArgument_133 : decode prog_8_method_12_code 133 = .ok (.iload 6, 2) := by decide +kernel
theorem d_Rd_readArgument_135 : decode prog_8_method_12_code 135 = .ok (.ifCond .eq 63, 3) := by decide +kernel
theorem d_Rd_readArgument_138 : decode prog_8_method_12_code 138 = .ok (.aload_n 0, 1) := by decide +kernel
theorem d_Rd_readArgument_139 : decode prog_8_method_12_code 139 = .ok (.getfield 28, 3) := by decide +kernel
theorem d_Rd_readArgument_142 : decode prog_8_method_12_code 142 = .ok (.getfield 93, 3) := by decide +kernel
theorem d_Rd_readArgument_145 : decode prog_8_method_12_code 145 = .ok (.aload_n 0, 1) := by decide +kernel
theorem d_Rd_readArgument_146 : decode prog_8_method_12_code 146 = .ok (.getfield 71, 3) := by decide +kernel
theorem d_Rd_readArgument_149 : decode prog_8_method_12_code 149 = .ok (.iaload, 1) := by decide +kernel
theorem d_Rd_readArgument_150 : decode prog_8_method_12_code 150 = .ok (.bipush 19, 2) := by decide +kernel
theorem d_Rd_readArgument_152 : decode prog_8_method_12_code 152 = .ok (.if_icmp .ne 46, 3) := by decide +kernel
theorem d_Rd_readArgument_155 : decode prog_8_method_12_code 155 = .ok (.aload_n 0, 1) := by decide +kernel
theorem d_Rd_readArgument_156 : decode prog_8_method_12_code 156 = .ok (.aload_n 0, 1) := by decide +kernel
theorem d_Rd_readArgument_157 : decode prog_8_method_12_code 157 = .ok (.getfield 71, 3) := by decide +kernel
theorem d_Rd_readArgument_160 : decode prog_8_method_12_code 160 = .ok (.iconst 1, 1) := by decide +kernel
theorem d_Rd_readArgument_161 : decode prog_8_method_12_code 161 = .ok (.iadd, 1) := by decide +kernel
theorem d_Rd_readArgument_162 : decode prog_8_method_12_code 162 = .ok (.invokevirtual 177, 3) := by decide +kernel
theorem d_Rd_readArgument_165 : decode prog_8_method_12_code 165 = .ok (.ifCond .eq 33, 3) := by decide +kernel
theorem d_Rd_readArgument_168 : decode prog_8_method_12_code 168 = .ok (.aload_n 0, 1) := by decide +kernel
theorem d_Rd_readArgument_169 : decode prog_8_method_12_code 169 = .ok (.getfield 19, 3) := by decide +kernel
theorem d_Rd_readArgument_172 : decode prog_8_method_12_code 172 = .ok (.iconst 5, 1) := by decide +kernel
theorem d_Rd_readArgument_173 : decode prog_8_method_12_code 173 = .ok (.aload_n 0, 1) := by decide +kernel
theorem d_Rd_readArgument_174 : decode prog_8_method_12_code 174 = .ok (.aload_n 0, 1) := by decide +kernel
theorem d_Rd_readArgument_175 : decode prog_8_method_12_code 175 = .ok (.getfield 71, 3) := by decide +kernel
theorem d_Rd_readArgument_178 : decode prog_8_method_12_code 178 = .ok (.iconst 0, 1) := by decide +kernel
theorem d_Rd_readArgument_179 : decode prog_8_method_12_code 179 = .ok (.invokevirtual 119, 3) := by decide +kernel
theorem d_Rd_readArgument_182 : decode prog_8_method_12_code 182 = .ok (.i2l, 1) := by decide +kernel
theorem d_Rd_readArgument_183 : decode prog_8_method_12_code 183 = .ok (.invokevirtual 59, 3) := by decide +kernel
theorem d_Rd_readArgument_186 : decode prog_8_method_12_code 186 = .ok (.aload_n 0, 1) := by decide +kernel
theorem d_Rd_readArgument_187 : decode prog_8_method_12_code 187 = .ok (.dup, 1) := by decide +kernel
theorem d_Rd_readArgument_188 : decode prog_8_method_12_code 188 = .ok (.getfield 71, 3) := by decide +kernel
theorem d_Rd_readArgument_191 : decode prog_8_method_12_code 191 = .ok (.iconst 1, 1) := by decide +kernel
theorem d_Rd_readArgument_192 : decode prog_8_method_12_code 192 = .ok (.iadd, 1) := by decide +kernel
theorem d_Rd_readArgument_193 : decode prog_8_method_12_code 193 = .ok (.putfield 71, 3) := by decide +kernel
theorem d_Rd_readArgument_196 : decode prog_8_method_12_code 196 = .ok (.iconst 1, 1) := by decide +kernel
theorem d_Rd_readArgument_197 : decode prog_8_method_12_code 197 = .ok (.ireturn, 1) := by decide +kernel
theorem d_Rd_readArgument_198 : decode prog_8_method_12_code 198 = .ok (.iload 5, 2) := by decide +kernel
theorem d_Rd_readArgument_200 : decode prog_8_method_12_code 200 = .ok (.ifCond .eq 26, 3) := by decide +kernel
theorem d_Rd_readArgument_203 : decode prog_8_method_12_code 203 = .ok (.iload_n 2, 1) := by decide +kernel
theorem d_Rd_readArgument_204 : decode prog_8_method_12_code 204 = .ok (.ifCond .le 22, 3) := by decide +kernel
theorem d_Rd_readArgument_207 : decode prog_8_method_12_code 207 = .ok (.getstatic 142, 3) := by decide +kernel
theorem d_Rd_readArgument_210 : decode prog_8_method_12_code 210 = .ok (.iload_n 1, 1) := by decide +kernel
theorem d_Rd_readArgument_211 : decode prog_8_method_12_code 211 = .ok (.aaload, 1) := by decide +kernel
theorem d_Rd_readArgument_212 : decode prog_8_method_12_code 212 = .ok (.getfield 164, 3) := by decide +kernel
theorem d_Rd_readArgument_215 : decode prog_8_method_12_code 215 = .ok (.iconst 5, 1) := by decide +kernel
theorem d_Rd_readArgument_216 : decode prog_8_method_12_code 216 = .ok (.if_icmp .ne 10, 3) := by decide +kernel
theorem d_Rd_readArgument_219 : decode prog_8_method_12_code 219 = .ok (.aload_n 0, 1) := by decide +kernel
theorem d_Rd_readArgument_220 : decode prog_8_method_12_code 220 = .ok (.iload_n 1, 1) := by decide +kernel
theorem d_Rd_readArgument_221 : decode prog_8_method_12_code 221 = .ok (.iload_n 2, 1) := by decide +kernel
theorem d_Rd_readArgument_222 : decode prog_8_method_12_code 222 = .ok (.iload_n 3, 1) := by decide +kernel
theorem d_Rd_readArgument_223 : decode prog_8_method_12_code 223 = .ok (.invokevirtual 180, 3) := by decide +kernel
theorem d_Rd_readArgument_226 : decode prog_8_method_12_code 226 = .ok (.aload_n 0, 1) := by decide +kernel
theorem d_Rd_readArgument_227 : decode prog_8_method_12_code 227 = .ok (.iconst 1, 1) := by decide +kernel
theorem d_Rd_readArgument_228 : decode prog_8_method_12_code 228 = .ok (.iload_n 3, 1) := by decide +kernel
theorem d_Rd_readArgument_229 : decode prog_8_method_12_code 229 = .ok (.invokevirtual 83, 3) := by decide +kernel
theorem d_Rd_readArgument_232 : decode prog_8_method_12_code 232 = .ok (.iload 6, 2) := by decide +kernel
theorem d_Rd_readArgument_234 : decode prog_8_method_12_code 234 = .ok (.ifCond .ne 7, 3) := by decide +kernel
theorem d_Rd_readArgument_241 : decode prog_8_method_12_code 241 = .ok (.iconst 0, 1) := by decide +kernel
theorem d_Rd_readArgument_242 : decode prog_8_method_12_code 242 = .ok (.ireturn, 1) := by decide +kernel
theorem d_Rd_readArgument_237 : decode prog_8_method_12_code 237 = .ok (.iconst 1, 1) := by decide +kernel
theorem d_Rd_readArgument_238 : decode prog_8_method_12_code 238 = .ok (.goto 4, 3) := by decide +kernel
set_option maxHeartbeats 4000000 in
theorem w_Rd_readArgument_0 {l : Launch} {G : gG} {d : Nat} {X : gX} {M : gM} {k : Int → gM → Prop} {c : Nat} (hX : glX X c) {Q : gQ} (hO : gOld G Q) {x1 : Int} (hx1 : g32 x1) {x2 : Int} (hx2 : g32 x2) {x3 : Int} (hx3 : g32 x3)  (T : (x3 ≤ 20 → ((0 ≤ x1 → (((0 : Int) ≤ x1 ∧ x1 < 52) ∧ (wp l G y_Rd_readArgument (gRm (d + 5)) true (kkZ X k) true 30 [.val (gR G (c + 14)), .val (gI x1), .val (gI x2), .val (gI x3), .unset, .unset, .unset] [.ref (Q.2.1 (gWta (Int.toNat x1)))] X M 0 0))) ∧ (¬ 0 ≤ x1 → (wp l G y_Rd_readArgument (gRm (d + 5)) true (kkZ X k) true 30 [.val (gR G (c + 14)), .val (gI x1), .val (gI x2), .val (gI x3), .unset, .unset, .unset] [.ref (Q.2.1 2)] X M 0 0)))) ∧ (¬ x3 ≤ 20 → (k 0 (gUp M (c + 14) 5 1)))) : wp l G y_Rd_readArgument (gRm (d + 5)) true (kkZ X k) false 0 [.val (gR G (c + 14)), .val (gI x1), .val (gI x2), .val (gI x3), .unset, .unset, .unset] [] X M 0 0 := by
  refine wp_iload_n d_Rd_readArgument_0 rfl rfl ?_
  refine wp_bipush d_Rd_readArgument_1 ⟨by decide, by decide⟩ ?_
  refine xi_le (tgt := 13) d_Rd_readArgument_3 (by decide) (w32_id hx3) (w32_id (g32_c (x := 20) rfl)) (fun h3 => ?_) (fun h3 => ?_)
  · have T := T.1 h3
    refine wp_iload_n d_Rd_readArgument_13 rfl rfl ?_
    refine xz_ge (tgt := 22) d_Rd_readArgument_14 (by decide) (w32_id hx1) (fun h2 => ?_) (fun h2 => ?_)
    · have T := T.1 h2
      refine wp_getsN d_Rd_readArgument_22 fs_Rd_142 (fun U hU => (hO U hU).2.2.1.1) ?_
      refine wp_iload_n d_Rd_readArgument_25 rfl rfl ?_
      have q1 := T.1
      have T := T.2
      refine xo_aald hO d_Rd_readArgument_26 (w32_id hx1) q1 ?_
      refine wp_oget d_Rd_readArgument_27 fo_Rd_146 (fun U hU => ((hO U hU).1 _ (g52 q1)).2.2.2.2.1) ?_
      exact wp_md (wpt T (And.intro rfl (And.intro rfl (And.intro rfl (And.intro rfl True.intro)))))
    · have T := T.2 h2
      refine wp_ldcS d_Rd_readArgument_17 (fun U hU => ((hO U hU).2.1 2 (by decide)).2.2.2.2 ("GridLedger$Reader", 140, "") rfl) ?_
      refine wp_goto (tgt := 30) d_Rd_readArgument_19 (by decide) ?_
      exact wp_md (wpt T (And.intro rfl (And.intro rfl (And.intro rfl (And.intro rfl True.intro)))))
  · have T := T.2 h3
    refine wp_aload_n d_Rd_readArgument_6 rfl rfl (g_nz (gl_1 hX 14)) ?_
    refine wp_iconst d_Rd_readArgument_7 ?_
    refine xputZ d_Rd_readArgument_8 gc_Rd f_Rd_79.1 f_Rd_79.2.1 f_Rd_79.2.2.1 (gl_1 hX 14) (gl_2 hX (a := 14) (by decide)) (gl_s hX 14 rfl) f_Rd_79.2.2.2.1 f_Rd_79.2.2.2.2.1 f_Rd_79.2.2.2.2.2 (⟨by decide, by decide⟩ : (0 : Int) ≤ 1 ∧ (1 : Int) ≤ 1) ?_
    refine wp_iconst d_Rd_readArgument_11 ?_
    exact wp_zreturn d_Rd_readArgument_12 rfl (g_narz (⟨by decide, by decide⟩ : (0 : Int) ≤ 0 ∧ (0 : Int) ≤ 1)) (fun _ => rfl) (Nat.zero_le _) (Nat.zero_le _) (kZ_mk (⟨by decide, by decide⟩ : (0 : Int) ≤ 0 ∧ (0 : Int) ≤ 1) T)
set_option maxHeartbeats 4000000 in
theorem w_Rd_readArgument_30 {l : Launch} {G : gG} {d : Nat} {X : gX} {M : gM} {k : Int → gM → Prop} {c : Nat} (hX : glX X c) {Q : gQ} (hO : gOld G Q) {x1 : Int} (hx1 : g32 x1) {x2 : Int} (hx2 : g32 x2) {x3 : Int} (hx3 : g32 x3) {ts0 : Nat} (hts0 : ts0 < 66)  (T : ((gSl ts0 : Int) ≤ x2 → (((0 : Int) = 0 → (wp l G y_Rd_readArgument (gRm (d + 5)) true (kkZ X k) true 68 [.val (gR G (c + 14)), .val (gI x1), .val (gI x2), .val (gI x3), .unset, .val (gI 0), .unset] [] X M 0 0)) ∧ (¬ (0 : Int) = 0 → (((0 : Int) ≤ x2 ∧ x2 < (gSl ts0 : Int)) ∧ ((¬ gSc ts0 (Int.toNat x2) = 114 → (wp l G y_Rd_readArgument (gRm (d + 5)) true (kkZ X k) true 68 [.val (gR G (c + 14)), .val (gI x1), .val (gI x2), .val (gI x3), .unset, .val (gI 0), .unset] [] X M 0 0)) ∧ (gSc ts0 (Int.toNat x2) = 114 → (g32 (M (c + 14) 4) → (((0 : Int) ≤ M (c + 14) 4 ∧ M (c + 14) 4 < 104) ∧ (g32 (M (c + 17) (Int.toNat (M (c + 14) 4))) → ((¬ M (c + 17) (Int.toNat (M (c + 14) 4)) = 19 → (wp l G y_Rd_readArgument (gRm (d + 5)) true (kkZ X k) true 133 [.val (gR G (c + 14)), .val (gI x1), .val (gI x2), .val (gI x3), .unset, .val (gI 0), .val (gI 1)] [] X M 0 0)) ∧ (M (c + 17) (Int.toNat (M (c + 14) 4)) = 19 → (g32 (M (c + 14) 4) → (((0 : Int) ≤ (M (c + 14) 4) + 1 ∧ (M (c + 14) 4) + 1 < 104) ∧ (g32 (M (c + 17) (Int.toNat ((M (c + 14) 4) + 1))) → ((¬ M (c + 17) (Int.toNat ((M (c + 14) 4) + 1)) = 16 → (wp l G y_Rd_readArgument (gRm (d + 5)) true (kkZ X k) true 133 [.val (gR G (c + 14)), .val (gI x1), .val (gI x2), .val (gI x3), .unset, .val (gI 0), .val (gI 1)] [] X M 0 0)) ∧ (M (c + 17) (Int.toNat ((M (c + 14) 4) + 1)) = 16 → (g32 (M (c + 14) 4) → (((0 : Int) ≤ (M (c + 14) 4) + 2 ∧ (M (c + 14) 4) + 2 < 104) ∧ (g32 (M (c + 17) (Int.toNat ((M (c + 14) 4) + 2))) → ((¬ M (c + 17) (Int.toNat ((M (c + 14) 4) + 2)) = 19 → (wp l G y_Rd_readArgument (gRm (d + 5)) true (kkZ X k) true 133 [.val (gR G (c + 14)), .val (gI x1), .val (gI x2), .val (gI x3), .unset, .val (gI 0), .val (gI 1)] [] X M 0 0)) ∧ (M (c + 17) (Int.toNat ((M (c + 14) 4) + 2)) = 19 → (cV l G y_Rd_readRange (gRm (d + 4)) true [gR G (c + 14)] X M (fun M11 => (k 1 M11)))))))))))))))))))))))) ∧ (¬ (gSl ts0 : Int) ≤ x2 → (((1 : Int) = 0 → (wp l G y_Rd_readArgument (gRm (d + 5)) true (kkZ X k) true 68 [.val (gR G (c + 14)), .val (gI x1), .val (gI x2), .val (gI x3), .unset, .val (gI 1), .unset] [] X M 0 0)) ∧ (¬ (1 : Int) = 0 → (((0 : Int) ≤ x2 ∧ x2 < (gSl ts0 : Int)) ∧ ((¬ gSc ts0 (Int.toNat x2) = 114 → (wp l G y_Rd_readArgument (gRm (d + 5)) true (kkZ X k) true 68 [.val (gR G (c + 14)), .val (gI x1), .val (gI x2), .val (gI x3), .unset, .val (gI 1), .unset] [] X M 0 0)) ∧ (gSc ts0 (Int.toNat x2) = 114 → (g32 (M (c + 14) 4) → (((0 : Int) ≤ M (c + 14) 4 ∧ M (c + 14) 4 < 104) ∧ (g32 (M (c + 17) (Int.toNat (M (c + 14) 4))) → ((¬ M (c + 17) (Int.toNat (M (c + 14) 4)) = 19 → (wp l G y_Rd_readArgument (gRm (d + 5)) true (kkZ X k) true 133 [.val (gR G (c + 14)), .val (gI x1), .val (gI x2), .val (gI x3), .unset, .val (gI 1), .val (gI 1)] [] X M 0 0)) ∧ (M (c + 17) (Int.toNat (M (c + 14) 4)) = 19 → (g32 (M (c + 14) 4) → (((0 : Int) ≤ (M (c + 14) 4) + 1 ∧ (M (c + 14) 4) + 1 < 104) ∧ (g32 (M (c + 17) (Int.toNat ((M (c + 14) 4) + 1))) → ((¬ M (c + 17) (Int.toNat ((M (c + 14) 4) + 1)) = 16 → (wp l G y_Rd_readArgument (gRm (d + 5)) true (kkZ X k) true 133 [.val (gR G (c + 14)), .val (gI x1), .val (gI x2), .val (gI x3), .unset, .val (gI 1), .val (gI 1)] [] X M 0 0)) ∧ (M (c + 17) (Int.toNat ((M (c + 14) 4) + 1)) = 16 → (g32 (M (c + 14) 4) → (((0 : Int) ≤ (M (c + 14) 4) + 2 ∧ (M (c + 14) 4) + 2 < 104) ∧ (g32 (M (c + 17) (Int.toNat ((M (c + 14) 4) + 2))) → ((¬ M (c + 17) (Int.toNat ((M (c + 14) 4) + 2)) = 19 → (wp l G y_Rd_readArgument (gRm (d + 5)) true (kkZ X k) true 133 [.val (gR G (c + 14)), .val (gI x1), .val (gI x2), .val (gI x3), .unset, .val (gI 1), .val (gI 1)] [] X M 0 0)) ∧ (M (c + 17) (Int.toNat ((M (c + 14) 4) + 2)) = 19 → (cV l G y_Rd_readRange (gRm (d + 4)) true [gR G (c + 14)] X M (fun M24 => (k 1 M24))))))))))))))))))))))))) : wp l G y_Rd_readArgument (gRm (d + 5)) true (kkZ X k) true 30 [.val (gR G (c + 14)), .val (gI x1), .val (gI x2), .val (gI x3), .unset, .unset, .unset] [.ref (Q.2.1 ts0)] X M 0 0 := by
  refine wp_astoreO (L' := [.val (gR G (c + 14)), .val (gI x1), .val (gI x2), .val (gI x3), .val (.ref (Q.2.1 ts0)), .unset, .unset]) d_Rd_readArgument_30 (by decide) rfl ?_
  refine wp_iload_n d_Rd_readArgument_32 rfl rfl ?_
  refine wp_aloadO d_Rd_readArgument_33 rfl ?_
  refine xo_len hO hts0 d_Rd_readArgument_35 ml_Rd_159 (by simp only [List.map, gR_cat, gI_cat, gL_cat, g_rcat, List.sum_cons, List.sum_nil]; decide) ?_
  refine xi_ge (tgt := 45) d_Rd_readArgument_38 (by decide) (w32_id hx2) (w32_id (g32_h4 (gSl_ok hts0))) (fun h30 => ?_) (fun h30 => ?_)
  · have T := T.1 h30
    refine wp_iconst d_Rd_readArgument_45 ?_
    refine wp_istore (L' := [.val (gR G (c + 14)), .val (gI x1), .val (gI x2), .val (gI x3), .val (.ref (Q.2.1 ts0)), .val (gI 0), .unset]) d_Rd_readArgument_46 (by decide) rfl ?_
    refine wp_iload d_Rd_readArgument_48 rfl ?_
    refine xz_eq (tgt := 68) d_Rd_readArgument_50 (by decide) (w32_id (g32_c (x := 0) rfl)) (fun h16 => ?_) (fun h16 => ?_)
    · have T := T.1 h16
      exact wp_md (wpt T (And.intro rfl (And.intro rfl (And.intro rfl (And.intro rfl (And.intro rfl True.intro))))))
    · have T := T.2 h16
      refine wp_aloadO d_Rd_readArgument_53 rfl ?_
      refine wp_iload_n d_Rd_readArgument_55 rfl rfl ?_
      have q4 := T.1
      have T := T.2
      refine xo_chr hO hts0 d_Rd_readArgument_56 ml_Rd_170 (by decide) (w32_id hx2) q4 ?_
      refine wp_bipush d_Rd_readArgument_59 ⟨by decide, by decide⟩ ?_
      refine xi_ne (tgt := 68) d_Rd_readArgument_61 (by decide) (w32_id (g32_h (gSc_ok hts0 _))) (w32_id (g32_c (x := 114) rfl)) (fun h15 => ?_) (fun h15 => ?_)
      · have T := T.1 h15
        exact wp_md (wpt T (And.intro rfl (And.intro rfl (And.intro rfl (And.intro rfl (And.intro rfl True.intro))))))
      · have T := T.2 h15
        refine wp_iconst d_Rd_readArgument_64 ?_
        refine wp_goto (tgt := 69) d_Rd_readArgument_65 (by decide) ?_
        refine wp_istore (L' := [.val (gR G (c + 14)), .val (gI x1), .val (gI x2), .val (gI x3), .val (.ref (Q.2.1 ts0)), .val (gI 0), .val (gI 1)]) d_Rd_readArgument_69 (by decide) rfl ?_
        refine wp_aload_n d_Rd_readArgument_71 rfl rfl (g_nz (gl_1 hX 14)) ?_
        refine xgetR d_Rd_readArgument_72 gc_Rd f_Rd_28.1 f_Rd_28.2.1 f_Rd_28.2.2.1 (gl_1 hX 14) (gl_2 hX (a := 14) (by decide)) (gl_s hX 14 rfl) f_Rd_28.2.2.2.2.1 (gl_f hX 17 rfl) ?_
        refine xgetR d_Rd_readArgument_75 gc_Tk f_Rd_93.1 f_Rd_93.2.1 f_Rd_93.2.2.1 (gl_1 hX 16) (gl_2 hX (a := 16) (by decide)) (gl_s hX 16 rfl) f_Rd_93.2.2.2.2.1 (gl_f hX 18 rfl) ?_
        refine wp_aload_n d_Rd_readArgument_78 rfl rfl (g_nz (gl_1 hX 14)) ?_
        refine xgetI d_Rd_readArgument_79 gc_Rd f_Rd_71.1 f_Rd_71.2.1 f_Rd_71.2.2.1 (gl_1 hX 14) (gl_2 hX (a := 14) (by decide)) (gl_s hX 14 rfl) f_Rd_71.2.2.2.2.1 (fun h5 => ?_)
        have T := T h5
        refine wp_iaload d_Rd_readArgument_82 (gl_1 hX 17) (gl_2 hX (a := 17) (by decide)) (gl_s hX 17 rfl) (g32_n T.1 (by decide)) T.1.1 T.1.2 (fun h6 => ?_)
        have T := T.2 h6
        refine wp_bipush d_Rd_readArgument_83 ⟨by decide, by decide⟩ ?_
        refine xi_ne (tgt := 133) d_Rd_readArgument_85 (by decide) (w32_id h6) (w32_id (g32_c (x := 19) rfl)) (fun h14 => ?_) (fun h14 => ?_)
        · have T := T.1 h14
          exact wp_md (wpt T (And.intro rfl (And.intro rfl (And.intro rfl (And.intro rfl (And.intro rfl (And.intro rfl True.intro)))))))
        · have T := T.2 h14
          refine wp_aload_n d_Rd_readArgument_88 rfl rfl (g_nz (gl_1 hX 14)) ?_
          refine xgetR d_Rd_readArgument_89 gc_Rd f_Rd_28.1 f_Rd_28.2.1 f_Rd_28.2.2.1 (gl_1 hX 14) (gl_2 hX (a := 14) (by decide)) (gl_s hX 14 rfl) f_Rd_28.2.2.2.2.1 (gl_f hX 17 rfl) ?_
          refine xgetR d_Rd_readArgument_92 gc_Tk f_Rd_93.1 f_Rd_93.2.1 f_Rd_93.2.2.1 (gl_1 hX 16) (gl_2 hX (a := 16) (by decide)) (gl_s hX 16 rfl) f_Rd_93.2.2.2.2.1 (gl_f hX 18 rfl) ?_
          refine wp_aload_n d_Rd_readArgument_95 rfl rfl (g_nz (gl_1 hX 14)) ?_
          refine xgetI d_Rd_readArgument_96 gc_Rd f_Rd_71.1 f_Rd_71.2.1 f_Rd_71.2.2.1 (gl_1 hX 14) (gl_2 hX (a := 14) (by decide)) (gl_s hX 14 rfl) f_Rd_71.2.2.2.2.1 (fun h7 => ?_)
          have T := T h7
          refine wp_iconst d_Rd_readArgument_99 ?_
          refine wp_iadd d_Rd_readArgument_100 ?_
          refine wp_iaload d_Rd_readArgument_101 (gl_1 hX 17) (gl_2 hX (a := 17) (by decide)) (gl_s hX 17 rfl) (g32_n T.1 (by decide)) T.1.1 T.1.2 (fun h8 => ?_)
          have T := T.2 h8
          refine wp_bipush d_Rd_readArgument_102 ⟨by decide, by decide⟩ ?_
          refine xi_ne (tgt := 133) d_Rd_readArgument_104 (by decide) (w32_id h8) (w32_id (g32_c (x := 16) rfl)) (fun h13 => ?_) (fun h13 => ?_)
          · have T := T.1 h13
            exact wp_md (wpt T (And.intro rfl (And.intro rfl (And.intro rfl (And.intro rfl (And.intro rfl (And.intro rfl True.intro)))))))
          · have T := T.2 h13
            refine wp_aload_n d_Rd_readArgument_107 rfl rfl (g_nz (gl_1 hX 14)) ?_
            refine xgetR d_Rd_readArgument_108 gc_Rd f_Rd_28.1 f_Rd_28.2.1 f_Rd_28.2.2.1 (gl_1 hX 14) (gl_2 hX (a := 14) (by decide)) (gl_s hX 14 rfl) f_Rd_28.2.2.2.2.1 (gl_f hX 17 rfl) ?_
            refine xgetR d_Rd_readArgument_111 gc_Tk f_Rd_93.1 f_Rd_93.2.1 f_Rd_93.2.2.1 (gl_1 hX 16) (gl_2 hX (a := 16) (by decide)) (gl_s hX 16 rfl) f_Rd_93.2.2.2.2.1 (gl_f hX 18 rfl) ?_
            refine wp_aload_n d_Rd_readArgument_114 rfl rfl (g_nz (gl_1 hX 14)) ?_
            refine xgetI d_Rd_readArgument_115 gc_Rd f_Rd_71.1 f_Rd_71.2.1 f_Rd_71.2.2.1 (gl_1 hX 14) (gl_2 hX (a := 14) (by decide)) (gl_s hX 14 rfl) f_Rd_71.2.2.2.2.1 (fun h9 => ?_)
            have T := T h9
            refine wp_iconst d_Rd_readArgument_118 ?_
            refine wp_iadd d_Rd_readArgument_119 ?_
            refine wp_iaload d_Rd_readArgument_120 (gl_1 hX 17) (gl_2 hX (a := 17) (by decide)) (gl_s hX 17 rfl) (g32_n T.1 (by decide)) T.1.1 T.1.2 (fun h10 => ?_)
            have T := T.2 h10
            refine wp_bipush d_Rd_readArgument_121 ⟨by decide, by decide⟩ ?_
            refine xi_ne (tgt := 133) d_Rd_readArgument_123 (by decide) (w32_id h10) (w32_id (g32_c (x := 19) rfl)) (fun h12 => ?_) (fun h12 => ?_)
            · have T := T.1 h12
              exact wp_md (wpt T (And.intro rfl (And.intro rfl (And.intro rfl (And.intro rfl (And.intro rfl (And.intro rfl True.intro)))))))
            · have T := T.2 h12
              refine wp_aload_n d_Rd_readArgument_126 rfl rfl (g_nz (gl_1 hX 14)) ?_
              refine xcV_V (md' := true) (As := []) (st := []) d_Rd_readArgument_127 ca_Rd_readRange ml_Rd_174 im_Rd_readRange se_Rd_readRange gc_Rd (gl_1 hX 14) (gl_2 hX (a := 14) (by decide)) (gl_s hX 14 rfl) rfl (by decide) (by decide) rfl (fun _ => rfl) (fun _ => rfl) T (fun M11 T => ?_)
              refine wp_iload d_Rd_readArgument_130 rfl ?_
              exact wp_zreturn d_Rd_readArgument_132 rfl (g_narz (⟨by decide, by decide⟩ : (0 : Int) ≤ 1 ∧ (1 : Int) ≤ 1)) (fun _ => rfl) (Nat.zero_le _) (Nat.zero_le _) (kZ_mk (⟨by decide, by decide⟩ : (0 : Int) ≤ 1 ∧ (1 : Int) ≤ 1) T)
  · have T := T.2 h30
    refine wp_iconst d_Rd_readArgument_41 ?_
    refine wp_goto (tgt := 46) d_Rd_readArgument_42 (by decide) ?_
    refine wp_istore (L' := [.val (gR G (c + 14)), .val (gI x1), .val (gI x2), .val (gI x3), .val (.ref (Q.2.1 ts0)), .val (gI 1), .unset]) d_Rd_readArgument_46 (by decide) rfl ?_
    refine wp_iload d_Rd_readArgument_48 rfl ?_
    refine xz_eq (tgt := 68) d_Rd_readArgument_50 (by decide) (w32_id (g32_c (x := 1) rfl)) (fun h29 => ?_) (fun h29 => ?_)
    · have T := T.1 h29
      exact wp_md (wpt T (And.intro rfl (And.intro rfl (And.intro rfl (And.intro rfl (And.intro rfl True.intro))))))
    · have T := T.2 h29
      refine wp_aloadO d_Rd_readArgument_53 rfl ?_
      refine wp_iload_n d_Rd_readArgument_55 rfl rfl ?_
      have q17 := T.1
      have T := T.2
      refine xo_chr hO hts0 d_Rd_readArgument_56 ml_Rd_170 (by decide) (w32_id hx2) q17 ?_
      refine wp_bipush d_Rd_readArgument_59 ⟨by decide, by decide⟩ ?_
      refine xi_ne (tgt := 68) d_Rd_readArgument_61 (by decide) (w32_id (g32_h (gSc_ok hts0 _))) (w32_id (g32_c (x := 114) rfl)) (fun h28 => ?_) (fun h28 => ?_)
      · have T := T.1 h28
        exact wp_md (wpt T (And.intro rfl (And.intro rfl (And.intro rfl (And.intro rfl (And.intro rfl True.intro))))))
      · have T := T.2 h28
        refine wp_iconst d_Rd_readArgument_64 ?_
        refine wp_goto (tgt := 69) d_Rd_readArgument_65 (by decide) ?_
        refine wp_istore (L' := [.val (gR G (c + 14)), .val (gI x1), .val (gI x2), .val (gI x3), .val (.ref (Q.2.1 ts0)), .val (gI 1), .val (gI 1)]) d_Rd_readArgument_69 (by decide) rfl ?_
        refine wp_aload_n d_Rd_readArgument_71 rfl rfl (g_nz (gl_1 hX 14)) ?_
        refine xgetR d_Rd_readArgument_72 gc_Rd f_Rd_28.1 f_Rd_28.2.1 f_Rd_28.2.2.1 (gl_1 hX 14) (gl_2 hX (a := 14) (by decide)) (gl_s hX 14 rfl) f_Rd_28.2.2.2.2.1 (gl_f hX 17 rfl) ?_
        refine xgetR d_Rd_readArgument_75 gc_Tk f_Rd_93.1 f_Rd_93.2.1 f_Rd_93.2.2.1 (gl_1 hX 16) (gl_2 hX (a := 16) (by decide)) (gl_s hX 16 rfl) f_Rd_93.2.2.2.2.1 (gl_f hX 18 rfl) ?_
        refine wp_aload_n d_Rd_readArgument_78 rfl rfl (g_nz (gl_1 hX 14)) ?_
        refine xgetI d_Rd_readArgument_79 gc_Rd f_Rd_71.1 f_Rd_71.2.1 f_Rd_71.2.2.1 (gl_1 hX 14) (gl_2 hX (a := 14) (by decide)) (gl_s hX 14 rfl) f_Rd_71.2.2.2.2.1 (fun h18 => ?_)
        have T := T h18
        refine wp_iaload d_Rd_readArgument_82 (gl_1 hX 17) (gl_2 hX (a := 17) (by decide)) (gl_s hX 17 rfl) (g32_n T.1 (by decide)) T.1.1 T.1.2 (fun h19 => ?_)
        have T := T.2 h19
        refine wp_bipush d_Rd_readArgument_83 ⟨by decide, by decide⟩ ?_
        refine xi_ne (tgt := 133) d_Rd_readArgument_85 (by decide) (w32_id h19) (w32_id (g32_c (x := 19) rfl)) (fun h27 => ?_) (fun h27 => ?_)
        · have T := T.1 h27
          exact wp_md (wpt T (And.intro rfl (And.intro rfl (And.intro rfl (And.intro rfl (And.intro rfl (And.intro rfl True.intro)))))))
        · have T := T.2 h27
          refine wp_aload_n d_Rd_readArgument_88 rfl rfl (g_nz (gl_1 hX 14)) ?_
          refine xgetR d_Rd_readArgument_89 gc_Rd f_Rd_28.1 f_Rd_28.2.1 f_Rd_28.2.2.1 (gl_1 hX 14) (gl_2 hX (a := 14) (by decide)) (gl_s hX 14 rfl) f_Rd_28.2.2.2.2.1 (gl_f hX 17 rfl) ?_
          refine xgetR d_Rd_readArgument_92 gc_Tk f_Rd_93.1 f_Rd_93.2.1 f_Rd_93.2.2.1 (gl_1 hX 16) (gl_2 hX (a := 16) (by decide)) (gl_s hX 16 rfl) f_Rd_93.2.2.2.2.1 (gl_f hX 18 rfl) ?_
          refine wp_aload_n d_Rd_readArgument_95 rfl rfl (g_nz (gl_1 hX 14)) ?_
          refine xgetI d_Rd_readArgument_96 gc_Rd f_Rd_71.1 f_Rd_71.2.1 f_Rd_71.2.2.1 (gl_1 hX 14) (gl_2 hX (a := 14) (by decide)) (gl_s hX 14 rfl) f_Rd_71.2.2.2.2.1 (fun h20 => ?_)
          have T := T h20
          refine wp_iconst d_Rd_readArgument_99 ?_
          refine wp_iadd d_Rd_readArgument_100 ?_
          refine wp_iaload d_Rd_readArgument_101 (gl_1 hX 17) (gl_2 hX (a := 17) (by decide)) (gl_s hX 17 rfl) (g32_n T.1 (by decide)) T.1.1 T.1.2 (fun h21 => ?_)
          have T := T.2 h21
          refine wp_bipush d_Rd_readArgument_102 ⟨by decide, by decide⟩ ?_
          refine xi_ne (tgt := 133) d_Rd_readArgument_104 (by decide) (w32_id h21) (w32_id (g32_c (x := 16) rfl)) (fun h26 => ?_) (fun h26 => ?_)
          · have T := T.1 h26
            exact wp_md (wpt T (And.intro rfl (And.intro rfl (And.intro rfl (And.intro rfl (And.intro rfl (And.intro rfl True.intro)))))))
          · have T := T.2 h26
            refine wp_aload_n d_Rd_readArgument_107 rfl rfl (g_nz (gl_1 hX 14)) ?_
            refine xgetR d_Rd_readArgument_108 gc_Rd f_Rd_28.1 f_Rd_28.2.1 f_Rd_28.2.2.1 (gl_1 hX 14) (gl_2 hX (a := 14) (by decide)) (gl_s hX 14 rfl) f_Rd_28.2.2.2.2.1 (gl_f hX 17 rfl) ?_
            refine xgetR d_Rd_readArgument_111 gc_Tk f_Rd_93.1 f_Rd_93.2.1 f_Rd_93.2.2.1 (gl_1 hX 16) (gl_2 hX (a := 16) (by decide)) (gl_s hX 16 rfl) f_Rd_93.2.2.2.2.1 (gl_f hX 18 rfl) ?_
            refine wp_aload_n d_Rd_readArgument_114 rfl rfl (g_nz (gl_1 hX 14)) ?_
            refine xgetI d_Rd_readArgument_115 gc_Rd f_Rd_71.1 f_Rd_71.2.1 f_Rd_71.2.2.1 (gl_1 hX 14) (gl_2 hX (a := 14) (by decide)) (gl_s hX 14 rfl) f_Rd_71.2.2.2.2.1 (fun h22 => ?_)
            have T := T h22
            refine wp_iconst d_Rd_readArgument_118 ?_
            refine wp_iadd d_Rd_readArgument_119 ?_
            refine wp_iaload d_Rd_readArgument_120 (gl_1 hX 17) (gl_2 hX (a := 17) (by decide)) (gl_s hX 17 rfl) (g32_n T.1 (by decide)) T.1.1 T.1.2 (fun h23 => ?_)
            have T := T.2 h23
            refine wp_bipush d_Rd_readArgument_121 ⟨by decide, by decide⟩ ?_
            refine xi_ne (tgt := 133) d_Rd_readArgument_123 (by decide) (w32_id h23) (w32_id (g32_c (x := 19) rfl)) (fun h25 => ?_) (fun h25 => ?_)
            · have T := T.1 h25
              exact wp_md (wpt T (And.intro rfl (And.intro rfl (And.intro rfl (And.intro rfl (And.intro rfl (And.intro rfl True.intro)))))))
            · have T := T.2 h25
              refine wp_aload_n d_Rd_readArgument_126 rfl rfl (g_nz (gl_1 hX 14)) ?_
              refine xcV_V (md' := true) (As := []) (st := []) d_Rd_readArgument_127 ca_Rd_readRange ml_Rd_174 im_Rd_readRange se_Rd_readRange gc_Rd (gl_1 hX 14) (gl_2 hX (a := 14) (by decide)) (gl_s hX 14 rfl) rfl (by decide) (by decide) rfl (fun _ => rfl) (fun _ => rfl) T (fun M24 T => ?_)
              refine wp_iload d_Rd_readArgument_130 rfl ?_
              exact wp_zreturn d_Rd_readArgument_132 rfl (g_narz (⟨by decide, by decide⟩ : (0 : Int) ≤ 1 ∧ (1 : Int) ≤ 1)) (fun _ => rfl) (Nat.zero_le _) (Nat.zero_le _) (kZ_mk (⟨by decide, by decide⟩ : (0 : Int) ≤ 1 ∧ (1 : Int) ≤ 1) T)
set_option maxHeartbeats 4000000 in
theorem w_Rd_readArgument_68 {l : Launch} {G : gG} {d : Nat} {X : gX} {M : gM} {k : Int → gM → Prop} {c : Nat} (hX : glX X c) {Q : gQ} (hO : gOld G Q) {x1 : Int} (hx1 : g32 x1) {x2 : Int} (hx2 : g32 x2) {x3 : Int} (hx3 : g32 x3) {x5 : Int} (hx5 : g32 x5)  (T : g32 (M (c + 14) 4) → (((0 : Int) ≤ M (c + 14) 4 ∧ M (c + 14) 4 < 104) ∧ (g32 (M (c + 17) (Int.toNat (M (c + 14) 4))) → ((¬ M (c + 17) (Int.toNat (M (c + 14) 4)) = 19 → (wp l G y_Rd_readArgument (gRm (d + 5)) true (kkZ X k) true 133 [.val (gR G (c + 14)), .val (gI x1), .val (gI x2), .val (gI x3), .unset, .val (gI x5), .val (gI 0)] [] X M 0 0)) ∧ (M (c + 17) (Int.toNat (M (c + 14) 4)) = 19 → (g32 (M (c + 14) 4) → (((0 : Int) ≤ (M (c + 14) 4) + 1 ∧ (M (c + 14) 4) + 1 < 104) ∧ (g32 (M (c + 17) (Int.toNat ((M (c + 14) 4) + 1))) → ((¬ M (c + 17) (Int.toNat ((M (c + 14) 4) + 1)) = 16 → (wp l G y_Rd_readArgument (gRm (d + 5)) true (kkZ X k) true 133 [.val (gR G (c + 14)), .val (gI x1), .val (gI x2), .val (gI x3), .unset, .val (gI x5), .val (gI 0)] [] X M 0 0)) ∧ (M (c + 17) (Int.toNat ((M (c + 14) 4) + 1)) = 16 → (g32 (M (c + 14) 4) → (((0 : Int) ≤ (M (c + 14) 4) + 2 ∧ (M (c + 14) 4) + 2 < 104) ∧ (g32 (M (c + 17) (Int.toNat ((M (c + 14) 4) + 2))) → ((¬ M (c + 17) (Int.toNat ((M (c + 14) 4) + 2)) = 19 → (wp l G y_Rd_readArgument (gRm (d + 5)) true (kkZ X k) true 133 [.val (gR G (c + 14)), .val (gI x1), .val (gI x2), .val (gI x3), .unset, .val (gI x5), .val (gI 0)] [] X M 0 0)) ∧ (M (c + 17) (Int.toNat ((M (c + 14) 4) + 2)) = 19 → (cV l G y_Rd_readRange (gRm (d + 4)) true [gR G (c + 14)] X M (fun M37 => (k 0 M37)))))))))))))))))) : wp l G y_Rd_readArgument (gRm (d + 5)) true (kkZ X k) true 68 [.val (gR G (c + 14)), .val (gI x1), .val (gI x2), .val (gI x3), .unset, .val (gI x5), .unset] [] X M 0 0 := by
  refine wp_iconst d_Rd_readArgument_68 ?_
  refine wp_istore (L' := [.val (gR G (c + 14)), .val (gI x1), .val (gI x2), .val (gI x3), .unset, .val (gI x5), .val (gI 0)]) d_Rd_readArgument_69 (by decide) rfl ?_
  refine wp_aload_n d_Rd_readArgument_71 rfl rfl (g_nz (gl_1 hX 14)) ?_
  refine xgetR d_Rd_readArgument_72 gc_Rd f_Rd_28.1 f_Rd_28.2.1 f_Rd_28.2.2.1 (gl_1 hX 14) (gl_2 hX (a := 14) (by decide)) (gl_s hX 14 rfl) f_Rd_28.2.2.2.2.1 (gl_f hX 17 rfl) ?_
  refine xgetR d_Rd_readArgument_75 gc_Tk f_Rd_93.1 f_Rd_93.2.1 f_Rd_93.2.2.1 (gl_1 hX 16) (gl_2 hX (a := 16) (by decide)) (gl_s hX 16 rfl) f_Rd_93.2.2.2.2.1 (gl_f hX 18 rfl) ?_
  refine wp_aload_n d_Rd_readArgument_78 rfl rfl (g_nz (gl_1 hX 14)) ?_
  refine xgetI d_Rd_readArgument_79 gc_Rd f_Rd_71.1 f_Rd_71.2.1 f_Rd_71.2.2.1 (gl_1 hX 14) (gl_2 hX (a := 14) (by decide)) (gl_s hX 14 rfl) f_Rd_71.2.2.2.2.1 (fun h31 => ?_)
  have T := T h31
  refine wp_iaload d_Rd_readArgument_82 (gl_1 hX 17) (gl_2 hX (a := 17) (by decide)) (gl_s hX 17 rfl) (g32_n T.1 (by decide)) T.1.1 T.1.2 (fun h32 => ?_)
  have T := T.2 h32
  refine wp_bipush d_Rd_readArgument_83 ⟨by decide, by decide⟩ ?_
  refine xi_ne (tgt := 133) d_Rd_readArgument_85 (by decide) (w32_id h32) (w32_id (g32_c (x := 19) rfl)) (fun h40 => ?_) (fun h40 => ?_)
  · have T := T.1 h40
    exact wp_md (wpt T (And.intro rfl (And.intro rfl (And.intro rfl (And.intro rfl (And.intro rfl (And.intro rfl True.intro)))))))
  · have T := T.2 h40
    refine wp_aload_n d_Rd_readArgument_88 rfl rfl (g_nz (gl_1 hX 14)) ?_
    refine xgetR d_Rd_readArgument_89 gc_Rd f_Rd_28.1 f_Rd_28.2.1 f_Rd_28.2.2.1 (gl_1 hX 14) (gl_2 hX (a := 14) (by decide)) (gl_s hX 14 rfl) f_Rd_28.2.2.2.2.1 (gl_f hX 17 rfl) ?_
    refine xgetR d_Rd_readArgument_92 gc_Tk f_Rd_93.1 f_Rd_93.2.1 f_Rd_93.2.2.1 (gl_1 hX 16) (gl_2 hX (a := 16) (by decide)) (gl_s hX 16 rfl) f_Rd_93.2.2.2.2.1 (gl_f hX 18 rfl) ?_
    refine wp_aload_n d_Rd_readArgument_95 rfl rfl (g_nz (gl_1 hX 14)) ?_
    refine xgetI d_Rd_readArgument_96 gc_Rd f_Rd_71.1 f_Rd_71.2.1 f_Rd_71.2.2.1 (gl_1 hX 14) (gl_2 hX (a := 14) (by decide)) (gl_s hX 14 rfl) f_Rd_71.2.2.2.2.1 (fun h33 => ?_)
    have T := T h33
    refine wp_iconst d_Rd_readArgument_99 ?_
    refine wp_iadd d_Rd_readArgument_100 ?_
    refine wp_iaload d_Rd_readArgument_101 (gl_1 hX 17) (gl_2 hX (a := 17) (by decide)) (gl_s hX 17 rfl) (g32_n T.1 (by decide)) T.1.1 T.1.2 (fun h34 => ?_)
    have T := T.2 h34
    refine wp_bipush d_Rd_readArgument_102 ⟨by decide, by decide⟩ ?_
    refine xi_ne (tgt := 133) d_Rd_readArgument_104 (by decide) (w32_id h34) (w32_id (g32_c (x := 16) rfl)) (fun h39 => ?_) (fun h39 => ?_)
    · have T := T.1 h39
      exact wp_md (wpt T (And.intro rfl (And.intro rfl (And.intro rfl (And.intro rfl (And.intro rfl (And.intro rfl True.intro)))))))
    · have T := T.2 h39
      refine wp_aload_n d_Rd_readArgument_107 rfl rfl (g_nz (gl_1 hX 14)) ?_
      refine xgetR d_Rd_readArgument_108 gc_Rd f_Rd_28.1 f_Rd_28.2.1 f_Rd_28.2.2.1 (gl_1 hX 14) (gl_2 hX (a := 14) (by decide)) (gl_s hX 14 rfl) f_Rd_28.2.2.2.2.1 (gl_f hX 17 rfl) ?_
      refine xgetR d_Rd_readArgument_111 gc_Tk f_Rd_93.1 f_Rd_93.2.1 f_Rd_93.2.2.1 (gl_1 hX 16) (gl_2 hX (a := 16) (by decide)) (gl_s hX 16 rfl) f_Rd_93.2.2.2.2.1 (gl_f hX 18 rfl) ?_
      refine wp_aload_n d_Rd_readArgument_114 rfl rfl (g_nz (gl_1 hX 14)) ?_
      refine xgetI d_Rd_readArgument_115 gc_Rd f_Rd_71.1 f_Rd_71.2.1 f_Rd_71.2.2.1 (gl_1 hX 14) (gl_2 hX (a := 14) (by decide)) (gl_s hX 14 rfl) f_Rd_71.2.2.2.2.1 (fun h35 => ?_)
      have T := T h35
      refine wp_iconst d_Rd_readArgument_118 ?_
      refine wp_iadd d_Rd_readArgument_119 ?_
      refine wp_iaload d_Rd_readArgument_120 (gl_1 hX 17) (gl_2 hX (a := 17) (by decide)) (gl_s hX 17 rfl) (g32_n T.1 (by decide)) T.1.1 T.1.2 (fun h36 => ?_)
      have T := T.2 h36
      refine wp_bipush d_Rd_readArgument_121 ⟨by decide, by decide⟩ ?_
      refine xi_ne (tgt := 133) d_Rd_readArgument_123 (by decide) (w32_id h36) (w32_id (g32_c (x := 19) rfl)) (fun h38 => ?_) (fun h38 => ?_)
      · have T := T.1 h38
        exact wp_md (wpt T (And.intro rfl (And.intro rfl (And.intro rfl (And.intro rfl (And.intro rfl (And.intro rfl True.intro)))))))
      · have T := T.2 h38
        refine wp_aload_n d_Rd_readArgument_126 rfl rfl (g_nz (gl_1 hX 14)) ?_
        refine xcV_V (md' := true) (As := []) (st := []) d_Rd_readArgument_127 ca_Rd_readRange ml_Rd_174 im_Rd_readRange se_Rd_readRange gc_Rd (gl_1 hX 14) (gl_2 hX (a := 14) (by decide)) (gl_s hX 14 rfl) rfl (by decide) (by decide) rfl (fun _ => rfl) (fun _ => rfl) T (fun M37 T => ?_)
        refine wp_iload d_Rd_readArgument_130 rfl ?_
        exact wp_zreturn d_Rd_readArgument_132 rfl (g_narz (⟨by decide, by decide⟩ : (0 : Int) ≤ 0 ∧ (0 : Int) ≤ 1)) (fun _ => rfl) (Nat.zero_le _) (Nat.zero_le _) (kZ_mk (⟨by decide, by decide⟩ : (0 : Int) ≤ 0 ∧ (0 : Int) ≤ 1) T)
set_option maxHeartbeats 4000000 in
theorem w_Rd_readArgument_133 {l : Launch} {G : gG} {d : Nat} {X : gX} {M : gM} {k : Int → gM → Prop} {c : Nat} (hX : glX X c) {Q : gQ} (hO : gOld G Q) {x1 : Int} (hx1 : g32 x1) {x2 : Int} (hx2 : g32 x2) {x3 : Int} (hx3 : g32 x3) {x5 : Int} (hx5 : g32 x5) {x6 : Int} (hx6 : g32 x6)  (T : (x6 = 0 → (wp l G y_Rd_readArgument (gRm (d + 5)) true (kkZ X k) true 198 [.val (gR G (c + 14)), .val (gI x1), .val (gI x2), .val (gI x3), .unset, .val (gI x5), .val (gI x6)] [] X M 0 0)) ∧ (¬ x6 = 0 → (g32 (M (c + 14) 4) → (((0 : Int) ≤ M (c + 14) 4 ∧ M (c + 14) 4 < 104) ∧ (g32 (M (c + 17) (Int.toNat (M (c + 14) 4))) → ((¬ M (c + 17) (Int.toNat (M (c + 14) 4)) = 19 → (wp l G y_Rd_readArgument (gRm (d + 5)) true (kkZ X k) true 198 [.val (gR G (c + 14)), .val (gI x1), .val (gI x2), .val (gI x3), .unset, .val (gI x5), .val (gI x6)] [] X M 0 0)) ∧ (M (c + 17) (Int.toNat (M (c + 14) 4)) = 19 → (g32 (M (c + 14) 4) → (cZ l G y_Rd_endsArgument (gRm (d + 4)) false [gR G (c + 14), gI ((M (c + 14) 4) + 1)] X M (fun v45 M44 => ((v45 = 0 → (wp l G y_Rd_readArgument (gRm (d + 5)) true (kkZ X k) true 198 [.val (gR G (c + 14)), .val (gI x1), .val (gI x2), .val (gI x3), .unset, .val (gI x5), .val (gI x6)] [] X M44 0 0)) ∧ (¬ v45 = 0 → (g32 (M44 (c + 14) 4) → (cI l G y_Rd_addRef (gRm (d + 4)) true [gR G (c + 14), gI (M44 (c + 14) 4), gI 0] X M44 (fun v49 M48 => (cV l G y_Cn_emit (gRm (d + 4)) true [gR G (c + 2), gI 5, gL v49] X M48 (fun M51 => (g32 (M51 (c + 14) 4) → (k 1 (gUp M51 (c + 14) 4 (w32 ((M51 (c + 14) 4) + 1)))))))))))))))))))))) : wp l G y_Rd_readArgument (gRm (d + 5)) true (kkZ X k) true 133 [.val (gR G (c + 14)), .val (gI x1), .val (gI x2), .val (gI x3), .unset, .val (gI x5), .val (gI x6)] [] X M 0 0 := by
  refine wp_iload d_Rd_readArgument_133 rfl ?_
  refine xz_eq (tgt := 198) d_Rd_readArgument_135 (by decide) (w32_id hx6) (fun h55 => ?_) (fun h55 => ?_)
  · have T := T.1 h55
    exact wp_md (wpt T (And.intro rfl (And.intro rfl (And.intro rfl (And.intro rfl (And.intro rfl (And.intro rfl True.intro)))))))
  · have T := T.2 h55
    refine wp_aload_n d_Rd_readArgument_138 rfl rfl (g_nz (gl_1 hX 14)) ?_
    refine xgetR d_Rd_readArgument_139 gc_Rd f_Rd_28.1 f_Rd_28.2.1 f_Rd_28.2.2.1 (gl_1 hX 14) (gl_2 hX (a := 14) (by decide)) (gl_s hX 14 rfl) f_Rd_28.2.2.2.2.1 (gl_f hX 17 rfl) ?_
    refine xgetR d_Rd_readArgument_142 gc_Tk f_Rd_93.1 f_Rd_93.2.1 f_Rd_93.2.2.1 (gl_1 hX 16) (gl_2 hX (a := 16) (by decide)) (gl_s hX 16 rfl) f_Rd_93.2.2.2.2.1 (gl_f hX 18 rfl) ?_
    refine wp_aload_n d_Rd_readArgument_145 rfl rfl (g_nz (gl_1 hX 14)) ?_
    refine xgetI d_Rd_readArgument_146 gc_Rd f_Rd_71.1 f_Rd_71.2.1 f_Rd_71.2.2.1 (gl_1 hX 14) (gl_2 hX (a := 14) (by decide)) (gl_s hX 14 rfl) f_Rd_71.2.2.2.2.1 (fun h41 => ?_)
    have T := T h41
    refine wp_iaload d_Rd_readArgument_149 (gl_1 hX 17) (gl_2 hX (a := 17) (by decide)) (gl_s hX 17 rfl) (g32_n T.1 (by decide)) T.1.1 T.1.2 (fun h42 => ?_)
    have T := T.2 h42
    refine wp_bipush d_Rd_readArgument_150 ⟨by decide, by decide⟩ ?_
    refine xi_ne (tgt := 198) d_Rd_readArgument_152 (by decide) (w32_id h42) (w32_id (g32_c (x := 19) rfl)) (fun h54 => ?_) (fun h54 => ?_)
    · have T := T.1 h54
      exact wp_md (wpt T (And.intro rfl (And.intro rfl (And.intro rfl (And.intro rfl (And.intro rfl (And.intro rfl True.intro)))))))
    · have T := T.2 h54
      refine wp_aload_n d_Rd_readArgument_155 rfl rfl (g_nz (gl_1 hX 14)) ?_
      refine wp_aload_n d_Rd_readArgument_156 rfl rfl (g_nz (gl_1 hX 14)) ?_
      refine xgetI d_Rd_readArgument_157 gc_Rd f_Rd_71.1 f_Rd_71.2.1 f_Rd_71.2.2.1 (gl_1 hX 14) (gl_2 hX (a := 14) (by decide)) (gl_s hX 14 rfl) f_Rd_71.2.2.2.2.1 (fun h43 => ?_)
      have T := T h43
      refine wp_iconst d_Rd_readArgument_160 ?_
      refine wp_iadd d_Rd_readArgument_161 ?_
      refine xcV_Z (md' := true) (As := [gI ((M (c + 14) 4) + 1)]) (st := []) d_Rd_readArgument_162 ca_Rd_endsArgument ml_Rd_177 im_Rd_endsArgument se_Rd_endsArgument gc_Rd (gl_1 hX 14) (gl_2 hX (a := 14) (by decide)) (gl_s hX 14 rfl) rfl (by decide) (by decide) rfl (fun _ => rfl) (fun _ => rfl) T (fun v45 M44 h46 T => ?_)
      refine xz_eq (tgt := 198) d_Rd_readArgument_165 (by decide) (w32_id (g32_z h46)) (fun h53 => ?_) (fun h53 => ?_)
      · have T := T.1 h53
        exact wp_md (wpt T (And.intro rfl (And.intro rfl (And.intro rfl (And.intro rfl (And.intro rfl (And.intro rfl True.intro)))))))
      · have T := T.2 h53
        refine wp_aload_n d_Rd_readArgument_168 rfl rfl (g_nz (gl_1 hX 14)) ?_
        refine xgetR d_Rd_readArgument_169 gc_Rd f_Rd_19.1 f_Rd_19.2.1 f_Rd_19.2.2.1 (gl_1 hX 14) (gl_2 hX (a := 14) (by decide)) (gl_s hX 14 rfl) f_Rd_19.2.2.2.2.1 (gl_f hX 16 rfl) ?_
        refine wp_iconst d_Rd_readArgument_172 ?_
        refine wp_aload_n d_Rd_readArgument_173 rfl rfl (g_nz (gl_1 hX 14)) ?_
        refine wp_aload_n d_Rd_readArgument_174 rfl rfl (g_nz (gl_1 hX 14)) ?_
        refine xgetI d_Rd_readArgument_175 gc_Rd f_Rd_71.1 f_Rd_71.2.1 f_Rd_71.2.2.1 (gl_1 hX 14) (gl_2 hX (a := 14) (by decide)) (gl_s hX 14 rfl) f_Rd_71.2.2.2.2.1 (fun h47 => ?_)
        have T := T h47
        refine wp_iconst d_Rd_readArgument_178 ?_
        refine xcV_I (md' := true) (As := [gI (M44 (c + 14) 4), gI 0]) (st := [gI 5, gR G (c + 2)]) d_Rd_readArgument_179 ca_Rd_addRef ml_Rd_119 im_Rd_addRef se_Rd_addRef gc_Rd (gl_1 hX 14) (gl_2 hX (a := 14) (by decide)) (gl_s hX 14 rfl) rfl (by decide) (by simp only [List.map, gR_cat, gI_cat, gL_cat, List.sum_cons, List.sum_nil]; decide) rfl (fun _ => rfl) (fun _ => rfl) T (fun v49 M48 h50 T => ?_)
        refine xi2l d_Rd_readArgument_182 (w32_id h50) ?_
        refine xcV_V (md' := true) (As := [gI 5, gL v49]) (st := []) d_Rd_readArgument_183 ca_Cn_emit ml_Rd_59 im_Cn_emit se_Cn_emit gc_Cn (gl_1 hX 2) (gl_2 hX (a := 2) (by decide)) (gl_s hX 2 rfl) rfl (by decide) (by decide) rfl (fun _ => rfl) (fun _ => rfl) T (fun M51 T => ?_)
        refine wp_aload_n d_Rd_readArgument_186 rfl rfl (g_nz (gl_1 hX 14)) ?_
        refine wp_dup d_Rd_readArgument_187 (gR_cat _) ?_
        refine xgetI d_Rd_readArgument_188 gc_Rd f_Rd_71.1 f_Rd_71.2.1 f_Rd_71.2.2.1 (gl_1 hX 14) (gl_2 hX (a := 14) (by decide)) (gl_s hX 14 rfl) f_Rd_71.2.2.2.2.1 (fun h52 => ?_)
        have T := T h52
        refine wp_iconst d_Rd_readArgument_191 ?_
        refine wp_iadd d_Rd_readArgument_192 ?_
        refine xputI d_Rd_readArgument_193 gc_Rd f_Rd_71.1 f_Rd_71.2.1 f_Rd_71.2.2.1 (gl_1 hX 14) (gl_2 hX (a := 14) (by decide)) (gl_s hX 14 rfl) f_Rd_71.2.2.2.1 f_Rd_71.2.2.2.2.1 f_Rd_71.2.2.2.2.2 rfl ?_
        refine wp_iconst d_Rd_readArgument_196 ?_
        exact wp_zreturn d_Rd_readArgument_197 rfl (g_narz (⟨by decide, by decide⟩ : (0 : Int) ≤ 1 ∧ (1 : Int) ≤ 1)) (fun _ => rfl) (Nat.zero_le _) (Nat.zero_le _) (kZ_mk (⟨by decide, by decide⟩ : (0 : Int) ≤ 1 ∧ (1 : Int) ≤ 1) T)
set_option maxHeartbeats 4000000 in
theorem w_Rd_readArgument_198 {l : Launch} {G : gG} {d : Nat} {X : gX} {M : gM} {k : Int → gM → Prop} {c : Nat} (hX : glX X c) {Q : gQ} (hO : gOld G Q) {x1 : Int} (hx1 : g32 x1) {x2 : Int} (hx2 : g32 x2) {x3 : Int} (hx3 : g32 x3) {x5 : Int} (hx5 : g32 x5) {x6 : Int} (hx6 : g32 x6)  (T : (x5 = 0 → (wp l G y_Rd_readArgument (gRm (d + 5)) true (kkZ X k) true 226 [.val (gR G (c + 14)), .unset, .unset, .val (gI x3), .unset, .unset, .val (gI x6)] [] X M 0 0)) ∧ (¬ x5 = 0 → ((x2 ≤ 0 → (wp l G y_Rd_readArgument (gRm (d + 5)) true (kkZ X k) true 226 [.val (gR G (c + 14)), .unset, .unset, .val (gI x3), .unset, .unset, .val (gI x6)] [] X M 0 0)) ∧ (¬ x2 ≤ 0 → (((0 : Int) ≤ x1 ∧ x1 < 52) ∧ ((¬ gWgr (Int.toNat x1) = 5 → (wp l G y_Rd_readArgument (gRm (d + 5)) true (kkZ X k) true 226 [.val (gR G (c + 14)), .unset, .unset, .val (gI x3), .unset, .unset, .val (gI x6)] [] X M 0 0)) ∧ (gWgr (Int.toNat x1) = 5 → (cV l G y_Rd_openPick (gRm (d + 4)) true [gR G (c + 14), gI x1, gI x2, gI x3] X M (fun M57 => (wp l G y_Rd_readArgument (gRm (d + 5)) true (kkZ X k) true 226 [.val (gR G (c + 14)), .unset, .unset, .val (gI x3), .unset, .unset, .val (gI x6)] [] X M57 0 0)))))))))) : wp l G y_Rd_readArgument (gRm (d + 5)) true (kkZ X k) true 198 [.val (gR G (c + 14)), .val (gI x1), .val (gI x2), .val (gI x3), .unset, .val (gI x5), .val (gI x6)] [] X M 0 0 := by
  refine wp_iload d_Rd_readArgument_198 rfl ?_
  refine xz_eq (tgt := 226) d_Rd_readArgument_200 (by decide) (w32_id hx5) (fun h60 => ?_) (fun h60 => ?_)
  · have T := T.1 h60
    exact wp_md (wpt T (And.intro rfl (And.intro rfl (And.intro rfl True.intro))))
  · have T := T.2 h60
    refine wp_iload_n d_Rd_readArgument_203 rfl rfl ?_
    refine xz_le (tgt := 226) d_Rd_readArgument_204 (by decide) (w32_id hx2) (fun h59 => ?_) (fun h59 => ?_)
    · have T := T.1 h59
      exact wp_md (wpt T (And.intro rfl (And.intro rfl (And.intro rfl True.intro))))
    · have T := T.2 h59
      refine wp_getsN d_Rd_readArgument_207 fs_Rd_142 (fun U hU => (hO U hU).2.2.1.1) ?_
      refine wp_iload_n d_Rd_readArgument_210 rfl rfl ?_
      have q56 := T.1
      have T := T.2
      refine xo_aald hO d_Rd_readArgument_211 (w32_id hx1) q56 ?_
      refine wp_oget d_Rd_readArgument_212 fo_Rd_164 (fun U hU => ((hO U hU).1 _ (g52 q56)).2.2.2.2.2) ?_
      refine wp_iconst d_Rd_readArgument_215 ?_
      refine xi_ne (tgt := 226) d_Rd_readArgument_216 (by decide) (w32_id (gG32 (g52 q56))) (w32_id (g32_c (x := 5) rfl)) (fun h58 => ?_) (fun h58 => ?_)
      · have T := T.1 h58
        exact wp_md (wpt T (And.intro rfl (And.intro rfl (And.intro rfl True.intro))))
      · have T := T.2 h58
        refine wp_aload_n d_Rd_readArgument_219 rfl rfl (g_nz (gl_1 hX 14)) ?_
        refine wp_iload_n d_Rd_readArgument_220 rfl rfl ?_
        refine wp_iload_n d_Rd_readArgument_221 rfl rfl ?_
        refine wp_iload_n d_Rd_readArgument_222 rfl rfl ?_
        refine xcV_V (md' := true) (As := [gI x1, gI x2, gI x3]) (st := []) d_Rd_readArgument_223 ca_Rd_openPick ml_Rd_180 im_Rd_openPick se_Rd_openPick gc_Rd (gl_1 hX 14) (gl_2 hX (a := 14) (by decide)) (gl_s hX 14 rfl) rfl (by decide) (by decide) rfl (fun _ => rfl) (fun _ => rfl) T (fun M57 T => ?_)
        exact wp_md (wpt T (And.intro rfl (And.intro rfl (And.intro rfl True.intro))))
set_option maxHeartbeats 4000000 in
theorem w_Rd_readArgument_226 {l : Launch} {G : gG} {d : Nat} {X : gX} {M : gM} {k : Int → gM → Prop} {c : Nat} (hX : glX X c) {Q : gQ} (hO : gOld G Q) {x3 : Int} (hx3 : g32 x3) {x6 : Int} (hx6 : g32 x6)  (T : cV l G y_Rd_readExpression (gRm (d + 4)) true [gR G (c + 14), gI 1, gI x3] X M (fun M61 => ((¬ x6 = 0 → (k 0 M61)) ∧ (x6 = 0 → (k 1 M61))))) : wp l G y_Rd_readArgument (gRm (d + 5)) true (kkZ X k) true 226 [.val (gR G (c + 14)), .unset, .unset, .val (gI x3), .unset, .unset, .val (gI x6)] [] X M 0 0 := by
  refine wp_aload_n d_Rd_readArgument_226 rfl rfl (g_nz (gl_1 hX 14)) ?_
  refine wp_iconst d_Rd_readArgument_227 ?_
  refine wp_iload_n d_Rd_readArgument_228 rfl rfl ?_
  refine xcV_V (md' := true) (As := [gI 1, gI x3]) (st := []) d_Rd_readArgument_229 ca_Rd_readExpression ml_Rd_83 im_Rd_readExpression se_Rd_readExpression gc_Rd (gl_1 hX 14) (gl_2 hX (a := 14) (by decide)) (gl_s hX 14 rfl) rfl (by decide) (by decide) rfl (fun _ => rfl) (fun _ => rfl) T (fun M61 T => ?_)
  refine wp_iload d_Rd_readArgument_232 rfl ?_
  refine xz_ne (tgt := 241) d_Rd_readArgument_234 (by decide) (w32_id hx6) (fun h62 => ?_) (fun h62 => ?_)
  · have T := T.1 h62
    refine wp_iconst d_Rd_readArgument_241 ?_
    exact wp_zreturn d_Rd_readArgument_242 rfl (g_narz (⟨by decide, by decide⟩ : (0 : Int) ≤ 0 ∧ (0 : Int) ≤ 1)) (fun _ => rfl) (Nat.zero_le _) (Nat.zero_le _) (kZ_mk (⟨by decide, by decide⟩ : (0 : Int) ≤ 0 ∧ (0 : Int) ≤ 1) T)
  · have T := T.2 h62
    refine wp_iconst d_Rd_readArgument_237 ?_
    refine wp_goto (tgt := 242) d_Rd_readArgument_238 (by decide) ?_
    exact wp_zreturn d_Rd_readArgument_242 rfl (g_narz (⟨by decide, by decide⟩ : (0 : Int) ≤ 1 ∧ (1 : Int) ≤ 1)) (fun _ => rfl) (Nat.zero_le _) (Nat.zero_le _) (kZ_mk (⟨by decide, by decide⟩ : (0 : Int) ≤ 1 ∧ (1 : Int) ≤ 1) T)
theorem e_Rd_readArgument {l : Launch} {G : gG} {d : Nat} {X : gX} {M : gM} {k : Int → gM → Prop} {Q : gQ} {c : Nat} {x1 : Int} {x2 : Int} {x3 : Int} (T : wp l G y_Rd_readArgument (gRm (d + 5)) true (kkZ X k) false 0 [.val (gR G (c + 14)), .val (gI x1), .val (gI x2), .val (gI x3), .unset, .unset, .unset] [] X M 0 0) : cZ l G y_Rd_readArgument (gRm (d + 5)) true [gR G (c + 14), gI x1, gI x2, gI x3] X M k := cen_Z (plainFor_of_name rfl) (by simp only [lg_sl_R, lg_sl_I, lg_sl_L, lg_sl_N, List.length_cons, List.length_nil]; decide) (by unfold gEn; simp only [lg_sl_R, lg_sl_I, lg_sl_L, lg_sl_N]; exact wpt T (And.intro rfl (And.intro rfl (And.intro rfl (And.intro rfl True.intro)))))
theorem d_Rd_openPick_0 : decode prog_8_method_15_code 0 = .ok (.iload_n 2, 1) := by decide +kernel
theorem d_Rd_openPick_1 : decode prog_8_method_15_code 1 = .ok (.iconst 1, 1) := by decide +kernel
theorem d_Rd_openPick_2 : decode prog_8_method_15_code 2 = .ok (.if_icmp .le 13, 3) := by decide +kernel
theorem d_Rd_openPick_15 : decode prog_8_method_15_code 15 = .ok (.aload_n 0, 1) := by decide +kernel
theorem d_Rd_openPick_16 : decode prog_8_method_15_code 16 = .ok (.getfield 11, 3) := by decide +kernel
theorem d_Rd_openPick_19 : decode prog_8_method_15_code 19 = .ok (.iload_n 3, 1) := by decide +kernel
theorem d_Rd_openPick_20 : decode prog_8_method_15_code 20 = .ok (.iconst 4, 1) := by decide +kernel
theorem d_Rd_openPick_21 : decode prog_8_method_15_code 21 = .ok (.imul, 1) := by decide +kernel
theorem d_Rd_openPick_22 : decode prog_8_method_15_code 22 = .ok (.iload_n 2, 1) := by decide +kernel
theorem d_Rd_openPick_23 : decode prog_8_method_15_code 23 = .ok (.iadd, 1) := by decide +kernel
theorem d_Rd_openPick_24 : decode prog_8_method_15_code 24 = .ok (.aload_n 0, 1) := by decide +kernel
theorem d_Rd_openPick_25 : decode prog_8_method_15_code 25 = .ok (.getfield 19, 3) := by decide +kernel
theorem d_Rd_openPick_28 : decode prog_8_method_15_code 28 = .ok (.getfield 137, 3) := by decide +kernel
theorem d_Rd_openPick_31 : decode prog_8_method_15_code 31 = .ok (.iastore, 1) := by decide +kernel
theorem d_Rd_openPick_32 : decode prog_8_method_15_code 32 = .ok (.getstatic 184, 3) := by decide +kernel
theorem d_Rd_openPick_35 : decode prog_8_method_15_code 35 = .ok (.getstatic 142, 3) := by decide +kernel
theorem d_Rd_openPick_38 : decode prog_8_method_15_code 38 = .ok (.iload_n 1, 1) := by decide +kernel
theorem d_Rd_openPick_39 : decode prog_8_method_15_code 39 = .ok (.aaload, 1) := by decide +kernel
theorem d_Rd_openPick_40 : decode prog_8_method_15_code 40 = .ok (.invokevirtual 189, 3) := by decide +kernel
theorem d_Rd_openPick_43 : decode prog_8_method_15_code 43 = .ok (.iaload, 1) := by decide +kernel
theorem d_Rd_openPick_44 : decode prog_8_method_15_code 44 = .ok (.lookupswitch 54 #[(1, 28), (2, 41)], 28) := by decide +kernel
theorem d_Rd_openPick_72 : decode prog_8_method_15_code 72 = .ok (.aload_n 0, 1) := by decide +kernel
theorem d_Rd_openPick_73 : decode prog_8_method_15_code 73 = .ok (.getfield 19, 3) := by decide +kernel
theorem d_Rd_openPick_76 : decode prog_8_method_15_code 76 = .ok (.bipush 7, 2) := by decide +kernel
theorem d_Rd_openPick_78 : decode prog_8_method_15_code 78 = .ok (.lconst 0, 1) := by decide +kernel
theorem d_Rd_openPick_79 : decode prog_8_method_15_code 79 = .ok (.invokevirtual 59, 3) := by decide +kernel
theorem d_Rd_openPick_82 : decode prog_8_method_15_code 82 = .ok (.goto 26, 3) := by decide +kernel
theorem d_Rd_openPick_108 : decode prog_8_method_15_code 108 = .ok (.return_, 1) := by decide +kernel
theorem d_Rd_openPick_85 : decode prog_8_method_15_code 85 = .ok (.aload_n 0, 1) := by decide +kernel
theorem d_Rd_openPick_86 : decode prog_8_method_15_code 86 = .ok (.getfield 19, 3) := by decide +kernel
theorem d_Rd_openPick_89 : decode prog_8_method_15_code 89 = .ok (.bipush 8, 2) := by decide +kernel
theorem d_Rd_openPick_91 : decode prog_8_method_15_code 91 = .ok (.lconst 0, 1) := by decide +kernel
theorem d_Rd_openPick_92 : decode prog_8_method_15_code 92 = .ok (.invokevirtual 59, 3) := by decide +kernel
theorem d_Rd_openPick_95 : decode prog_8_method_15_code 95 = .ok (.goto 13, 3) := by decide +kernel
theorem d_Rd_openPick_98 : decode prog_8_method_15_code 98 = .ok (.aload_n 0, 1) := by decide +kernel
theorem d_Rd_openPick_99 : decode prog_8_method_15_code 99 = .ok (.getfield 19, 3) := by decide +kernel
theorem d_Rd_openPick_102 : decode prog_8_method_15_code 102 = .ok (.bipush 9, 2) := by decide +kernel
theorem d_Rd_openPick_104 : decode prog_8_method_15_code 104 = .ok (.lconst 0, 1) := by decide +kernel
theorem d_Rd_openPick_105 : decode prog_8_method_15_code 105 = .ok (.invokevirtual 59, 3) := by decide +kernel
theorem d_Rd_openPick_5 : decode prog_8_method_15_code 5 = .ok (.aload_n 0, 1) := by decide +kernel
theorem d_Rd_openPick_6 : decode prog_8_method_15_code 6 = .ok (.getfield 19, 3) := by decide +kernel
theorem d_Rd_openPick_9 : decode prog_8_method_15_code 9 = .ok (.bipush 10, 2) := by decide +kernel
theorem d_Rd_openPick_11 : decode prog_8_method_15_code 11 = .ok (.lconst 0, 1) := by decide +kernel
theorem d_Rd_openPick_12 : decode prog_8_method_15_code 12 = .ok (.invokevirtual 59, 3) := by decide +kernel
set_option maxHeartbeats 4000000 in
theorem w_Rd_openPick_0 {l : Launch} {G : gG} {d : Nat} {X : gX} {M : gM} {k : gM → Prop} {c : Nat} (hX : glX X c) {Q : gQ} (hO : gOld G Q) {x1 : Int} (hx1 : g32 x1) {x2 : Int} (hx2 : g32 x2) {x3 : Int} (hx3 : g32 x3)  (T : (x2 ≤ 1 → (g32 (M (c + 2) 12) → (((0 : Int) ≤ (x3 * 4) + x2 ∧ (x3 * 4) + x2 < 84) ∧ (((0 : Int) ≤ x1 ∧ x1 < 52) ∧ ((gSw (Int.toNat x1) = 1 → (cV l G y_Cn_emit (gRm d) true [gR G (c + 2), gI 7, gL 0] X (gUp M (c + 15) (Int.toNat ((x3 * 4) + x2)) (M (c + 2) 12)) (fun M3 => (k M3)))) ∧ (gSw (Int.toNat x1) = 2 → (cV l G y_Cn_emit (gRm d) true [gR G (c + 2), gI 8, gL 0] X (gUp M (c + 15) (Int.toNat ((x3 * 4) + x2)) (M (c + 2) 12)) (fun M4 => (k M4)))) ∧ ((¬ gSw (Int.toNat x1) = 1 ∧ ¬ gSw (Int.toNat x1) = 2) → (cV l G y_Cn_emit (gRm d) true [gR G (c + 2), gI 9, gL 0] X (gUp M (c + 15) (Int.toNat ((x3 * 4) + x2)) (M (c + 2) 12)) (fun M5 => (k M5))))))))) ∧ (¬ x2 ≤ 1 → (cV l G y_Cn_emit (gRm d) true [gR G (c + 2), gI 10, gL 0] X M (fun M6 => (g32 (M6 (c + 2) 12) → (((0 : Int) ≤ (x3 * 4) + x2 ∧ (x3 * 4) + x2 < 84) ∧ (((0 : Int) ≤ x1 ∧ x1 < 52) ∧ ((gSw (Int.toNat x1) = 1 → (cV l G y_Cn_emit (gRm d) true [gR G (c + 2), gI 7, gL 0] X (gUp M6 (c + 15) (Int.toNat ((x3 * 4) + x2)) (M6 (c + 2) 12)) (fun M9 => (k M9)))) ∧ (gSw (Int.toNat x1) = 2 → (cV l G y_Cn_emit (gRm d) true [gR G (c + 2), gI 8, gL 0] X (gUp M6 (c + 15) (Int.toNat ((x3 * 4) + x2)) (M6 (c + 2) 12)) (fun M10 => (k M10)))) ∧ ((¬ gSw (Int.toNat x1) = 1 ∧ ¬ gSw (Int.toNat x1) = 2) → (cV l G y_Cn_emit (gRm d) true [gR G (c + 2), gI 9, gL 0] X (gUp M6 (c + 15) (Int.toNat ((x3 * 4) + x2)) (M6 (c + 2) 12)) (fun M11 => (k M11)))))))))))) : wp l G y_Rd_openPick (gRm (d + 1)) true (kkV X k) false 0 [.val (gR G (c + 14)), .val (gI x1), .val (gI x2), .val (gI x3)] [] X M 0 0 := by
  refine wp_iload_n d_Rd_openPick_0 rfl rfl ?_
  refine wp_iconst d_Rd_openPick_1 ?_
  refine xi_le (tgt := 15) d_Rd_openPick_2 (by decide) (w32_id hx2) (w32_id (g32_c (x := 1) rfl)) (fun h12 => ?_) (fun h12 => ?_)
  · have T := T.1 h12
    refine wp_aload_n d_Rd_openPick_15 rfl rfl (g_nz (gl_1 hX 14)) ?_
    refine xgetR d_Rd_openPick_16 gc_Rd f_Rd_11.1 f_Rd_11.2.1 f_Rd_11.2.2.1 (gl_1 hX 14) (gl_2 hX (a := 14) (by decide)) (gl_s hX 14 rfl) f_Rd_11.2.2.2.2.1 (gl_f hX 14 rfl) ?_
    refine wp_iload_n d_Rd_openPick_19 rfl rfl ?_
    refine wp_iconst d_Rd_openPick_20 ?_
    refine wp_imul d_Rd_openPick_21 ?_
    refine wp_iload_n d_Rd_openPick_22 rfl rfl ?_
    refine wp_iadd d_Rd_openPick_23 ?_
    refine wp_aload_n d_Rd_openPick_24 rfl rfl (g_nz (gl_1 hX 14)) ?_
    refine xgetR d_Rd_openPick_25 gc_Rd f_Rd_19.1 f_Rd_19.2.1 f_Rd_19.2.2.1 (gl_1 hX 14) (gl_2 hX (a := 14) (by decide)) (gl_s hX 14 rfl) f_Rd_19.2.2.2.2.1 (gl_f hX 16 rfl) ?_
    refine xgetI d_Rd_openPick_28 gc_Cn f_Rd_137.1 f_Rd_137.2.1 f_Rd_137.2.2.1 (gl_1 hX 2) (gl_2 hX (a := 2) (by decide)) (gl_s hX 2 rfl) f_Rd_137.2.2.2.2.1 (fun h1 => ?_)
    have T := T h1
    refine xiast d_Rd_openPick_31 (gl_1 hX 15) (gl_2 hX (a := 15) (by decide)) (gl_s hX 15 rfl) (by decide) T.1 (w32_id h1) ?_
    have T := T.2
    refine wp_gets d_Rd_openPick_32 fs_Rd_184 (fun U hU => (hO U hU).2.2.2.2.1.1) ?_
    refine wp_getsN d_Rd_openPick_35 fs_Rd_142 (fun U hU => (hO U hU).2.2.1.1) ?_
    refine wp_iload_n d_Rd_openPick_38 rfl rfl ?_
    have q2 := T.1
    have T := T.2
    refine xo_aald hO d_Rd_openPick_39 (w32_id hx1) q2 ?_
    refine xo_ord hO (g52 q2) d_Rd_openPick_40 (gWs_ord ml_Rd_189) (by simp only [List.map, gR_cat, gI_cat, gL_cat, g_rcat, List.sum_cons, List.sum_nil]; decide) ?_
    refine xo_sw hO d_Rd_openPick_43 (g52 q2) ?_
    obtain ⟨T0, T1, T2⟩ := T
    by_cases hc0 : gSw (Int.toNat x1) = 1
    · refine xlook (off := 28) (tgt := 72) d_Rd_openPick_44 (w32_id (gS32 (g52 q2))) rfl (by rw [hc0]; rfl) (by decide) ?_
      have T := T0 hc0
      refine wp_aload_n d_Rd_openPick_72 rfl rfl (g_nz (gl_1 hX 14)) ?_
      refine xgetR d_Rd_openPick_73 gc_Rd f_Rd_19.1 f_Rd_19.2.1 f_Rd_19.2.2.1 (gl_1 hX 14) (gl_2 hX (a := 14) (by decide)) (gl_s hX 14 rfl) f_Rd_19.2.2.2.2.1 (gl_f hX 16 rfl) ?_
      refine wp_bipush d_Rd_openPick_76 ⟨by decide, by decide⟩ ?_
      refine wp_lconst0 d_Rd_openPick_78 ?_
      refine xcV_V (md' := true) (As := [gI 7, gL 0]) (st := []) d_Rd_openPick_79 ca_Cn_emit ml_Rd_59 im_Cn_emit se_Cn_emit gc_Cn (gl_1 hX 2) (gl_2 hX (a := 2) (by decide)) (gl_s hX 2 rfl) rfl (by decide) (by decide) rfl (fun _ => rfl) (fun _ => rfl) T (fun M3 T => ?_)
      refine wp_goto (tgt := 108) d_Rd_openPick_82 (by decide) ?_
      exact wp_return d_Rd_openPick_108 rfl (fun _ => rfl) (Nat.zero_le _) (Nat.zero_le _) (kV_mk T)
    by_cases hc1 : gSw (Int.toNat x1) = 2
    · refine xlook (off := 41) (tgt := 85) d_Rd_openPick_44 (w32_id (gS32 (g52 q2))) rfl (by rw [hc1]; rfl) (by decide) ?_
      have T := T1 hc1
      refine wp_aload_n d_Rd_openPick_85 rfl rfl (g_nz (gl_1 hX 14)) ?_
      refine xgetR d_Rd_openPick_86 gc_Rd f_Rd_19.1 f_Rd_19.2.1 f_Rd_19.2.2.1 (gl_1 hX 14) (gl_2 hX (a := 14) (by decide)) (gl_s hX 14 rfl) f_Rd_19.2.2.2.2.1 (gl_f hX 16 rfl) ?_
      refine wp_bipush d_Rd_openPick_89 ⟨by decide, by decide⟩ ?_
      refine wp_lconst0 d_Rd_openPick_91 ?_
      refine xcV_V (md' := true) (As := [gI 8, gL 0]) (st := []) d_Rd_openPick_92 ca_Cn_emit ml_Rd_59 im_Cn_emit se_Cn_emit gc_Cn (gl_1 hX 2) (gl_2 hX (a := 2) (by decide)) (gl_s hX 2 rfl) rfl (by decide) (by decide) rfl (fun _ => rfl) (fun _ => rfl) T (fun M4 T => ?_)
      refine wp_goto (tgt := 108) d_Rd_openPick_95 (by decide) ?_
      exact wp_return d_Rd_openPick_108 rfl (fun _ => rfl) (Nat.zero_le _) (Nat.zero_le _) (kV_mk T)
    refine xlook (off := 54) (tgt := 98) d_Rd_openPick_44 (w32_id (gS32 (g52 q2))) rfl (show Op.lookupswitch.offset [(1, 28), (2, 41)] 54 (gSw (Int.toNat x1)) = 54 by simp only [Op.lookupswitch.offset, if_neg (Ne.symm hc0), if_neg (Ne.symm hc1)]) (by decide) ?_
    have T := T2 ⟨hc0, hc1⟩
    refine wp_aload_n d_Rd_openPick_98 rfl rfl (g_nz (gl_1 hX 14)) ?_
    refine xgetR d_Rd_openPick_99 gc_Rd f_Rd_19.1 f_Rd_19.2.1 f_Rd_19.2.2.1 (gl_1 hX 14) (gl_2 hX (a := 14) (by decide)) (gl_s hX 14 rfl) f_Rd_19.2.2.2.2.1 (gl_f hX 16 rfl) ?_
    refine wp_bipush d_Rd_openPick_102 ⟨by decide, by decide⟩ ?_
    refine wp_lconst0 d_Rd_openPick_104 ?_
    refine xcV_V (md' := true) (As := [gI 9, gL 0]) (st := []) d_Rd_openPick_105 ca_Cn_emit ml_Rd_59 im_Cn_emit se_Cn_emit gc_Cn (gl_1 hX 2) (gl_2 hX (a := 2) (by decide)) (gl_s hX 2 rfl) rfl (by decide) (by decide) rfl (fun _ => rfl) (fun _ => rfl) T (fun M5 T => ?_)
    exact wp_return d_Rd_openPick_108 rfl (fun _ => rfl) (Nat.zero_le _) (Nat.zero_le _) (kV_mk T)
  · have T := T.2 h12
    refine wp_aload_n d_Rd_openPick_5 rfl rfl (g_nz (gl_1 hX 14)) ?_
    refine xgetR d_Rd_openPick_6 gc_Rd f_Rd_19.1 f_Rd_19.2.1 f_Rd_19.2.2.1 (gl_1 hX 14) (gl_2 hX (a := 14) (by decide)) (gl_s hX 14 rfl) f_Rd_19.2.2.2.2.1 (gl_f hX 16 rfl) ?_
    refine wp_bipush d_Rd_openPick_9 ⟨by decide, by decide⟩ ?_
    refine wp_lconst0 d_Rd_openPick_11 ?_
    refine xcV_V (md' := true) (As := [gI 10, gL 0]) (st := []) d_Rd_openPick_12 ca_Cn_emit ml_Rd_59 im_Cn_emit se_Cn_emit gc_Cn (gl_1 hX 2) (gl_2 hX (a := 2) (by decide)) (gl_s hX 2 rfl) rfl (by decide) (by decide) rfl (fun _ => rfl) (fun _ => rfl) T (fun M6 T => ?_)
    refine wp_aload_n d_Rd_openPick_15 rfl rfl (g_nz (gl_1 hX 14)) ?_
    refine xgetR d_Rd_openPick_16 gc_Rd f_Rd_11.1 f_Rd_11.2.1 f_Rd_11.2.2.1 (gl_1 hX 14) (gl_2 hX (a := 14) (by decide)) (gl_s hX 14 rfl) f_Rd_11.2.2.2.2.1 (gl_f hX 14 rfl) ?_
    refine wp_iload_n d_Rd_openPick_19 rfl rfl ?_
    refine wp_iconst d_Rd_openPick_20 ?_
    refine wp_imul d_Rd_openPick_21 ?_
    refine wp_iload_n d_Rd_openPick_22 rfl rfl ?_
    refine wp_iadd d_Rd_openPick_23 ?_
    refine wp_aload_n d_Rd_openPick_24 rfl rfl (g_nz (gl_1 hX 14)) ?_
    refine xgetR d_Rd_openPick_25 gc_Rd f_Rd_19.1 f_Rd_19.2.1 f_Rd_19.2.2.1 (gl_1 hX 14) (gl_2 hX (a := 14) (by decide)) (gl_s hX 14 rfl) f_Rd_19.2.2.2.2.1 (gl_f hX 16 rfl) ?_
    refine xgetI d_Rd_openPick_28 gc_Cn f_Rd_137.1 f_Rd_137.2.1 f_Rd_137.2.2.1 (gl_1 hX 2) (gl_2 hX (a := 2) (by decide)) (gl_s hX 2 rfl) f_Rd_137.2.2.2.2.1 (fun h7 => ?_)
    have T := T h7
    refine xiast d_Rd_openPick_31 (gl_1 hX 15) (gl_2 hX (a := 15) (by decide)) (gl_s hX 15 rfl) (by decide) T.1 (w32_id h7) ?_
    have T := T.2
    refine wp_gets d_Rd_openPick_32 fs_Rd_184 (fun U hU => (hO U hU).2.2.2.2.1.1) ?_
    refine wp_getsN d_Rd_openPick_35 fs_Rd_142 (fun U hU => (hO U hU).2.2.1.1) ?_
    refine wp_iload_n d_Rd_openPick_38 rfl rfl ?_
    have q8 := T.1
    have T := T.2
    refine xo_aald hO d_Rd_openPick_39 (w32_id hx1) q8 ?_
    refine xo_ord hO (g52 q8) d_Rd_openPick_40 (gWs_ord ml_Rd_189) (by simp only [List.map, gR_cat, gI_cat, gL_cat, g_rcat, List.sum_cons, List.sum_nil]; decide) ?_
    refine xo_sw hO d_Rd_openPick_43 (g52 q8) ?_
    obtain ⟨T0, T1, T2⟩ := T
    by_cases hc0 : gSw (Int.toNat x1) = 1
    · refine xlook (off := 28) (tgt := 72) d_Rd_openPick_44 (w32_id (gS32 (g52 q8))) rfl (by rw [hc0]; rfl) (by decide) ?_
      have T := T0 hc0
      refine wp_aload_n d_Rd_openPick_72 rfl rfl (g_nz (gl_1 hX 14)) ?_
      refine xgetR d_Rd_openPick_73 gc_Rd f_Rd_19.1 f_Rd_19.2.1 f_Rd_19.2.2.1 (gl_1 hX 14) (gl_2 hX (a := 14) (by decide)) (gl_s hX 14 rfl) f_Rd_19.2.2.2.2.1 (gl_f hX 16 rfl) ?_
      refine wp_bipush d_Rd_openPick_76 ⟨by decide, by decide⟩ ?_
      refine wp_lconst0 d_Rd_openPick_78 ?_
      refine xcV_V (md' := true) (As := [gI 7, gL 0]) (st := []) d_Rd_openPick_79 ca_Cn_emit ml_Rd_59 im_Cn_emit se_Cn_emit gc_Cn (gl_1 hX 2) (gl_2 hX (a := 2) (by decide)) (gl_s hX 2 rfl) rfl (by decide) (by decide) rfl (fun _ => rfl) (fun _ => rfl) T (fun M9 T => ?_)
      refine wp_goto (tgt := 108) d_Rd_openPick_82 (by decide) ?_
      exact wp_return d_Rd_openPick_108 rfl (fun _ => rfl) (Nat.zero_le _) (Nat.zero_le _) (kV_mk T)
    by_cases hc1 : gSw (Int.toNat x1) = 2
    · refine xlook (off := 41) (tgt := 85) d_Rd_openPick_44 (w32_id (gS32 (g52 q8))) rfl (by rw [hc1]; rfl) (by decide) ?_
      have T := T1 hc1
      refine wp_aload_n d_Rd_openPick_85 rfl rfl (g_nz (gl_1 hX 14)) ?_
      refine xgetR d_Rd_openPick_86 gc_Rd f_Rd_19.1 f_Rd_19.2.1 f_Rd_19.2.2.1 (gl_1 hX 14) (gl_2 hX (a := 14) (by decide)) (gl_s hX 14 rfl) f_Rd_19.2.2.2.2.1 (gl_f hX 16 rfl) ?_
      refine wp_bipush d_Rd_openPick_89 ⟨by decide, by decide⟩ ?_
      refine wp_lconst0 d_Rd_openPick_91 ?_
      refine xcV_V (md' := true) (As := [gI 8, gL 0]) (st := []) d_Rd_openPick_92 ca_Cn_emit ml_Rd_59 im_Cn_emit se_Cn_emit gc_Cn (gl_1 hX 2) (gl_2 hX (a := 2) (by decide)) (gl_s hX 2 rfl) rfl (by decide) (by decide) rfl (fun _ => rfl) (fun _ => rfl) T (fun M10 T => ?_)
      refine wp_goto (tgt := 108) d_Rd_openPick_95 (by decide) ?_
      exact wp_return d_Rd_openPick_108 rfl (fun _ => rfl) (Nat.zero_le _) (Nat.zero_le _) (kV_mk T)
    refine xlook (off := 54) (tgt := 98) d_Rd_openPick_44 (w32_id (gS32 (g52 q8))) rfl (show Op.lookupswitch.offset [(1, 28), (2, 41)] 54 (gSw (Int.toNat x1)) = 54 by simp only [Op.lookupswitch.offset, if_neg (Ne.symm hc0), if_neg (Ne.symm hc1)]) (by decide) ?_
    have T := T2 ⟨hc0, hc1⟩
    refine wp_aload_n d_Rd_openPick_98 rfl rfl (g_nz (gl_1 hX 14)) ?_
    refine xgetR d_Rd_openPick_99 gc_Rd f_Rd_19.1 f_Rd_19.2.1 f_Rd_19.2.2.1 (gl_1 hX 14) (gl_2 hX (a := 14) (by decide)) (gl_s hX 14 rfl) f_Rd_19.2.2.2.2.1 (gl_f hX 16 rfl) ?_
    refine wp_bipush d_Rd_openPick_102 ⟨by decide, by decide⟩ ?_
    refine wp_lconst0 d_Rd_openPick_104 ?_
    refine xcV_V (md' := true) (As := [gI 9, gL 0]) (st := []) d_Rd_openPick_105 ca_Cn_emit ml_Rd_59 im_Cn_emit se_Cn_emit gc_Cn (gl_1 hX 2) (gl_2 hX (a := 2) (by decide)) (gl_s hX 2 rfl) rfl (by decide) (by decide) rfl (fun _ => rfl) (fun _ => rfl) T (fun M11 T => ?_)
    exact wp_return d_Rd_openPick_108 rfl (fun _ => rfl) (Nat.zero_le _) (Nat.zero_le _) (kV_mk T)
theorem e_Rd_openPick {l : Launch} {G : gG} {d : Nat} {X : gX} {M : gM} {k : gM → Prop} {Q : gQ} {c : Nat} {x1 : Int} {x2 : Int} {x3 : Int} (T : wp l G y_Rd_openPick (gRm (d + 1)) true (kkV X k) false 0 [.val (gR G (c + 14)), .val (gI x1), .val (gI x2), .val (gI x3)] [] X M 0 0) : cV l G y_Rd_openPick (gRm (d + 1)) true [gR G (c + 14), gI x1, gI x2, gI x3] X M k := cen_V (plainFor_of_name rfl) (by simp only [lg_sl_R, lg_sl_I, lg_sl_L, lg_sl_N, List.length_cons, List.length_nil]; decide) (by unfold gEn; simp only [lg_sl_R, lg_sl_I, lg_sl_L, lg_sl_N]; exact wpt T (And.intro rfl (And.intro rfl (And.intro rfl (And.intro rfl True.intro)))))
