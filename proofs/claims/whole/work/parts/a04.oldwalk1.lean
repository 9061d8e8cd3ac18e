/-! Walks over Work and strings, written by wip/whole/gen_more.py -/
theorem d_Ma_run_0 : decode prog_6_method_3_code 0 = .ok (.aload_n 0, 1) := by decide +kernel
theorem d_Ma_run_1 : decode prog_6_method_3_code 1 = .ok (.getfield 28, 3) := by decide +kernel
theorem d_Ma_run_4 : decode prog_6_method_3_code 4 = .ok (.getfield 44, 3) := by decide +kernel
theorem d_Ma_run_7 : decode prog_6_method_3_code 7 = .ok (.iload_n 1, 1) := by decide +kernel
theorem d_Ma_run_8 : decode prog_6_method_3_code 8 = .ok (.iaload, 1) := by decide +kernel
theorem d_Ma_run_9 : decode prog_6_method_3_code 9 = .ok (.istore_n 2, 1) := by decide +kernel
theorem d_Ma_run_10 : decode prog_6_method_3_code 10 = .ok (.aload_n 0, 1) := by decide +kernel
theorem d_Ma_run_11 : decode prog_6_method_3_code 11 = .ok (.getfield 24, 3) := by decide +kernel
theorem d_Ma_run_14 : decode prog_6_method_3_code 14 = .ok (.getfield 50, 3) := by decide +kernel
theorem d_Ma_run_17 : decode prog_6_method_3_code 17 = .ok (.iload_n 2, 1) := by decide +kernel
theorem d_Ma_run_18 : decode prog_6_method_3_code 18 = .ok (.iaload, 1) := by decide +kernel
theorem d_Ma_run_19 : decode prog_6_method_3_code 19 = .ok (.istore_n 3, 1) := by decide +kernel
theorem d_Ma_run_20 : decode prog_6_method_3_code 20 = .ok (.aload_n 0, 1) := by decide +kernel
theorem d_Ma_run_21 : decode prog_6_method_3_code 21 = .ok (.getfield 24, 3) := by decide +kernel
theorem d_Ma_run_24 : decode prog_6_method_3_code 24 = .ok (.getfield 55, 3) := by decide +kernel
theorem d_Ma_run_27 : decode prog_6_method_3_code 27 = .ok (.iload_n 2, 1) := by decide +kernel
theorem d_Ma_run_28 : decode prog_6_method_3_code 28 = .ok (.iaload, 1) := by decide +kernel
theorem d_Ma_run_29 : decode prog_6_method_3_code 29 = .ok (.istore 4, 2) := by decide +kernel
theorem d_Ma_run_31 : decode prog_6_method_3_code 31 = .ok (.aload_n 0, 1) := by decide +kernel
theorem d_Ma_run_32 : decode prog_6_method_3_code 32 = .ok (.aload_n 0, 1) := by decide +kernel
theorem d_Ma_run_33 : decode prog_6_method_3_code 33 = .ok (.getfield 28, 3) := by decide +kernel
theorem d_Ma_run_36 : decode prog_6_method_3_code 36 = .ok (.getfield 58, 3) := by decide +kernel
theorem d_Ma_run_39 : decode prog_6_method_3_code 39 = .ok (.iload_n 1, 1) := by decide +kernel
theorem d_Ma_run_40 : decode prog_6_method_3_code 40 = .ok (.iaload, 1) := by decide +kernel
theorem d_Ma_run_41 : decode prog_6_method_3_code 41 = .ok (.putfield 61, 3) := by decide +kernel
theorem d_Ma_run_44 : decode prog_6_method_3_code 44 = .ok (.aload_n 0, 1) := by decide +kernel
theorem d_Ma_run_45 : decode prog_6_method_3_code 45 = .ok (.iconst 0, 1) := by decide +kernel
theorem d_Ma_run_46 : decode prog_6_method_3_code 46 = .ok (.putfield 65, 3) := by decide +kernel
theorem d_Ma_run_49 : decode prog_6_method_3_code 49 = .ok (.iload_n 3, 1) := by decide +kernel
theorem d_Ma_run_50 : decode prog_6_method_3_code 50 = .ok (.iload 4, 2) := by decide +kernel
theorem d_Ma_run_52 : decode prog_6_method_3_code 52 = .ok (.isub, 1) := by decide +kernel
theorem d_Ma_run_53 : decode prog_6_method_3_code 53 = .ok (.istore 5, 2) := by decide +kernel
theorem d_Ma_run_55 : decode prog_6_method_3_code 55 = .ok (.iload 5, 2) := by decide +kernel
theorem d_Ma_run_57 : decode prog_6_method_3_code 57 = .ok (.ifCond .le 157, 3) := by decide +kernel
theorem d_Ma_run_214 : decode prog_6_method_3_code 214 = .ok (.aload_n 0, 1) := by decide +kernel
theorem d_Ma_run_215 : decode prog_6_method_3_code 215 = .ok (.getfield 14, 3) := by decide +kernel
theorem d_Ma_run_218 : decode prog_6_method_3_code 218 = .ok (.getfield 107, 3) := by decide +kernel
theorem d_Ma_run_221 : decode prog_6_method_3_code 221 = .ok (.iconst 0, 1) := by decide +kernel
theorem d_Ma_run_222 : decode prog_6_method_3_code 222 = .ok (.iaload, 1) := by decide +kernel
theorem d_Ma_run_223 : decode prog_6_method_3_code 223 = .ok (.ifCond .ne 13, 3) := by decide +kernel
theorem d_Ma_run_236 : decode prog_6_method_3_code 236 = .ok (.return_, 1) := by decide +kernel
theorem d_Ma_run_226 : decode prog_6_method_3_code 226 = .ok (.aload_n 0, 1) := by decide +kernel
theorem d_Ma_run_227 : decode prog_6_method_3_code 227 = .ok (.getfield 14, 3) := by decide +kernel
theorem d_Ma_run_230 : decode prog_6_method_3_code 230 = .ok (.iconst 0, 1) := by decide +kernel
theorem d_Ma_run_231 : decode prog_6_method_3_code 231 = .ok (.iconst 1, 1) := by decide +kernel
theorem d_Ma_run_232 : decode prog_6_method_3_code 232 = .ok (.lconst 0, 1) := by decide +kernel
theorem d_Ma_run_233 : decode prog_6_method_3_code 233 = .ok (.invokevirtual 110, 3) := by decide +kernel
theorem d_Ma_run_60 : decode prog_6_method_3_code 60 = .ok (.iload 4, 2) := by decide +kernel
theorem d_Ma_run_62 : decode prog_6_method_3_code 62 = .ok (.iload_n 3, 1) := by decide +kernel
theorem d_Ma_run_63 : decode prog_6_method_3_code 63 = .ok (.if_icmp .ge 151, 3) := by decide +kernel
theorem d_Ma_run_66 : decode prog_6_method_3_code 66 = .ok (.aload_n 0, 1) := by decide +kernel
theorem d_Ma_run_67 : decode prog_6_method_3_code 67 = .ok (.getfield 24, 3) := by decide +kernel
theorem d_Ma_run_70 : decode prog_6_method_3_code 70 = .ok (.getfield 68, 3) := by decide +kernel
theorem d_Ma_run_73 : decode prog_6_method_3_code 73 = .ok (.iload 4, 2) := by decide +kernel
theorem d_Ma_run_75 : decode prog_6_method_3_code 75 = .ok (.laload, 1) := by decide +kernel
theorem d_Ma_run_76 : decode prog_6_method_3_code 76 = .ok (.lstore 6, 2) := by decide +kernel
theorem d_Ma_run_78 : decode prog_6_method_3_code 78 = .ok (.aload_n 0, 1) := by decide +kernel
theorem d_Ma_run_79 : decode prog_6_method_3_code 79 = .ok (.getfield 24, 3) := by decide +kernel
theorem d_Ma_run_82 : decode prog_6_method_3_code 82 = .ok (.getfield 72, 3) := by decide +kernel
theorem d_Ma_run_85 : decode prog_6_method_3_code 85 = .ok (.iload 4, 2) := by decide +kernel
theorem d_Ma_run_87 : decode prog_6_method_3_code 87 = .ok (.iaload, 1) := by decide +kernel
theorem d_Ma_run_88 : decode prog_6_method_3_code 88 = .ok (.istore 8, 2) := by decide +kernel
theorem d_Ma_run_90 : decode prog_6_method_3_code 90 = .ok (.iload 8, 2) := by decide +kernel
theorem d_Ma_run_92 : decode prog_6_method_3_code 92 = .ok (.bipush 11, 2) := by decide +kernel
theorem d_Ma_run_94 : decode prog_6_method_3_code 94 = .ok (.if_icmp .ne 64, 3) := by decide +kernel
theorem d_Ma_run_158 : decode prog_6_method_3_code 158 = .ok (.iload 8, 2) := by decide +kernel
theorem d_Ma_run_160 : decode prog_6_method_3_code 160 = .ok (.bipush 10, 2) := by decide +kernel
theorem d_Ma_run_162 : decode prog_6_method_3_code 162 = .ok (.if_icmp .ne 11, 3) := by decide +kernel
theorem d_Ma_run_173 : decode prog_6_method_3_code 173 = .ok (.iload 8, 2) := by decide +kernel
theorem d_Ma_run_175 : decode prog_6_method_3_code 175 = .ok (.bipush 7, 2) := by decide +kernel
theorem d_Ma_run_177 : decode prog_6_method_3_code 177 = .ok (.if_icmp .lt 20, 3) := by decide +kernel
theorem d_Ma_run_197 : decode prog_6_method_3_code 197 = .ok (.aload_n 0, 1) := by decide +kernel
theorem d_Ma_run_198 : decode prog_6_method_3_code 198 = .ok (.iload 8, 2) := by decide +kernel
theorem d_Ma_run_200 : decode prog_6_method_3_code 200 = .ok (.lload 6, 2) := by decide +kernel
theorem d_Ma_run_202 : decode prog_6_method_3_code 202 = .ok (.invokevirtual 103, 3) := by decide +kernel
theorem d_Ma_run_205 : decode prog_6_method_3_code 205 = .ok (.iinc 4 1, 3) := by decide +kernel
theorem d_Ma_run_208 : decode prog_6_method_3_code 208 = .ok (.iinc 5 (-1), 3) := by decide +kernel
theorem d_Ma_run_211 : decode prog_6_method_3_code 211 = .ok (.goto (-156), 3) := by decide +kernel
theorem d_Ma_run_180 : decode prog_6_method_3_code 180 = .ok (.aload_n 0, 1) := by decide +kernel
theorem d_Ma_run_181 : decode prog_6_method_3_code 181 = .ok (.iload 8, 2) := by decide +kernel
theorem d_Ma_run_183 : decode prog_6_method_3_code 183 = .ok (.lload 6, 2) := by decide +kernel
theorem d_Ma_run_185 : decode prog_6_method_3_code 185 = .ok (.iload 4, 2) := by decide +kernel
theorem d_Ma_run_187 : decode prog_6_method_3_code 187 = .ok (.iconst 1, 1) := by decide +kernel
theorem d_Ma_run_188 : decode prog_6_method_3_code 188 = .ok (.iadd, 1) := by decide +kernel
theorem d_Ma_run_189 : decode prog_6_method_3_code 189 = .ok (.invokevirtual 99, 3) := by decide +kernel
theorem d_Ma_run_192 : decode prog_6_method_3_code 192 = .ok (.istore 4, 2) := by decide +kernel
theorem d_Ma_run_194 : decode prog_6_method_3_code 194 = .ok (.goto 14, 3) := by decide +kernel
theorem d_Ma_run_165 : decode prog_6_method_3_code 165 = .ok (.lload 6, 2) := by decide +kernel
theorem d_Ma_run_167 : decode prog_6_method_3_code 167 = .ok (.l2i, 1) := by decide +kernel
theorem d_Ma_run_168 : decode prog_6_method_3_code 168 = .ok (.istore 4, 2) := by decide +kernel
theorem d_Ma_run_170 : decode prog_6_method_3_code 170 = .ok (.goto 38, 3) := by decide +kernel
theorem d_Ma_run_97 : decode prog_6_method_3_code 97 = .ok (.getstatic 75, 3) := by decide +kernel
theorem d_Ma_run_100 : decode prog_6_method_3_code 100 = .ok (.lload 6, 2) := by decide +kernel
theorem d_Ma_run_102 : decode prog_6_method_3_code 102 = .ok (.l2i, 1) := by decide +kernel
theorem d_Ma_run_103 : decode prog_6_method_3_code 103 = .ok (.aaload, 1) := by decide +kernel
theorem d_Ma_run_104 : decode prog_6_method_3_code 104 = .ok (.astore 9, 2) := by decide +kernel
theorem d_Ma_run_106 : decode prog_6_method_3_code 106 = .ok (.aload_n 0, 1) := by decide +kernel
theorem d_Ma_run_107 : decode prog_6_method_3_code 107 = .ok (.dup, 1) := by decide +kernel
theorem d_Ma_run_108 : decode prog_6_method_3_code 108 = .ok (.getfield 65, 3) := by decide +kernel
theorem d_Ma_run_111 : decode prog_6_method_3_code 111 = .ok (.aload 9, 2) := by decide +kernel
theorem d_Ma_run_113 : decode prog_6_method_3_code 113 = .ok (.getfield 79, 3) := by decide +kernel
theorem d_Ma_run_116 : decode prog_6_method_3_code 116 = .ok (.invokevirtual 85, 3) := by decide +kernel
theorem d_Ma_run_119 : decode prog_6_method_3_code 119 = .ok (.iconst 1, 1) := by decide +kernel
theorem d_Ma_run_120 : decode prog_6_method_3_code 120 = .ok (.isub, 1) := by decide +kernel
theorem d_Ma_run_121 : decode prog_6_method_3_code 121 = .ok (.isub, 1) := by decide +kernel
theorem d_Ma_run_122 : decode prog_6_method_3_code 122 = .ok (.putfield 65, 3) := by decide +kernel
theorem d_Ma_run_125 : decode prog_6_method_3_code 125 = .ok (.aload_n 0, 1) := by decide +kernel
theorem d_Ma_run_126 : decode prog_6_method_3_code 126 = .ok (.aload 9, 2) := by decide +kernel
theorem d_Ma_run_128 : decode prog_6_method_3_code 128 = .ok (.aload_n 0, 1) := by decide +kernel
theorem d_Ma_run_129 : decode prog_6_method_3_code 129 = .ok (.getfield 65, 3) := by decide +kernel
theorem d_Ma_run_132 : decode prog_6_method_3_code 132 = .ok (.iconst 1, 1) := by decide +kernel
theorem d_Ma_run_133 : decode prog_6_method_3_code 133 = .ok (.isub, 1) := by decide +kernel
theorem d_Ma_run_134 : decode prog_6_method_3_code 134 = .ok (.invokevirtual 91, 3) := by decide +kernel
theorem d_Ma_run_137 : decode prog_6_method_3_code 137 = .ok (.ifCond .eq 15, 3) := by decide +kernel
theorem d_Ma_run_152 : decode prog_6_method_3_code 152 = .ok (.iinc 4 1, 3) := by decide +kernel
theorem d_Ma_run_155 : decode prog_6_method_3_code 155 = .ok (.goto 53, 3) := by decide +kernel
theorem d_Ma_run_140 : decode prog_6_method_3_code 140 = .ok (.aload_n 0, 1) := by decide +kernel
theorem d_Ma_run_141 : decode prog_6_method_3_code 141 = .ok (.aload 9, 2) := by decide +kernel
theorem d_Ma_run_143 : decode prog_6_method_3_code 143 = .ok (.aload_n 0, 1) := by decide +kernel
theorem d_Ma_run_144 : decode prog_6_method_3_code 144 = .ok (.getfield 65, 3) := by decide +kernel
theorem d_Ma_run_147 : decode prog_6_method_3_code 147 = .ok (.iconst 1, 1) := by decide +kernel
theorem d_Ma_run_148 : decode prog_6_method_3_code 148 = .ok (.isub, 1) := by decide +kernel
theorem d_Ma_run_149 : decode prog_6_method_3_code 149 = .ok (.invokevirtual 95, 3) := by decide +kernel
set_option maxHeartbeats 4000000 in
theorem w_Ma_run_0 {l : Launch} {G : gG} {d : Nat} {X : gX} {M : gM} {k : gM → Prop} {c : Nat} (hX : glX X c) {Q : gQ} (hO : gOld G Q) {x1 : Int} (hx1 : g32 x1) {s0 : Nat} (hs0 : X.2.2 (c + 1057) 4 = s0 ∧ gsX X s0) (T : ((0 : Int) ≤ x1 ∧ x1 < 400) ∧ (g32 (M (s0 + 2) (Int.toNat x1)) → (((0 : Int) ≤ M (s0 + 2) (Int.toNat x1) ∧ M (s0 + 2) (Int.toNat x1) < 513) ∧ (g32 (M (c + 5) (Int.toNat (M (s0 + 2) (Int.toNat x1)))) → (((0 : Int) ≤ M (s0 + 2) (Int.toNat x1) ∧ M (s0 + 2) (Int.toNat x1) < 513) ∧ (g32 (M (c + 4) (Int.toNat (M (s0 + 2) (Int.toNat x1)))) → (((0 : Int) ≤ x1 ∧ x1 < 401) ∧ (g32 (M (s0 + 3) (Int.toNat x1)) → (wp l G y_Ma_run (gRm (d + 5)) true (kkV X k) true 55 [.val (gR G (c + 1057)), .unset, .unset, .val (gI (M (c + 5) (Int.toNat (M (s0 + 2) (Int.toNat x1))))), .val (gI (M (c + 4) (Int.toNat (M (s0 + 2) (Int.toNat x1))))), .val (gI (w32 ((M (c + 5) (Int.toNat (M (s0 + 2) (Int.toNat x1)))) - (M (c + 4) (Int.toNat (M (s0 + 2) (Int.toNat x1))))))), .unset, .unset, .unset, .unset] [] X (gUp (gUp M (c + 1057) 5 (M (s0 + 3) (Int.toNat x1))) (c + 1057) 6 0) 0 0))))))))) : wp l G y_Ma_run (gRm (d + 5)) true (kkV X k) false 0 [.val (gR G (c + 1057)), .val (gI x1), .unset, .unset, .unset, .unset, .unset, .unset, .unset, .unset] [] X M 0 0 := by
  refine wp_aload_n d_Ma_run_0 rfl rfl (g_nz (gl_1 hX 1057)) ?_
  refine xgetR d_Ma_run_1 gc_Ma f_Ma_28.1 f_Ma_28.2.1 f_Ma_28.2.2.1 (gl_1 hX 1057) (gl_2 hX (a := 1057) (by decide)) (gl_s hX 37 rfl) f_Ma_28.2.2.2.2.1 hs0.1 ?_
  refine xgetR d_Ma_run_4 gc_St f_Ma_44.1 f_Ma_44.2.1 f_Ma_44.2.2.1 hs0.2.1 (gs_2 hs0.2) hs0.2.2.2.1 f_Ma_44.2.2.2.2.1 (gs_r hs0.2 1 rfl).1 ?_
  refine wp_iload_n d_Ma_run_7 rfl rfl ?_
  refine wp_iaload d_Ma_run_8 (gs_r hs0.2 1 rfl).2.2.1 (gs_r hs0.2 1 rfl).2.2.2 (gs_r hs0.2 1 rfl).2.1 (g32_n T.1 (by decide)) T.1.1 T.1.2 (fun h1 => ?_)
  have T := T.2 h1
  refine wp_istore_n (L' := [.val (gR G (c + 1057)), .val (gI x1), .val (gI (M (s0 + 2) (Int.toNat x1))), .unset, .unset, .unset, .unset, .unset, .unset, .unset]) d_Ma_run_9 rfl (by decide) rfl ?_
  refine wp_aload_n d_Ma_run_10 rfl rfl (g_nz (gl_1 hX 1057)) ?_
  refine xgetR d_Ma_run_11 gc_Ma f_Ma_24.1 f_Ma_24.2.1 f_Ma_24.2.2.1 (gl_1 hX 1057) (gl_2 hX (a := 1057) (by decide)) (gl_s hX 37 rfl) f_Ma_24.2.2.2.2.1 (gl_f hX 44 rfl) ?_
  refine xgetR d_Ma_run_14 gc_Cn f_Ma_50.1 f_Ma_50.2.1 f_Ma_50.2.2.1 (gl_1 hX 2) (gl_2 hX (a := 2) (by decide)) (gl_s hX 2 rfl) f_Ma_50.2.2.2.2.1 (gl_f hX 4 rfl) ?_
  refine wp_iload_n d_Ma_run_17 rfl rfl ?_
  refine wp_iaload d_Ma_run_18 (gl_1 hX 5) (gl_2 hX (a := 5) (by decide)) (gl_s hX 5 rfl) (g32_n T.1 (by decide)) T.1.1 T.1.2 (fun h2 => ?_)
  have T := T.2 h2
  refine wp_istore_n (L' := [.val (gR G (c + 1057)), .val (gI x1), .val (gI (M (s0 + 2) (Int.toNat x1))), .val (gI (M (c + 5) (Int.toNat (M (s0 + 2) (Int.toNat x1))))), .unset, .unset, .unset, .unset, .unset, .unset]) d_Ma_run_19 rfl (by decide) rfl ?_
  refine wp_aload_n d_Ma_run_20 rfl rfl (g_nz (gl_1 hX 1057)) ?_
  refine xgetR d_Ma_run_21 gc_Ma f_Ma_24.1 f_Ma_24.2.1 f_Ma_24.2.2.1 (gl_1 hX 1057) (gl_2 hX (a := 1057) (by decide)) (gl_s hX 37 rfl) f_Ma_24.2.2.2.2.1 (gl_f hX 44 rfl) ?_
  refine xgetR d_Ma_run_24 gc_Cn f_Ma_55.1 f_Ma_55.2.1 f_Ma_55.2.2.1 (gl_1 hX 2) (gl_2 hX (a := 2) (by decide)) (gl_s hX 2 rfl) f_Ma_55.2.2.2.2.1 (gl_f hX 3 rfl) ?_
  refine wp_iload_n d_Ma_run_27 rfl rfl ?_
  refine wp_iaload d_Ma_run_28 (gl_1 hX 4) (gl_2 hX (a := 4) (by decide)) (gl_s hX 4 rfl) (g32_n T.1 (by decide)) T.1.1 T.1.2 (fun h3 => ?_)
  have T := T.2 h3
  refine wp_istore (L' := [.val (gR G (c + 1057)), .val (gI x1), .val (gI (M (s0 + 2) (Int.toNat x1))), .val (gI (M (c + 5) (Int.toNat (M (s0 + 2) (Int.toNat x1))))), .val (gI (M (c + 4) (Int.toNat (M (s0 + 2) (Int.toNat x1))))), .unset, .unset, .unset, .unset, .unset]) d_Ma_run_29 (by decide) rfl ?_
  refine wp_aload_n d_Ma_run_31 rfl rfl (g_nz (gl_1 hX 1057)) ?_
  refine wp_aload_n d_Ma_run_32 rfl rfl (g_nz (gl_1 hX 1057)) ?_
  refine xgetR d_Ma_run_33 gc_Ma f_Ma_28.1 f_Ma_28.2.1 f_Ma_28.2.2.1 (gl_1 hX 1057) (gl_2 hX (a := 1057) (by decide)) (gl_s hX 37 rfl) f_Ma_28.2.2.2.2.1 hs0.1 ?_
  refine xgetR d_Ma_run_36 gc_St f_Ma_58.1 f_Ma_58.2.1 f_Ma_58.2.2.1 hs0.2.1 (gs_2 hs0.2) hs0.2.2.2.1 f_Ma_58.2.2.2.2.1 (gs_r hs0.2 2 rfl).1 ?_
  refine wp_iload_n d_Ma_run_39 rfl rfl ?_
  refine wp_iaload d_Ma_run_40 (gs_r hs0.2 2 rfl).2.2.1 (gs_r hs0.2 2 rfl).2.2.2 (gs_r hs0.2 2 rfl).2.1 (g32_n T.1 (by decide)) T.1.1 T.1.2 (fun h4 => ?_)
  have T := T.2 h4
  refine xputI d_Ma_run_41 gc_Ma f_Ma_61.1 f_Ma_61.2.1 f_Ma_61.2.2.1 (gl_1 hX 1057) (gl_2 hX (a := 1057) (by decide)) (gl_s hX 37 rfl) f_Ma_61.2.2.2.1 f_Ma_61.2.2.2.2.1 f_Ma_61.2.2.2.2.2 (w32_id h4) ?_
  refine wp_aload_n d_Ma_run_44 rfl rfl (g_nz (gl_1 hX 1057)) ?_
  refine wp_iconst d_Ma_run_45 ?_
  refine xputI d_Ma_run_46 gc_Ma f_Ma_65.1 f_Ma_65.2.1 f_Ma_65.2.2.1 (gl_1 hX 1057) (gl_2 hX (a := 1057) (by decide)) (gl_s hX 37 rfl) f_Ma_65.2.2.2.1 f_Ma_65.2.2.2.2.1 f_Ma_65.2.2.2.2.2 (w32_id (g32_c (x := 0) rfl)) ?_
  refine wp_iload_n d_Ma_run_49 rfl rfl ?_
  refine wp_iload d_Ma_run_50 rfl ?_
  refine wp_isub d_Ma_run_52 ?_
  refine wp_istore (L' := [.val (gR G (c + 1057)), .val (gI x1), .val (gI (M (s0 + 2) (Int.toNat x1))), .val (gI (M (c + 5) (Int.toNat (M (s0 + 2) (Int.toNat x1))))), .val (gI (M (c + 4) (Int.toNat (M (s0 + 2) (Int.toNat x1))))), .val (gI ((M (c + 5) (Int.toNat (M (s0 + 2) (Int.toNat x1)))) - (M (c + 4) (Int.toNat (M (s0 + 2) (Int.toNat x1)))))), .unset, .unset, .unset, .unset]) d_Ma_run_53 (by decide) rfl ?_
  exact wp_md (wpt T (And.intro rfl (And.intro rfl (And.intro rfl (And.intro (gI_w _) True.intro)))))
set_option maxHeartbeats 4000000 in
theorem w_Ma_run_55 {l : Launch} {G : gG} {d : Nat} {X : gX} {M : gM} {k : gM → Prop} {c : Nat} (hX : glX X c) {Q : gQ} (hO : gOld G Q) {x3 : Int} (hx3 : g32 x3) {x4 : Int} (hx4 : g32 x4) {x5 : Int} (hx5 : g32 x5) {s0 : Nat} (hs0 : X.2.2 (c + 1057) 4 = s0 ∧ gsX X s0) (T : (x5 ≤ 0 → (((0 : Int) ≤ (0 : Int) ∧ (0 : Int) < 104) ∧ (g32 (M ((c + 1058) + 1) (Int.toNat 0)) → ((¬ M ((c + 1058) + 1) (Int.toNat 0) = 0 → (k M)) ∧ (M ((c + 1058) + 1) (Int.toNat 0) = 0 → (cV l G y_Vl_set (gRm (d + 4)) true [gR G (c + 1058), gI 0, gI 1, gL 0] X M (fun M6 => (k M6)))))))) ∧ (¬ x5 ≤ 0 → ((x3 ≤ x4 → (((0 : Int) ≤ (0 : Int) ∧ (0 : Int) < 104) ∧ (g32 (M ((c + 1058) + 1) (Int.toNat 0)) → ((¬ M ((c + 1058) + 1) (Int.toNat 0) = 0 → (k M)) ∧ (M ((c + 1058) + 1) (Int.toNat 0) = 0 → (cV l G y_Vl_set (gRm (d + 4)) true [gR G (c + 1058), gI 0, gI 1, gL 0] X M (fun M9 => (k M9)))))))) ∧ (¬ x3 ≤ x4 → (((0 : Int) ≤ x4 ∧ x4 < 10480) ∧ (g64 (M (c + 10) (Int.toNat x4)) → (((0 : Int) ≤ x4 ∧ x4 < 10480) ∧ (g32 (M (c + 9) (Int.toNat x4)) → ((¬ M (c + 9) (Int.toNat x4) = 11 → ((¬ M (c + 9) (Int.toNat x4) = 10 → ((M (c + 9) (Int.toNat x4) < 7 → (cV l G y_Ma_push (gRm (d + 4)) true [gR G (c + 1057), gI (M (c + 9) (Int.toNat x4)), gL (M (c + 10) (Int.toNat x4))] X M (fun M13 => (wp l G y_Ma_run (gRm (d + 5)) true (kkV X k) true 55 [.val (gR G (c + 1057)), .unset, .unset, .val (gI x3), .val (gI (w32 (x4 + 1))), .val (gI (w32 (x5 + (-1)))), .unset, .unset, .unset, .unset] [] X M13 0 0)))) ∧ (¬ M (c + 9) (Int.toNat x4) < 7 → (cI l G y_Ma_pick (gRm (d + 4)) true [gR G (c + 1057), gI (M (c + 9) (Int.toNat x4)), gL (M (c + 10) (Int.toNat x4)), gI (x4 + 1)] X M (fun v15 M14 => (wp l G y_Ma_run (gRm (d + 5)) true (kkV X k) true 55 [.val (gR G (c + 1057)), .unset, .unset, .val (gI x3), .val (gI v15), .val (gI (w32 (x5 + (-1)))), .unset, .unset, .unset, .unset] [] X M14 0 0)))))) ∧ (M (c + 9) (Int.toNat x4) = 10 → (wp l G y_Ma_run (gRm (d + 5)) true (kkV X k) true 55 [.val (gR G (c + 1057)), .unset, .unset, .val (gI x3), .val (gI (w32 (M (c + 10) (Int.toNat x4)))), .val (gI (w32 (x5 + (-1)))), .unset, .unset, .unset, .unset] [] X M 0 0)))) ∧ (M (c + 9) (Int.toNat x4) = 11 → (((0 : Int) ≤ (w32 (M (c + 10) (Int.toNat x4))) ∧ (w32 (M (c + 10) (Int.toNat x4))) < 52) ∧ (g32 (M (c + 1057) 6) → (g32 ((gUp M (c + 1057) 6 (w32 ((M (c + 1057) 6) - ((gSl (gWta (Int.toNat (w32 (M (c + 10) (Int.toNat x4))))) : Int) - 1)))) (c + 1057) 6) → (cZ l G y_Ma_isReady (gRm (d + 4)) true [gR G (c + 1057), .ref (Q.1 (Int.toNat (w32 (M (c + 10) (Int.toNat x4))))), gI (((gUp M (c + 1057) 6 (w32 ((M (c + 1057) 6) - ((gSl (gWta (Int.toNat (w32 (M (c + 10) (Int.toNat x4))))) : Int) - 1)))) (c + 1057) 6) - 1)] X (gUp M (c + 1057) 6 (w32 ((M (c + 1057) 6) - ((gSl (gWta (Int.toNat (w32 (M (c + 10) (Int.toNat x4))))) : Int) - 1)))) (fun v23 M22 => ((v23 = 0 → (wp l G y_Ma_run (gRm (d + 5)) true (kkV X k) true 55 [.val (gR G (c + 1057)), .unset, .unset, .val (gI x3), .val (gI (w32 (x4 + 1))), .val (gI (w32 (x5 + (-1)))), .unset, .unset, .unset, .unset] [] X M22 0 0)) ∧ (¬ v23 = 0 → (g32 (M22 (c + 1057) 6) → (cV l G y_Ma_workOut (gRm (d + 4)) true [gR G (c + 1057), .ref (Q.1 (Int.toNat (w32 (M (c + 10) (Int.toNat x4))))), gI ((M22 (c + 1057) 6) - 1)] X M22 (fun M26 => (wp l G y_Ma_run (gRm (d + 5)) true (kkV X k) true 55 [.val (gR G (c + 1057)), .unset, .unset, .val (gI x3), .val (gI (w32 (x4 + 1))), .val (gI (w32 (x5 + (-1)))), .unset, .unset, .unset, .unset] [] X M26 0 0))))))))))))))))))))) : wp l G y_Ma_run (gRm (d + 5)) true (kkV X k) true 55 [.val (gR G (c + 1057)), .unset, .unset, .val (gI x3), .val (gI x4), .val (gI x5), .unset, .unset, .unset, .unset] [] X M 0 0 := by
  refine wp_iload d_Ma_run_55 rfl ?_
  refine xz_le (tgt := 214) d_Ma_run_57 (by decide) (w32_id hx5) (fun h30 => ?_) (fun h30 => ?_)
  · have T := T.1 h30
    refine wp_aload_n d_Ma_run_214 rfl rfl (g_nz (gl_1 hX 1057)) ?_
    refine xgetR d_Ma_run_215 gc_Ma f_Ma_14.1 f_Ma_14.2.1 f_Ma_14.2.2.1 (gl_1 hX 1057) (gl_2 hX (a := 1057) (by decide)) (gl_s hX 37 rfl) f_Ma_14.2.2.2.2.1 (gl_f hX 42 rfl) ?_
    refine xgetR d_Ma_run_218 gc_Vl f_Ma_107.1 f_Ma_107.2.1 f_Ma_107.2.2.1 (gl_stk hX).1 (gv_2 (gl_stk hX)) (gl_stk hX).2.2.1 f_Ma_107.2.2.2.2.1 (gv_r1 (gl_stk hX)).1 ?_
    refine wp_iconst d_Ma_run_221 ?_
    refine wp_iaload d_Ma_run_222 (gv_r1 (gl_stk hX)).2.2.1 (gv_r1 (gl_stk hX)).2.2.2 (gv_r1 (gl_stk hX)).2.1 (g32_n T.1 (gv_n (gl_stk hX))) T.1.1 T.1.2 (fun h5 => ?_)
    have T := T.2 h5
    refine xz_ne (tgt := 236) d_Ma_run_223 (by decide) (w32_id h5) (fun h7 => ?_) (fun h7 => ?_)
    · have T := T.1 h7
      exact wp_return d_Ma_run_236 rfl (fun _ => rfl) (Nat.zero_le _) (Nat.zero_le _) (kV_mk T)
    · have T := T.2 h7
      refine wp_aload_n d_Ma_run_226 rfl rfl (g_nz (gl_1 hX 1057)) ?_
      refine xgetR d_Ma_run_227 gc_Ma f_Ma_14.1 f_Ma_14.2.1 f_Ma_14.2.2.1 (gl_1 hX 1057) (gl_2 hX (a := 1057) (by decide)) (gl_s hX 37 rfl) f_Ma_14.2.2.2.2.1 (gl_f hX 42 rfl) ?_
      refine wp_iconst d_Ma_run_230 ?_
      refine wp_iconst d_Ma_run_231 ?_
      refine wp_lconst0 d_Ma_run_232 ?_
      refine xcV_V (md' := true) (As := [gI 0, gI 1, gL 0]) (st := []) d_Ma_run_233 ca_Vl_set ml_Ma_110 im_Vl_set se_Vl_set gc_Vl (gl_stk hX).1 (gv_2 (gl_stk hX)) (gl_stk hX).2.2.1 rfl (by decide) (by decide) rfl (fun _ => rfl) (fun _ => rfl) T (fun M6 T => ?_)
      exact wp_return d_Ma_run_236 rfl (fun _ => rfl) (Nat.zero_le _) (Nat.zero_le _) (kV_mk T)
  · have T := T.2 h30
    refine wp_iload d_Ma_run_60 rfl ?_
    refine wp_iload_n d_Ma_run_62 rfl rfl ?_
    refine xi_ge (tgt := 214) d_Ma_run_63 (by decide) (w32_id hx4) (w32_id hx3) (fun h29 => ?_) (fun h29 => ?_)
    · have T := T.1 h29
      refine wp_aload_n d_Ma_run_214 rfl rfl (g_nz (gl_1 hX 1057)) ?_
      refine xgetR d_Ma_run_215 gc_Ma f_Ma_14.1 f_Ma_14.2.1 f_Ma_14.2.2.1 (gl_1 hX 1057) (gl_2 hX (a := 1057) (by decide)) (gl_s hX 37 rfl) f_Ma_14.2.2.2.2.1 (gl_f hX 42 rfl) ?_
      refine xgetR d_Ma_run_218 gc_Vl f_Ma_107.1 f_Ma_107.2.1 f_Ma_107.2.2.1 (gl_stk hX).1 (gv_2 (gl_stk hX)) (gl_stk hX).2.2.1 f_Ma_107.2.2.2.2.1 (gv_r1 (gl_stk hX)).1 ?_
      refine wp_iconst d_Ma_run_221 ?_
      refine wp_iaload d_Ma_run_222 (gv_r1 (gl_stk hX)).2.2.1 (gv_r1 (gl_stk hX)).2.2.2 (gv_r1 (gl_stk hX)).2.1 (g32_n T.1 (gv_n (gl_stk hX))) T.1.1 T.1.2 (fun h8 => ?_)
      have T := T.2 h8
      refine xz_ne (tgt := 236) d_Ma_run_223 (by decide) (w32_id h8) (fun h10 => ?_) (fun h10 => ?_)
      · have T := T.1 h10
        exact wp_return d_Ma_run_236 rfl (fun _ => rfl) (Nat.zero_le _) (Nat.zero_le _) (kV_mk T)
      · have T := T.2 h10
        refine wp_aload_n d_Ma_run_226 rfl rfl (g_nz (gl_1 hX 1057)) ?_
        refine xgetR d_Ma_run_227 gc_Ma f_Ma_14.1 f_Ma_14.2.1 f_Ma_14.2.2.1 (gl_1 hX 1057) (gl_2 hX (a := 1057) (by decide)) (gl_s hX 37 rfl) f_Ma_14.2.2.2.2.1 (gl_f hX 42 rfl) ?_
        refine wp_iconst d_Ma_run_230 ?_
        refine wp_iconst d_Ma_run_231 ?_
        refine wp_lconst0 d_Ma_run_232 ?_
        refine xcV_V (md' := true) (As := [gI 0, gI 1, gL 0]) (st := []) d_Ma_run_233 ca_Vl_set ml_Ma_110 im_Vl_set se_Vl_set gc_Vl (gl_stk hX).1 (gv_2 (gl_stk hX)) (gl_stk hX).2.2.1 rfl (by decide) (by decide) rfl (fun _ => rfl) (fun _ => rfl) T (fun M9 T => ?_)
        exact wp_return d_Ma_run_236 rfl (fun _ => rfl) (Nat.zero_le _) (Nat.zero_le _) (kV_mk T)
    · have T := T.2 h29
      refine wp_aload_n d_Ma_run_66 rfl rfl (g_nz (gl_1 hX 1057)) ?_
      refine xgetR d_Ma_run_67 gc_Ma f_Ma_24.1 f_Ma_24.2.1 f_Ma_24.2.2.1 (gl_1 hX 1057) (gl_2 hX (a := 1057) (by decide)) (gl_s hX 37 rfl) f_Ma_24.2.2.2.2.1 (gl_f hX 44 rfl) ?_
      refine xgetR d_Ma_run_70 gc_Cn f_Ma_68.1 f_Ma_68.2.1 f_Ma_68.2.2.1 (gl_1 hX 2) (gl_2 hX (a := 2) (by decide)) (gl_s hX 2 rfl) f_Ma_68.2.2.2.2.1 (gl_f hX 9 rfl) ?_
      refine wp_iload d_Ma_run_73 rfl ?_
      refine wp_laload d_Ma_run_75 (gl_1 hX 10) (gl_2 hX (a := 10) (by decide)) (gl_s hX 10 rfl) (g32_n T.1 (by decide)) T.1.1 T.1.2 (fun h11 => ?_)
      have T := T.2 h11
      refine wp_lstore (L' := [.val (gR G (c + 1057)), .unset, .unset, .val (gI x3), .val (gI x4), .val (gI x5), .val (gL (M (c + 10) (Int.toNat x4))), .unset, .unset, .unset]) d_Ma_run_76 (by decide) rfl ?_
      refine wp_aload_n d_Ma_run_78 rfl rfl (g_nz (gl_1 hX 1057)) ?_
      refine xgetR d_Ma_run_79 gc_Ma f_Ma_24.1 f_Ma_24.2.1 f_Ma_24.2.2.1 (gl_1 hX 1057) (gl_2 hX (a := 1057) (by decide)) (gl_s hX 37 rfl) f_Ma_24.2.2.2.2.1 (gl_f hX 44 rfl) ?_
      refine xgetR d_Ma_run_82 gc_Cn f_Ma_72.1 f_Ma_72.2.1 f_Ma_72.2.2.1 (gl_1 hX 2) (gl_2 hX (a := 2) (by decide)) (gl_s hX 2 rfl) f_Ma_72.2.2.2.2.1 (gl_f hX 8 rfl) ?_
      refine wp_iload d_Ma_run_85 rfl ?_
      refine wp_iaload d_Ma_run_87 (gl_1 hX 9) (gl_2 hX (a := 9) (by decide)) (gl_s hX 9 rfl) (g32_n T.1 (by decide)) T.1.1 T.1.2 (fun h12 => ?_)
      have T := T.2 h12
      refine wp_istore (L' := [.val (gR G (c + 1057)), .unset, .unset, .val (gI x3), .val (gI x4), .val (gI x5), .val (gL (M (c + 10) (Int.toNat x4))), .unset, .val (gI (M (c + 9) (Int.toNat x4))), .unset]) d_Ma_run_88 (by decide) rfl ?_
      refine wp_iload d_Ma_run_90 rfl ?_
      refine wp_bipush d_Ma_run_92 ⟨by decide, by decide⟩ ?_
      refine xi_ne (tgt := 158) d_Ma_run_94 (by decide) (w32_id h12) (w32_id (g32_c (x := 11) rfl)) (fun h28 => ?_) (fun h28 => ?_)
      · have T := T.1 h28
        refine wp_iload d_Ma_run_158 rfl ?_
        refine wp_bipush d_Ma_run_160 ⟨by decide, by decide⟩ ?_
        refine xi_ne (tgt := 173) d_Ma_run_162 (by decide) (w32_id h12) (w32_id (g32_c (x := 10) rfl)) (fun h18 => ?_) (fun h18 => ?_)
        · have T := T.1 h18
          refine wp_iload d_Ma_run_173 rfl ?_
          refine wp_bipush d_Ma_run_175 ⟨by decide, by decide⟩ ?_
          refine xi_lt (tgt := 197) d_Ma_run_177 (by decide) (w32_id h12) (w32_id (g32_c (x := 7) rfl)) (fun h17 => ?_) (fun h17 => ?_)
          · have T := T.1 h17
            refine wp_aload_n d_Ma_run_197 rfl rfl (g_nz (gl_1 hX 1057)) ?_
            refine wp_iload d_Ma_run_198 rfl ?_
            refine wp_lload d_Ma_run_200 rfl ?_
            refine xcV_V (md' := true) (As := [gI (M (c + 9) (Int.toNat x4)), gL (M (c + 10) (Int.toNat x4))]) (st := []) d_Ma_run_202 ca_Ma_push ml_Ma_103 im_Ma_push se_Ma_push gc_Ma (gl_1 hX 1057) (gl_2 hX (a := 1057) (by decide)) (gl_s hX 37 rfl) rfl (by decide) (by decide) rfl (fun _ => rfl) (fun _ => rfl) T (fun M13 T => ?_)
            refine wp_iinc (L' := [.val (gR G (c + 1057)), .unset, .unset, .val (gI x3), .val (gI (x4 + 1)), .val (gI x5), .val (gL (M (c + 10) (Int.toNat x4))), .unset, .val (gI (M (c + 9) (Int.toNat x4))), .unset]) d_Ma_run_205 rfl (by decide) rfl ?_
            refine wp_iinc (L' := [.val (gR G (c + 1057)), .unset, .unset, .val (gI x3), .val (gI (x4 + 1)), .val (gI (x5 + (-1))), .val (gL (M (c + 10) (Int.toNat x4))), .unset, .val (gI (M (c + 9) (Int.toNat x4))), .unset]) d_Ma_run_208 rfl (by decide) rfl ?_
            refine wp_goto (tgt := 55) d_Ma_run_211 (by decide) ?_
            exact wp_md (wpt T (And.intro rfl (And.intro rfl (And.intro (gI_w _) (And.intro (gI_w _) True.intro)))))
          · have T := T.2 h17
            refine wp_aload_n d_Ma_run_180 rfl rfl (g_nz (gl_1 hX 1057)) ?_
            refine wp_iload d_Ma_run_181 rfl ?_
            refine wp_lload d_Ma_run_183 rfl ?_
            refine wp_iload d_Ma_run_185 rfl ?_
            refine wp_iconst d_Ma_run_187 ?_
            refine wp_iadd d_Ma_run_188 ?_
            refine xcV_I (md' := true) (As := [gI (M (c + 9) (Int.toNat x4)), gL (M (c + 10) (Int.toNat x4)), gI (x4 + 1)]) (st := []) d_Ma_run_189 ca_Ma_pick ml_Ma_99 im_Ma_pick se_Ma_pick gc_Ma (gl_1 hX 1057) (gl_2 hX (a := 1057) (by decide)) (gl_s hX 37 rfl) rfl (by decide) (by decide) rfl (fun _ => rfl) (fun _ => rfl) T (fun v15 M14 h16 T => ?_)
            refine wp_istore (L' := [.val (gR G (c + 1057)), .unset, .unset, .val (gI x3), .val (gI v15), .val (gI x5), .val (gL (M (c + 10) (Int.toNat x4))), .unset, .val (gI (M (c + 9) (Int.toNat x4))), .unset]) d_Ma_run_192 (by decide) rfl ?_
            refine wp_goto (tgt := 208) d_Ma_run_194 (by decide) ?_
            refine wp_iinc (L' := [.val (gR G (c + 1057)), .unset, .unset, .val (gI x3), .val (gI v15), .val (gI (x5 + (-1))), .val (gL (M (c + 10) (Int.toNat x4))), .unset, .val (gI (M (c + 9) (Int.toNat x4))), .unset]) d_Ma_run_208 rfl (by decide) rfl ?_
            refine wp_goto (tgt := 55) d_Ma_run_211 (by decide) ?_
            exact wp_md (wpt T (And.intro rfl (And.intro rfl (And.intro rfl (And.intro (gI_w _) True.intro)))))
        · have T := T.2 h18
          refine wp_lload d_Ma_run_165 rfl ?_
          refine wp_l2i d_Ma_run_167 ?_
          refine wp_istore (L' := [.val (gR G (c + 1057)), .unset, .unset, .val (gI x3), .val (gI (M (c + 10) (Int.toNat x4))), .val (gI x5), .val (gL (M (c + 10) (Int.toNat x4))), .unset, .val (gI (M (c + 9) (Int.toNat x4))), .unset]) d_Ma_run_168 (by decide) rfl ?_
          refine wp_goto (tgt := 208) d_Ma_run_170 (by decide) ?_
          refine wp_iinc (L' := [.val (gR G (c + 1057)), .unset, .unset, .val (gI x3), .val (gI (M (c + 10) (Int.toNat x4))), .val (gI (x5 + (-1))), .val (gL (M (c + 10) (Int.toNat x4))), .unset, .val (gI (M (c + 9) (Int.toNat x4))), .unset]) d_Ma_run_208 rfl (by decide) rfl ?_
          refine wp_goto (tgt := 55) d_Ma_run_211 (by decide) ?_
          exact wp_md (wpt T (And.intro rfl (And.intro rfl (And.intro (gI_w _) (And.intro (gI_w _) True.intro)))))
      · have T := T.2 h28
        refine wp_getsN d_Ma_run_97 fs_Ma_75 (fun U hU => (hO U hU).2.2.1.1) ?_
        refine wp_lload d_Ma_run_100 rfl ?_
        refine wp_l2i d_Ma_run_102 ?_
        have q19 := T.1
        have T := T.2
        refine xo_aald hO d_Ma_run_103 rfl q19 ?_
        refine wp_astoreO (L' := [.val (gR G (c + 1057)), .unset, .unset, .val (gI x3), .val (gI x4), .val (gI x5), .val (gL (M (c + 10) (Int.toNat x4))), .unset, .val (gI (M (c + 9) (Int.toNat x4))), .val (.ref (Q.1 (Int.toNat (w32 (M (c + 10) (Int.toNat x4))))))]) d_Ma_run_104 (by decide) rfl ?_
        refine wp_aload_n d_Ma_run_106 rfl rfl (g_nz (gl_1 hX 1057)) ?_
        refine wp_dup d_Ma_run_107 (gR_cat _) ?_
        refine xgetI d_Ma_run_108 gc_Ma f_Ma_65.1 f_Ma_65.2.1 f_Ma_65.2.2.1 (gl_1 hX 1057) (gl_2 hX (a := 1057) (by decide)) (gl_s hX 37 rfl) f_Ma_65.2.2.2.2.1 (fun h20 => ?_)
        have T := T h20
        refine wp_aloadO d_Ma_run_111 rfl ?_
        refine wp_oget d_Ma_run_113 fo_Ma_79 (fun U hU => ((hO U hU).1 _ (g52 q19)).2.2.2.2.1) ?_
        refine xo_len hO (gWta_lt _ (g52 q19)) d_Ma_run_116 ml_Ma_85 (by simp only [List.map, gR_cat, gI_cat, gL_cat, g_rcat, List.sum_cons, List.sum_nil]; decide) ?_
        refine wp_iconst d_Ma_run_119 ?_
        refine wp_isub d_Ma_run_120 ?_
        refine wp_isub d_Ma_run_121 ?_
        refine xputI d_Ma_run_122 gc_Ma f_Ma_65.1 f_Ma_65.2.1 f_Ma_65.2.2.1 (gl_1 hX 1057) (gl_2 hX (a := 1057) (by decide)) (gl_s hX 37 rfl) f_Ma_65.2.2.2.1 f_Ma_65.2.2.2.2.1 f_Ma_65.2.2.2.2.2 rfl ?_
        refine wp_aload_n d_Ma_run_125 rfl rfl (g_nz (gl_1 hX 1057)) ?_
        refine wp_aloadO d_Ma_run_126 rfl ?_
        refine wp_aload_n d_Ma_run_128 rfl rfl (g_nz (gl_1 hX 1057)) ?_
        refine xgetI d_Ma_run_129 gc_Ma f_Ma_65.1 f_Ma_65.2.1 f_Ma_65.2.2.1 (gl_1 hX 1057) (gl_2 hX (a := 1057) (by decide)) (gl_s hX 37 rfl) f_Ma_65.2.2.2.2.1 (fun h21 => ?_)
        have T := T h21
        refine wp_iconst d_Ma_run_132 ?_
        refine wp_isub d_Ma_run_133 ?_
        refine xcV_Z (md' := true) (As := [.ref (Q.1 (Int.toNat (w32 (M (c + 10) (Int.toNat x4))))), gI (((gUp M (c + 1057) 6 (w32 ((M (c + 1057) 6) - ((gSl (gWta (Int.toNat (w32 (M (c + 10) (Int.toNat x4))))) : Int) - 1)))) (c + 1057) 6) - 1)]) (st := []) d_Ma_run_134 ca_Ma_isReady ml_Ma_91 im_Ma_isReady se_Ma_isReady gc_Ma (gl_1 hX 1057) (gl_2 hX (a := 1057) (by decide)) (gl_s hX 37 rfl) rfl (by decide) (by decide) rfl (fun _ => rfl) (fun _ => rfl) T (fun v23 M22 h24 T => ?_)
        refine xz_eq (tgt := 152) d_Ma_run_137 (by decide) (w32_id (g32_z h24)) (fun h27 => ?_) (fun h27 => ?_)
        · have T := T.1 h27
          refine wp_iinc (L' := [.val (gR G (c + 1057)), .unset, .unset, .val (gI x3), .val (gI (x4 + 1)), .val (gI x5), .val (gL (M (c + 10) (Int.toNat x4))), .unset, .val (gI (M (c + 9) (Int.toNat x4))), .val (.ref (Q.1 (Int.toNat (w32 (M (c + 10) (Int.toNat x4))))))]) d_Ma_run_152 rfl (by decide) rfl ?_
          refine wp_goto (tgt := 208) d_Ma_run_155 (by decide) ?_
          refine wp_iinc (L' := [.val (gR G (c + 1057)), .unset, .unset, .val (gI x3), .val (gI (x4 + 1)), .val (gI (x5 + (-1))), .val (gL (M (c + 10) (Int.toNat x4))), .unset, .val (gI (M (c + 9) (Int.toNat x4))), .val (.ref (Q.1 (Int.toNat (w32 (M (c + 10) (Int.toNat x4))))))]) d_Ma_run_208 rfl (by decide) rfl ?_
          refine wp_goto (tgt := 55) d_Ma_run_211 (by decide) ?_
          exact wp_md (wpt T (And.intro rfl (And.intro rfl (And.intro (gI_w _) (And.intro (gI_w _) True.intro)))))
        · have T := T.2 h27
          refine wp_aload_n d_Ma_run_140 rfl rfl (g_nz (gl_1 hX 1057)) ?_
          refine wp_aloadO d_Ma_run_141 rfl ?_
          refine wp_aload_n d_Ma_run_143 rfl rfl (g_nz (gl_1 hX 1057)) ?_
          refine xgetI d_Ma_run_144 gc_Ma f_Ma_65.1 f_Ma_65.2.1 f_Ma_65.2.2.1 (gl_1 hX 1057) (gl_2 hX (a := 1057) (by decide)) (gl_s hX 37 rfl) f_Ma_65.2.2.2.2.1 (fun h25 => ?_)
          have T := T h25
          refine wp_iconst d_Ma_run_147 ?_
          refine wp_isub d_Ma_run_148 ?_
          refine xcV_V (md' := true) (As := [.ref (Q.1 (Int.toNat (w32 (M (c + 10) (Int.toNat x4))))), gI ((M22 (c + 1057) 6) - 1)]) (st := []) d_Ma_run_149 ca_Ma_workOut ml_Ma_95 im_Ma_workOut se_Ma_workOut gc_Ma (gl_1 hX 1057) (gl_2 hX (a := 1057) (by decide)) (gl_s hX 37 rfl) rfl (by decide) (by decide) rfl (fun _ => rfl) (fun _ => rfl) T (fun M26 T => ?_)
          refine wp_iinc (L' := [.val (gR G (c + 1057)), .unset, .unset, .val (gI x3), .val (gI (x4 + 1)), .val (gI x5), .val (gL (M (c + 10) (Int.toNat x4))), .unset, .val (gI (M (c + 9) (Int.toNat x4))), .val (.ref (Q.1 (Int.toNat (w32 (M (c + 10) (Int.toNat x4))))))]) d_Ma_run_152 rfl (by decide) rfl ?_
          refine wp_goto (tgt := 208) d_Ma_run_155 (by decide) ?_
          refine wp_iinc (L' := [.val (gR G (c + 1057)), .unset, .unset, .val (gI x3), .val (gI (x4 + 1)), .val (gI (x5 + (-1))), .val (gL (M (c + 10) (Int.toNat x4))), .unset, .val (gI (M (c + 9) (Int.toNat x4))), .val (.ref (Q.1 (Int.toNat (w32 (M (c + 10) (Int.toNat x4))))))]) d_Ma_run_208 rfl (by decide) rfl ?_
          refine wp_goto (tgt := 55) d_Ma_run_211 (by decide) ?_
          exact wp_md (wpt T (And.intro rfl (And.intro rfl (And.intro (gI_w _) (And.intro (gI_w _) True.intro)))))
theorem e_Ma_run {l : Launch} {G : gG} {d : Nat} {X : gX} {M : gM} {k : gM → Prop} {Q : gQ} {c : Nat} {x1 : Int} (T : wp l G y_Ma_run (gRm (d + 5)) true (kkV X k) false 0 [.val (gR G (c + 1057)), .val (gI x1), .unset, .unset, .unset, .unset, .unset, .unset, .unset, .unset] [] X M 0 0) : cV l G y_Ma_run (gRm (d + 5)) true [gR G (c + 1057), gI x1] X M k := cen_V (plainFor_of_name rfl) (by simp only [lg_sl_R, lg_sl_I, lg_sl_L, lg_sl_N, List.length_cons, List.length_nil]; decide) (by unfold gEn; simp only [lg_sl_R, lg_sl_I, lg_sl_L, lg_sl_N]; exact wpt T (And.intro rfl (And.intro rfl True.intro)))
theorem d_Ma_isReady_0 : decode prog_6_method_7_code 0 = .ok (.aload_n 1, 1) := by decide +kernel
theorem d_Ma_isReady_1 : decode prog_6_method_7_code 1 = .ok (.getfield 79, 3) := by decide +kernel
theorem d_Ma_isReady_4 : decode prog_6_method_7_code 4 = .ok (.invokevirtual 85, 3) := by decide +kernel
theorem d_Ma_isReady_7 : decode prog_6_method_7_code 7 = .ok (.istore_n 3, 1) := by decide +kernel
theorem d_Ma_isReady_8 : decode prog_6_method_7_code 8 = .ok (.iconst 0, 1) := by decide +kernel
theorem d_Ma_isReady_9 : decode prog_6_method_7_code 9 = .ok (.istore 4, 2) := by decide +kernel
theorem d_Ma_isReady_11 : decode prog_6_method_7_code 11 = .ok (.iload 4, 2) := by decide +kernel
theorem d_Ma_isReady_13 : decode prog_6_method_7_code 13 = .ok (.iload_n 3, 1) := by decide +kernel
theorem d_Ma_isReady_14 : decode prog_6_method_7_code 14 = .ok (.if_icmp .ge 62, 3) := by decide +kernel
theorem d_Ma_isReady_76 : decode prog_6_method_7_code 76 = .ok (.iconst 0, 1) := by decide +kernel
theorem d_Ma_isReady_77 : decode prog_6_method_7_code 77 = .ok (.istore 4, 2) := by decide +kernel
theorem d_Ma_isReady_17 : decode prog_6_method_7_code 17 = .ok (.aload_n 0, 1) := by decide +kernel
theorem d_Ma_isReady_18 : decode prog_6_method_7_code 18 = .ok (.getfield 14, 3) := by decide +kernel
theorem d_Ma_isReady_21 : decode prog_6_method_7_code 21 = .ok (.getfield 107, 3) := by decide +kernel
theorem d_Ma_isReady_24 : decode prog_6_method_7_code 24 = .ok (.iload_n 2, 1) := by decide +kernel
theorem d_Ma_isReady_25 : decode prog_6_method_7_code 25 = .ok (.iload 4, 2) := by decide +kernel
theorem d_Ma_isReady_27 : decode prog_6_method_7_code 27 = .ok (.iadd, 1) := by decide +kernel
theorem d_Ma_isReady_28 : decode prog_6_method_7_code 28 = .ok (.iaload, 1) := by decide +kernel
theorem d_Ma_isReady_29 : decode prog_6_method_7_code 29 = .ok (.iconst 4, 1) := by decide +kernel
theorem d_Ma_isReady_30 : decode prog_6_method_7_code 30 = .ok (.if_icmp .ne 40, 3) := by decide +kernel
theorem d_Ma_isReady_70 : decode prog_6_method_7_code 70 = .ok (.iinc 4 1, 3) := by decide +kernel
theorem d_Ma_isReady_73 : decode prog_6_method_7_code 73 = .ok (.goto (-62), 3) := by decide +kernel
theorem d_Ma_isReady_33 : decode prog_6_method_7_code 33 = .ok (.aload_n 1, 1) := by decide +kernel
theorem d_Ma_isReady_34 : decode prog_6_method_7_code 34 = .ok (.getfield 79, 3) := by decide +kernel
theorem d_Ma_isReady_37 : decode prog_6_method_7_code 37 = .ok (.iload 4, 2) := by decide +kernel
theorem d_Ma_isReady_39 : decode prog_6_method_7_code 39 = .ok (.invokevirtual 154, 3) := by decide +kernel
theorem d_Ma_isReady_42 : decode prog_6_method_7_code 42 = .ok (.bipush 118, 2) := by decide +kernel
theorem d_Ma_isReady_44 : decode prog_6_method_7_code 44 = .ok (.if_icmp .eq 26, 3) := by decide +kernel
theorem d_Ma_isReady_47 : decode prog_6_method_7_code 47 = .ok (.aload_n 0, 1) := by decide +kernel
theorem d_Ma_isReady_48 : decode prog_6_method_7_code 48 = .ok (.getfield 14, 3) := by decide +kernel
theorem d_Ma_isReady_51 : decode prog_6_method_7_code 51 = .ok (.iload_n 2, 1) := by decide +kernel
theorem d_Ma_isReady_52 : decode prog_6_method_7_code 52 = .ok (.iconst 4, 1) := by decide +kernel
theorem d_Ma_isReady_53 : decode prog_6_method_7_code 53 = .ok (.aload_n 0, 1) := by decide +kernel
theorem d_Ma_isReady_54 : decode prog_6_method_7_code 54 = .ok (.getfield 14, 3) := by decide +kernel
theorem d_Ma_isReady_57 : decode prog_6_method_7_code 57 = .ok (.getfield 149, 3) := by decide +kernel
theorem d_Ma_isReady_60 : decode prog_6_method_7_code 60 = .ok (.iload_n 2, 1) := by decide +kernel
theorem d_Ma_isReady_61 : decode prog_6_method_7_code 61 = .ok (.iload 4, 2) := by decide +kernel
theorem d_Ma_isReady_63 : decode prog_6_method_7_code 63 = .ok (.iadd, 1) := by decide +kernel
theorem d_Ma_isReady_64 : decode prog_6_method_7_code 64 = .ok (.laload, 1) := by decide +kernel
theorem d_Ma_isReady_65 : decode prog_6_method_7_code 65 = .ok (.invokevirtual 110, 3) := by decide +kernel
theorem d_Ma_isReady_68 : decode prog_6_method_7_code 68 = .ok (.iconst 0, 1) := by decide +kernel
theorem d_Ma_isReady_69 : decode prog_6_method_7_code 69 = .ok (.ireturn, 1) := by decide +kernel
theorem d_Ma_isReady_79 : decode prog_6_method_7_code 79 = .ok (.iload 4, 2) := by decide +kernel
theorem d_Ma_isReady_81 : decode prog_6_method_7_code 81 = .ok (.iload_n 3, 1) := by decide +kernel
theorem d_Ma_isReady_82 : decode prog_6_method_7_code 82 = .ok (.if_icmp .ge 46, 3) := by decide +kernel
theorem d_Ma_isReady_128 : decode prog_6_method_7_code 128 = .ok (.iconst 1, 1) := by decide +kernel
theorem d_Ma_isReady_129 : decode prog_6_method_7_code 129 = .ok (.ireturn, 1) := by decide +kernel
theorem d_Ma_isReady_85 : decode prog_6_method_7_code 85 = .ok (.aload_n 0, 1) := by decide +kernel
theorem d_Ma_isReady_86 : decode prog_6_method_7_code 86 = .ok (.getfield 14, 3) := by decide +kernel
theorem d_Ma_isReady_89 : decode prog_6_method_7_code 89 = .ok (.iload_n 2, 1) := by decide +kernel
theorem d_Ma_isReady_90 : decode prog_6_method_7_code 90 = .ok (.iload 4, 2) := by decide +kernel
theorem d_Ma_isReady_92 : decode prog_6_method_7_code 92 = .ok (.iadd, 1) := by decide +kernel
theorem d_Ma_isReady_93 : decode prog_6_method_7_code 93 = .ok (.aload_n 1, 1) := by decide +kernel
theorem d_Ma_isReady_94 : decode prog_6_method_7_code 94 = .ok (.getfield 79, 3) := by decide +kernel
theorem d_Ma_isReady_97 : decode prog_6_method_7_code 97 = .ok (.iload 4, 2) := by decide +kernel
theorem d_Ma_isReady_99 : decode prog_6_method_7_code 99 = .ok (.invokevirtual 154, 3) := by decide +kernel
theorem d_Ma_isReady_102 : decode prog_6_method_7_code 102 = .ok (.invokevirtual 143, 3) := by decide +kernel
theorem d_Ma_isReady_105 : decode prog_6_method_7_code 105 = .ok (.ifCond .ne 17, 3) := by decide +kernel
theorem d_Ma_isReady_122 : decode prog_6_method_7_code 122 = .ok (.iinc 4 1, 3) := by decide +kernel
theorem d_Ma_isReady_125 : decode prog_6_method_7_code 125 = .ok (.goto (-46), 3) := by decide +kernel
theorem d_Ma_isReady_108 : decode prog_6_method_7_code 108 = .ok (.aload_n 0, 1) := by decide +kernel
theorem d_Ma_isReady_109 : decode prog_6_method_7_code 109 = .ok (.getfield 14, 3) := by decide +kernel
theorem d_Ma_isReady_112 : decode prog_6_method_7_code 112 = .ok (.iload_n 2, 1) := by decide +kernel
theorem d_Ma_isReady_113 : decode prog_6_method_7_code 113 = .ok (.iconst 4, 1) := by decide +kernel
theorem d_Ma_isReady_114 : decode prog_6_method_7_code 114 = .ok (.ldc2_w 147, 3) := by decide +kernel
theorem d_Ma_isReady_117 : decode prog_6_method_7_code 117 = .ok (.invokevirtual 110, 3) := by decide +kernel
theorem d_Ma_isReady_120 : decode prog_6_method_7_code 120 = .ok (.iconst 0, 1) := by decide +kernel
theorem d_Ma_isReady_121 : decode prog_6_method_7_code 121 = .ok (.ireturn, 1) := by decide +kernel
set_option maxHeartbeats 4000000 in
theorem w_Ma_isReady_0 {l : Launch} {G : gG} {d : Nat} {X : gX} {M : gM} {k : Int → gM → Prop} {c : Nat} (hX : glX X c) {Q : gQ} (hO : gOld G Q) {w1 : Nat} (hw1 : w1 < 52) {x2 : Int} (hx2 : g32 x2)  (T : wp l G y_Ma_isReady (gRm (d + 5)) true (kkZ X k) true 11 [.val (gR G (c + 1057)), .val (.ref (Q.1 w1)), .val (gI x2), .val (gI (gSl (gWta w1) : Int)), .val (gI 0)] [] X M 0 0) : wp l G y_Ma_isReady (gRm (d + 5)) true (kkZ X k) false 0 [.val (gR G (c + 1057)), .val (.ref (Q.1 w1)), .val (gI x2), .unset, .unset] [] X M 0 0 := by
  refine wp_aloadO_n d_Ma_isReady_0 rfl rfl ?_
  refine wp_oget d_Ma_isReady_1 fo_Ma_79 (fun U hU => ((hO U hU).1 _ hw1).2.2.2.2.1) ?_
  refine xo_len hO (gWta_lt _ hw1) d_Ma_isReady_4 ml_Ma_85 (by decide) ?_
  refine wp_istore_n (L' := [.val (gR G (c + 1057)), .val (.ref (Q.1 w1)), .val (gI x2), .val (gI (gSl (gWta w1) : Int)), .unset]) d_Ma_isReady_7 rfl (by decide) rfl ?_
  refine wp_iconst d_Ma_isReady_8 ?_
  refine wp_istore (L' := [.val (gR G (c + 1057)), .val (.ref (Q.1 w1)), .val (gI x2), .val (gI (gSl (gWta w1) : Int)), .val (gI 0)]) d_Ma_isReady_9 (by decide) rfl ?_
  exact wp_md (wpt T (And.intro rfl (And.intro rfl (And.intro rfl (And.intro rfl (And.intro rfl True.intro))))))
set_option maxHeartbeats 4000000 in
theorem w_Ma_isReady_11 {l : Launch} {G : gG} {d : Nat} {X : gX} {M : gM} {k : Int → gM → Prop} {c : Nat} (hX : glX X c) {Q : gQ} (hO : gOld G Q) {x2 : Int} (hx2 : g32 x2) {x3 : Int} (hx3 : g32 x3) {x4 : Int} (hx4 : g32 x4)  {w1 : Nat} (hw1 : w1 < 52) (T : (x3 ≤ x4 → (wp l G y_Ma_isReady (gRm (d + 5)) true (kkZ X k) true 79 [.val (gR G (c + 1057)), .val (.ref (Q.1 w1)), .val (gI x2), .val (gI x3), .val (gI 0)] [] X M 0 0)) ∧ (¬ x3 ≤ x4 → (((0 : Int) ≤ x2 + x4 ∧ x2 + x4 < 104) ∧ (g32 (M ((c + 1058) + 1) (Int.toNat (x2 + x4))) → ((¬ M ((c + 1058) + 1) (Int.toNat (x2 + x4)) = 4 → (wp l G y_Ma_isReady (gRm (d + 5)) true (kkZ X k) true 11 [.val (gR G (c + 1057)), .val (.ref (Q.1 w1)), .val (gI x2), .val (gI x3), .val (gI (w32 (x4 + 1)))] [] X M 0 0)) ∧ (M ((c + 1058) + 1) (Int.toNat (x2 + x4)) = 4 → (((0 : Int) ≤ x4 ∧ x4 < (gSl (gWta w1) : Int)) ∧ ((gSc (gWta w1) (Int.toNat x4) = 118 → (wp l G y_Ma_isReady (gRm (d + 5)) true (kkZ X k) true 11 [.val (gR G (c + 1057)), .val (.ref (Q.1 w1)), .val (gI x2), .val (gI x3), .val (gI (w32 (x4 + 1)))] [] X M 0 0)) ∧ (¬ gSc (gWta w1) (Int.toNat x4) = 118 → (((0 : Int) ≤ x2 + x4 ∧ x2 + x4 < 104) ∧ (g64 (M ((c + 1058) + 2) (Int.toNat (x2 + x4))) → (cV l G y_Vl_set (gRm (d + 4)) true [gR G (c + 1058), gI x2, gI 4, gL (M ((c + 1058) + 2) (Int.toNat (x2 + x4)))] X M (fun M4 => (k 0 M4)))))))))))))) : wp l G y_Ma_isReady (gRm (d + 5)) true (kkZ X k) true 11 [.val (gR G (c + 1057)), .val (.ref (Q.1 w1)), .val (gI x2), .val (gI x3), .val (gI x4)] [] X M 0 0 := by
  refine wp_iload d_Ma_isReady_11 rfl ?_
  refine wp_iload_n d_Ma_isReady_13 rfl rfl ?_
  refine xi_ge (tgt := 76) d_Ma_isReady_14 (by decide) (w32_id hx4) (w32_id hx3) (fun h7 => ?_) (fun h7 => ?_)
  · have T := T.1 h7
    refine wp_iconst d_Ma_isReady_76 ?_
    refine wp_istore (L' := [.val (gR G (c + 1057)), .val (.ref (Q.1 w1)), .val (gI x2), .val (gI x3), .val (gI 0)]) d_Ma_isReady_77 (by decide) rfl ?_
    exact wp_md (wpt T (And.intro rfl (And.intro rfl (And.intro rfl (And.intro rfl (And.intro rfl True.intro))))))
  · have T := T.2 h7
    refine wp_aload_n d_Ma_isReady_17 rfl rfl (g_nz (gl_1 hX 1057)) ?_
    refine xgetR d_Ma_isReady_18 gc_Ma f_Ma_14.1 f_Ma_14.2.1 f_Ma_14.2.2.1 (gl_1 hX 1057) (gl_2 hX (a := 1057) (by decide)) (gl_s hX 37 rfl) f_Ma_14.2.2.2.2.1 (gl_f hX 42 rfl) ?_
    refine xgetR d_Ma_isReady_21 gc_Vl f_Ma_107.1 f_Ma_107.2.1 f_Ma_107.2.2.1 (gl_stk hX).1 (gv_2 (gl_stk hX)) (gl_stk hX).2.2.1 f_Ma_107.2.2.2.2.1 (gv_r1 (gl_stk hX)).1 ?_
    refine wp_iload_n d_Ma_isReady_24 rfl rfl ?_
    refine wp_iload d_Ma_isReady_25 rfl ?_
    refine wp_iadd d_Ma_isReady_27 ?_
    refine wp_iaload d_Ma_isReady_28 (gv_r1 (gl_stk hX)).2.2.1 (gv_r1 (gl_stk hX)).2.2.2 (gv_r1 (gl_stk hX)).2.1 (g32_n T.1 (gv_n (gl_stk hX))) T.1.1 T.1.2 (fun h1 => ?_)
    have T := T.2 h1
    refine wp_iconst d_Ma_isReady_29 ?_
    refine xi_ne (tgt := 70) d_Ma_isReady_30 (by decide) (w32_id h1) (w32_id (g32_c (x := 4) rfl)) (fun h6 => ?_) (fun h6 => ?_)
    · have T := T.1 h6
      refine wp_iinc (L' := [.val (gR G (c + 1057)), .val (.ref (Q.1 w1)), .val (gI x2), .val (gI x3), .val (gI (x4 + 1))]) d_Ma_isReady_70 rfl (by decide) rfl ?_
      refine wp_goto (tgt := 11) d_Ma_isReady_73 (by decide) ?_
      exact wp_md (wpt T (And.intro rfl (And.intro rfl (And.intro rfl (And.intro rfl (And.intro (gI_w _) True.intro))))))
    · have T := T.2 h6
      refine wp_aloadO_n d_Ma_isReady_33 rfl rfl ?_
      refine wp_oget d_Ma_isReady_34 fo_Ma_79 (fun U hU => ((hO U hU).1 _ hw1).2.2.2.2.1) ?_
      refine wp_iload d_Ma_isReady_37 rfl ?_
      have q2 := T.1
      have T := T.2
      refine xo_chr hO (gWta_lt _ hw1) d_Ma_isReady_39 ml_Ma_154 (by decide) (w32_id hx4) q2 ?_
      refine wp_bipush d_Ma_isReady_42 ⟨by decide, by decide⟩ ?_
      refine xi_eq (tgt := 70) d_Ma_isReady_44 (by decide) (w32_id (g32_h (gSc_ok (gWta_lt _ hw1) _))) (w32_id (g32_c (x := 118) rfl)) (fun h5 => ?_) (fun h5 => ?_)
      · have T := T.1 h5
        refine wp_iinc (L' := [.val (gR G (c + 1057)), .val (.ref (Q.1 w1)), .val (gI x2), .val (gI x3), .val (gI (x4 + 1))]) d_Ma_isReady_70 rfl (by decide) rfl ?_
        refine wp_goto (tgt := 11) d_Ma_isReady_73 (by decide) ?_
        exact wp_md (wpt T (And.intro rfl (And.intro rfl (And.intro rfl (And.intro rfl (And.intro (gI_w _) True.intro))))))
      · have T := T.2 h5
        refine wp_aload_n d_Ma_isReady_47 rfl rfl (g_nz (gl_1 hX 1057)) ?_
        refine xgetR d_Ma_isReady_48 gc_Ma f_Ma_14.1 f_Ma_14.2.1 f_Ma_14.2.2.1 (gl_1 hX 1057) (gl_2 hX (a := 1057) (by decide)) (gl_s hX 37 rfl) f_Ma_14.2.2.2.2.1 (gl_f hX 42 rfl) ?_
        refine wp_iload_n d_Ma_isReady_51 rfl rfl ?_
        refine wp_iconst d_Ma_isReady_52 ?_
        refine wp_aload_n d_Ma_isReady_53 rfl rfl (g_nz (gl_1 hX 1057)) ?_
        refine xgetR d_Ma_isReady_54 gc_Ma f_Ma_14.1 f_Ma_14.2.1 f_Ma_14.2.2.1 (gl_1 hX 1057) (gl_2 hX (a := 1057) (by decide)) (gl_s hX 37 rfl) f_Ma_14.2.2.2.2.1 (gl_f hX 42 rfl) ?_
        refine xgetR d_Ma_isReady_57 gc_Vl f_Ma_149.1 f_Ma_149.2.1 f_Ma_149.2.2.1 (gl_stk hX).1 (gv_2 (gl_stk hX)) (gl_stk hX).2.2.1 f_Ma_149.2.2.2.2.1 (gv_r2 (gl_stk hX)).1 ?_
        refine wp_iload_n d_Ma_isReady_60 rfl rfl ?_
        refine wp_iload d_Ma_isReady_61 rfl ?_
        refine wp_iadd d_Ma_isReady_63 ?_
        refine wp_laload d_Ma_isReady_64 (gv_r2 (gl_stk hX)).2.2.1 (gv_r2 (gl_stk hX)).2.2.2 (gv_r2 (gl_stk hX)).2.1 (g32_n T.1 (gv_n (gl_stk hX))) T.1.1 T.1.2 (fun h3 => ?_)
        have T := T.2 h3
        refine xcV_V (md' := true) (As := [gI x2, gI 4, gL (M ((c + 1058) + 2) (Int.toNat (x2 + x4)))]) (st := []) d_Ma_isReady_65 ca_Vl_set ml_Ma_110 im_Vl_set se_Vl_set gc_Vl (gl_stk hX).1 (gv_2 (gl_stk hX)) (gl_stk hX).2.2.1 rfl (by decide) (by decide) rfl (fun _ => rfl) (fun _ => rfl) T (fun M4 T => ?_)
        refine wp_iconst d_Ma_isReady_68 ?_
        exact wp_zreturn d_Ma_isReady_69 rfl (g_narz (⟨by decide, by decide⟩ : (0 : Int) ≤ 0 ∧ (0 : Int) ≤ 1)) (fun _ => rfl) (Nat.zero_le _) (Nat.zero_le _) (kZ_mk (⟨by decide, by decide⟩ : (0 : Int) ≤ 0 ∧ (0 : Int) ≤ 1) T)
set_option maxHeartbeats 4000000 in
theorem w_Ma_isReady_79 {l : Launch} {G : gG} {d : Nat} {X : gX} {M : gM} {k : Int → gM → Prop} {c : Nat} (hX : glX X c) {Q : gQ} (hO : gOld G Q) {x2 : Int} (hx2 : g32 x2) {x3 : Int} (hx3 : g32 x3) {x4 : Int} (hx4 : g32 x4)  {w1 : Nat} (hw1 : w1 < 52) (T : (x3 ≤ x4 → (k 1 M)) ∧ (¬ x3 ≤ x4 → (((0 : Int) ≤ x4 ∧ x4 < (gSl (gWta w1) : Int)) ∧ (cZ l G y_Vl_turn (gRm (d + 4)) true [gR G (c + 1058), gI (x2 + x4), gI (gSc (gWta w1) (Int.toNat x4))] X M (fun v10 M9 => ((¬ v10 = 0 → (wp l G y_Ma_isReady (gRm (d + 5)) true (kkZ X k) true 79 [.val (gR G (c + 1057)), .val (.ref (Q.1 w1)), .val (gI x2), .val (gI x3), .val (gI (w32 (x4 + 1)))] [] X M9 0 0)) ∧ (v10 = 0 → (cV l G y_Vl_set (gRm (d + 4)) true [gR G (c + 1058), gI x2, gI 4, gL 4] X M9 (fun M12 => (k 0 M12)))))))))) : wp l G y_Ma_isReady (gRm (d + 5)) true (kkZ X k) true 79 [.val (gR G (c + 1057)), .val (.ref (Q.1 w1)), .val (gI x2), .val (gI x3), .val (gI x4)] [] X M 0 0 := by
  refine wp_iload d_Ma_isReady_79 rfl ?_
  refine wp_iload_n d_Ma_isReady_81 rfl rfl ?_
  refine xi_ge (tgt := 128) d_Ma_isReady_82 (by decide) (w32_id hx4) (w32_id hx3) (fun h14 => ?_) (fun h14 => ?_)
  · have T := T.1 h14
    refine wp_iconst d_Ma_isReady_128 ?_
    exact wp_zreturn d_Ma_isReady_129 rfl (g_narz (⟨by decide, by decide⟩ : (0 : Int) ≤ 1 ∧ (1 : Int) ≤ 1)) (fun _ => rfl) (Nat.zero_le _) (Nat.zero_le _) (kZ_mk (⟨by decide, by decide⟩ : (0 : Int) ≤ 1 ∧ (1 : Int) ≤ 1) T)
  · have T := T.2 h14
    refine wp_aload_n d_Ma_isReady_85 rfl rfl (g_nz (gl_1 hX 1057)) ?_
    refine xgetR d_Ma_isReady_86 gc_Ma f_Ma_14.1 f_Ma_14.2.1 f_Ma_14.2.2.1 (gl_1 hX 1057) (gl_2 hX (a := 1057) (by decide)) (gl_s hX 37 rfl) f_Ma_14.2.2.2.2.1 (gl_f hX 42 rfl) ?_
    refine wp_iload_n d_Ma_isReady_89 rfl rfl ?_
    refine wp_iload d_Ma_isReady_90 rfl ?_
    refine wp_iadd d_Ma_isReady_92 ?_
    refine wp_aloadO_n d_Ma_isReady_93 rfl rfl ?_
    refine wp_oget d_Ma_isReady_94 fo_Ma_79 (fun U hU => ((hO U hU).1 _ hw1).2.2.2.2.1) ?_
    refine wp_iload d_Ma_isReady_97 rfl ?_
    have q8 := T.1
    have T := T.2
    refine xo_chr hO (gWta_lt _ hw1) d_Ma_isReady_99 ml_Ma_154 (by simp only [List.map, gR_cat, gI_cat, gL_cat, g_rcat, List.sum_cons, List.sum_nil]; decide) (w32_id hx4) q8 ?_
    refine xcV_Z (md' := true) (As := [gI (x2 + x4), gI (gSc (gWta w1) (Int.toNat x4))]) (st := []) d_Ma_isReady_102 ca_Vl_turn ml_Ma_143 im_Vl_turn se_Vl_turn gc_Vl (gl_stk hX).1 (gv_2 (gl_stk hX)) (gl_stk hX).2.2.1 rfl (by decide) (by decide) rfl (fun _ => rfl) (fun _ => rfl) T (fun v10 M9 h11 T => ?_)
    refine xz_ne (tgt := 122) d_Ma_isReady_105 (by decide) (w32_id (g32_z h11)) (fun h13 => ?_) (fun h13 => ?_)
    · have T := T.1 h13
      refine wp_iinc (L' := [.val (gR G (c + 1057)), .val (.ref (Q.1 w1)), .val (gI x2), .val (gI x3), .val (gI (x4 + 1))]) d_Ma_isReady_122 rfl (by decide) rfl ?_
      refine wp_goto (tgt := 79) d_Ma_isReady_125 (by decide) ?_
      exact wp_md (wpt T (And.intro rfl (And.intro rfl (And.intro rfl (And.intro rfl (And.intro (gI_w _) True.intro))))))
    · have T := T.2 h13
      refine wp_aload_n d_Ma_isReady_108 rfl rfl (g_nz (gl_1 hX 1057)) ?_
      refine xgetR d_Ma_isReady_109 gc_Ma f_Ma_14.1 f_Ma_14.2.1 f_Ma_14.2.2.1 (gl_1 hX 1057) (gl_2 hX (a := 1057) (by decide)) (gl_s hX 37 rfl) f_Ma_14.2.2.2.2.1 (gl_f hX 42 rfl) ?_
      refine wp_iload_n d_Ma_isReady_112 rfl rfl ?_
      refine wp_iconst d_Ma_isReady_113 ?_
      refine wp_ldc2 (n := 4) d_Ma_isReady_114 c_Ma_147 rfl ?_
      refine xcV_V (md' := true) (As := [gI x2, gI 4, gL 4]) (st := []) d_Ma_isReady_117 ca_Vl_set ml_Ma_110 im_Vl_set se_Vl_set gc_Vl (gl_stk hX).1 (gv_2 (gl_stk hX)) (gl_stk hX).2.2.1 rfl (by decide) (by decide) rfl (fun _ => rfl) (fun _ => rfl) T (fun M12 T => ?_)
      refine wp_iconst d_Ma_isReady_120 ?_
      exact wp_zreturn d_Ma_isReady_121 rfl (g_narz (⟨by decide, by decide⟩ : (0 : Int) ≤ 0 ∧ (0 : Int) ≤ 1)) (fun _ => rfl) (Nat.zero_le _) (Nat.zero_le _) (kZ_mk (⟨by decide, by decide⟩ : (0 : Int) ≤ 0 ∧ (0 : Int) ≤ 1) T)
theorem e_Ma_isReady {l : Launch} {G : gG} {d : Nat} {X : gX} {M : gM} {k : Int → gM → Prop} {Q : gQ} {c : Nat} {x2 : Int} {w1 : Nat} (T : wp l G y_Ma_isReady (gRm (d + 5)) true (kkZ X k) false 0 [.val (gR G (c + 1057)), .val (.ref (Q.1 w1)), .val (gI x2), .unset, .unset] [] X M 0 0) : cZ l G y_Ma_isReady (gRm (d + 5)) true [gR G (c + 1057), .ref (Q.1 w1), gI x2] X M k := cen_Z (plainFor_of_name rfl) (by simp only [lg_sl_R, lg_sl_I, lg_sl_L, lg_sl_O, lg_sl_N, List.length_cons, List.length_nil]; decide) (by unfold gEn; simp only [lg_sl_R, lg_sl_I, lg_sl_L, lg_sl_O, lg_sl_N]; exact wpt T (And.intro rfl (And.intro rfl (And.intro rfl True.intro))))
theorem d_Ma_workOut_0 : decode prog_6_method_8_code 0 = .ok (.aload_n 1, 1) := by decide +kernel
theorem d_Ma_workOut_1 : decode prog_6_method_8_code 1 = .ok (.getfield 158, 3) := by decide +kernel
theorem d_Ma_workOut_4 : decode prog_6_method_8_code 4 = .ok (.tableswitch 117 0 7 #[48, 57, 66, 75, 84, 117, 93, 105], 48) := by decide +kernel
theorem d_Ma_workOut_52 : decode prog_6_method_8_code 52 = .ok (.aload_n 0, 1) := by decide +kernel
theorem d_Ma_workOut_53 : decode prog_6_method_8_code 53 = .ok (.aload_n 1, 1) := by decide +kernel
theorem d_Ma_workOut_54 : decode prog_6_method_8_code 54 = .ok (.iload_n 2, 1) := by decide +kernel
theorem d_Ma_workOut_55 : decode prog_6_method_8_code 55 = .ok (.invokevirtual 161, 3) := by decide +kernel
theorem d_Ma_workOut_58 : decode prog_6_method_8_code 58 = .ok (.goto 72, 3) := by decide +kernel
theorem d_Ma_workOut_130 : decode prog_6_method_8_code 130 = .ok (.return_, 1) := by decide +kernel
theorem d_Ma_workOut_61 : decode prog_6_method_8_code 61 = .ok (.aload_n 0, 1) := by decide +kernel
theorem d_Ma_workOut_62 : decode prog_6_method_8_code 62 = .ok (.aload_n 1, 1) := by decide +kernel
theorem d_Ma_workOut_63 : decode prog_6_method_8_code 63 = .ok (.iload_n 2, 1) := by decide +kernel
theorem d_Ma_workOut_64 : decode prog_6_method_8_code 64 = .ok (.invokevirtual 164, 3) := by decide +kernel
theorem d_Ma_workOut_67 : decode prog_6_method_8_code 67 = .ok (.goto 63, 3) := by decide +kernel
theorem d_Ma_workOut_70 : decode prog_6_method_8_code 70 = .ok (.aload_n 0, 1) := by decide +kernel
theorem d_Ma_workOut_71 : decode prog_6_method_8_code 71 = .ok (.aload_n 1, 1) := by decide +kernel
theorem d_Ma_workOut_72 : decode prog_6_method_8_code 72 = .ok (.iload_n 2, 1) := by decide +kernel
theorem d_Ma_workOut_73 : decode prog_6_method_8_code 73 = .ok (.invokevirtual 167, 3) := by decide +kernel
theorem d_Ma_workOut_76 : decode prog_6_method_8_code 76 = .ok (.goto 54, 3) := by decide +kernel
theorem d_Ma_workOut_79 : decode prog_6_method_8_code 79 = .ok (.aload_n 0, 1) := by decide +kernel
theorem d_Ma_workOut_80 : decode prog_6_method_8_code 80 = .ok (.aload_n 1, 1) := by decide +kernel
theorem d_Ma_workOut_81 : decode prog_6_method_8_code 81 = .ok (.iload_n 2, 1) := by decide +kernel
theorem d_Ma_workOut_82 : decode prog_6_method_8_code 82 = .ok (.invokevirtual 170, 3) := by decide +kernel
theorem d_Ma_workOut_85 : decode prog_6_method_8_code 85 = .ok (.goto 45, 3) := by decide +kernel
theorem d_Ma_workOut_88 : decode prog_6_method_8_code 88 = .ok (.aload_n 0, 1) := by decide +kernel
theorem d_Ma_workOut_89 : decode prog_6_method_8_code 89 = .ok (.aload_n 1, 1) := by decide +kernel
theorem d_Ma_workOut_90 : decode prog_6_method_8_code 90 = .ok (.iload_n 2, 1) := by decide +kernel
theorem d_Ma_workOut_91 : decode prog_6_method_8_code 91 = .ok (.invokevirtual 173, 3) := by decide +kernel
theorem d_Ma_workOut_94 : decode prog_6_method_8_code 94 = .ok (.goto 36, 3) := by decide +kernel
theorem d_Ma_workOut_121 : decode prog_6_method_8_code 121 = .ok (.aload_n 0, 1) := by decide +kernel
theorem d_Ma_workOut_122 : decode prog_6_method_8_code 122 = .ok (.getfield 37, 3) := by decide +kernel
theorem d_Ma_workOut_125 : decode prog_6_method_8_code 125 = .ok (.aload_n 1, 1) := by decide +kernel
theorem d_Ma_workOut_126 : decode prog_6_method_8_code 126 = .ok (.iload_n 2, 1) := by decide +kernel
theorem d_Ma_workOut_127 : decode prog_6_method_8_code 127 = .ok (.invokevirtual 182, 3) := by decide +kernel
theorem d_Ma_workOut_97 : decode prog_6_method_8_code 97 = .ok (.aload_n 0, 1) := by decide +kernel
theorem d_Ma_workOut_98 : decode prog_6_method_8_code 98 = .ok (.getfield 37, 3) := by decide +kernel
theorem d_Ma_workOut_101 : decode prog_6_method_8_code 101 = .ok (.aload_n 1, 1) := by decide +kernel
theorem d_Ma_workOut_102 : decode prog_6_method_8_code 102 = .ok (.iload_n 2, 1) := by decide +kernel
theorem d_Ma_workOut_103 : decode prog_6_method_8_code 103 = .ok (.invokevirtual 176, 3) := by decide +kernel
theorem d_Ma_workOut_106 : decode prog_6_method_8_code 106 = .ok (.goto 24, 3) := by decide +kernel
theorem d_Ma_workOut_109 : decode prog_6_method_8_code 109 = .ok (.aload_n 0, 1) := by decide +kernel
theorem d_Ma_workOut_110 : decode prog_6_method_8_code 110 = .ok (.getfield 37, 3) := by decide +kernel
theorem d_Ma_workOut_113 : decode prog_6_method_8_code 113 = .ok (.aload_n 1, 1) := by decide +kernel
theorem d_Ma_workOut_114 : decode prog_6_method_8_code 114 = .ok (.iload_n 2, 1) := by decide +kernel
theorem d_Ma_workOut_115 : decode prog_6_method_8_code 115 = .ok (.invokevirtual 179, 3) := by decide +kernel
theorem d_Ma_workOut_118 : decode prog_6_method_8_code 118 = .ok (.goto 12, 3) := by decide +kernel
set_option maxHeartbeats 4000000 in
theorem w_Ma_workOut_0 {l : Launch} {G : gG} {d : Nat} {X : gX} {M : gM} {k : gM → Prop} {c : Nat} (hX : glX X c) {Q : gQ} (hO : gOld G Q) {w1 : Nat} (hw1 : w1 < 52) {x2 : Int} (hx2 : g32 x2)  (T : (gWgr w1 = 0 → (cV l G y_Ma_decideOrder (gRm d) true [gR G (c + 1057), .ref (Q.1 w1), gI x2] X M (fun M1 => (k M1)))) ∧ (gWgr w1 = 1 → (cV l G y_Ma_reckon (gRm d) true [gR G (c + 1057), .ref (Q.1 w1), gI x2] X M (fun M2 => (k M2)))) ∧ (gWgr w1 = 2 → (cV l G y_Ma_decide (gRm d) true [gR G (c + 1057), .ref (Q.1 w1), gI x2] X M (fun M3 => (k M3)))) ∧ (gWgr w1 = 3 → (cV l G y_Ma_ask (gRm d) true [gR G (c + 1057), .ref (Q.1 w1), gI x2] X M (fun M4 => (k M4)))) ∧ (gWgr w1 = 4 → (cV l G y_Ma_write (gRm d) true [gR G (c + 1057), .ref (Q.1 w1), gI x2] X M (fun M5 => (k M5)))) ∧ (gWgr w1 = 5 → (cV l G y_Bx_search (gRm d) true [gR G (c + 1167), .ref (Q.1 w1), gI x2] X M (fun M6 => (k M6)))) ∧ (gWgr w1 = 6 → (cV l G y_Bx_gather (gRm d) true [gR G (c + 1167), .ref (Q.1 w1), gI x2] X M (fun M7 => (k M7)))) ∧ (gWgr w1 = 7 → (cV l G y_Bx_measure (gRm d) true [gR G (c + 1167), .ref (Q.1 w1), gI x2] X M (fun M8 => (k M8)))) ∧ ((¬ gWgr w1 = 0 ∧ ¬ gWgr w1 = 1 ∧ ¬ gWgr w1 = 2 ∧ ¬ gWgr w1 = 3 ∧ ¬ gWgr w1 = 4 ∧ ¬ gWgr w1 = 5 ∧ ¬ gWgr w1 = 6 ∧ ¬ gWgr w1 = 7) → (cV l G y_Bx_search (gRm d) true [gR G (c + 1167), .ref (Q.1 w1), gI x2] X M (fun M9 => (k M9))))) : wp l G y_Ma_workOut (gRm (d + 1)) true (kkV X k) false 0 [.val (gR G (c + 1057)), .val (.ref (Q.1 w1)), .val (gI x2)] [] X M 0 0 := by
  refine wp_aloadO_n d_Ma_workOut_0 rfl rfl ?_
  refine wp_oget d_Ma_workOut_1 fo_Ma_158 (fun U hU => ((hO U hU).1 _ hw1).2.2.2.2.2) ?_
  obtain ⟨T0, T1, T2, T3, T4, T5, T6, T7, T8⟩ := T
  by_cases hc0 : gWgr w1 = 0
  · refine xtabIn (tgt := 52) d_Ma_workOut_4 (w32_id (gG32 hw1)) 0 hc0 rfl rfl (by decide) ?_
    have T := T0 hc0
    refine wp_aload_n d_Ma_workOut_52 rfl rfl (g_nz (gl_1 hX 1057)) ?_
    refine wp_aloadO_n d_Ma_workOut_53 rfl rfl ?_
    refine wp_iload_n d_Ma_workOut_54 rfl rfl ?_
    refine xcV_V (md' := true) (As := [.ref (Q.1 w1), gI x2]) (st := []) d_Ma_workOut_55 ca_Ma_decideOrder ml_Ma_161 im_Ma_decideOrder se_Ma_decideOrder gc_Ma (gl_1 hX 1057) (gl_2 hX (a := 1057) (by decide)) (gl_s hX 37 rfl) rfl (by decide) (by decide) rfl (fun _ => rfl) (fun _ => rfl) T (fun M1 T => ?_)
    refine wp_goto (tgt := 130) d_Ma_workOut_58 (by decide) ?_
    exact wp_return d_Ma_workOut_130 rfl (fun _ => rfl) (Nat.zero_le _) (Nat.zero_le _) (kV_mk T)
  by_cases hc1 : gWgr w1 = 1
  · refine xtabIn (tgt := 61) d_Ma_workOut_4 (w32_id (gG32 hw1)) 1 hc1 rfl rfl (by decide) ?_
    have T := T1 hc1
    refine wp_aload_n d_Ma_workOut_61 rfl rfl (g_nz (gl_1 hX 1057)) ?_
    refine wp_aloadO_n d_Ma_workOut_62 rfl rfl ?_
    refine wp_iload_n d_Ma_workOut_63 rfl rfl ?_
    refine xcV_V (md' := true) (As := [.ref (Q.1 w1), gI x2]) (st := []) d_Ma_workOut_64 ca_Ma_reckon ml_Ma_164 im_Ma_reckon se_Ma_reckon gc_Ma (gl_1 hX 1057) (gl_2 hX (a := 1057) (by decide)) (gl_s hX 37 rfl) rfl (by decide) (by decide) rfl (fun _ => rfl) (fun _ => rfl) T (fun M2 T => ?_)
    refine wp_goto (tgt := 130) d_Ma_workOut_67 (by decide) ?_
    exact wp_return d_Ma_workOut_130 rfl (fun _ => rfl) (Nat.zero_le _) (Nat.zero_le _) (kV_mk T)
  by_cases hc2 : gWgr w1 = 2
  · refine xtabIn (tgt := 70) d_Ma_workOut_4 (w32_id (gG32 hw1)) 2 hc2 rfl rfl (by decide) ?_
    have T := T2 hc2
    refine wp_aload_n d_Ma_workOut_70 rfl rfl (g_nz (gl_1 hX 1057)) ?_
    refine wp_aloadO_n d_Ma_workOut_71 rfl rfl ?_
    refine wp_iload_n d_Ma_workOut_72 rfl rfl ?_
    refine xcV_V (md' := true) (As := [.ref (Q.1 w1), gI x2]) (st := []) d_Ma_workOut_73 ca_Ma_decide ml_Ma_167 im_Ma_decide se_Ma_decide gc_Ma (gl_1 hX 1057) (gl_2 hX (a := 1057) (by decide)) (gl_s hX 37 rfl) rfl (by decide) (by decide) rfl (fun _ => rfl) (fun _ => rfl) T (fun M3 T => ?_)
    refine wp_goto (tgt := 130) d_Ma_workOut_76 (by decide) ?_
    exact wp_return d_Ma_workOut_130 rfl (fun _ => rfl) (Nat.zero_le _) (Nat.zero_le _) (kV_mk T)
  by_cases hc3 : gWgr w1 = 3
  · refine xtabIn (tgt := 79) d_Ma_workOut_4 (w32_id (gG32 hw1)) 3 hc3 rfl rfl (by decide) ?_
    have T := T3 hc3
    refine wp_aload_n d_Ma_workOut_79 rfl rfl (g_nz (gl_1 hX 1057)) ?_
    refine wp_aloadO_n d_Ma_workOut_80 rfl rfl ?_
    refine wp_iload_n d_Ma_workOut_81 rfl rfl ?_
    refine xcV_V (md' := true) (As := [.ref (Q.1 w1), gI x2]) (st := []) d_Ma_workOut_82 ca_Ma_ask ml_Ma_170 im_Ma_ask se_Ma_ask gc_Ma (gl_1 hX 1057) (gl_2 hX (a := 1057) (by decide)) (gl_s hX 37 rfl) rfl (by decide) (by decide) rfl (fun _ => rfl) (fun _ => rfl) T (fun M4 T => ?_)
    refine wp_goto (tgt := 130) d_Ma_workOut_85 (by decide) ?_
    exact wp_return d_Ma_workOut_130 rfl (fun _ => rfl) (Nat.zero_le _) (Nat.zero_le _) (kV_mk T)
  by_cases hc4 : gWgr w1 = 4
  · refine xtabIn (tgt := 88) d_Ma_workOut_4 (w32_id (gG32 hw1)) 4 hc4 rfl rfl (by decide) ?_
    have T := T4 hc4
    refine wp_aload_n d_Ma_workOut_88 rfl rfl (g_nz (gl_1 hX 1057)) ?_
    refine wp_aloadO_n d_Ma_workOut_89 rfl rfl ?_
    refine wp_iload_n d_Ma_workOut_90 rfl rfl ?_
    refine xcV_V (md' := true) (As := [.ref (Q.1 w1), gI x2]) (st := []) d_Ma_workOut_91 ca_Ma_write ml_Ma_173 im_Ma_write se_Ma_write gc_Ma (gl_1 hX 1057) (gl_2 hX (a := 1057) (by decide)) (gl_s hX 37 rfl) rfl (by decide) (by decide) rfl (fun _ => rfl) (fun _ => rfl) T (fun M5 T => ?_)
    refine wp_goto (tgt := 130) d_Ma_workOut_94 (by decide) ?_
    exact wp_return d_Ma_workOut_130 rfl (fun _ => rfl) (Nat.zero_le _) (Nat.zero_le _) (kV_mk T)
  by_cases hc5 : gWgr w1 = 5
  · refine xtabIn (tgt := 121) d_Ma_workOut_4 (w32_id (gG32 hw1)) 5 hc5 rfl rfl (by decide) ?_
    have T := T5 hc5
    refine wp_aload_n d_Ma_workOut_121 rfl rfl (g_nz (gl_1 hX 1057)) ?_
    refine xgetR d_Ma_workOut_122 gc_Ma f_Ma_37.1 f_Ma_37.2.1 f_Ma_37.2.2.1 (gl_1 hX 1057) (gl_2 hX (a := 1057) (by decide)) (gl_s hX 37 rfl) f_Ma_37.2.2.2.2.1 (gl_f hX 45 rfl) ?_
    refine wp_aloadO_n d_Ma_workOut_125 rfl rfl ?_
    refine wp_iload_n d_Ma_workOut_126 rfl rfl ?_
    refine xcV_V (md' := true) (As := [.ref (Q.1 w1), gI x2]) (st := []) d_Ma_workOut_127 ca_Bx_search ml_Ma_182 im_Bx_search se_Bx_search gc_Bx (gl_1 hX 1167) (gl_2 hX (a := 1167) (by decide)) (gl_s hX 39 rfl) rfl (by decide) (by decide) rfl (fun _ => rfl) (fun _ => rfl) T (fun M6 T => ?_)
    exact wp_return d_Ma_workOut_130 rfl (fun _ => rfl) (Nat.zero_le _) (Nat.zero_le _) (kV_mk T)
  by_cases hc6 : gWgr w1 = 6
  · refine xtabIn (tgt := 97) d_Ma_workOut_4 (w32_id (gG32 hw1)) 6 hc6 rfl rfl (by decide) ?_
    have T := T6 hc6
    refine wp_aload_n d_Ma_workOut_97 rfl rfl (g_nz (gl_1 hX 1057)) ?_
    refine xgetR d_Ma_workOut_98 gc_Ma f_Ma_37.1 f_Ma_37.2.1 f_Ma_37.2.2.1 (gl_1 hX 1057) (gl_2 hX (a := 1057) (by decide)) (gl_s hX 37 rfl) f_Ma_37.2.2.2.2.1 (gl_f hX 45 rfl) ?_
    refine wp_aloadO_n d_Ma_workOut_101 rfl rfl ?_
    refine wp_iload_n d_Ma_workOut_102 rfl rfl ?_
    refine xcV_V (md' := true) (As := [.ref (Q.1 w1), gI x2]) (st := []) d_Ma_workOut_103 ca_Bx_gather ml_Ma_176 im_Bx_gather se_Bx_gather gc_Bx (gl_1 hX 1167) (gl_2 hX (a := 1167) (by decide)) (gl_s hX 39 rfl) rfl (by decide) (by decide) rfl (fun _ => rfl) (fun _ => rfl) T (fun M7 T => ?_)
    refine wp_goto (tgt := 130) d_Ma_workOut_106 (by decide) ?_
    exact wp_return d_Ma_workOut_130 rfl (fun _ => rfl) (Nat.zero_le _) (Nat.zero_le _) (kV_mk T)
  by_cases hc7 : gWgr w1 = 7
  · refine xtabIn (tgt := 109) d_Ma_workOut_4 (w32_id (gG32 hw1)) 7 hc7 rfl rfl (by decide) ?_
    have T := T7 hc7
    refine wp_aload_n d_Ma_workOut_109 rfl rfl (g_nz (gl_1 hX 1057)) ?_
    refine xgetR d_Ma_workOut_110 gc_Ma f_Ma_37.1 f_Ma_37.2.1 f_Ma_37.2.2.1 (gl_1 hX 1057) (gl_2 hX (a := 1057) (by decide)) (gl_s hX 37 rfl) f_Ma_37.2.2.2.2.1 (gl_f hX 45 rfl) ?_
    refine wp_aloadO_n d_Ma_workOut_113 rfl rfl ?_
    refine wp_iload_n d_Ma_workOut_114 rfl rfl ?_
    refine xcV_V (md' := true) (As := [.ref (Q.1 w1), gI x2]) (st := []) d_Ma_workOut_115 ca_Bx_measure ml_Ma_179 im_Bx_measure se_Bx_measure gc_Bx (gl_1 hX 1167) (gl_2 hX (a := 1167) (by decide)) (gl_s hX 39 rfl) rfl (by decide) (by decide) rfl (fun _ => rfl) (fun _ => rfl) T (fun M8 T => ?_)
    refine wp_goto (tgt := 130) d_Ma_workOut_118 (by decide) ?_
    exact wp_return d_Ma_workOut_130 rfl (fun _ => rfl) (Nat.zero_le _) (Nat.zero_le _) (kV_mk T)
  refine xtabOut (tgt := 121) d_Ma_workOut_4 (w32_id (gG32 hw1)) (by omega) (by decide) ?_
  have T := T8 ⟨hc0, hc1, hc2, hc3, hc4, hc5, hc6, hc7⟩
  refine wp_aload_n d_Ma_workOut_121 rfl rfl (g_nz (gl_1 hX 1057)) ?_
  refine xgetR d_Ma_workOut_122 gc_Ma f_Ma_37.1 f_Ma_37.2.1 f_Ma_37.2.2.1 (gl_1 hX 1057) (gl_2 hX (a := 1057) (by decide)) (gl_s hX 37 rfl) f_Ma_37.2.2.2.2.1 (gl_f hX 45 rfl) ?_
  refine wp_aloadO_n d_Ma_workOut_125 rfl rfl ?_
  refine wp_iload_n d_Ma_workOut_126 rfl rfl ?_
  refine xcV_V (md' := true) (As := [.ref (Q.1 w1), gI x2]) (st := []) d_Ma_workOut_127 ca_Bx_search ml_Ma_182 im_Bx_search se_Bx_search gc_Bx (gl_1 hX 1167) (gl_2 hX (a := 1167) (by decide)) (gl_s hX 39 rfl) rfl (by decide) (by decide) rfl (fun _ => rfl) (fun _ => rfl) T (fun M9 T => ?_)
  exact wp_return d_Ma_workOut_130 rfl (fun _ => rfl) (Nat.zero_le _) (Nat.zero_le _) (kV_mk T)
theorem e_Ma_workOut {l : Launch} {G : gG} {d : Nat} {X : gX} {M : gM} {k : gM → Prop} {Q : gQ} {c : Nat} {x2 : Int} {w1 : Nat} (T : wp l G y_Ma_workOut (gRm (d + 1)) true (kkV X k) false 0 [.val (gR G (c + 1057)), .val (.ref (Q.1 w1)), .val (gI x2)] [] X M 0 0) : cV l G y_Ma_workOut (gRm (d + 1)) true [gR G (c + 1057), .ref (Q.1 w1), gI x2] X M k := cen_V (plainFor_of_name rfl) (by simp only [lg_sl_R, lg_sl_I, lg_sl_L, lg_sl_O, lg_sl_N, List.length_cons, List.length_nil]; decide) (by unfold gEn; simp only [lg_sl_R, lg_sl_I, lg_sl_L, lg_sl_O, lg_sl_N]; exact wpt T (And.intro rfl (And.intro rfl (And.intro rfl True.intro))))
theorem d_Ma_decideOrder_0 : decode prog_6_method_9_code 0 = .ok (.aload_n 0, 1) := by decide +kernel
theorem d_Ma_decideOrder_1 : decode prog_6_method_9_code 1 = .ok (.getfield 14, 3) := by decide +kernel
theorem d_Ma_decideOrder_4 : decode prog_6_method_9_code 4 = .ok (.iload_n 2, 1) := by decide +kernel
theorem d_Ma_decideOrder_5 : decode prog_6_method_9_code 5 = .ok (.aload_n 0, 1) := by decide +kernel
theorem d_Ma_decideOrder_6 : decode prog_6_method_9_code 6 = .ok (.getfield 14, 3) := by decide +kernel
theorem d_Ma_decideOrder_9 : decode prog_6_method_9_code 9 = .ok (.iload_n 2, 1) := by decide +kernel
theorem d_Ma_decideOrder_10 : decode prog_6_method_9_code 10 = .ok (.iconst 1, 1) := by decide +kernel
theorem d_Ma_decideOrder_11 : decode prog_6_method_9_code 11 = .ok (.iadd, 1) := by decide +kernel
theorem d_Ma_decideOrder_12 : decode prog_6_method_9_code 12 = .ok (.invokevirtual 185, 3) := by decide +kernel
theorem d_Ma_decideOrder_15 : decode prog_6_method_9_code 15 = .ok (.istore_n 3, 1) := by decide +kernel
theorem d_Ma_decideOrder_16 : decode prog_6_method_9_code 16 = .ok (.getstatic 189, 3) := by decide +kernel
theorem d_Ma_decideOrder_19 : decode prog_6_method_9_code 19 = .ok (.aload_n 1, 1) := by decide +kernel
theorem d_Ma_decideOrder_20 : decode prog_6_method_9_code 20 = .ok (.invokevirtual 194, 3) := by decide +kernel
theorem d_Ma_decideOrder_23 : decode prog_6_method_9_code 23 = .ok (.iaload, 1) := by decide +kernel
theorem d_Ma_decideOrder_24 : decode prog_6_method_9_code 24 = .ok (.tableswitch 136 3 7 #[36, 56, 76, 96, 116], 36) := by decide +kernel
theorem d_Ma_decideOrder_60 : decode prog_6_method_9_code 60 = .ok (.aload_n 0, 1) := by decide +kernel
theorem d_Ma_decideOrder_61 : decode prog_6_method_9_code 61 = .ok (.getfield 14, 3) := by decide +kernel
theorem d_Ma_decideOrder_64 : decode prog_6_method_9_code 64 = .ok (.iload_n 2, 1) := by decide +kernel
theorem d_Ma_decideOrder_65 : decode prog_6_method_9_code 65 = .ok (.iload_n 3, 1) := by decide +kernel
theorem d_Ma_decideOrder_66 : decode prog_6_method_9_code 66 = .ok (.ifCond .ne 7, 3) := by decide +kernel
theorem d_Ma_decideOrder_73 : decode prog_6_method_9_code 73 = .ok (.iconst 0, 1) := by decide +kernel
theorem d_Ma_decideOrder_74 : decode prog_6_method_9_code 74 = .ok (.invokevirtual 197, 3) := by decide +kernel
theorem d_Ma_decideOrder_77 : decode prog_6_method_9_code 77 = .ok (.goto 100, 3) := by decide +kernel
theorem d_Ma_decideOrder_177 : decode prog_6_method_9_code 177 = .ok (.return_, 1) := by decide +kernel
theorem d_Ma_decideOrder_69 : decode prog_6_method_9_code 69 = .ok (.iconst 1, 1) := by decide +kernel
theorem d_Ma_decideOrder_70 : decode prog_6_method_9_code 70 = .ok (.goto 4, 3) := by decide +kernel
theorem d_Ma_decideOrder_80 : decode prog_6_method_9_code 80 = .ok (.aload_n 0, 1) := by decide +kernel
theorem d_Ma_decideOrder_81 : decode prog_6_method_9_code 81 = .ok (.getfield 14, 3) := by decide +kernel
theorem d_Ma_decideOrder_84 : decode prog_6_method_9_code 84 = .ok (.iload_n 2, 1) := by decide +kernel
theorem d_Ma_decideOrder_85 : decode prog_6_method_9_code 85 = .ok (.iload_n 3, 1) := by decide +kernel
theorem d_Ma_decideOrder_86 : decode prog_6_method_9_code 86 = .ok (.ifCond .eq 7, 3) := by decide +kernel
theorem d_Ma_decideOrder_93 : decode prog_6_method_9_code 93 = .ok (.iconst 0, 1) := by decide +kernel
theorem d_Ma_decideOrder_94 : decode prog_6_method_9_code 94 = .ok (.invokevirtual 197, 3) := by decide +kernel
theorem d_Ma_decideOrder_97 : decode prog_6_method_9_code 97 = .ok (.goto 80, 3) := by decide +kernel
theorem d_Ma_decideOrder_89 : decode prog_6_method_9_code 89 = .ok (.iconst 1, 1) := by decide +kernel
theorem d_Ma_decideOrder_90 : decode prog_6_method_9_code 90 = .ok (.goto 4, 3) := by decide +kernel
theorem d_Ma_decideOrder_100 : decode prog_6_method_9_code 100 = .ok (.aload_n 0, 1) := by decide +kernel
theorem d_Ma_decideOrder_101 : decode prog_6_method_9_code 101 = .ok (.getfield 14, 3) := by decide +kernel
theorem d_Ma_decideOrder_104 : decode prog_6_method_9_code 104 = .ok (.iload_n 2, 1) := by decide +kernel
theorem d_Ma_decideOrder_105 : decode prog_6_method_9_code 105 = .ok (.iload_n 3, 1) := by decide +kernel
theorem d_Ma_decideOrder_106 : decode prog_6_method_9_code 106 = .ok (.ifCond .ge 7, 3) := by decide +kernel
theorem d_Ma_decideOrder_113 : decode prog_6_method_9_code 113 = .ok (.iconst 0, 1) := by decide +kernel
theorem d_Ma_decideOrder_114 : decode prog_6_method_9_code 114 = .ok (.invokevirtual 197, 3) := by decide +kernel
theorem d_Ma_decideOrder_117 : decode prog_6_method_9_code 117 = .ok (.goto 60, 3) := by decide +kernel
theorem d_Ma_decideOrder_109 : decode prog_6_method_9_code 109 = .ok (.iconst 1, 1) := by decide +kernel
theorem d_Ma_decideOrder_110 : decode prog_6_method_9_code 110 = .ok (.goto 4, 3) := by decide +kernel
theorem d_Ma_decideOrder_120 : decode prog_6_method_9_code 120 = .ok (.aload_n 0, 1) := by decide +kernel
theorem d_Ma_decideOrder_121 : decode prog_6_method_9_code 121 = .ok (.getfield 14, 3) := by decide +kernel
theorem d_Ma_decideOrder_124 : decode prog_6_method_9_code 124 = .ok (.iload_n 2, 1) := by decide +kernel
theorem d_Ma_decideOrder_125 : decode prog_6_method_9_code 125 = .ok (.iload_n 3, 1) := by decide +kernel
theorem d_Ma_decideOrder_126 : decode prog_6_method_9_code 126 = .ok (.ifCond .gt 7, 3) := by decide +kernel
theorem d_Ma_decideOrder_133 : decode prog_6_method_9_code 133 = .ok (.iconst 0, 1) := by decide +kernel
theorem d_Ma_decideOrder_134 : decode prog_6_method_9_code 134 = .ok (.invokevirtual 197, 3) := by decide +kernel
theorem d_Ma_decideOrder_137 : decode prog_6_method_9_code 137 = .ok (.goto 40, 3) := by decide +kernel
theorem d_Ma_decideOrder_129 : decode prog_6_method_9_code 129 = .ok (.iconst 1, 1) := by decide +kernel
theorem d_Ma_decideOrder_130 : decode prog_6_method_9_code 130 = .ok (.goto 4, 3) := by decide +kernel
theorem d_Ma_decideOrder_140 : decode prog_6_method_9_code 140 = .ok (.aload_n 0, 1) := by decide +kernel
theorem d_Ma_decideOrder_141 : decode prog_6_method_9_code 141 = .ok (.getfield 14, 3) := by decide +kernel
theorem d_Ma_decideOrder_144 : decode prog_6_method_9_code 144 = .ok (.iload_n 2, 1) := by decide +kernel
theorem d_Ma_decideOrder_145 : decode prog_6_method_9_code 145 = .ok (.iload_n 3, 1) := by decide +kernel
theorem d_Ma_decideOrder_146 : decode prog_6_method_9_code 146 = .ok (.ifCond .le 7, 3) := by decide +kernel
theorem d_Ma_decideOrder_153 : decode prog_6_method_9_code 153 = .ok (.iconst 0, 1) := by decide +kernel
theorem d_Ma_decideOrder_154 : decode prog_6_method_9_code 154 = .ok (.invokevirtual 197, 3) := by decide +kernel
theorem d_Ma_decideOrder_157 : decode prog_6_method_9_code 157 = .ok (.goto 20, 3) := by decide +kernel
theorem d_Ma_decideOrder_149 : decode prog_6_method_9_code 149 = .ok (.iconst 1, 1) := by decide +kernel
theorem d_Ma_decideOrder_150 : decode prog_6_method_9_code 150 = .ok (.goto 4, 3) := by decide +kernel
theorem d_Ma_decideOrder_160 : decode prog_6_method_9_code 160 = .ok (.aload_n 0, 1) := by decide +kernel
theorem d_Ma_decideOrder_161 : decode prog_6_method_9_code 161 = .ok (.getfield 14, 3) := by decide +kernel
theorem d_Ma_decideOrder_164 : decode prog_6_method_9_code 164 = .ok (.iload_n 2, 1) := by decide +kernel
theorem d_Ma_decideOrder_165 : decode prog_6_method_9_code 165 = .ok (.iload_n 3, 1) := by decide +kernel
theorem d_Ma_decideOrder_166 : decode prog_6_method_9_code 166 = .ok (.ifCond .lt 7, 3) := by decide +kernel
theorem d_Ma_decideOrder_173 : decode prog_6_method_9_code 173 = .ok (.iconst 0, 1) := by decide +kernel
theorem d_Ma_decideOrder_174 : decode prog_6_method_9_code 174 = .ok (.invokevirtual 197, 3) := by decide +kernel
theorem d_Ma_decideOrder_169 : decode prog_6_method_9_code 169 = .ok (.iconst 1, 1) := by decide +kernel
theorem d_Ma_decideOrder_170 : decode prog_6_method_9_code 170 = .ok (.goto 4, 3) := by decide +kernel
set_option maxHeartbeats 4000000 in
theorem w_Ma_decideOrder_0 {l : Launch} {G : gG} {d : Nat} {X : gX} {M : gM} {k : gM → Prop} {c : Nat} (hX : glX X c) {Q : gQ} (hO : gOld G Q) {w1 : Nat} (hw1 : w1 < 52) {x2 : Int} (hx2 : g32 x2)  (T : cI l G y_Vl_compare (gRm d) false [gR G (c + 1058), gI x2, gR G (c + 1058), gI (x2 + 1)] X M (fun v2 M1 => ((gSw w1 = 3 → ((¬ v2 = 0 → (cV l G y_Vl_setTruth (gRm d) true [gR G (c + 1058), gI x2, gI 0] X M1 (fun M4 => (k M4)))) ∧ (v2 = 0 → (cV l G y_Vl_setTruth (gRm d) true [gR G (c + 1058), gI x2, gI 1] X M1 (fun M5 => (k M5)))))) ∧ (gSw w1 = 4 → ((v2 = 0 → (cV l G y_Vl_setTruth (gRm d) true [gR G (c + 1058), gI x2, gI 0] X M1 (fun M7 => (k M7)))) ∧ (¬ v2 = 0 → (cV l G y_Vl_setTruth (gRm d) true [gR G (c + 1058), gI x2, gI 1] X M1 (fun M8 => (k M8)))))) ∧ (gSw w1 = 5 → ((0 ≤ v2 → (cV l G y_Vl_setTruth (gRm d) true [gR G (c + 1058), gI x2, gI 0] X M1 (fun M10 => (k M10)))) ∧ (¬ 0 ≤ v2 → (cV l G y_Vl_setTruth (gRm d) true [gR G (c + 1058), gI x2, gI 1] X M1 (fun M11 => (k M11)))))) ∧ (gSw w1 = 6 → ((0 < v2 → (cV l G y_Vl_setTruth (gRm d) true [gR G (c + 1058), gI x2, gI 0] X M1 (fun M13 => (k M13)))) ∧ (¬ 0 < v2 → (cV l G y_Vl_setTruth (gRm d) true [gR G (c + 1058), gI x2, gI 1] X M1 (fun M14 => (k M14)))))) ∧ (gSw w1 = 7 → ((v2 ≤ 0 → (cV l G y_Vl_setTruth (gRm d) true [gR G (c + 1058), gI x2, gI 0] X M1 (fun M16 => (k M16)))) ∧ (¬ v2 ≤ 0 → (cV l G y_Vl_setTruth (gRm d) true [gR G (c + 1058), gI x2, gI 1] X M1 (fun M17 => (k M17)))))) ∧ ((¬ gSw w1 = 3 ∧ ¬ gSw w1 = 4 ∧ ¬ gSw w1 = 5 ∧ ¬ gSw w1 = 6 ∧ ¬ gSw w1 = 7) → ((v2 < 0 → (cV l G y_Vl_setTruth (gRm d) true [gR G (c + 1058), gI x2, gI 0] X M1 (fun M19 => (k M19)))) ∧ (¬ v2 < 0 → (cV l G y_Vl_setTruth (gRm d) true [gR G (c + 1058), gI x2, gI 1] X M1 (fun M20 => (k M20))))))))) : wp l G y_Ma_decideOrder (gRm (d + 1)) true (kkV X k) false 0 [.val (gR G (c + 1057)), .val (.ref (Q.1 w1)), .val (gI x2), .unset] [] X M 0 0 := by
  refine wp_aload_n d_Ma_decideOrder_0 rfl rfl (g_nz (gl_1 hX 1057)) ?_
  refine xgetR d_Ma_decideOrder_1 gc_Ma f_Ma_14.1 f_Ma_14.2.1 f_Ma_14.2.2.1 (gl_1 hX 1057) (gl_2 hX (a := 1057) (by decide)) (gl_s hX 37 rfl) f_Ma_14.2.2.2.2.1 (gl_f hX 42 rfl) ?_
  refine wp_iload_n d_Ma_decideOrder_4 rfl rfl ?_
  refine wp_aload_n d_Ma_decideOrder_5 rfl rfl (g_nz (gl_1 hX 1057)) ?_
  refine xgetR d_Ma_decideOrder_6 gc_Ma f_Ma_14.1 f_Ma_14.2.1 f_Ma_14.2.2.1 (gl_1 hX 1057) (gl_2 hX (a := 1057) (by decide)) (gl_s hX 37 rfl) f_Ma_14.2.2.2.2.1 (gl_f hX 42 rfl) ?_
  refine wp_iload_n d_Ma_decideOrder_9 rfl rfl ?_
  refine wp_iconst d_Ma_decideOrder_10 ?_
  refine wp_iadd d_Ma_decideOrder_11 ?_
  refine xcV_I (md' := false) (As := [gI x2, gR G (c + 1058), gI (x2 + 1)]) (st := []) d_Ma_decideOrder_12 ca_Vl_compare ml_Ma_185 im_Vl_compare se_Vl_compare gc_Vl (gl_stk hX).1 (gv_2 (gl_stk hX)) (gl_stk hX).2.2.1 rfl (by decide) (by decide) rfl id id T (fun v2 M1 h3 T => ?_)
  refine wp_istore_n (L' := [.val (gR G (c + 1057)), .val (.ref (Q.1 w1)), .val (gI x2), .val (gI v2)]) d_Ma_decideOrder_15 rfl (by decide) rfl ?_
  refine wp_gets d_Ma_decideOrder_16 fs_Ma_189 (fun U hU => (hO U hU).2.2.2.2.1.1) ?_
  refine wp_aloadO_n d_Ma_decideOrder_19 rfl rfl ?_
  refine xo_ord hO hw1 d_Ma_decideOrder_20 (gWs_ord ml_Ma_194) (by simp only [List.map, gR_cat, gI_cat, gL_cat, g_rcat, List.sum_cons, List.sum_nil]; decide) ?_
  refine xo_sw hO d_Ma_decideOrder_23 hw1 ?_
  obtain ⟨T0, T1, T2, T3, T4, T5⟩ := T
  by_cases hc0 : gSw w1 = 3
  · refine xtabIn (tgt := 60) d_Ma_decideOrder_24 (w32_id (gS32 hw1)) 3 hc0 rfl rfl (by decide) ?_
    have T := T0 hc0
    refine wp_aload_n d_Ma_decideOrder_60 rfl rfl (g_nz (gl_1 hX 1057)) ?_
    refine xgetR d_Ma_decideOrder_61 gc_Ma f_Ma_14.1 f_Ma_14.2.1 f_Ma_14.2.2.1 (gl_1 hX 1057) (gl_2 hX (a := 1057) (by decide)) (gl_s hX 37 rfl) f_Ma_14.2.2.2.2.1 (gl_f hX 42 rfl) ?_
    refine wp_iload_n d_Ma_decideOrder_64 rfl rfl ?_
    refine wp_iload_n d_Ma_decideOrder_65 rfl rfl ?_
    refine xz_ne (tgt := 73) d_Ma_decideOrder_66 (by decide) (w32_id h3) (fun h6 => ?_) (fun h6 => ?_)
    · have T := T.1 h6
      refine wp_iconst d_Ma_decideOrder_73 ?_
      refine xcV_V (md' := true) (As := [gI x2, gI 0]) (st := []) d_Ma_decideOrder_74 ca_Vl_setTruth ml_Ma_197 im_Vl_setTruth se_Vl_setTruth gc_Vl (gl_stk hX).1 (gv_2 (gl_stk hX)) (gl_stk hX).2.2.1 rfl (by decide) (by decide) rfl (fun _ => rfl) (fun _ => rfl) T (fun M4 T => ?_)
      refine wp_goto (tgt := 177) d_Ma_decideOrder_77 (by decide) ?_
      exact wp_return d_Ma_decideOrder_177 rfl (fun _ => rfl) (Nat.zero_le _) (Nat.zero_le _) (kV_mk T)
    · have T := T.2 h6
      refine wp_iconst d_Ma_decideOrder_69 ?_
      refine wp_goto (tgt := 74) d_Ma_decideOrder_70 (by decide) ?_
      refine xcV_V (md' := true) (As := [gI x2, gI 1]) (st := []) d_Ma_decideOrder_74 ca_Vl_setTruth ml_Ma_197 im_Vl_setTruth se_Vl_setTruth gc_Vl (gl_stk hX).1 (gv_2 (gl_stk hX)) (gl_stk hX).2.2.1 rfl (by decide) (by decide) rfl (fun _ => rfl) (fun _ => rfl) T (fun M5 T => ?_)
      refine wp_goto (tgt := 177) d_Ma_decideOrder_77 (by decide) ?_
      exact wp_return d_Ma_decideOrder_177 rfl (fun _ => rfl) (Nat.zero_le _) (Nat.zero_le _) (kV_mk T)
  by_cases hc1 : gSw w1 = 4
  · refine xtabIn (tgt := 80) d_Ma_decideOrder_24 (w32_id (gS32 hw1)) 4 hc1 rfl rfl (by decide) ?_
    have T := T1 hc1
    refine wp_aload_n d_Ma_decideOrder_80 rfl rfl (g_nz (gl_1 hX 1057)) ?_
    refine xgetR d_Ma_decideOrder_81 gc_Ma f_Ma_14.1 f_Ma_14.2.1 f_Ma_14.2.2.1 (gl_1 hX 1057) (gl_2 hX (a := 1057) (by decide)) (gl_s hX 37 rfl) f_Ma_14.2.2.2.2.1 (gl_f hX 42 rfl) ?_
    refine wp_iload_n d_Ma_decideOrder_84 rfl rfl ?_
    refine wp_iload_n d_Ma_decideOrder_85 rfl rfl ?_
    refine xz_eq (tgt := 93) d_Ma_decideOrder_86 (by decide) (w32_id h3) (fun h9 => ?_) (fun h9 => ?_)
    · have T := T.1 h9
      refine wp_iconst d_Ma_decideOrder_93 ?_
      refine xcV_V (md' := true) (As := [gI x2, gI 0]) (st := []) d_Ma_decideOrder_94 ca_Vl_setTruth ml_Ma_197 im_Vl_setTruth se_Vl_setTruth gc_Vl (gl_stk hX).1 (gv_2 (gl_stk hX)) (gl_stk hX).2.2.1 rfl (by decide) (by decide) rfl (fun _ => rfl) (fun _ => rfl) T (fun M7 T => ?_)
      refine wp_goto (tgt := 177) d_Ma_decideOrder_97 (by decide) ?_
      exact wp_return d_Ma_decideOrder_177 rfl (fun _ => rfl) (Nat.zero_le _) (Nat.zero_le _) (kV_mk T)
    · have T := T.2 h9
      refine wp_iconst d_Ma_decideOrder_89 ?_
      refine wp_goto (tgt := 94) d_Ma_decideOrder_90 (by decide) ?_
      refine xcV_V (md' := true) (As := [gI x2, gI 1]) (st := []) d_Ma_decideOrder_94 ca_Vl_setTruth ml_Ma_197 im_Vl_setTruth se_Vl_setTruth gc_Vl (gl_stk hX).1 (gv_2 (gl_stk hX)) (gl_stk hX).2.2.1 rfl (by decide) (by decide) rfl (fun _ => rfl) (fun _ => rfl) T (fun M8 T => ?_)
      refine wp_goto (tgt := 177) d_Ma_decideOrder_97 (by decide) ?_
      exact wp_return d_Ma_decideOrder_177 rfl (fun _ => rfl) (Nat.zero_le _) (Nat.zero_le _) (kV_mk T)
  by_cases hc2 : gSw w1 = 5
  · refine xtabIn (tgt := 100) d_Ma_decideOrder_24 (w32_id (gS32 hw1)) 5 hc2 rfl rfl (by decide) ?_
    have T := T2 hc2
    refine wp_aload_n d_Ma_decideOrder_100 rfl rfl (g_nz (gl_1 hX 1057)) ?_
    refine xgetR d_Ma_decideOrder_101 gc_Ma f_Ma_14.1 f_Ma_14.2.1 f_Ma_14.2.2.1 (gl_1 hX 1057) (gl_2 hX (a := 1057) (by decide)) (gl_s hX 37 rfl) f_Ma_14.2.2.2.2.1 (gl_f hX 42 rfl) ?_
    refine wp_iload_n d_Ma_decideOrder_104 rfl rfl ?_
    refine wp_iload_n d_Ma_decideOrder_105 rfl rfl ?_
    refine xz_ge (tgt := 113) d_Ma_decideOrder_106 (by decide) (w32_id h3) (fun h12 => ?_) (fun h12 => ?_)
    · have T := T.1 h12
      refine wp_iconst d_Ma_decideOrder_113 ?_
      refine xcV_V (md' := true) (As := [gI x2, gI 0]) (st := []) d_Ma_decideOrder_114 ca_Vl_setTruth ml_Ma_197 im_Vl_setTruth se_Vl_setTruth gc_Vl (gl_stk hX).1 (gv_2 (gl_stk hX)) (gl_stk hX).2.2.1 rfl (by decide) (by decide) rfl (fun _ => rfl) (fun _ => rfl) T (fun M10 T => ?_)
      refine wp_goto (tgt := 177) d_Ma_decideOrder_117 (by decide) ?_
      exact wp_return d_Ma_decideOrder_177 rfl (fun _ => rfl) (Nat.zero_le _) (Nat.zero_le _) (kV_mk T)
    · have T := T.2 h12
      refine wp_iconst d_Ma_decideOrder_109 ?_
      refine wp_goto (tgt := 114) d_Ma_decideOrder_110 (by decide) ?_
      refine xcV_V (md' := true) (As := [gI x2, gI 1]) (st := []) d_Ma_decideOrder_114 ca_Vl_setTruth ml_Ma_197 im_Vl_setTruth se_Vl_setTruth gc_Vl (gl_stk hX).1 (gv_2 (gl_stk hX)) (gl_stk hX).2.2.1 rfl (by decide) (by decide) rfl (fun _ => rfl) (fun _ => rfl) T (fun M11 T => ?_)
      refine wp_goto (tgt := 177) d_Ma_decideOrder_117 (by decide) ?_
      exact wp_return d_Ma_decideOrder_177 rfl (fun _ => rfl) (Nat.zero_le _) (Nat.zero_le _) (kV_mk T)
  by_cases hc3 : gSw w1 = 6
  · refine xtabIn (tgt := 120) d_Ma_decideOrder_24 (w32_id (gS32 hw1)) 6 hc3 rfl rfl (by decide) ?_
    have T := T3 hc3
    refine wp_aload_n d_Ma_decideOrder_120 rfl rfl (g_nz (gl_1 hX 1057)) ?_
    refine xgetR d_Ma_decideOrder_121 gc_Ma f_Ma_14.1 f_Ma_14.2.1 f_Ma_14.2.2.1 (gl_1 hX 1057) (gl_2 hX (a := 1057) (by decide)) (gl_s hX 37 rfl) f_Ma_14.2.2.2.2.1 (gl_f hX 42 rfl) ?_
    refine wp_iload_n d_Ma_decideOrder_124 rfl rfl ?_
    refine wp_iload_n d_Ma_decideOrder_125 rfl rfl ?_
    refine xz_gt (tgt := 133) d_Ma_decideOrder_126 (by decide) (w32_id h3) (fun h15 => ?_) (fun h15 => ?_)
    · have T := T.1 h15
      refine wp_iconst d_Ma_decideOrder_133 ?_
      refine xcV_V (md' := true) (As := [gI x2, gI 0]) (st := []) d_Ma_decideOrder_134 ca_Vl_setTruth ml_Ma_197 im_Vl_setTruth se_Vl_setTruth gc_Vl (gl_stk hX).1 (gv_2 (gl_stk hX)) (gl_stk hX).2.2.1 rfl (by decide) (by decide) rfl (fun _ => rfl) (fun _ => rfl) T (fun M13 T => ?_)
      refine wp_goto (tgt := 177) d_Ma_decideOrder_137 (by decide) ?_
      exact wp_return d_Ma_decideOrder_177 rfl (fun _ => rfl) (Nat.zero_le _) (Nat.zero_le _) (kV_mk T)
    · have T := T.2 h15
      refine wp_iconst d_Ma_decideOrder_129 ?_
      refine wp_goto (tgt := 134) d_Ma_decideOrder_130 (by decide) ?_
      refine xcV_V (md' := true) (As := [gI x2, gI 1]) (st := []) d_Ma_decideOrder_134 ca_Vl_setTruth ml_Ma_197 im_Vl_setTruth se_Vl_setTruth gc_Vl (gl_stk hX).1 (gv_2 (gl_stk hX)) (gl_stk hX).2.2.1 rfl (by decide) (by decide) rfl (fun _ => rfl) (fun _ => rfl) T (fun M14 T => ?_)
      refine wp_goto (tgt := 177) d_Ma_decideOrder_137 (by decide) ?_
      exact wp_return d_Ma_decideOrder_177 rfl (fun _ => rfl) (Nat.zero_le _) (Nat.zero_le _) (kV_mk T)
  by_cases hc4 : gSw w1 = 7
  · refine xtabIn (tgt := 140) d_Ma_decideOrder_24 (w32_id (gS32 hw1)) 7 hc4 rfl rfl (by decide) ?_
    have T := T4 hc4
    refine wp_aload_n d_Ma_decideOrder_140 rfl rfl (g_nz (gl_1 hX 1057)) ?_
    refine xgetR d_Ma_decideOrder_141 gc_Ma f_Ma_14.1 f_Ma_14.2.1 f_Ma_14.2.2.1 (gl_1 hX 1057) (gl_2 hX (a := 1057) (by decide)) (gl_s hX 37 rfl) f_Ma_14.2.2.2.2.1 (gl_f hX 42 rfl) ?_
    refine wp_iload_n d_Ma_decideOrder_144 rfl rfl ?_
    refine wp_iload_n d_Ma_decideOrder_145 rfl rfl ?_
    refine xz_le (tgt := 153) d_Ma_decideOrder_146 (by decide) (w32_id h3) (fun h18 => ?_) (fun h18 => ?_)
    · have T := T.1 h18
      refine wp_iconst d_Ma_decideOrder_153 ?_
      refine xcV_V (md' := true) (As := [gI x2, gI 0]) (st := []) d_Ma_decideOrder_154 ca_Vl_setTruth ml_Ma_197 im_Vl_setTruth se_Vl_setTruth gc_Vl (gl_stk hX).1 (gv_2 (gl_stk hX)) (gl_stk hX).2.2.1 rfl (by decide) (by decide) rfl (fun _ => rfl) (fun _ => rfl) T (fun M16 T => ?_)
      refine wp_goto (tgt := 177) d_Ma_decideOrder_157 (by decide) ?_
      exact wp_return d_Ma_decideOrder_177 rfl (fun _ => rfl) (Nat.zero_le _) (Nat.zero_le _) (kV_mk T)
    · have T := T.2 h18
      refine wp_iconst d_Ma_decideOrder_149 ?_
      refine wp_goto (tgt := 154) d_Ma_decideOrder_150 (by decide) ?_
      refine xcV_V (md' := true) (As := [gI x2, gI 1]) (st := []) d_Ma_decideOrder_154 ca_Vl_setTruth ml_Ma_197 im_Vl_setTruth se_Vl_setTruth gc_Vl (gl_stk hX).1 (gv_2 (gl_stk hX)) (gl_stk hX).2.2.1 rfl (by decide) (by decide) rfl (fun _ => rfl) (fun _ => rfl) T (fun M17 T => ?_)
      refine wp_goto (tgt := 177) d_Ma_decideOrder_157 (by decide) ?_
      exact wp_return d_Ma_decideOrder_177 rfl (fun _ => rfl) (Nat.zero_le _) (Nat.zero_le _) (kV_mk T)
  refine xtabOut (tgt := 160) d_Ma_decideOrder_24 (w32_id (gS32 hw1)) (by omega) (by decide) ?_
  have T := T5 ⟨hc0, hc1, hc2, hc3, hc4⟩
  refine wp_aload_n d_Ma_decideOrder_160 rfl rfl (g_nz (gl_1 hX 1057)) ?_
  refine xgetR d_Ma_decideOrder_161 gc_Ma f_Ma_14.1 f_Ma_14.2.1 f_Ma_14.2.2.1 (gl_1 hX 1057) (gl_2 hX (a := 1057) (by decide)) (gl_s hX 37 rfl) f_Ma_14.2.2.2.2.1 (gl_f hX 42 rfl) ?_
  refine wp_iload_n d_Ma_decideOrder_164 rfl rfl ?_
  refine wp_iload_n d_Ma_decideOrder_165 rfl rfl ?_
  refine xz_lt (tgt := 173) d_Ma_decideOrder_166 (by decide) (w32_id h3) (fun h21 => ?_) (fun h21 => ?_)
  · have T := T.1 h21
    refine wp_iconst d_Ma_decideOrder_173 ?_
    refine xcV_V (md' := true) (As := [gI x2, gI 0]) (st := []) d_Ma_decideOrder_174 ca_Vl_setTruth ml_Ma_197 im_Vl_setTruth se_Vl_setTruth gc_Vl (gl_stk hX).1 (gv_2 (gl_stk hX)) (gl_stk hX).2.2.1 rfl (by decide) (by decide) rfl (fun _ => rfl) (fun _ => rfl) T (fun M19 T => ?_)
    exact wp_return d_Ma_decideOrder_177 rfl (fun _ => rfl) (Nat.zero_le _) (Nat.zero_le _) (kV_mk T)
  · have T := T.2 h21
    refine wp_iconst d_Ma_decideOrder_169 ?_
    refine wp_goto (tgt := 174) d_Ma_decideOrder_170 (by decide) ?_
    refine xcV_V (md' := true) (As := [gI x2, gI 1]) (st := []) d_Ma_decideOrder_174 ca_Vl_setTruth ml_Ma_197 im_Vl_setTruth se_Vl_setTruth gc_Vl (gl_stk hX).1 (gv_2 (gl_stk hX)) (gl_stk hX).2.2.1 rfl (by decide) (by decide) rfl (fun _ => rfl) (fun _ => rfl) T (fun M20 T => ?_)
    exact wp_return d_Ma_decideOrder_177 rfl (fun _ => rfl) (Nat.zero_le _) (Nat.zero_le _) (kV_mk T)
theorem e_Ma_decideOrder {l : Launch} {G : gG} {d : Nat} {X : gX} {M : gM} {k : gM → Prop} {Q : gQ} {c : Nat} {x2 : Int} {w1 : Nat} (T : wp l G y_Ma_decideOrder (gRm (d + 1)) true (kkV X k) false 0 [.val (gR G (c + 1057)), .val (.ref (Q.1 w1)), .val (gI x2), .unset] [] X M 0 0) : cV l G y_Ma_decideOrder (gRm (d + 1)) true [gR G (c + 1057), .ref (Q.1 w1), gI x2] X M k := cen_V (plainFor_of_name rfl) (by simp only [lg_sl_R, lg_sl_I, lg_sl_L, lg_sl_O, lg_sl_N, List.length_cons, List.length_nil]; decide) (by unfold gEn; simp only [lg_sl_R, lg_sl_I, lg_sl_L, lg_sl_O, lg_sl_N]; exact wpt T (And.intro rfl (And.intro rfl (And.intro rfl True.intro))))
