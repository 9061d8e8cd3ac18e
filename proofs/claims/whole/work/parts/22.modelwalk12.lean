/-! Walks of the reference's methods, written by wip/whole/gen_model.py -/
theorem d_GM_move_0 : decode prog_15_method_85_code 0 = .ok (.aload_n 0, 1) := by decide +kernel
theorem d_GM_move_1 : decode prog_15_method_85_code 1 = .ok (.getfield 72, 3) := by decide +kernel
theorem d_GM_move_4 : decode prog_15_method_85_code 4 = .ok (.ldc_w 547, 3) := by decide +kernel
theorem d_GM_move_7 : decode prog_15_method_85_code 7 = .ok (.iload_n 1, 1) := by decide +kernel
theorem d_GM_move_8 : decode prog_15_method_85_code 8 = .ok (.iadd, 1) := by decide +kernel
theorem d_GM_move_9 : decode prog_15_method_85_code 9 = .ok (.iaload, 1) := by decide +kernel
theorem d_GM_move_10 : decode prog_15_method_85_code 10 = .ok (.istore 4, 2) := by decide +kernel
theorem d_GM_move_12 : decode prog_15_method_85_code 12 = .ok (.iconst 0, 1) := by decide +kernel
theorem d_GM_move_13 : decode prog_15_method_85_code 13 = .ok (.istore 5, 2) := by decide +kernel
theorem d_GM_move_15 : decode prog_15_method_85_code 15 = .ok (.iload 5, 2) := by decide +kernel
theorem d_GM_move_17 : decode prog_15_method_85_code 17 = .ok (.aload_n 0, 1) := by decide +kernel
theorem d_GM_move_18 : decode prog_15_method_85_code 18 = .ok (.getfield 37, 3) := by decide +kernel
theorem d_GM_move_21 : decode prog_15_method_85_code 21 = .ok (.iload 4, 2) := by decide +kernel
theorem d_GM_move_23 : decode prog_15_method_85_code 23 = .ok (.iaload, 1) := by decide +kernel
theorem d_GM_move_24 : decode prog_15_method_85_code 24 = .ok (.if_icmp .ge 116, 3) := by decide +kernel
theorem d_GM_move_140 : decode prog_15_method_85_code 140 = .ok (.iconst 0, 1) := by decide +kernel
theorem d_GM_move_141 : decode prog_15_method_85_code 141 = .ok (.istore 5, 2) := by decide +kernel
theorem d_GM_move_27 : decode prog_15_method_85_code 27 = .ok (.aload_n 0, 1) := by decide +kernel
theorem d_GM_move_28 : decode prog_15_method_85_code 28 = .ok (.bipush 41, 2) := by decide +kernel
theorem d_GM_move_30 : decode prog_15_method_85_code 30 = .ok (.iload_n 1, 1) := by decide +kernel
theorem d_GM_move_31 : decode prog_15_method_85_code 31 = .ok (.iload 5, 2) := by decide +kernel
theorem d_GM_move_33 : decode prog_15_method_85_code 33 = .ok (.invokevirtual 299, 3) := by decide +kernel
theorem d_GM_move_36 : decode prog_15_method_85_code 36 = .ok (.istore 6, 2) := by decide +kernel
theorem d_GM_move_38 : decode prog_15_method_85_code 38 = .ok (.aload_n 0, 1) := by decide +kernel
theorem d_GM_move_39 : decode prog_15_method_85_code 39 = .ok (.getfield 44, 3) := by decide +kernel
theorem d_GM_move_42 : decode prog_15_method_85_code 42 = .ok (.aload_n 0, 1) := by decide +kernel
theorem d_GM_move_43 : decode prog_15_method_85_code 43 = .ok (.getfield 34, 3) := by decide +kernel
theorem d_GM_move_46 : decode prog_15_method_85_code 46 = .ok (.iload 4, 2) := by decide +kernel
theorem d_GM_move_48 : decode prog_15_method_85_code 48 = .ok (.iaload, 1) := by decide +kernel
theorem d_GM_move_49 : decode prog_15_method_85_code 49 = .ok (.iload 5, 2) := by decide +kernel
theorem d_GM_move_51 : decode prog_15_method_85_code 51 = .ok (.iadd, 1) := by decide +kernel
theorem d_GM_move_52 : decode prog_15_method_85_code 52 = .ok (.iaload, 1) := by decide +kernel
theorem d_GM_move_53 : decode prog_15_method_85_code 53 = .ok (.istore 7, 2) := by decide +kernel
theorem d_GM_move_55 : decode prog_15_method_85_code 55 = .ok (.iload 6, 2) := by decide +kernel
theorem d_GM_move_57 : decode prog_15_method_85_code 57 = .ok (.ifCond .ge 6, 3) := by decide +kernel
theorem d_GM_move_63 : decode prog_15_method_85_code 63 = .ok (.iload 6, 2) := by decide +kernel
theorem d_GM_move_65 : decode prog_15_method_85_code 65 = .ok (.bipush 26, 2) := by decide +kernel
theorem d_GM_move_67 : decode prog_15_method_85_code 67 = .ok (.irem, 1) := by decide +kernel
theorem d_GM_move_68 : decode prog_15_method_85_code 68 = .ok (.iload 7, 2) := by decide +kernel
theorem d_GM_move_70 : decode prog_15_method_85_code 70 = .ok (.iconst 1, 1) := by decide +kernel
theorem d_GM_move_71 : decode prog_15_method_85_code 71 = .ok (.iand, 1) := by decide +kernel
theorem d_GM_move_72 : decode prog_15_method_85_code 72 = .ok (.ifCond .ne 7, 3) := by decide +kernel
theorem d_GM_move_79 : decode prog_15_method_85_code 79 = .ok (.iconst 0, 1) := by decide +kernel
theorem d_GM_move_80 : decode prog_15_method_85_code 80 = .ok (.iadd, 1) := by decide +kernel
theorem d_GM_move_81 : decode prog_15_method_85_code 81 = .ok (.istore 8, 2) := by decide +kernel
theorem d_GM_move_83 : decode prog_15_method_85_code 83 = .ok (.iload 6, 2) := by decide +kernel
theorem d_GM_move_85 : decode prog_15_method_85_code 85 = .ok (.bipush 26, 2) := by decide +kernel
theorem d_GM_move_87 : decode prog_15_method_85_code 87 = .ok (.idiv, 1) := by decide +kernel
theorem d_GM_move_88 : decode prog_15_method_85_code 88 = .ok (.iload 7, 2) := by decide +kernel
theorem d_GM_move_90 : decode prog_15_method_85_code 90 = .ok (.iconst 2, 1) := by decide +kernel
theorem d_GM_move_91 : decode prog_15_method_85_code 91 = .ok (.iand, 1) := by decide +kernel
theorem d_GM_move_92 : decode prog_15_method_85_code 92 = .ok (.ifCond .ne 7, 3) := by decide +kernel
theorem d_GM_move_99 : decode prog_15_method_85_code 99 = .ok (.iconst 0, 1) := by decide +kernel
theorem d_GM_move_100 : decode prog_15_method_85_code 100 = .ok (.iadd, 1) := by decide +kernel
theorem d_GM_move_101 : decode prog_15_method_85_code 101 = .ok (.istore 9, 2) := by decide +kernel
theorem d_GM_move_103 : decode prog_15_method_85_code 103 = .ok (.aload_n 0, 1) := by decide +kernel
theorem d_GM_move_104 : decode prog_15_method_85_code 104 = .ok (.bipush 41, 2) := by decide +kernel
theorem d_GM_move_106 : decode prog_15_method_85_code 106 = .ok (.iload_n 1, 1) := by decide +kernel
theorem d_GM_move_107 : decode prog_15_method_85_code 107 = .ok (.iload 5, 2) := by decide +kernel
theorem d_GM_move_109 : decode prog_15_method_85_code 109 = .ok (.iload 8, 2) := by decide +kernel
theorem d_GM_move_111 : decode prog_15_method_85_code 111 = .ok (.iload 9, 2) := by decide +kernel
theorem d_GM_move_113 : decode prog_15_method_85_code 113 = .ok (.invokestatic 544, 3) := by decide +kernel
theorem d_GM_move_116 : decode prog_15_method_85_code 116 = .ok (.ifCond .eq 14, 3) := by decide +kernel
theorem d_GM_move_130 : decode prog_15_method_85_code 130 = .ok (.iconst (-1), 1) := by decide +kernel
theorem d_GM_move_131 : decode prog_15_method_85_code 131 = .ok (.invokevirtual 561, 3) := by decide +kernel
theorem d_GM_move_134 : decode prog_15_method_85_code 134 = .ok (.iinc 5 1, 3) := by decide +kernel
theorem d_GM_move_137 : decode prog_15_method_85_code 137 = .ok (.goto (-122), 3) := by decide +kernel
theorem d_GM_move_119 : decode prog_15_method_85_code 119 = .ok (.iload 8, 2) := by decide +kernel
theorem d_GM_move_121 : decode prog_15_method_85_code 121 = .ok (.bipush 26, 2) := by decide +kernel
theorem d_GM_move_123 : decode prog_15_method_85_code 123 = .ok (.iload 9, 2) := by decide +kernel
theorem d_GM_move_125 : decode prog_15_method_85_code 125 = .ok (.imul, 1) := by decide +kernel
theorem d_GM_move_126 : decode prog_15_method_85_code 126 = .ok (.iadd, 1) := by decide +kernel
theorem d_GM_move_127 : decode prog_15_method_85_code 127 = .ok (.goto 4, 3) := by decide +kernel
theorem d_GM_move_95 : decode prog_15_method_85_code 95 = .ok (.iload_n 3, 1) := by decide +kernel
theorem d_GM_move_96 : decode prog_15_method_85_code 96 = .ok (.goto 4, 3) := by decide +kernel
theorem d_GM_move_75 : decode prog_15_method_85_code 75 = .ok (.iload_n 2, 1) := by decide +kernel
theorem d_GM_move_76 : decode prog_15_method_85_code 76 = .ok (.goto 4, 3) := by decide +kernel
theorem d_GM_move_60 : decode prog_15_method_85_code 60 = .ok (.goto 74, 3) := by decide +kernel
theorem d_GM_move_143 : decode prog_15_method_85_code 143 = .ok (.iload 5, 2) := by decide +kernel
theorem d_GM_move_145 : decode prog_15_method_85_code 145 = .ok (.aload_n 0, 1) := by decide +kernel
theorem d_GM_move_146 : decode prog_15_method_85_code 146 = .ok (.getfield 37, 3) := by decide +kernel
theorem d_GM_move_149 : decode prog_15_method_85_code 149 = .ok (.iload 4, 2) := by decide +kernel
theorem d_GM_move_151 : decode prog_15_method_85_code 151 = .ok (.iaload, 1) := by decide +kernel
theorem d_GM_move_152 : decode prog_15_method_85_code 152 = .ok (.if_icmp .ge 76, 3) := by decide +kernel
theorem d_GM_move_228 : decode prog_15_method_85_code 228 = .ok (.return_, 1) := by decide +kernel
theorem d_GM_move_155 : decode prog_15_method_85_code 155 = .ok (.aload_n 0, 1) := by decide +kernel
theorem d_GM_move_156 : decode prog_15_method_85_code 156 = .ok (.bipush 41, 2) := by decide +kernel
theorem d_GM_move_158 : decode prog_15_method_85_code 158 = .ok (.iload_n 1, 1) := by decide +kernel
theorem d_GM_move_159 : decode prog_15_method_85_code 159 = .ok (.iload 5, 2) := by decide +kernel
theorem d_GM_move_161 : decode prog_15_method_85_code 161 = .ok (.invokevirtual 295, 3) := by decide +kernel
theorem d_GM_move_164 : decode prog_15_method_85_code 164 = .ok (.iconst 1, 1) := by decide +kernel
theorem d_GM_move_165 : decode prog_15_method_85_code 165 = .ok (.if_icmp .eq 6, 3) := by decide +kernel
theorem d_GM_move_171 : decode prog_15_method_85_code 171 = .ok (.aload_n 0, 1) := by decide +kernel
theorem d_GM_move_172 : decode prog_15_method_85_code 172 = .ok (.bipush 41, 2) := by decide +kernel
theorem d_GM_move_174 : decode prog_15_method_85_code 174 = .ok (.iload_n 1, 1) := by decide +kernel
theorem d_GM_move_175 : decode prog_15_method_85_code 175 = .ok (.iload 5, 2) := by decide +kernel
theorem d_GM_move_177 : decode prog_15_method_85_code 177 = .ok (.invokevirtual 299, 3) := by decide +kernel
theorem d_GM_move_180 : decode prog_15_method_85_code 180 = .ok (.ifCond .lt 20, 3) := by decide +kernel
theorem d_GM_move_200 : decode prog_15_method_85_code 200 = .ok (.aload_n 0, 1) := by decide +kernel
theorem d_GM_move_201 : decode prog_15_method_85_code 201 = .ok (.bipush 41, 2) := by decide +kernel
theorem d_GM_move_203 : decode prog_15_method_85_code 203 = .ok (.iload_n 1, 1) := by decide +kernel
theorem d_GM_move_204 : decode prog_15_method_85_code 204 = .ok (.iload 5, 2) := by decide +kernel
theorem d_GM_move_206 : decode prog_15_method_85_code 206 = .ok (.iconst (-1), 1) := by decide +kernel
theorem d_GM_move_207 : decode prog_15_method_85_code 207 = .ok (.invokevirtual 561, 3) := by decide +kernel
theorem d_GM_move_210 : decode prog_15_method_85_code 210 = .ok (.aload_n 0, 1) := by decide +kernel
theorem d_GM_move_211 : decode prog_15_method_85_code 211 = .ok (.bipush 41, 2) := by decide +kernel
theorem d_GM_move_213 : decode prog_15_method_85_code 213 = .ok (.iload_n 1, 1) := by decide +kernel
theorem d_GM_move_214 : decode prog_15_method_85_code 214 = .ok (.iload 5, 2) := by decide +kernel
theorem d_GM_move_216 : decode prog_15_method_85_code 216 = .ok (.iconst 1, 1) := by decide +kernel
theorem d_GM_move_217 : decode prog_15_method_85_code 217 = .ok (.iadd, 1) := by decide +kernel
theorem d_GM_move_218 : decode prog_15_method_85_code 218 = .ok (.iconst (-1), 1) := by decide +kernel
theorem d_GM_move_219 : decode prog_15_method_85_code 219 = .ok (.invokevirtual 561, 3) := by decide +kernel
theorem d_GM_move_222 : decode prog_15_method_85_code 222 = .ok (.iinc 5 1, 3) := by decide +kernel
theorem d_GM_move_225 : decode prog_15_method_85_code 225 = .ok (.goto (-82), 3) := by decide +kernel
theorem d_GM_move_183 : decode prog_15_method_85_code 183 = .ok (.aload_n 0, 1) := by decide +kernel
theorem d_GM_move_184 : decode prog_15_method_85_code 184 = .ok (.bipush 41, 2) := by decide +kernel
theorem d_GM_move_186 : decode prog_15_method_85_code 186 = .ok (.iload_n 1, 1) := by decide +kernel
theorem d_GM_move_187 : decode prog_15_method_85_code 187 = .ok (.iload 5, 2) := by decide +kernel
theorem d_GM_move_189 : decode prog_15_method_85_code 189 = .ok (.iconst 1, 1) := by decide +kernel
theorem d_GM_move_190 : decode prog_15_method_85_code 190 = .ok (.iadd, 1) := by decide +kernel
theorem d_GM_move_191 : decode prog_15_method_85_code 191 = .ok (.invokevirtual 299, 3) := by decide +kernel
theorem d_GM_move_194 : decode prog_15_method_85_code 194 = .ok (.ifCond .lt 6, 3) := by decide +kernel
theorem d_GM_move_197 : decode prog_15_method_85_code 197 = .ok (.goto 25, 3) := by decide +kernel
theorem d_GM_move_168 : decode prog_15_method_85_code 168 = .ok (.goto 54, 3) := by decide +kernel
set_option maxHeartbeats 4000000 in
theorem w_GM_move_0 {l : Launch} {G : gG} {d : Nat} {X : gX} {M : gM} {k : gM → Prop} {o : Nat} (hX : gmX X o) {x1 : Int} (hx1 : g32 x1) {x2 : Int} (hx2 : g32 x2) {x3 : Int} (hx3 : g32 x3) (T : ((0 : Int) ≤ 213200 + x1 ∧ 213200 + x1 < 218400) ∧ (g32 (M (o + 20) (Int.toNat (213200 + x1))) → (wp l G y_GM_move (gRm (d + 1)) true (kkV X k) true 15 [.val (gR G o), .val (gI x1), .val (gI x2), .val (gI x3), .val (gI (M (o + 20) (Int.toNat (213200 + x1)))), .val (gI 0), .unset, .unset, .unset, .unset] [] X M 0 0))) : wp l G y_GM_move (gRm (d + 1)) true (kkV X k) false 0 [.val (gR G o), .val (gI x1), .val (gI x2), .val (gI x3), .unset, .unset, .unset, .unset, .unset, .unset] [] X M 0 0 := by
  refine wp_aload_n d_GM_move_0 rfl rfl (g_nz hX.1) ?_
  refine xgetR d_GM_move_1 gc_GM f_GM_72.1 f_GM_72.2.1 f_GM_72.2.2.1 hX.1 (gm_o2 hX) hX.2.2.1 f_GM_72.2.2.2.2.1 (gm_row hX 19 rfl).1 ?_
  refine wp_ldcw (n := 213200) d_GM_move_4 c_GM_547 rfl ?_
  refine wp_iload_n d_GM_move_7 rfl rfl ?_
  refine wp_iadd d_GM_move_8 ?_
  refine wp_iaload d_GM_move_9 (gm_row hX 19 rfl).2.2.1 (gm_row hX 19 rfl).2.2.2 (gm_row hX 19 rfl).2.1 (g32_n T.1 (by decide)) T.1.1 T.1.2 (fun h1 => ?_)
  have T := T.2 h1
  refine wp_istore (L' := [.val (gR G o), .val (gI x1), .val (gI x2), .val (gI x3), .val (gI (M (o + 20) (Int.toNat (213200 + x1)))), .unset, .unset, .unset, .unset, .unset]) d_GM_move_10 (by decide) rfl ?_
  refine wp_iconst d_GM_move_12 ?_
  refine wp_istore (L' := [.val (gR G o), .val (gI x1), .val (gI x2), .val (gI x3), .val (gI (M (o + 20) (Int.toNat (213200 + x1)))), .val (gI 0), .unset, .unset, .unset, .unset]) d_GM_move_13 (by decide) rfl ?_
  exact wp_md (wpt T (And.intro rfl (And.intro rfl (And.intro rfl (And.intro rfl (And.intro rfl (And.intro rfl True.intro)))))))
set_option maxHeartbeats 4000000 in
theorem w_GM_move_15 {l : Launch} {G : gG} {d : Nat} {X : gX} {M : gM} {k : gM → Prop} {o : Nat} (hX : gmX X o) {x1 : Int} (hx1 : g32 x1) {x2 : Int} (hx2 : g32 x2) {x3 : Int} (hx3 : g32 x3) {x4 : Int} (hx4 : g32 x4) {x5 : Int} (hx5 : g32 x5) (T : ((0 : Int) ≤ x4 ∧ x4 < 4200) ∧ (g32 (M (o + 9) (Int.toNat x4)) → ((M (o + 9) (Int.toNat x4) ≤ x5 → (wp l G y_GM_move (gRm (d + 1)) true (kkV X k) true 143 [.val (gR G o), .val (gI x1), .unset, .unset, .val (gI x4), .val (gI 0), .unset, .unset, .unset, .unset] [] X M 0 0)) ∧ (¬ M (o + 9) (Int.toNat x4) ≤ x5 → (cI l G y_GM_ref_2 (gRm d) false [gR G o, gI 41, gI x1, gI x5] X M (fun v4 M3 => (((0 : Int) ≤ x4 ∧ x4 < 4200) ∧ (g32 (M3 (o + 8) (Int.toNat x4)) → (((0 : Int) ≤ (M3 (o + 8) (Int.toNat x4)) + x5 ∧ (M3 (o + 8) (Int.toNat x4)) + x5 < 45000) ∧ (g32 (M3 (o + 11) (Int.toNat ((M3 (o + 8) (Int.toNat x4)) + x5))) → ((0 ≤ v4 → ((¬ gAnd (M3 (o + 11) (Int.toNat ((M3 (o + 8) (Int.toNat x4)) + x5))) 1 = 0 → ((¬ gAnd (M3 (o + 11) (Int.toNat ((M3 (o + 8) (Int.toNat x4)) + x5))) 2 = 0 → (cZ l G y_GM_inSheet (gRm d) false [gI ((v4.tmod 26) + 0), gI ((v4.tdiv 26) + 0)] X M3 (fun v9 M8 => ((v9 = 0 → (cV l G y_GM_setRef (gRm d) true [gR G o, gI 41, gI x1, gI x5, gI (-1)] X M8 (fun M11 => (wp l G y_GM_move (gRm (d + 1)) true (kkV X k) true 15 [.val (gR G o), .val (gI x1), .val (gI x2), .val (gI x3), .val (gI x4), .val (gI (w32 (x5 + 1))), .unset, .unset, .unset, .unset] [] X M11 0 0)))) ∧ (¬ v9 = 0 → (cV l G y_GM_setRef (gRm d) true [gR G o, gI 41, gI x1, gI x5, gI (((v4.tmod 26) + 0) + (26 * ((v4.tdiv 26) + 0)))] X M8 (fun M12 => (wp l G y_GM_move (gRm (d + 1)) true (kkV X k) true 15 [.val (gR G o), .val (gI x1), .val (gI x2), .val (gI x3), .val (gI x4), .val (gI (w32 (x5 + 1))), .unset, .unset, .unset, .unset] [] X M12 0 0)))))))) ∧ (gAnd (M3 (o + 11) (Int.toNat ((M3 (o + 8) (Int.toNat x4)) + x5))) 2 = 0 → (cZ l G y_GM_inSheet (gRm d) false [gI ((v4.tmod 26) + 0), gI ((v4.tdiv 26) + x3)] X M3 (fun v15 M14 => ((v15 = 0 → (cV l G y_GM_setRef (gRm d) true [gR G o, gI 41, gI x1, gI x5, gI (-1)] X M14 (fun M17 => (wp l G y_GM_move (gRm (d + 1)) true (kkV X k) true 15 [.val (gR G o), .val (gI x1), .val (gI x2), .val (gI x3), .val (gI x4), .val (gI (w32 (x5 + 1))), .unset, .unset, .unset, .unset] [] X M17 0 0)))) ∧ (¬ v15 = 0 → (cV l G y_GM_setRef (gRm d) true [gR G o, gI 41, gI x1, gI x5, gI (((v4.tmod 26) + 0) + (26 * ((v4.tdiv 26) + x3)))] X M14 (fun M18 => (wp l G y_GM_move (gRm (d + 1)) true (kkV X k) true 15 [.val (gR G o), .val (gI x1), .val (gI x2), .val (gI x3), .val (gI x4), .val (gI (w32 (x5 + 1))), .unset, .unset, .unset, .unset] [] X M18 0 0)))))))))) ∧ (gAnd (M3 (o + 11) (Int.toNat ((M3 (o + 8) (Int.toNat x4)) + x5))) 1 = 0 → ((¬ gAnd (M3 (o + 11) (Int.toNat ((M3 (o + 8) (Int.toNat x4)) + x5))) 2 = 0 → (cZ l G y_GM_inSheet (gRm d) false [gI ((v4.tmod 26) + x2), gI ((v4.tdiv 26) + 0)] X M3 (fun v22 M21 => ((v22 = 0 → (cV l G y_GM_setRef (gRm d) true [gR G o, gI 41, gI x1, gI x5, gI (-1)] X M21 (fun M24 => (wp l G y_GM_move (gRm (d + 1)) true (kkV X k) true 15 [.val (gR G o), .val (gI x1), .val (gI x2), .val (gI x3), .val (gI x4), .val (gI (w32 (x5 + 1))), .unset, .unset, .unset, .unset] [] X M24 0 0)))) ∧ (¬ v22 = 0 → (cV l G y_GM_setRef (gRm d) true [gR G o, gI 41, gI x1, gI x5, gI (((v4.tmod 26) + x2) + (26 * ((v4.tdiv 26) + 0)))] X M21 (fun M25 => (wp l G y_GM_move (gRm (d + 1)) true (kkV X k) true 15 [.val (gR G o), .val (gI x1), .val (gI x2), .val (gI x3), .val (gI x4), .val (gI (w32 (x5 + 1))), .unset, .unset, .unset, .unset] [] X M25 0 0)))))))) ∧ (gAnd (M3 (o + 11) (Int.toNat ((M3 (o + 8) (Int.toNat x4)) + x5))) 2 = 0 → (cZ l G y_GM_inSheet (gRm d) false [gI ((v4.tmod 26) + x2), gI ((v4.tdiv 26) + x3)] X M3 (fun v28 M27 => ((v28 = 0 → (cV l G y_GM_setRef (gRm d) true [gR G o, gI 41, gI x1, gI x5, gI (-1)] X M27 (fun M30 => (wp l G y_GM_move (gRm (d + 1)) true (kkV X k) true 15 [.val (gR G o), .val (gI x1), .val (gI x2), .val (gI x3), .val (gI x4), .val (gI (w32 (x5 + 1))), .unset, .unset, .unset, .unset] [] X M30 0 0)))) ∧ (¬ v28 = 0 → (cV l G y_GM_setRef (gRm d) true [gR G o, gI 41, gI x1, gI x5, gI (((v4.tmod 26) + x2) + (26 * ((v4.tdiv 26) + x3)))] X M27 (fun M31 => (wp l G y_GM_move (gRm (d + 1)) true (kkV X k) true 15 [.val (gR G o), .val (gI x1), .val (gI x2), .val (gI x3), .val (gI x4), .val (gI (w32 (x5 + 1))), .unset, .unset, .unset, .unset] [] X M31 0 0)))))))))))) ∧ (¬ 0 ≤ v4 → (wp l G y_GM_move (gRm (d + 1)) true (kkV X k) true 15 [.val (gR G o), .val (gI x1), .val (gI x2), .val (gI x3), .val (gI x4), .val (gI (w32 (x5 + 1))), .unset, .unset, .unset, .unset] [] X M3 0 0))))))))))))) : wp l G y_GM_move (gRm (d + 1)) true (kkV X k) true 15 [.val (gR G o), .val (gI x1), .val (gI x2), .val (gI x3), .val (gI x4), .val (gI x5), .unset, .unset, .unset, .unset] [] X M 0 0 := by
  refine wp_iload d_GM_move_15 rfl ?_
  refine wp_aload_n d_GM_move_17 rfl rfl (g_nz hX.1) ?_
  refine xgetR d_GM_move_18 gc_GM f_GM_37.1 f_GM_37.2.1 f_GM_37.2.2.1 hX.1 (gm_o2 hX) hX.2.2.1 f_GM_37.2.2.2.2.1 (gm_row hX 8 rfl).1 ?_
  refine wp_iload d_GM_move_21 rfl ?_
  refine wp_iaload d_GM_move_23 (gm_row hX 8 rfl).2.2.1 (gm_row hX 8 rfl).2.2.2 (gm_row hX 8 rfl).2.1 (g32_n T.1 (by decide)) T.1.1 T.1.2 (fun h2 => ?_)
  have T := T.2 h2
  refine xi_ge (tgt := 140) d_GM_move_24 (by decide) (w32_id hx5) (w32_id h2) (fun h36 => ?_) (fun h36 => ?_)
  · have T := T.1 h36
    refine wp_iconst d_GM_move_140 ?_
    refine wp_istore (L' := [.val (gR G o), .val (gI x1), .val (gI x2), .val (gI x3), .val (gI x4), .val (gI 0), .unset, .unset, .unset, .unset]) d_GM_move_141 (by decide) rfl ?_
    exact wp_md (wpt T (And.intro rfl (And.intro rfl (And.intro rfl (And.intro rfl True.intro)))))
  · have T := T.2 h36
    refine wp_aload_n d_GM_move_27 rfl rfl (g_nz hX.1) ?_
    refine wp_bipush d_GM_move_28 ⟨by decide, by decide⟩ ?_
    refine wp_iload_n d_GM_move_30 rfl rfl ?_
    refine wp_iload d_GM_move_31 rfl ?_
    refine xcV_I (md' := true) (As := [gI 41, gI x1, gI x5]) (st := []) d_GM_move_33 ca_GM_ref_2 ml_GM_299 im_GM_ref_2 se_GM_ref_2 gc_GM hX.1 (gm_o2 hX) hX.2.2.1 rfl (by decide) (by decide) rfl (fun _ => rfl) (fun _ => rfl) T (fun v4 M3 h5 T => ?_)
    refine wp_istore (L' := [.val (gR G o), .val (gI x1), .val (gI x2), .val (gI x3), .val (gI x4), .val (gI x5), .val (gI v4), .unset, .unset, .unset]) d_GM_move_36 (by decide) rfl ?_
    refine wp_aload_n d_GM_move_38 rfl rfl (g_nz hX.1) ?_
    refine xgetR d_GM_move_39 gc_GM f_GM_44.1 f_GM_44.2.1 f_GM_44.2.2.1 hX.1 (gm_o2 hX) hX.2.2.1 f_GM_44.2.2.2.2.1 (gm_row hX 10 rfl).1 ?_
    refine wp_aload_n d_GM_move_42 rfl rfl (g_nz hX.1) ?_
    refine xgetR d_GM_move_43 gc_GM f_GM_34.1 f_GM_34.2.1 f_GM_34.2.2.1 hX.1 (gm_o2 hX) hX.2.2.1 f_GM_34.2.2.2.2.1 (gm_row hX 7 rfl).1 ?_
    refine wp_iload d_GM_move_46 rfl ?_
    refine wp_iaload d_GM_move_48 (gm_row hX 7 rfl).2.2.1 (gm_row hX 7 rfl).2.2.2 (gm_row hX 7 rfl).2.1 (g32_n T.1 (by decide)) T.1.1 T.1.2 (fun h6 => ?_)
    have T := T.2 h6
    refine wp_iload d_GM_move_49 rfl ?_
    refine wp_iadd d_GM_move_51 ?_
    refine wp_iaload d_GM_move_52 (gm_row hX 10 rfl).2.2.1 (gm_row hX 10 rfl).2.2.2 (gm_row hX 10 rfl).2.1 (g32_n T.1 (by decide)) T.1.1 T.1.2 (fun h7 => ?_)
    have T := T.2 h7
    refine wp_istore (L' := [.val (gR G o), .val (gI x1), .val (gI x2), .val (gI x3), .val (gI x4), .val (gI x5), .val (gI v4), .val (gI (M3 (o + 11) (Int.toNat ((M3 (o + 8) (Int.toNat x4)) + x5)))), .unset, .unset]) d_GM_move_53 (by decide) rfl ?_
    refine wp_iload d_GM_move_55 rfl ?_
    refine xz_ge (tgt := 63) d_GM_move_57 (by decide) (w32_id h5) (fun h35 => ?_) (fun h35 => ?_)
    · have T := T.1 h35
      refine wp_iload d_GM_move_63 rfl ?_
      refine wp_bipush d_GM_move_65 ⟨by decide, by decide⟩ ?_
      refine xirem d_GM_move_67 (w32_id h5) (w32_id (g32_c (x := 26) rfl)) (by decide) ?_
      refine wp_iload d_GM_move_68 rfl ?_
      refine wp_iconst d_GM_move_70 ?_
      refine wp_iand d_GM_move_71 ?_
      refine xz_ne (tgt := 79) d_GM_move_72 (by decide) (w32_id (gAnd_ok _ _)) (fun h34 => ?_) (fun h34 => ?_)
      · have T := T.1 h34
        refine wp_iconst d_GM_move_79 ?_
        refine wp_iadd d_GM_move_80 ?_
        refine wp_istore (L' := [.val (gR G o), .val (gI x1), .val (gI x2), .val (gI x3), .val (gI x4), .val (gI x5), .val (gI v4), .val (gI (M3 (o + 11) (Int.toNat ((M3 (o + 8) (Int.toNat x4)) + x5)))), .val (gI ((v4.tmod 26) + 0)), .unset]) d_GM_move_81 (by decide) rfl ?_
        refine wp_iload d_GM_move_83 rfl ?_
        refine wp_bipush d_GM_move_85 ⟨by decide, by decide⟩ ?_
        refine xidiv d_GM_move_87 (w32_id h5) (w32_id (g32_c (x := 26) rfl)) (by decide) ?_
        refine wp_iload d_GM_move_88 rfl ?_
        refine wp_iconst d_GM_move_90 ?_
        refine wp_iand d_GM_move_91 ?_
        refine xz_ne (tgt := 99) d_GM_move_92 (by decide) (w32_id (gAnd_ok _ _)) (fun h20 => ?_) (fun h20 => ?_)
        · have T := T.1 h20
          refine wp_iconst d_GM_move_99 ?_
          refine wp_iadd d_GM_move_100 ?_
          refine wp_istore (L' := [.val (gR G o), .val (gI x1), .val (gI x2), .val (gI x3), .val (gI x4), .val (gI x5), .val (gI v4), .val (gI (M3 (o + 11) (Int.toNat ((M3 (o + 8) (Int.toNat x4)) + x5)))), .val (gI ((v4.tmod 26) + 0)), .val (gI ((v4.tdiv 26) + 0))]) d_GM_move_101 (by decide) rfl ?_
          refine wp_aload_n d_GM_move_103 rfl rfl (g_nz hX.1) ?_
          refine wp_bipush d_GM_move_104 ⟨by decide, by decide⟩ ?_
          refine wp_iload_n d_GM_move_106 rfl rfl ?_
          refine wp_iload d_GM_move_107 rfl ?_
          refine wp_iload d_GM_move_109 rfl ?_
          refine wp_iload d_GM_move_111 rfl ?_
          refine xcS_Z (md' := true) (As := [gI ((v4.tmod 26) + 0), gI ((v4.tdiv 26) + 0)]) (st := [gI x5, gI x1, gI 41, gR G o]) d_GM_move_113 ca_GM_inSheet ml_GM_544 sm_GM_inSheet rfl (by decide) (by simp only [List.map, gR_cat, gI_cat, gL_cat, List.sum_cons, List.sum_nil]; decide) rfl (fun _ => rfl) (fun _ => rfl) T (fun v9 M8 h10 T => ?_)
          refine xz_eq (tgt := 130) d_GM_move_116 (by decide) (w32_id (g32_z h10)) (fun h13 => ?_) (fun h13 => ?_)
          · have T := T.1 h13
            refine wp_iconst d_GM_move_130 ?_
            refine xcV_V (md' := true) (As := [gI 41, gI x1, gI x5, gI (-1)]) (st := []) d_GM_move_131 ca_GM_setRef ml_GM_561 im_GM_setRef se_GM_setRef gc_GM hX.1 (gm_o2 hX) hX.2.2.1 rfl (by decide) (by decide) rfl (fun _ => rfl) (fun _ => rfl) T (fun M11 T => ?_)
            refine wp_iinc (L' := [.val (gR G o), .val (gI x1), .val (gI x2), .val (gI x3), .val (gI x4), .val (gI (x5 + 1)), .val (gI v4), .val (gI (M3 (o + 11) (Int.toNat ((M3 (o + 8) (Int.toNat x4)) + x5)))), .val (gI ((v4.tmod 26) + 0)), .val (gI ((v4.tdiv 26) + 0))]) d_GM_move_134 rfl (by decide) rfl ?_
            refine wp_goto (tgt := 15) d_GM_move_137 (by decide) ?_
            exact wp_md (wpt T (And.intro rfl (And.intro rfl (And.intro rfl (And.intro rfl (And.intro rfl (And.intro (gI_w _) True.intro)))))))
          · have T := T.2 h13
            refine wp_iload d_GM_move_119 rfl ?_
            refine wp_bipush d_GM_move_121 ⟨by decide, by decide⟩ ?_
            refine wp_iload d_GM_move_123 rfl ?_
            refine wp_imul d_GM_move_125 ?_
            refine wp_iadd d_GM_move_126 ?_
            refine wp_goto (tgt := 131) d_GM_move_127 (by decide) ?_
            refine xcV_V (md' := true) (As := [gI 41, gI x1, gI x5, gI (((v4.tmod 26) + 0) + (26 * ((v4.tdiv 26) + 0)))]) (st := []) d_GM_move_131 ca_GM_setRef ml_GM_561 im_GM_setRef se_GM_setRef gc_GM hX.1 (gm_o2 hX) hX.2.2.1 rfl (by decide) (by decide) rfl (fun _ => rfl) (fun _ => rfl) T (fun M12 T => ?_)
            refine wp_iinc (L' := [.val (gR G o), .val (gI x1), .val (gI x2), .val (gI x3), .val (gI x4), .val (gI (x5 + 1)), .val (gI v4), .val (gI (M3 (o + 11) (Int.toNat ((M3 (o + 8) (Int.toNat x4)) + x5)))), .val (gI ((v4.tmod 26) + 0)), .val (gI ((v4.tdiv 26) + 0))]) d_GM_move_134 rfl (by decide) rfl ?_
            refine wp_goto (tgt := 15) d_GM_move_137 (by decide) ?_
            exact wp_md (wpt T (And.intro rfl (And.intro rfl (And.intro rfl (And.intro rfl (And.intro rfl (And.intro (gI_w _) True.intro)))))))
        · have T := T.2 h20
          refine wp_iload_n d_GM_move_95 rfl rfl ?_
          refine wp_goto (tgt := 100) d_GM_move_96 (by decide) ?_
          refine wp_iadd d_GM_move_100 ?_
          refine wp_istore (L' := [.val (gR G o), .val (gI x1), .val (gI x2), .val (gI x3), .val (gI x4), .val (gI x5), .val (gI v4), .val (gI (M3 (o + 11) (Int.toNat ((M3 (o + 8) (Int.toNat x4)) + x5)))), .val (gI ((v4.tmod 26) + 0)), .val (gI ((v4.tdiv 26) + x3))]) d_GM_move_101 (by decide) rfl ?_
          refine wp_aload_n d_GM_move_103 rfl rfl (g_nz hX.1) ?_
          refine wp_bipush d_GM_move_104 ⟨by decide, by decide⟩ ?_
          refine wp_iload_n d_GM_move_106 rfl rfl ?_
          refine wp_iload d_GM_move_107 rfl ?_
          refine wp_iload d_GM_move_109 rfl ?_
          refine wp_iload d_GM_move_111 rfl ?_
          refine xcS_Z (md' := true) (As := [gI ((v4.tmod 26) + 0), gI ((v4.tdiv 26) + x3)]) (st := [gI x5, gI x1, gI 41, gR G o]) d_GM_move_113 ca_GM_inSheet ml_GM_544 sm_GM_inSheet rfl (by decide) (by simp only [List.map, gR_cat, gI_cat, gL_cat, List.sum_cons, List.sum_nil]; decide) rfl (fun _ => rfl) (fun _ => rfl) T (fun v15 M14 h16 T => ?_)
          refine xz_eq (tgt := 130) d_GM_move_116 (by decide) (w32_id (g32_z h16)) (fun h19 => ?_) (fun h19 => ?_)
          · have T := T.1 h19
            refine wp_iconst d_GM_move_130 ?_
            refine xcV_V (md' := true) (As := [gI 41, gI x1, gI x5, gI (-1)]) (st := []) d_GM_move_131 ca_GM_setRef ml_GM_561 im_GM_setRef se_GM_setRef gc_GM hX.1 (gm_o2 hX) hX.2.2.1 rfl (by decide) (by decide) rfl (fun _ => rfl) (fun _ => rfl) T (fun M17 T => ?_)
            refine wp_iinc (L' := [.val (gR G o), .val (gI x1), .val (gI x2), .val (gI x3), .val (gI x4), .val (gI (x5 + 1)), .val (gI v4), .val (gI (M3 (o + 11) (Int.toNat ((M3 (o + 8) (Int.toNat x4)) + x5)))), .val (gI ((v4.tmod 26) + 0)), .val (gI ((v4.tdiv 26) + x3))]) d_GM_move_134 rfl (by decide) rfl ?_
            refine wp_goto (tgt := 15) d_GM_move_137 (by decide) ?_
            exact wp_md (wpt T (And.intro rfl (And.intro rfl (And.intro rfl (And.intro rfl (And.intro rfl (And.intro (gI_w _) True.intro)))))))
          · have T := T.2 h19
            refine wp_iload d_GM_move_119 rfl ?_
            refine wp_bipush d_GM_move_121 ⟨by decide, by decide⟩ ?_
            refine wp_iload d_GM_move_123 rfl ?_
            refine wp_imul d_GM_move_125 ?_
            refine wp_iadd d_GM_move_126 ?_
            refine wp_goto (tgt := 131) d_GM_move_127 (by decide) ?_
            refine xcV_V (md' := true) (As := [gI 41, gI x1, gI x5, gI (((v4.tmod 26) + 0) + (26 * ((v4.tdiv 26) + x3)))]) (st := []) d_GM_move_131 ca_GM_setRef ml_GM_561 im_GM_setRef se_GM_setRef gc_GM hX.1 (gm_o2 hX) hX.2.2.1 rfl (by decide) (by decide) rfl (fun _ => rfl) (fun _ => rfl) T (fun M18 T => ?_)
            refine wp_iinc (L' := [.val (gR G o), .val (gI x1), .val (gI x2), .val (gI x3), .val (gI x4), .val (gI (x5 + 1)), .val (gI v4), .val (gI (M3 (o + 11) (Int.toNat ((M3 (o + 8) (Int.toNat x4)) + x5)))), .val (gI ((v4.tmod 26) + 0)), .val (gI ((v4.tdiv 26) + x3))]) d_GM_move_134 rfl (by decide) rfl ?_
            refine wp_goto (tgt := 15) d_GM_move_137 (by decide) ?_
            exact wp_md (wpt T (And.intro rfl (And.intro rfl (And.intro rfl (And.intro rfl (And.intro rfl (And.intro (gI_w _) True.intro)))))))
      · have T := T.2 h34
        refine wp_iload_n d_GM_move_75 rfl rfl ?_
        refine wp_goto (tgt := 80) d_GM_move_76 (by decide) ?_
        refine wp_iadd d_GM_move_80 ?_
        refine wp_istore (L' := [.val (gR G o), .val (gI x1), .val (gI x2), .val (gI x3), .val (gI x4), .val (gI x5), .val (gI v4), .val (gI (M3 (o + 11) (Int.toNat ((M3 (o + 8) (Int.toNat x4)) + x5)))), .val (gI ((v4.tmod 26) + x2)), .unset]) d_GM_move_81 (by decide) rfl ?_
        refine wp_iload d_GM_move_83 rfl ?_
        refine wp_bipush d_GM_move_85 ⟨by decide, by decide⟩ ?_
        refine xidiv d_GM_move_87 (w32_id h5) (w32_id (g32_c (x := 26) rfl)) (by decide) ?_
        refine wp_iload d_GM_move_88 rfl ?_
        refine wp_iconst d_GM_move_90 ?_
        refine wp_iand d_GM_move_91 ?_
        refine xz_ne (tgt := 99) d_GM_move_92 (by decide) (w32_id (gAnd_ok _ _)) (fun h33 => ?_) (fun h33 => ?_)
        · have T := T.1 h33
          refine wp_iconst d_GM_move_99 ?_
          refine wp_iadd d_GM_move_100 ?_
          refine wp_istore (L' := [.val (gR G o), .val (gI x1), .val (gI x2), .val (gI x3), .val (gI x4), .val (gI x5), .val (gI v4), .val (gI (M3 (o + 11) (Int.toNat ((M3 (o + 8) (Int.toNat x4)) + x5)))), .val (gI ((v4.tmod 26) + x2)), .val (gI ((v4.tdiv 26) + 0))]) d_GM_move_101 (by decide) rfl ?_
          refine wp_aload_n d_GM_move_103 rfl rfl (g_nz hX.1) ?_
          refine wp_bipush d_GM_move_104 ⟨by decide, by decide⟩ ?_
          refine wp_iload_n d_GM_move_106 rfl rfl ?_
          refine wp_iload d_GM_move_107 rfl ?_
          refine wp_iload d_GM_move_109 rfl ?_
          refine wp_iload d_GM_move_111 rfl ?_
          refine xcS_Z (md' := true) (As := [gI ((v4.tmod 26) + x2), gI ((v4.tdiv 26) + 0)]) (st := [gI x5, gI x1, gI 41, gR G o]) d_GM_move_113 ca_GM_inSheet ml_GM_544 sm_GM_inSheet rfl (by decide) (by simp only [List.map, gR_cat, gI_cat, gL_cat, List.sum_cons, List.sum_nil]; decide) rfl (fun _ => rfl) (fun _ => rfl) T (fun v22 M21 h23 T => ?_)
          refine xz_eq (tgt := 130) d_GM_move_116 (by decide) (w32_id (g32_z h23)) (fun h26 => ?_) (fun h26 => ?_)
          · have T := T.1 h26
            refine wp_iconst d_GM_move_130 ?_
            refine xcV_V (md' := true) (As := [gI 41, gI x1, gI x5, gI (-1)]) (st := []) d_GM_move_131 ca_GM_setRef ml_GM_561 im_GM_setRef se_GM_setRef gc_GM hX.1 (gm_o2 hX) hX.2.2.1 rfl (by decide) (by decide) rfl (fun _ => rfl) (fun _ => rfl) T (fun M24 T => ?_)
            refine wp_iinc (L' := [.val (gR G o), .val (gI x1), .val (gI x2), .val (gI x3), .val (gI x4), .val (gI (x5 + 1)), .val (gI v4), .val (gI (M3 (o + 11) (Int.toNat ((M3 (o + 8) (Int.toNat x4)) + x5)))), .val (gI ((v4.tmod 26) + x2)), .val (gI ((v4.tdiv 26) + 0))]) d_GM_move_134 rfl (by decide) rfl ?_
            refine wp_goto (tgt := 15) d_GM_move_137 (by decide) ?_
            exact wp_md (wpt T (And.intro rfl (And.intro rfl (And.intro rfl (And.intro rfl (And.intro rfl (And.intro (gI_w _) True.intro)))))))
          · have T := T.2 h26
            refine wp_iload d_GM_move_119 rfl ?_
            refine wp_bipush d_GM_move_121 ⟨by decide, by decide⟩ ?_
            refine wp_iload d_GM_move_123 rfl ?_
            refine wp_imul d_GM_move_125 ?_
            refine wp_iadd d_GM_move_126 ?_
            refine wp_goto (tgt := 131) d_GM_move_127 (by decide) ?_
            refine xcV_V (md' := true) (As := [gI 41, gI x1, gI x5, gI (((v4.tmod 26) + x2) + (26 * ((v4.tdiv 26) + 0)))]) (st := []) d_GM_move_131 ca_GM_setRef ml_GM_561 im_GM_setRef se_GM_setRef gc_GM hX.1 (gm_o2 hX) hX.2.2.1 rfl (by decide) (by decide) rfl (fun _ => rfl) (fun _ => rfl) T (fun M25 T => ?_)
            refine wp_iinc (L' := [.val (gR G o), .val (gI x1), .val (gI x2), .val (gI x3), .val (gI x4), .val (gI (x5 + 1)), .val (gI v4), .val (gI (M3 (o + 11) (Int.toNat ((M3 (o + 8) (Int.toNat x4)) + x5)))), .val (gI ((v4.tmod 26) + x2)), .val (gI ((v4.tdiv 26) + 0))]) d_GM_move_134 rfl (by decide) rfl ?_
            refine wp_goto (tgt := 15) d_GM_move_137 (by decide) ?_
            exact wp_md (wpt T (And.intro rfl (And.intro rfl (And.intro rfl (And.intro rfl (And.intro rfl (And.intro (gI_w _) True.intro)))))))
        · have T := T.2 h33
          refine wp_iload_n d_GM_move_95 rfl rfl ?_
          refine wp_goto (tgt := 100) d_GM_move_96 (by decide) ?_
          refine wp_iadd d_GM_move_100 ?_
          refine wp_istore (L' := [.val (gR G o), .val (gI x1), .val (gI x2), .val (gI x3), .val (gI x4), .val (gI x5), .val (gI v4), .val (gI (M3 (o + 11) (Int.toNat ((M3 (o + 8) (Int.toNat x4)) + x5)))), .val (gI ((v4.tmod 26) + x2)), .val (gI ((v4.tdiv 26) + x3))]) d_GM_move_101 (by decide) rfl ?_
          refine wp_aload_n d_GM_move_103 rfl rfl (g_nz hX.1) ?_
          refine wp_bipush d_GM_move_104 ⟨by decide, by decide⟩ ?_
          refine wp_iload_n d_GM_move_106 rfl rfl ?_
          refine wp_iload d_GM_move_107 rfl ?_
          refine wp_iload d_GM_move_109 rfl ?_
          refine wp_iload d_GM_move_111 rfl ?_
          refine xcS_Z (md' := true) (As := [gI ((v4.tmod 26) + x2), gI ((v4.tdiv 26) + x3)]) (st := [gI x5, gI x1, gI 41, gR G o]) d_GM_move_113 ca_GM_inSheet ml_GM_544 sm_GM_inSheet rfl (by decide) (by simp only [List.map, gR_cat, gI_cat, gL_cat, List.sum_cons, List.sum_nil]; decide) rfl (fun _ => rfl) (fun _ => rfl) T (fun v28 M27 h29 T => ?_)
          refine xz_eq (tgt := 130) d_GM_move_116 (by decide) (w32_id (g32_z h29)) (fun h32 => ?_) (fun h32 => ?_)
          · have T := T.1 h32
            refine wp_iconst d_GM_move_130 ?_
            refine xcV_V (md' := true) (As := [gI 41, gI x1, gI x5, gI (-1)]) (st := []) d_GM_move_131 ca_GM_setRef ml_GM_561 im_GM_setRef se_GM_setRef gc_GM hX.1 (gm_o2 hX) hX.2.2.1 rfl (by decide) (by decide) rfl (fun _ => rfl) (fun _ => rfl) T (fun M30 T => ?_)
            refine wp_iinc (L' := [.val (gR G o), .val (gI x1), .val (gI x2), .val (gI x3), .val (gI x4), .val (gI (x5 + 1)), .val (gI v4), .val (gI (M3 (o + 11) (Int.toNat ((M3 (o + 8) (Int.toNat x4)) + x5)))), .val (gI ((v4.tmod 26) + x2)), .val (gI ((v4.tdiv 26) + x3))]) d_GM_move_134 rfl (by decide) rfl ?_
            refine wp_goto (tgt := 15) d_GM_move_137 (by decide) ?_
            exact wp_md (wpt T (And.intro rfl (And.intro rfl (And.intro rfl (And.intro rfl (And.intro rfl (And.intro (gI_w _) True.intro)))))))
          · have T := T.2 h32
            refine wp_iload d_GM_move_119 rfl ?_
            refine wp_bipush d_GM_move_121 ⟨by decide, by decide⟩ ?_
            refine wp_iload d_GM_move_123 rfl ?_
            refine wp_imul d_GM_move_125 ?_
            refine wp_iadd d_GM_move_126 ?_
            refine wp_goto (tgt := 131) d_GM_move_127 (by decide) ?_
            refine xcV_V (md' := true) (As := [gI 41, gI x1, gI x5, gI (((v4.tmod 26) + x2) + (26 * ((v4.tdiv 26) + x3)))]) (st := []) d_GM_move_131 ca_GM_setRef ml_GM_561 im_GM_setRef se_GM_setRef gc_GM hX.1 (gm_o2 hX) hX.2.2.1 rfl (by decide) (by decide) rfl (fun _ => rfl) (fun _ => rfl) T (fun M31 T => ?_)
            refine wp_iinc (L' := [.val (gR G o), .val (gI x1), .val (gI x2), .val (gI x3), .val (gI x4), .val (gI (x5 + 1)), .val (gI v4), .val (gI (M3 (o + 11) (Int.toNat ((M3 (o + 8) (Int.toNat x4)) + x5)))), .val (gI ((v4.tmod 26) + x2)), .val (gI ((v4.tdiv 26) + x3))]) d_GM_move_134 rfl (by decide) rfl ?_
            refine wp_goto (tgt := 15) d_GM_move_137 (by decide) ?_
            exact wp_md (wpt T (And.intro rfl (And.intro rfl (And.intro rfl (And.intro rfl (And.intro rfl (And.intro (gI_w _) True.intro)))))))
    · have T := T.2 h35
      refine wp_goto (tgt := 134) d_GM_move_60 (by decide) ?_
      refine wp_iinc (L' := [.val (gR G o), .val (gI x1), .val (gI x2), .val (gI x3), .val (gI x4), .val (gI (x5 + 1)), .val (gI v4), .val (gI (M3 (o + 11) (Int.toNat ((M3 (o + 8) (Int.toNat x4)) + x5)))), .unset, .unset]) d_GM_move_134 rfl (by decide) rfl ?_
      refine wp_goto (tgt := 15) d_GM_move_137 (by decide) ?_
      exact wp_md (wpt T (And.intro rfl (And.intro rfl (And.intro rfl (And.intro rfl (And.intro rfl (And.intro (gI_w _) True.intro)))))))
set_option maxHeartbeats 4000000 in
theorem w_GM_move_143 {l : Launch} {G : gG} {d : Nat} {X : gX} {M : gM} {k : gM → Prop} {o : Nat} (hX : gmX X o) {x1 : Int} (hx1 : g32 x1) {x4 : Int} (hx4 : g32 x4) {x5 : Int} (hx5 : g32 x5) (T : ((0 : Int) ≤ x4 ∧ x4 < 4200) ∧ (g32 (M (o + 9) (Int.toNat x4)) → ((M (o + 9) (Int.toNat x4) ≤ x5 → (k M)) ∧ (¬ M (o + 9) (Int.toNat x4) ≤ x5 → (cI l G y_GM_corner (gRm d) false [gR G o, gI 41, gI x1, gI x5] X M (fun v39 M38 => ((v39 = 1 → (cI l G y_GM_ref_2 (gRm d) false [gR G o, gI 41, gI x1, gI x5] X M38 (fun v42 M41 => ((v42 < 0 → (cV l G y_GM_setRef (gRm d) true [gR G o, gI 41, gI x1, gI x5, gI (-1)] X M41 (fun M44 => (cV l G y_GM_setRef (gRm d) true [gR G o, gI 41, gI x1, gI (x5 + 1), gI (-1)] X M44 (fun M45 => (wp l G y_GM_move (gRm (d + 1)) true (kkV X k) true 143 [.val (gR G o), .val (gI x1), .unset, .unset, .val (gI x4), .val (gI (w32 (x5 + 1))), .unset, .unset, .unset, .unset] [] X M45 0 0)))))) ∧ (¬ v42 < 0 → (cI l G y_GM_ref_2 (gRm d) false [gR G o, gI 41, gI x1, gI (x5 + 1)] X M41 (fun v47 M46 => ((v47 < 0 → (cV l G y_GM_setRef (gRm d) true [gR G o, gI 41, gI x1, gI x5, gI (-1)] X M46 (fun M49 => (cV l G y_GM_setRef (gRm d) true [gR G o, gI 41, gI x1, gI (x5 + 1), gI (-1)] X M49 (fun M50 => (wp l G y_GM_move (gRm (d + 1)) true (kkV X k) true 143 [.val (gR G o), .val (gI x1), .unset, .unset, .val (gI x4), .val (gI (w32 (x5 + 1))), .unset, .unset, .unset, .unset] [] X M50 0 0)))))) ∧ (¬ v47 < 0 → (wp l G y_GM_move (gRm (d + 1)) true (kkV X k) true 143 [.val (gR G o), .val (gI x1), .unset, .unset, .val (gI x4), .val (gI (w32 (x5 + 1))), .unset, .unset, .unset, .unset] [] X M46 0 0)))))))))) ∧ (¬ v39 = 1 → (wp l G y_GM_move (gRm (d + 1)) true (kkV X k) true 143 [.val (gR G o), .val (gI x1), .unset, .unset, .val (gI x4), .val (gI (w32 (x5 + 1))), .unset, .unset, .unset, .unset] [] X M38 0 0))))))))) : wp l G y_GM_move (gRm (d + 1)) true (kkV X k) true 143 [.val (gR G o), .val (gI x1), .unset, .unset, .val (gI x4), .val (gI x5), .unset, .unset, .unset, .unset] [] X M 0 0 := by
  refine wp_iload d_GM_move_143 rfl ?_
  refine wp_aload_n d_GM_move_145 rfl rfl (g_nz hX.1) ?_
  refine xgetR d_GM_move_146 gc_GM f_GM_37.1 f_GM_37.2.1 f_GM_37.2.2.1 hX.1 (gm_o2 hX) hX.2.2.1 f_GM_37.2.2.2.2.1 (gm_row hX 8 rfl).1 ?_
  refine wp_iload d_GM_move_149 rfl ?_
  refine wp_iaload d_GM_move_151 (gm_row hX 8 rfl).2.2.1 (gm_row hX 8 rfl).2.2.2 (gm_row hX 8 rfl).2.1 (g32_n T.1 (by decide)) T.1.1 T.1.2 (fun h37 => ?_)
  have T := T.2 h37
  refine xi_ge (tgt := 228) d_GM_move_152 (by decide) (w32_id hx5) (w32_id h37) (fun h54 => ?_) (fun h54 => ?_)
  · have T := T.1 h54
    exact wp_return d_GM_move_228 rfl (fun _ => rfl) (Nat.zero_le _) (Nat.zero_le _) (kV_mk T)
  · have T := T.2 h54
    refine wp_aload_n d_GM_move_155 rfl rfl (g_nz hX.1) ?_
    refine wp_bipush d_GM_move_156 ⟨by decide, by decide⟩ ?_
    refine wp_iload_n d_GM_move_158 rfl rfl ?_
    refine wp_iload d_GM_move_159 rfl ?_
    refine xcV_I (md' := true) (As := [gI 41, gI x1, gI x5]) (st := []) d_GM_move_161 ca_GM_corner ml_GM_295 im_GM_corner se_GM_corner gc_GM hX.1 (gm_o2 hX) hX.2.2.1 rfl (by decide) (by decide) rfl (fun _ => rfl) (fun _ => rfl) T (fun v39 M38 h40 T => ?_)
    refine wp_iconst d_GM_move_164 ?_
    refine xi_eq (tgt := 171) d_GM_move_165 (by decide) (w32_id h40) (w32_id (g32_c (x := 1) rfl)) (fun h53 => ?_) (fun h53 => ?_)
    · have T := T.1 h53
      refine wp_aload_n d_GM_move_171 rfl rfl (g_nz hX.1) ?_
      refine wp_bipush d_GM_move_172 ⟨by decide, by decide⟩ ?_
      refine wp_iload_n d_GM_move_174 rfl rfl ?_
      refine wp_iload d_GM_move_175 rfl ?_
      refine xcV_I (md' := true) (As := [gI 41, gI x1, gI x5]) (st := []) d_GM_move_177 ca_GM_ref_2 ml_GM_299 im_GM_ref_2 se_GM_ref_2 gc_GM hX.1 (gm_o2 hX) hX.2.2.1 rfl (by decide) (by decide) rfl (fun _ => rfl) (fun _ => rfl) T (fun v42 M41 h43 T => ?_)
      refine xz_lt (tgt := 200) d_GM_move_180 (by decide) (w32_id h43) (fun h52 => ?_) (fun h52 => ?_)
      · have T := T.1 h52
        refine wp_aload_n d_GM_move_200 rfl rfl (g_nz hX.1) ?_
        refine wp_bipush d_GM_move_201 ⟨by decide, by decide⟩ ?_
        refine wp_iload_n d_GM_move_203 rfl rfl ?_
        refine wp_iload d_GM_move_204 rfl ?_
        refine wp_iconst d_GM_move_206 ?_
        refine xcV_V (md' := true) (As := [gI 41, gI x1, gI x5, gI (-1)]) (st := []) d_GM_move_207 ca_GM_setRef ml_GM_561 im_GM_setRef se_GM_setRef gc_GM hX.1 (gm_o2 hX) hX.2.2.1 rfl (by decide) (by decide) rfl (fun _ => rfl) (fun _ => rfl) T (fun M44 T => ?_)
        refine wp_aload_n d_GM_move_210 rfl rfl (g_nz hX.1) ?_
        refine wp_bipush d_GM_move_211 ⟨by decide, by decide⟩ ?_
        refine wp_iload_n d_GM_move_213 rfl rfl ?_
        refine wp_iload d_GM_move_214 rfl ?_
        refine wp_iconst d_GM_move_216 ?_
        refine wp_iadd d_GM_move_217 ?_
        refine wp_iconst d_GM_move_218 ?_
        refine xcV_V (md' := true) (As := [gI 41, gI x1, gI (x5 + 1), gI (-1)]) (st := []) d_GM_move_219 ca_GM_setRef ml_GM_561 im_GM_setRef se_GM_setRef gc_GM hX.1 (gm_o2 hX) hX.2.2.1 rfl (by decide) (by decide) rfl (fun _ => rfl) (fun _ => rfl) T (fun M45 T => ?_)
        refine wp_iinc (L' := [.val (gR G o), .val (gI x1), .unset, .unset, .val (gI x4), .val (gI (x5 + 1)), .unset, .unset, .unset, .unset]) d_GM_move_222 rfl (by decide) rfl ?_
        refine wp_goto (tgt := 143) d_GM_move_225 (by decide) ?_
        exact wp_md (wpt T (And.intro rfl (And.intro rfl (And.intro rfl (And.intro (gI_w _) True.intro)))))
      · have T := T.2 h52
        refine wp_aload_n d_GM_move_183 rfl rfl (g_nz hX.1) ?_
        refine wp_bipush d_GM_move_184 ⟨by decide, by decide⟩ ?_
        refine wp_iload_n d_GM_move_186 rfl rfl ?_
        refine wp_iload d_GM_move_187 rfl ?_
        refine wp_iconst d_GM_move_189 ?_
        refine wp_iadd d_GM_move_190 ?_
        refine xcV_I (md' := true) (As := [gI 41, gI x1, gI (x5 + 1)]) (st := []) d_GM_move_191 ca_GM_ref_2 ml_GM_299 im_GM_ref_2 se_GM_ref_2 gc_GM hX.1 (gm_o2 hX) hX.2.2.1 rfl (by decide) (by decide) rfl (fun _ => rfl) (fun _ => rfl) T (fun v47 M46 h48 T => ?_)
        refine xz_lt (tgt := 200) d_GM_move_194 (by decide) (w32_id h48) (fun h51 => ?_) (fun h51 => ?_)
        · have T := T.1 h51
          refine wp_aload_n d_GM_move_200 rfl rfl (g_nz hX.1) ?_
          refine wp_bipush d_GM_move_201 ⟨by decide, by decide⟩ ?_
          refine wp_iload_n d_GM_move_203 rfl rfl ?_
          refine wp_iload d_GM_move_204 rfl ?_
          refine wp_iconst d_GM_move_206 ?_
          refine xcV_V (md' := true) (As := [gI 41, gI x1, gI x5, gI (-1)]) (st := []) d_GM_move_207 ca_GM_setRef ml_GM_561 im_GM_setRef se_GM_setRef gc_GM hX.1 (gm_o2 hX) hX.2.2.1 rfl (by decide) (by decide) rfl (fun _ => rfl) (fun _ => rfl) T (fun M49 T => ?_)
          refine wp_aload_n d_GM_move_210 rfl rfl (g_nz hX.1) ?_
          refine wp_bipush d_GM_move_211 ⟨by decide, by decide⟩ ?_
          refine wp_iload_n d_GM_move_213 rfl rfl ?_
          refine wp_iload d_GM_move_214 rfl ?_
          refine wp_iconst d_GM_move_216 ?_
          refine wp_iadd d_GM_move_217 ?_
          refine wp_iconst d_GM_move_218 ?_
          refine xcV_V (md' := true) (As := [gI 41, gI x1, gI (x5 + 1), gI (-1)]) (st := []) d_GM_move_219 ca_GM_setRef ml_GM_561 im_GM_setRef se_GM_setRef gc_GM hX.1 (gm_o2 hX) hX.2.2.1 rfl (by decide) (by decide) rfl (fun _ => rfl) (fun _ => rfl) T (fun M50 T => ?_)
          refine wp_iinc (L' := [.val (gR G o), .val (gI x1), .unset, .unset, .val (gI x4), .val (gI (x5 + 1)), .unset, .unset, .unset, .unset]) d_GM_move_222 rfl (by decide) rfl ?_
          refine wp_goto (tgt := 143) d_GM_move_225 (by decide) ?_
          exact wp_md (wpt T (And.intro rfl (And.intro rfl (And.intro rfl (And.intro (gI_w _) True.intro)))))
        · have T := T.2 h51
          refine wp_goto (tgt := 222) d_GM_move_197 (by decide) ?_
          refine wp_iinc (L' := [.val (gR G o), .val (gI x1), .unset, .unset, .val (gI x4), .val (gI (x5 + 1)), .unset, .unset, .unset, .unset]) d_GM_move_222 rfl (by decide) rfl ?_
          refine wp_goto (tgt := 143) d_GM_move_225 (by decide) ?_
          exact wp_md (wpt T (And.intro rfl (And.intro rfl (And.intro rfl (And.intro (gI_w _) True.intro)))))
    · have T := T.2 h53
      refine wp_goto (tgt := 222) d_GM_move_168 (by decide) ?_
      refine wp_iinc (L' := [.val (gR G o), .val (gI x1), .unset, .unset, .val (gI x4), .val (gI (x5 + 1)), .unset, .unset, .unset, .unset]) d_GM_move_222 rfl (by decide) rfl ?_
      refine wp_goto (tgt := 143) d_GM_move_225 (by decide) ?_
      exact wp_md (wpt T (And.intro rfl (And.intro rfl (And.intro rfl (And.intro (gI_w _) True.intro)))))
theorem e_GM_move {l : Launch} {G : gG} {d : Nat} {X : gX} {M : gM} {k : gM → Prop} {o : Nat} {x1 : Int} {x2 : Int} {x3 : Int} (T : wp l G y_GM_move (gRm (d + 1)) true (kkV X k) false 0 [.val (gR G o), .val (gI x1), .val (gI x2), .val (gI x3), .unset, .unset, .unset, .unset, .unset, .unset] [] X M 0 0) : cV l G y_GM_move (gRm (d + 1)) true [gR G o, gI x1, gI x2, gI x3] X M k := cen_V (plainFor_of_name rfl) (by simp only [lg_sl_R, lg_sl_I, lg_sl_L, lg_sl_N, List.length_cons, List.length_nil]; decide) (by unfold gEn; simp only [lg_sl_R, lg_sl_I, lg_sl_L, lg_sl_N]; exact wpt T (And.intro rfl (And.intro rfl (And.intro rfl (And.intro rfl True.intro)))))
theorem d_GM_moved_0 : decode prog_15_method_86_code 0 = .ok (.iload_n 2, 1) := by decide +kernel
theorem d_GM_moved_1 : decode prog_15_method_86_code 1 = .ok (.ifCond .le 27, 3) := by decide +kernel
theorem d_GM_moved_28 : decode prog_15_method_86_code 28 = .ok (.iload_n 0, 1) := by decide +kernel
theorem d_GM_moved_29 : decode prog_15_method_86_code 29 = .ok (.iload_n 1, 1) := by decide +kernel
theorem d_GM_moved_30 : decode prog_15_method_86_code 30 = .ok (.if_icmp .ge 7, 3) := by decide +kernel
theorem d_GM_moved_37 : decode prog_15_method_86_code 37 = .ok (.iload_n 0, 1) := by decide +kernel
theorem d_GM_moved_38 : decode prog_15_method_86_code 38 = .ok (.iload_n 1, 1) := by decide +kernel
theorem d_GM_moved_39 : decode prog_15_method_86_code 39 = .ok (.iload_n 2, 1) := by decide +kernel
theorem d_GM_moved_40 : decode prog_15_method_86_code 40 = .ok (.isub, 1) := by decide +kernel
theorem d_GM_moved_41 : decode prog_15_method_86_code 41 = .ok (.if_icmp .ge 7, 3) := by decide +kernel
theorem d_GM_moved_48 : decode prog_15_method_86_code 48 = .ok (.iload_n 0, 1) := by decide +kernel
theorem d_GM_moved_49 : decode prog_15_method_86_code 49 = .ok (.iload_n 2, 1) := by decide +kernel
theorem d_GM_moved_50 : decode prog_15_method_86_code 50 = .ok (.iadd, 1) := by decide +kernel
theorem d_GM_moved_51 : decode prog_15_method_86_code 51 = .ok (.ireturn, 1) := by decide +kernel
theorem d_GM_moved_44 : decode prog_15_method_86_code 44 = .ok (.iconst (-1), 1) := by decide +kernel
theorem d_GM_moved_45 : decode prog_15_method_86_code 45 = .ok (.goto 6, 3) := by decide +kernel
theorem d_GM_moved_33 : decode prog_15_method_86_code 33 = .ok (.iload_n 0, 1) := by decide +kernel
theorem d_GM_moved_34 : decode prog_15_method_86_code 34 = .ok (.goto 17, 3) := by decide +kernel
theorem d_GM_moved_4 : decode prog_15_method_86_code 4 = .ok (.iload_n 0, 1) := by decide +kernel
theorem d_GM_moved_5 : decode prog_15_method_86_code 5 = .ok (.iload_n 1, 1) := by decide +kernel
theorem d_GM_moved_6 : decode prog_15_method_86_code 6 = .ok (.if_icmp .ge 7, 3) := by decide +kernel
theorem d_GM_moved_13 : decode prog_15_method_86_code 13 = .ok (.iload_n 0, 1) := by decide +kernel
theorem d_GM_moved_14 : decode prog_15_method_86_code 14 = .ok (.iload_n 2, 1) := by decide +kernel
theorem d_GM_moved_15 : decode prog_15_method_86_code 15 = .ok (.iadd, 1) := by decide +kernel
theorem d_GM_moved_16 : decode prog_15_method_86_code 16 = .ok (.iload_n 3, 1) := by decide +kernel
theorem d_GM_moved_17 : decode prog_15_method_86_code 17 = .ok (.if_icmp .ge 9, 3) := by decide +kernel
theorem d_GM_moved_26 : decode prog_15_method_86_code 26 = .ok (.iconst (-1), 1) := by decide +kernel
theorem d_GM_moved_27 : decode prog_15_method_86_code 27 = .ok (.ireturn, 1) := by decide +kernel
theorem d_GM_moved_20 : decode prog_15_method_86_code 20 = .ok (.iload_n 0, 1) := by decide +kernel
theorem d_GM_moved_21 : decode prog_15_method_86_code 21 = .ok (.iload_n 2, 1) := by decide +kernel
theorem d_GM_moved_22 : decode prog_15_method_86_code 22 = .ok (.iadd, 1) := by decide +kernel
theorem d_GM_moved_23 : decode prog_15_method_86_code 23 = .ok (.goto 4, 3) := by decide +kernel
theorem d_GM_moved_9 : decode prog_15_method_86_code 9 = .ok (.iload_n 0, 1) := by decide +kernel
theorem d_GM_moved_10 : decode prog_15_method_86_code 10 = .ok (.goto 17, 3) := by decide +kernel
set_option maxHeartbeats 4000000 in
theorem w_GM_moved_0 {l : Launch} {G : gG} {d : Nat} {X : gX} {M : gM} {k : Int → gM → Prop}  {x0 : Int} (hx0 : g32 x0) {x1 : Int} (hx1 : g32 x1) {x2 : Int} (hx2 : g32 x2) {x3 : Int} (hx3 : g32 x3) (T : (x2 ≤ 0 → ((x1 ≤ x0 → (((w32 (x1 - x2)) ≤ x0 → (k (w32 (x0 + x2)) M)) ∧ (¬ (w32 (x1 - x2)) ≤ x0 → (k (-1) M)))) ∧ (¬ x1 ≤ x0 → (k x0 M)))) ∧ (¬ x2 ≤ 0 → ((x1 ≤ x0 → ((x3 ≤ (w32 (x0 + x2)) → (k (-1) M)) ∧ (¬ x3 ≤ (w32 (x0 + x2)) → (k (w32 (x0 + x2)) M)))) ∧ (¬ x1 ≤ x0 → (k x0 M))))) : wp l G y_GM_moved (gRm d) false (kkI X k) false 0 [.val (gI x0), .val (gI x1), .val (gI x2), .val (gI x3)] [] X M 0 0 := by
  refine wp_iload_n d_GM_moved_0 rfl rfl ?_
  refine xz_le (tgt := 28) d_GM_moved_1 (by decide) (w32_id hx2) (fun h5 => ?_) (fun h5 => ?_)
  · have T := T.1 h5
    refine wp_iload_n d_GM_moved_28 rfl rfl ?_
    refine wp_iload_n d_GM_moved_29 rfl rfl ?_
    refine xi_ge (tgt := 37) d_GM_moved_30 (by decide) (w32_id hx0) (w32_id hx1) (fun h2 => ?_) (fun h2 => ?_)
    · have T := T.1 h2
      refine wp_iload_n d_GM_moved_37 rfl rfl ?_
      refine wp_iload_n d_GM_moved_38 rfl rfl ?_
      refine wp_iload_n d_GM_moved_39 rfl rfl ?_
      refine wp_isub d_GM_moved_40 ?_
      refine xi_ge (tgt := 48) d_GM_moved_41 (by decide) (w32_id hx0) rfl (fun h1 => ?_) (fun h1 => ?_)
      · have T := T.1 h1
        refine wp_iload_n d_GM_moved_48 rfl rfl ?_
        refine wp_iload_n d_GM_moved_49 rfl rfl ?_
        refine wp_iadd d_GM_moved_50 ?_
        exact wp_st (st' := [gI (w32 (x0 + x2))]) (by rw [gI_w]) (wp_ireturn d_GM_moved_51 rfl id (Nat.zero_le _) (Nat.zero_le _) (kI_mk (w32_ok _) T))
      · have T := T.2 h1
        refine wp_iconst d_GM_moved_44 ?_
        refine wp_goto (tgt := 51) d_GM_moved_45 (by decide) ?_
        exact wp_ireturn d_GM_moved_51 rfl id (Nat.zero_le _) (Nat.zero_le _) (kI_mk (g32_c (x := (-1)) rfl) T)
    · have T := T.2 h2
      refine wp_iload_n d_GM_moved_33 rfl rfl ?_
      refine wp_goto (tgt := 51) d_GM_moved_34 (by decide) ?_
      exact wp_ireturn d_GM_moved_51 rfl id (Nat.zero_le _) (Nat.zero_le _) (kI_mk hx0 T)
  · have T := T.2 h5
    refine wp_iload_n d_GM_moved_4 rfl rfl ?_
    refine wp_iload_n d_GM_moved_5 rfl rfl ?_
    refine xi_ge (tgt := 13) d_GM_moved_6 (by decide) (w32_id hx0) (w32_id hx1) (fun h4 => ?_) (fun h4 => ?_)
    · have T := T.1 h4
      refine wp_iload_n d_GM_moved_13 rfl rfl ?_
      refine wp_iload_n d_GM_moved_14 rfl rfl ?_
      refine wp_iadd d_GM_moved_15 ?_
      refine wp_iload_n d_GM_moved_16 rfl rfl ?_
      refine xi_ge (tgt := 26) d_GM_moved_17 (by decide) rfl (w32_id hx3) (fun h3 => ?_) (fun h3 => ?_)
      · have T := T.1 h3
        refine wp_iconst d_GM_moved_26 ?_
        exact wp_ireturn d_GM_moved_27 rfl id (Nat.zero_le _) (Nat.zero_le _) (kI_mk (g32_c (x := (-1)) rfl) T)
      · have T := T.2 h3
        refine wp_iload_n d_GM_moved_20 rfl rfl ?_
        refine wp_iload_n d_GM_moved_21 rfl rfl ?_
        refine wp_iadd d_GM_moved_22 ?_
        refine wp_goto (tgt := 27) d_GM_moved_23 (by decide) ?_
        exact wp_st (st' := [gI (w32 (x0 + x2))]) (by rw [gI_w]) (wp_ireturn d_GM_moved_27 rfl id (Nat.zero_le _) (Nat.zero_le _) (kI_mk (w32_ok _) T))
    · have T := T.2 h4
      refine wp_iload_n d_GM_moved_9 rfl rfl ?_
      refine wp_goto (tgt := 27) d_GM_moved_10 (by decide) ?_
      exact wp_ireturn d_GM_moved_27 rfl id (Nat.zero_le _) (Nat.zero_le _) (kI_mk hx0 T)
theorem e_GM_moved {l : Launch} {G : gG} {d : Nat} {X : gX} {M : gM} {k : Int → gM → Prop}  {x0 : Int} {x1 : Int} {x2 : Int} {x3 : Int} (T : wp l G y_GM_moved (gRm d) false (kkI X k) false 0 [.val (gI x0), .val (gI x1), .val (gI x2), .val (gI x3)] [] X M 0 0) : cI l G y_GM_moved (gRm d) false [gI x0, gI x1, gI x2, gI x3] X M k := cen_I (plainFor_of_name rfl) (by simp only [lg_sl_R, lg_sl_I, lg_sl_L, lg_sl_N, List.length_cons, List.length_nil]; decide) (by unfold gEn; simp only [lg_sl_R, lg_sl_I, lg_sl_L, lg_sl_N]; exact wpt T (And.intro rfl (And.intro rfl (And.intro rfl (And.intro rfl True.intro)))))
theorem d_GM_shift_0 : decode prog_15_method_87_code 0 = .ok (.iload_n 1, 1) := by decide +kernel
theorem d_GM_shift_1 : decode prog_15_method_87_code 1 = .ok (.ifCond .eq 8, 3) := by decide +kernel
theorem d_GM_shift_9 : decode prog_15_method_87_code 9 = .ok (.sipush 200, 3) := by decide +kernel
theorem d_GM_shift_12 : decode prog_15_method_87_code 12 = .ok (.istore 4, 2) := by decide +kernel
theorem d_GM_shift_14 : decode prog_15_method_87_code 14 = .ok (.aload_n 0, 1) := by decide +kernel
theorem d_GM_shift_15 : decode prog_15_method_87_code 15 = .ok (.getfield 502, 3) := by decide +kernel
theorem d_GM_shift_18 : decode prog_15_method_87_code 18 = .ok (.invokestatic 505, 3) := by decide +kernel
theorem d_GM_shift_21 : decode prog_15_method_87_code 21 = .ok (.istore 5, 2) := by decide +kernel
theorem d_GM_shift_23 : decode prog_15_method_87_code 23 = .ok (.aload_n 0, 1) := by decide +kernel
theorem d_GM_shift_24 : decode prog_15_method_87_code 24 = .ok (.bipush 41, 2) := by decide +kernel
theorem d_GM_shift_26 : decode prog_15_method_87_code 26 = .ok (.invokevirtual 272, 3) := by decide +kernel
theorem d_GM_shift_29 : decode prog_15_method_87_code 29 = .ok (.iconst 0, 1) := by decide +kernel
theorem d_GM_shift_30 : decode prog_15_method_87_code 30 = .ok (.istore 6, 2) := by decide +kernel
theorem d_GM_shift_4 : decode prog_15_method_87_code 4 = .ok (.bipush 26, 2) := by decide +kernel
theorem d_GM_shift_6 : decode prog_15_method_87_code 6 = .ok (.goto 6, 3) := by decide +kernel
theorem d_GM_shift_32 : decode prog_15_method_87_code 32 = .ok (.iload 6, 2) := by decide +kernel
theorem d_GM_shift_34 : decode prog_15_method_87_code 34 = .ok (.sipush 5200, 3) := by decide +kernel
theorem d_GM_shift_37 : decode prog_15_method_87_code 37 = .ok (.if_icmp .ge 149, 3) := by decide +kernel
theorem d_GM_shift_186 : decode prog_15_method_87_code 186 = .ok (.aload_n 0, 1) := by decide +kernel
theorem d_GM_shift_187 : decode prog_15_method_87_code 187 = .ok (.invokevirtual 555, 3) := by decide +kernel
theorem d_GM_shift_190 : decode prog_15_method_87_code 190 = .ok (.ireturn, 1) := by decide +kernel
theorem d_GM_shift_40 : decode prog_15_method_87_code 40 = .ok (.aload_n 0, 1) := by decide +kernel
theorem d_GM_shift_41 : decode prog_15_method_87_code 41 = .ok (.getfield 69, 3) := by decide +kernel
theorem d_GM_shift_44 : decode prog_15_method_87_code 44 = .ok (.iload 5, 2) := by decide +kernel
theorem d_GM_shift_46 : decode prog_15_method_87_code 46 = .ok (.sipush 5200, 3) := by decide +kernel
theorem d_GM_shift_49 : decode prog_15_method_87_code 49 = .ok (.imul, 1) := by decide +kernel
theorem d_GM_shift_50 : decode prog_15_method_87_code 50 = .ok (.iload 6, 2) := by decide +kernel
theorem d_GM_shift_52 : decode prog_15_method_87_code 52 = .ok (.iadd, 1) := by decide +kernel
theorem d_GM_shift_53 : decode prog_15_method_87_code 53 = .ok (.iaload, 1) := by decide +kernel
theorem d_GM_shift_54 : decode prog_15_method_87_code 54 = .ok (.ifCond .ne 6, 3) := by decide +kernel
theorem d_GM_shift_60 : decode prog_15_method_87_code 60 = .ok (.iload 6, 2) := by decide +kernel
theorem d_GM_shift_62 : decode prog_15_method_87_code 62 = .ok (.bipush 26, 2) := by decide +kernel
theorem d_GM_shift_64 : decode prog_15_method_87_code 64 = .ok (.irem, 1) := by decide +kernel
theorem d_GM_shift_65 : decode prog_15_method_87_code 65 = .ok (.istore 7, 2) := by decide +kernel
theorem d_GM_shift_67 : decode prog_15_method_87_code 67 = .ok (.iload 6, 2) := by decide +kernel
theorem d_GM_shift_69 : decode prog_15_method_87_code 69 = .ok (.bipush 26, 2) := by decide +kernel
theorem d_GM_shift_71 : decode prog_15_method_87_code 71 = .ok (.idiv, 1) := by decide +kernel
theorem d_GM_shift_72 : decode prog_15_method_87_code 72 = .ok (.istore 8, 2) := by decide +kernel
theorem d_GM_shift_74 : decode prog_15_method_87_code 74 = .ok (.iload_n 1, 1) := by decide +kernel
theorem d_GM_shift_75 : decode prog_15_method_87_code 75 = .ok (.ifCond .eq 8, 3) := by decide +kernel
theorem d_GM_shift_83 : decode prog_15_method_87_code 83 = .ok (.iload 8, 2) := by decide +kernel
theorem d_GM_shift_85 : decode prog_15_method_87_code 85 = .ok (.iload_n 2, 1) := by decide +kernel
theorem d_GM_shift_86 : decode prog_15_method_87_code 86 = .ok (.iload_n 3, 1) := by decide +kernel
theorem d_GM_shift_87 : decode prog_15_method_87_code 87 = .ok (.iload 4, 2) := by decide +kernel
theorem d_GM_shift_89 : decode prog_15_method_87_code 89 = .ok (.invokestatic 564, 3) := by decide +kernel
theorem d_GM_shift_92 : decode prog_15_method_87_code 92 = .ok (.istore 9, 2) := by decide +kernel
theorem d_GM_shift_94 : decode prog_15_method_87_code 94 = .ok (.iload 9, 2) := by decide +kernel
theorem d_GM_shift_96 : decode prog_15_method_87_code 96 = .ok (.ifCond .ge 13, 3) := by decide +kernel
theorem d_GM_shift_99 : decode prog_15_method_87_code 99 = .ok (.iload_n 3, 1) := by decide +kernel
theorem d_GM_shift_100 : decode prog_15_method_87_code 100 = .ok (.ifCond .le 9, 3) := by decide +kernel
theorem d_GM_shift_103 : decode prog_15_method_87_code 103 = .ok (.aload_n 0, 1) := by decide +kernel
theorem d_GM_shift_104 : decode prog_15_method_87_code 104 = .ok (.iconst 2, 1) := by decide +kernel
theorem d_GM_shift_105 : decode prog_15_method_87_code 105 = .ok (.invokevirtual 526, 3) := by decide +kernel
theorem d_GM_shift_108 : decode prog_15_method_87_code 108 = .ok (.ireturn, 1) := by decide +kernel
theorem d_GM_shift_78 : decode prog_15_method_87_code 78 = .ok (.iload 7, 2) := by decide +kernel
theorem d_GM_shift_80 : decode prog_15_method_87_code 80 = .ok (.goto 5, 3) := by decide +kernel
theorem d_GM_shift_57 : decode prog_15_method_87_code 57 = .ok (.goto 123, 3) := by decide +kernel
theorem d_GM_shift_180 : decode prog_15_method_87_code 180 = .ok (.iinc 6 1, 3) := by decide +kernel
theorem d_GM_shift_183 : decode prog_15_method_87_code 183 = .ok (.goto (-151), 3) := by decide +kernel
theorem d_GM_shift_109 : decode prog_15_method_87_code 109 = .ok (.iload 9, 2) := by decide +kernel
theorem d_GM_shift_111 : decode prog_15_method_87_code 111 = .ok (.ifCond .ge 6, 3) := by decide +kernel
theorem d_GM_shift_117 : decode prog_15_method_87_code 117 = .ok (.iload_n 1, 1) := by decide +kernel
theorem d_GM_shift_118 : decode prog_15_method_87_code 118 = .ok (.ifCond .eq 14, 3) := by decide +kernel
theorem d_GM_shift_132 : decode prog_15_method_87_code 132 = .ok (.iload 7, 2) := by decide +kernel
theorem d_GM_shift_134 : decode prog_15_method_87_code 134 = .ok (.bipush 26, 2) := by decide +kernel
theorem d_GM_shift_136 : decode prog_15_method_87_code 136 = .ok (.iload 9, 2) := by decide +kernel
theorem d_GM_shift_138 : decode prog_15_method_87_code 138 = .ok (.imul, 1) := by decide +kernel
theorem d_GM_shift_139 : decode prog_15_method_87_code 139 = .ok (.iadd, 1) := by decide +kernel
theorem d_GM_shift_140 : decode prog_15_method_87_code 140 = .ok (.istore 10, 2) := by decide +kernel
theorem d_GM_shift_142 : decode prog_15_method_87_code 142 = .ok (.aload_n 0, 1) := by decide +kernel
theorem d_GM_shift_143 : decode prog_15_method_87_code 143 = .ok (.iload 5, 2) := by decide +kernel
theorem d_GM_shift_145 : decode prog_15_method_87_code 145 = .ok (.iload 6, 2) := by decide +kernel
theorem d_GM_shift_147 : decode prog_15_method_87_code 147 = .ok (.bipush 41, 2) := by decide +kernel
theorem d_GM_shift_149 : decode prog_15_method_87_code 149 = .ok (.iload 10, 2) := by decide +kernel
theorem d_GM_shift_151 : decode prog_15_method_87_code 151 = .ok (.invokevirtual 275, 3) := by decide +kernel
theorem d_GM_shift_154 : decode prog_15_method_87_code 154 = .ok (.aload_n 0, 1) := by decide +kernel
theorem d_GM_shift_155 : decode prog_15_method_87_code 155 = .ok (.getfield 69, 3) := by decide +kernel
theorem d_GM_shift_158 : decode prog_15_method_87_code 158 = .ok (.ldc_w 547, 3) := by decide +kernel
theorem d_GM_shift_161 : decode prog_15_method_87_code 161 = .ok (.iload 10, 2) := by decide +kernel
theorem d_GM_shift_163 : decode prog_15_method_87_code 163 = .ok (.iadd, 1) := by decide +kernel
theorem d_GM_shift_164 : decode prog_15_method_87_code 164 = .ok (.iaload, 1) := by decide +kernel
theorem d_GM_shift_165 : decode prog_15_method_87_code 165 = .ok (.iconst 3, 1) := by decide +kernel
theorem d_GM_shift_166 : decode prog_15_method_87_code 166 = .ok (.if_icmp .ne 14, 3) := by decide +kernel
theorem d_GM_shift_169 : decode prog_15_method_87_code 169 = .ok (.aload_n 0, 1) := by decide +kernel
theorem d_GM_shift_170 : decode prog_15_method_87_code 170 = .ok (.iload 10, 2) := by decide +kernel
theorem d_GM_shift_172 : decode prog_15_method_87_code 172 = .ok (.iload_n 1, 1) := by decide +kernel
theorem d_GM_shift_173 : decode prog_15_method_87_code 173 = .ok (.iload_n 2, 1) := by decide +kernel
theorem d_GM_shift_174 : decode prog_15_method_87_code 174 = .ok (.iload_n 3, 1) := by decide +kernel
theorem d_GM_shift_175 : decode prog_15_method_87_code 175 = .ok (.iload 4, 2) := by decide +kernel
theorem d_GM_shift_177 : decode prog_15_method_87_code 177 = .ok (.invokevirtual 568, 3) := by decide +kernel
theorem d_GM_shift_121 : decode prog_15_method_87_code 121 = .ok (.iload 9, 2) := by decide +kernel
theorem d_GM_shift_123 : decode prog_15_method_87_code 123 = .ok (.bipush 26, 2) := by decide +kernel
theorem d_GM_shift_125 : decode prog_15_method_87_code 125 = .ok (.iload 8, 2) := by decide +kernel
theorem d_GM_shift_127 : decode prog_15_method_87_code 127 = .ok (.imul, 1) := by decide +kernel
theorem d_GM_shift_128 : decode prog_15_method_87_code 128 = .ok (.iadd, 1) := by decide +kernel
theorem d_GM_shift_129 : decode prog_15_method_87_code 129 = .ok (.goto 11, 3) := by decide +kernel
theorem d_GM_shift_114 : decode prog_15_method_87_code 114 = .ok (.goto 66, 3) := by decide +kernel
set_option maxHeartbeats 4000000 in
theorem w_GM_shift_0 {l : Launch} {G : gG} {d : Nat} {X : gX} {M : gM} {k : Int → gM → Prop} {o : Nat} (hX : gmX X o) {x1 : Int} (hx1 : 0 ≤ x1 ∧ x1 ≤ 1) {x2 : Int} (hx2 : g32 x2) {x3 : Int} (hx3 : g32 x3) (T : (x1 = 0 → (g32 (M o 36) → (cI l G y_GM_slot (gRm d) false [gI (M o 36)] X M (fun v3 M2 => (cV l G y_GM_clear (gRm d) true [gR G o, gI 41] X M2 (fun M5 => (wp l G y_GM_shift (gRm (d + 1)) true (kkI X k) true 32 [.val (gR G o), .val (gI x1), .val (gI x2), .val (gI x3), .val (gI 200), .val (gI v3), .val (gI 0), .unset, .unset, .unset, .unset] [] X M5 0 0))))))) ∧ (¬ x1 = 0 → (g32 (M o 36) → (cI l G y_GM_slot (gRm d) false [gI (M o 36)] X M (fun v8 M7 => (cV l G y_GM_clear (gRm d) true [gR G o, gI 41] X M7 (fun M10 => (wp l G y_GM_shift (gRm (d + 1)) true (kkI X k) true 32 [.val (gR G o), .val (gI x1), .val (gI x2), .val (gI x3), .val (gI 26), .val (gI v8), .val (gI 0), .unset, .unset, .unset, .unset] [] X M10 0 0)))))))) : wp l G y_GM_shift (gRm (d + 1)) true (kkI X k) false 0 [.val (gR G o), .val (gI x1), .val (gI x2), .val (gI x3), .unset, .unset, .unset, .unset, .unset, .unset, .unset] [] X M 0 0 := by
  refine wp_iload_n d_GM_shift_0 rfl rfl ?_
  refine xz_eq (tgt := 9) d_GM_shift_1 (by decide) (w32_id (g32_z hx1)) (fun h11 => ?_) (fun h11 => ?_)
  · have T := T.1 h11
    refine wp_sipush d_GM_shift_9 ⟨by decide, by decide⟩ ?_
    refine wp_istore (L' := [.val (gR G o), .val (gI x1), .val (gI x2), .val (gI x3), .val (gI 200), .unset, .unset, .unset, .unset, .unset, .unset]) d_GM_shift_12 (by decide) rfl ?_
    refine wp_aload_n d_GM_shift_14 rfl rfl (g_nz hX.1) ?_
    refine xgetI d_GM_shift_15 gc_GM f_GM_502.1 f_GM_502.2.1 f_GM_502.2.2.1 hX.1 (gm_o2 hX) hX.2.2.1 f_GM_502.2.2.2.2.1 (fun h1 => ?_)
    have T := T h1
    refine xcS_I (md' := false) (As := [gI (M o 36)]) (st := []) d_GM_shift_18 ca_GM_slot ml_GM_505 sm_GM_slot rfl (by decide) (by decide) rfl id id T (fun v3 M2 h4 T => ?_)
    refine wp_istore (L' := [.val (gR G o), .val (gI x1), .val (gI x2), .val (gI x3), .val (gI 200), .val (gI v3), .unset, .unset, .unset, .unset, .unset]) d_GM_shift_21 (by decide) rfl ?_
    refine wp_aload_n d_GM_shift_23 rfl rfl (g_nz hX.1) ?_
    refine wp_bipush d_GM_shift_24 ⟨by decide, by decide⟩ ?_
    refine xcV_V (md' := true) (As := [gI 41]) (st := []) d_GM_shift_26 ca_GM_clear ml_GM_272 im_GM_clear se_GM_clear gc_GM hX.1 (gm_o2 hX) hX.2.2.1 rfl (by decide) (by decide) rfl (fun _ => rfl) (fun _ => rfl) T (fun M5 T => ?_)
    refine wp_iconst d_GM_shift_29 ?_
    refine wp_istore (L' := [.val (gR G o), .val (gI x1), .val (gI x2), .val (gI x3), .val (gI 200), .val (gI v3), .val (gI 0), .unset, .unset, .unset, .unset]) d_GM_shift_30 (by decide) rfl ?_
    exact wp_md (wpt T (And.intro rfl (And.intro rfl (And.intro rfl (And.intro rfl (And.intro rfl (And.intro rfl (And.intro rfl True.intro))))))))
  · have T := T.2 h11
    refine wp_bipush d_GM_shift_4 ⟨by decide, by decide⟩ ?_
    refine wp_goto (tgt := 12) d_GM_shift_6 (by decide) ?_
    refine wp_istore (L' := [.val (gR G o), .val (gI x1), .val (gI x2), .val (gI x3), .val (gI 26), .unset, .unset, .unset, .unset, .unset, .unset]) d_GM_shift_12 (by decide) rfl ?_
    refine wp_aload_n d_GM_shift_14 rfl rfl (g_nz hX.1) ?_
    refine xgetI d_GM_shift_15 gc_GM f_GM_502.1 f_GM_502.2.1 f_GM_502.2.2.1 hX.1 (gm_o2 hX) hX.2.2.1 f_GM_502.2.2.2.2.1 (fun h6 => ?_)
    have T := T h6
    refine xcS_I (md' := false) (As := [gI (M o 36)]) (st := []) d_GM_shift_18 ca_GM_slot ml_GM_505 sm_GM_slot rfl (by decide) (by decide) rfl id id T (fun v8 M7 h9 T => ?_)
    refine wp_istore (L' := [.val (gR G o), .val (gI x1), .val (gI x2), .val (gI x3), .val (gI 26), .val (gI v8), .unset, .unset, .unset, .unset, .unset]) d_GM_shift_21 (by decide) rfl ?_
    refine wp_aload_n d_GM_shift_23 rfl rfl (g_nz hX.1) ?_
    refine wp_bipush d_GM_shift_24 ⟨by decide, by decide⟩ ?_
    refine xcV_V (md' := true) (As := [gI 41]) (st := []) d_GM_shift_26 ca_GM_clear ml_GM_272 im_GM_clear se_GM_clear gc_GM hX.1 (gm_o2 hX) hX.2.2.1 rfl (by decide) (by decide) rfl (fun _ => rfl) (fun _ => rfl) T (fun M10 T => ?_)
    refine wp_iconst d_GM_shift_29 ?_
    refine wp_istore (L' := [.val (gR G o), .val (gI x1), .val (gI x2), .val (gI x3), .val (gI 26), .val (gI v8), .val (gI 0), .unset, .unset, .unset, .unset]) d_GM_shift_30 (by decide) rfl ?_
    exact wp_md (wpt T (And.intro rfl (And.intro rfl (And.intro rfl (And.intro rfl (And.intro rfl (And.intro rfl (And.intro rfl True.intro))))))))
set_option maxHeartbeats 4000000 in
theorem w_GM_shift_32 {l : Launch} {G : gG} {d : Nat} {X : gX} {M : gM} {k : Int → gM → Prop} {o : Nat} (hX : gmX X o) {x1 : Int} (hx1 : g32 x1) {x2 : Int} (hx2 : g32 x2) {x3 : Int} (hx3 : g32 x3) {x4 : Int} (hx4 : g32 x4) {x5 : Int} (hx5 : g32 x5) {x6 : Int} (hx6 : g32 x6) (T : (5200 ≤ x6 → (cI l G y_GM_accept (gRm d) true [gR G o] X M (fun v13 M12 => (k v13 M12)))) ∧ (¬ 5200 ≤ x6 → (((0 : Int) ≤ (x5 * 5200) + x6 ∧ (x5 * 5200) + x6 < 218400) ∧ (g32 (M (o + 19) (Int.toNat ((x5 * 5200) + x6))) → ((¬ M (o + 19) (Int.toNat ((x5 * 5200) + x6)) = 0 → ((x1 = 0 → (cI l G y_GM_moved (gRm d) false [gI (x6.tdiv 26), gI x2, gI x3, gI x4] X M (fun v17 M16 => ((0 ≤ v17 → (wp l G y_GM_shift (gRm (d + 1)) true (kkI X k) true 109 [.val (gR G o), .val (gI x1), .val (gI x2), .val (gI x3), .val (gI x4), .val (gI x5), .val (gI x6), .val (gI (w32 (x6.tmod 26))), .val (gI (w32 (x6.tdiv 26))), .val (gI v17), .unset] [] X M16 0 0)) ∧ (¬ 0 ≤ v17 → ((x3 ≤ 0 → (wp l G y_GM_shift (gRm (d + 1)) true (kkI X k) true 109 [.val (gR G o), .val (gI x1), .val (gI x2), .val (gI x3), .val (gI x4), .val (gI x5), .val (gI x6), .val (gI (w32 (x6.tmod 26))), .val (gI (w32 (x6.tdiv 26))), .val (gI v17), .unset] [] X M16 0 0)) ∧ (¬ x3 ≤ 0 → (cI l G y_GM_no (gRm d) true [gR G o, gI 2] X M16 (fun v20 M19 => (k v20 M19)))))))))) ∧ (¬ x1 = 0 → (cI l G y_GM_moved (gRm d) false [gI (x6.tmod 26), gI x2, gI x3, gI x4] X M (fun v25 M24 => ((0 ≤ v25 → (wp l G y_GM_shift (gRm (d + 1)) true (kkI X k) true 109 [.val (gR G o), .val (gI x1), .val (gI x2), .val (gI x3), .val (gI x4), .val (gI x5), .val (gI x6), .val (gI (w32 (x6.tmod 26))), .val (gI (w32 (x6.tdiv 26))), .val (gI v25), .unset] [] X M24 0 0)) ∧ (¬ 0 ≤ v25 → ((x3 ≤ 0 → (wp l G y_GM_shift (gRm (d + 1)) true (kkI X k) true 109 [.val (gR G o), .val (gI x1), .val (gI x2), .val (gI x3), .val (gI x4), .val (gI x5), .val (gI x6), .val (gI (w32 (x6.tmod 26))), .val (gI (w32 (x6.tdiv 26))), .val (gI v25), .unset] [] X M24 0 0)) ∧ (¬ x3 ≤ 0 → (cI l G y_GM_no (gRm d) true [gR G o, gI 2] X M24 (fun v28 M27 => (k v28 M27)))))))))))) ∧ (M (o + 19) (Int.toNat ((x5 * 5200) + x6)) = 0 → (wp l G y_GM_shift (gRm (d + 1)) true (kkI X k) true 32 [.val (gR G o), .val (gI x1), .val (gI x2), .val (gI x3), .val (gI x4), .val (gI x5), .val (gI (w32 (x6 + 1))), .unset, .unset, .unset, .unset] [] X M 0 0))))))) : wp l G y_GM_shift (gRm (d + 1)) true (kkI X k) true 32 [.val (gR G o), .val (gI x1), .val (gI x2), .val (gI x3), .val (gI x4), .val (gI x5), .val (gI x6), .unset, .unset, .unset, .unset] [] X M 0 0 := by
  refine wp_iload d_GM_shift_32 rfl ?_
  refine wp_sipush d_GM_shift_34 ⟨by decide, by decide⟩ ?_
  refine xi_ge (tgt := 186) d_GM_shift_37 (by decide) (w32_id hx6) (w32_id (g32_c (x := 5200) rfl)) (fun h34 => ?_) (fun h34 => ?_)
  · have T := T.1 h34
    refine wp_aload_n d_GM_shift_186 rfl rfl (g_nz hX.1) ?_
    refine xcV_I (md' := true) (As := []) (st := []) d_GM_shift_187 ca_GM_accept ml_GM_555 im_GM_accept se_GM_accept gc_GM hX.1 (gm_o2 hX) hX.2.2.1 rfl (by decide) (by decide) rfl (fun _ => rfl) (fun _ => rfl) T (fun v13 M12 h14 T => ?_)
    exact wp_ireturn d_GM_shift_190 rfl (fun _ => rfl) (Nat.zero_le _) (Nat.zero_le _) (kI_mk h14 T)
  · have T := T.2 h34
    refine wp_aload_n d_GM_shift_40 rfl rfl (g_nz hX.1) ?_
    refine xgetR d_GM_shift_41 gc_GM f_GM_69.1 f_GM_69.2.1 f_GM_69.2.2.1 hX.1 (gm_o2 hX) hX.2.2.1 f_GM_69.2.2.2.2.1 (gm_row hX 18 rfl).1 ?_
    refine wp_iload d_GM_shift_44 rfl ?_
    refine wp_sipush d_GM_shift_46 ⟨by decide, by decide⟩ ?_
    refine wp_imul d_GM_shift_49 ?_
    refine wp_iload d_GM_shift_50 rfl ?_
    refine wp_iadd d_GM_shift_52 ?_
    refine wp_iaload d_GM_shift_53 (gm_row hX 18 rfl).2.2.1 (gm_row hX 18 rfl).2.2.2 (gm_row hX 18 rfl).2.1 (g32_n T.1 (by decide)) T.1.1 T.1.2 (fun h15 => ?_)
    have T := T.2 h15
    refine xz_ne (tgt := 60) d_GM_shift_54 (by decide) (w32_id h15) (fun h33 => ?_) (fun h33 => ?_)
    · have T := T.1 h33
      refine wp_iload d_GM_shift_60 rfl ?_
      refine wp_bipush d_GM_shift_62 ⟨by decide, by decide⟩ ?_
      refine xirem d_GM_shift_64 (w32_id hx6) (w32_id (g32_c (x := 26) rfl)) (by decide) ?_
      refine wp_istore (L' := [.val (gR G o), .val (gI x1), .val (gI x2), .val (gI x3), .val (gI x4), .val (gI x5), .val (gI x6), .val (gI (x6.tmod 26)), .unset, .unset, .unset]) d_GM_shift_65 (by decide) rfl ?_
      refine wp_iload d_GM_shift_67 rfl ?_
      refine wp_bipush d_GM_shift_69 ⟨by decide, by decide⟩ ?_
      refine xidiv d_GM_shift_71 (w32_id hx6) (w32_id (g32_c (x := 26) rfl)) (by decide) ?_
      refine wp_istore (L' := [.val (gR G o), .val (gI x1), .val (gI x2), .val (gI x3), .val (gI x4), .val (gI x5), .val (gI x6), .val (gI (x6.tmod 26)), .val (gI (x6.tdiv 26)), .unset, .unset]) d_GM_shift_72 (by decide) rfl ?_
      refine wp_iload_n d_GM_shift_74 rfl rfl ?_
      refine xz_eq (tgt := 83) d_GM_shift_75 (by decide) (w32_id hx1) (fun h32 => ?_) (fun h32 => ?_)
      · have T := T.1 h32
        refine wp_iload d_GM_shift_83 rfl ?_
        refine wp_iload_n d_GM_shift_85 rfl rfl ?_
        refine wp_iload_n d_GM_shift_86 rfl rfl ?_
        refine wp_iload d_GM_shift_87 rfl ?_
        refine xcS_I (md' := true) (As := [gI (x6.tdiv 26), gI x2, gI x3, gI x4]) (st := []) d_GM_shift_89 ca_GM_moved ml_GM_564 sm_GM_moved rfl (by decide) (by decide) rfl (fun _ => rfl) (fun _ => rfl) T (fun v17 M16 h18 T => ?_)
        refine wp_istore (L' := [.val (gR G o), .val (gI x1), .val (gI x2), .val (gI x3), .val (gI x4), .val (gI x5), .val (gI x6), .val (gI (x6.tmod 26)), .val (gI (x6.tdiv 26)), .val (gI v17), .unset]) d_GM_shift_92 (by decide) rfl ?_
        refine wp_iload d_GM_shift_94 rfl ?_
        refine xz_ge (tgt := 109) d_GM_shift_96 (by decide) (w32_id h18) (fun h23 => ?_) (fun h23 => ?_)
        · have T := T.1 h23
          exact wp_md (wpt T (And.intro rfl (And.intro rfl (And.intro rfl (And.intro rfl (And.intro rfl (And.intro rfl (And.intro rfl (And.intro (gI_w _) (And.intro (gI_w _) (And.intro rfl True.intro)))))))))))
        · have T := T.2 h23
          refine wp_iload_n d_GM_shift_99 rfl rfl ?_
          refine xz_le (tgt := 109) d_GM_shift_100 (by decide) (w32_id hx3) (fun h22 => ?_) (fun h22 => ?_)
          · have T := T.1 h22
            exact wp_md (wpt T (And.intro rfl (And.intro rfl (And.intro rfl (And.intro rfl (And.intro rfl (And.intro rfl (And.intro rfl (And.intro (gI_w _) (And.intro (gI_w _) (And.intro rfl True.intro)))))))))))
          · have T := T.2 h22
            refine wp_aload_n d_GM_shift_103 rfl rfl (g_nz hX.1) ?_
            refine wp_iconst d_GM_shift_104 ?_
            refine xcV_I (md' := true) (As := [gI 2]) (st := []) d_GM_shift_105 ca_GM_no ml_GM_526 im_GM_no se_GM_no gc_GM hX.1 (gm_o2 hX) hX.2.2.1 rfl (by decide) (by decide) rfl (fun _ => rfl) (fun _ => rfl) T (fun v20 M19 h21 T => ?_)
            exact wp_ireturn d_GM_shift_108 rfl (fun _ => rfl) (Nat.zero_le _) (Nat.zero_le _) (kI_mk h21 T)
      · have T := T.2 h32
        refine wp_iload d_GM_shift_78 rfl ?_
        refine wp_goto (tgt := 85) d_GM_shift_80 (by decide) ?_
        refine wp_iload_n d_GM_shift_85 rfl rfl ?_
        refine wp_iload_n d_GM_shift_86 rfl rfl ?_
        refine wp_iload d_GM_shift_87 rfl ?_
        refine xcS_I (md' := true) (As := [gI (x6.tmod 26), gI x2, gI x3, gI x4]) (st := []) d_GM_shift_89 ca_GM_moved ml_GM_564 sm_GM_moved rfl (by decide) (by decide) rfl (fun _ => rfl) (fun _ => rfl) T (fun v25 M24 h26 T => ?_)
        refine wp_istore (L' := [.val (gR G o), .val (gI x1), .val (gI x2), .val (gI x3), .val (gI x4), .val (gI x5), .val (gI x6), .val (gI (x6.tmod 26)), .val (gI (x6.tdiv 26)), .val (gI v25), .unset]) d_GM_shift_92 (by decide) rfl ?_
        refine wp_iload d_GM_shift_94 rfl ?_
        refine xz_ge (tgt := 109) d_GM_shift_96 (by decide) (w32_id h26) (fun h31 => ?_) (fun h31 => ?_)
        · have T := T.1 h31
          exact wp_md (wpt T (And.intro rfl (And.intro rfl (And.intro rfl (And.intro rfl (And.intro rfl (And.intro rfl (And.intro rfl (And.intro (gI_w _) (And.intro (gI_w _) (And.intro rfl True.intro)))))))))))
        · have T := T.2 h31
          refine wp_iload_n d_GM_shift_99 rfl rfl ?_
          refine xz_le (tgt := 109) d_GM_shift_100 (by decide) (w32_id hx3) (fun h30 => ?_) (fun h30 => ?_)
          · have T := T.1 h30
            exact wp_md (wpt T (And.intro rfl (And.intro rfl (And.intro rfl (And.intro rfl (And.intro rfl (And.intro rfl (And.intro rfl (And.intro (gI_w _) (And.intro (gI_w _) (And.intro rfl True.intro)))))))))))
          · have T := T.2 h30
            refine wp_aload_n d_GM_shift_103 rfl rfl (g_nz hX.1) ?_
            refine wp_iconst d_GM_shift_104 ?_
            refine xcV_I (md' := true) (As := [gI 2]) (st := []) d_GM_shift_105 ca_GM_no ml_GM_526 im_GM_no se_GM_no gc_GM hX.1 (gm_o2 hX) hX.2.2.1 rfl (by decide) (by decide) rfl (fun _ => rfl) (fun _ => rfl) T (fun v28 M27 h29 T => ?_)
            exact wp_ireturn d_GM_shift_108 rfl (fun _ => rfl) (Nat.zero_le _) (Nat.zero_le _) (kI_mk h29 T)
    · have T := T.2 h33
      refine wp_goto (tgt := 180) d_GM_shift_57 (by decide) ?_
      refine wp_iinc (L' := [.val (gR G o), .val (gI x1), .val (gI x2), .val (gI x3), .val (gI x4), .val (gI x5), .val (gI (x6 + 1)), .unset, .unset, .unset, .unset]) d_GM_shift_180 rfl (by decide) rfl ?_
      refine wp_goto (tgt := 32) d_GM_shift_183 (by decide) ?_
      exact wp_md (wpt T (And.intro rfl (And.intro rfl (And.intro rfl (And.intro rfl (And.intro rfl (And.intro rfl (And.intro (gI_w _) True.intro))))))))
set_option maxHeartbeats 4000000 in
theorem w_GM_shift_109 {l : Launch} {G : gG} {d : Nat} {X : gX} {M : gM} {k : Int → gM → Prop} {o : Nat} (hX : gmX X o) {x1 : Int} (hx1 : g32 x1) {x2 : Int} (hx2 : g32 x2) {x3 : Int} (hx3 : g32 x3) {x4 : Int} (hx4 : g32 x4) {x5 : Int} (hx5 : g32 x5) {x6 : Int} (hx6 : g32 x6) {x7 : Int} (hx7 : g32 x7) {x8 : Int} (hx8 : g32 x8) {x9 : Int} (hx9 : g32 x9) (T : (0 ≤ x9 → ((x1 = 0 → (cV l G y_GM_copy (gRm d) true [gR G o, gI x5, gI x6, gI 41, gI (x7 + (26 * x9))] X M (fun M35 => (((0 : Int) ≤ 213200 + (x7 + (26 * x9)) ∧ 213200 + (x7 + (26 * x9)) < 218400) ∧ (g32 (M35 (o + 19) (Int.toNat (213200 + (x7 + (26 * x9))))) → ((¬ M35 (o + 19) (Int.toNat (213200 + (x7 + (26 * x9)))) = 3 → (wp l G y_GM_shift (gRm (d + 1)) true (kkI X k) true 32 [.val (gR G o), .val (gI x1), .val (gI x2), .val (gI x3), .val (gI x4), .val (gI x5), .val (gI (w32 (x6 + 1))), .unset, .unset, .unset, .unset] [] X M35 0 0)) ∧ (M35 (o + 19) (Int.toNat (213200 + (x7 + (26 * x9)))) = 3 → (cV l G y_GM_follow (gRm d) true [gR G o, gI (x7 + (26 * x9)), gI x1, gI x2, gI x3, gI x4] X M35 (fun M37 => (wp l G y_GM_shift (gRm (d + 1)) true (kkI X k) true 32 [.val (gR G o), .val (gI x1), .val (gI x2), .val (gI x3), .val (gI x4), .val (gI x5), .val (gI (w32 (x6 + 1))), .unset, .unset, .unset, .unset] [] X M37 0 0)))))))))) ∧ (¬ x1 = 0 → (cV l G y_GM_copy (gRm d) true [gR G o, gI x5, gI x6, gI 41, gI (x9 + (26 * x8))] X M (fun M39 => (((0 : Int) ≤ 213200 + (x9 + (26 * x8)) ∧ 213200 + (x9 + (26 * x8)) < 218400) ∧ (g32 (M39 (o + 19) (Int.toNat (213200 + (x9 + (26 * x8))))) → ((¬ M39 (o + 19) (Int.toNat (213200 + (x9 + (26 * x8)))) = 3 → (wp l G y_GM_shift (gRm (d + 1)) true (kkI X k) true 32 [.val (gR G o), .val (gI x1), .val (gI x2), .val (gI x3), .val (gI x4), .val (gI x5), .val (gI (w32 (x6 + 1))), .unset, .unset, .unset, .unset] [] X M39 0 0)) ∧ (M39 (o + 19) (Int.toNat (213200 + (x9 + (26 * x8)))) = 3 → (cV l G y_GM_follow (gRm d) true [gR G o, gI (x9 + (26 * x8)), gI x1, gI x2, gI x3, gI x4] X M39 (fun M41 => (wp l G y_GM_shift (gRm (d + 1)) true (kkI X k) true 32 [.val (gR G o), .val (gI x1), .val (gI x2), .val (gI x3), .val (gI x4), .val (gI x5), .val (gI (w32 (x6 + 1))), .unset, .unset, .unset, .unset] [] X M41 0 0)))))))))))) ∧ (¬ 0 ≤ x9 → (wp l G y_GM_shift (gRm (d + 1)) true (kkI X k) true 32 [.val (gR G o), .val (gI x1), .val (gI x2), .val (gI x3), .val (gI x4), .val (gI x5), .val (gI (w32 (x6 + 1))), .unset, .unset, .unset, .unset] [] X M 0 0))) : wp l G y_GM_shift (gRm (d + 1)) true (kkI X k) true 109 [.val (gR G o), .val (gI x1), .val (gI x2), .val (gI x3), .val (gI x4), .val (gI x5), .val (gI x6), .val (gI x7), .val (gI x8), .val (gI x9), .unset] [] X M 0 0 := by
  refine wp_iload d_GM_shift_109 rfl ?_
  refine xz_ge (tgt := 117) d_GM_shift_111 (by decide) (w32_id hx9) (fun h44 => ?_) (fun h44 => ?_)
  · have T := T.1 h44
    refine wp_iload_n d_GM_shift_117 rfl rfl ?_
    refine xz_eq (tgt := 132) d_GM_shift_118 (by decide) (w32_id hx1) (fun h43 => ?_) (fun h43 => ?_)
    · have T := T.1 h43
      refine wp_iload d_GM_shift_132 rfl ?_
      refine wp_bipush d_GM_shift_134 ⟨by decide, by decide⟩ ?_
      refine wp_iload d_GM_shift_136 rfl ?_
      refine wp_imul d_GM_shift_138 ?_
      refine wp_iadd d_GM_shift_139 ?_
      refine wp_istore (L' := [.val (gR G o), .val (gI x1), .val (gI x2), .val (gI x3), .val (gI x4), .val (gI x5), .val (gI x6), .val (gI x7), .val (gI x8), .val (gI x9), .val (gI (x7 + (26 * x9)))]) d_GM_shift_140 (by decide) rfl ?_
      refine wp_aload_n d_GM_shift_142 rfl rfl (g_nz hX.1) ?_
      refine wp_iload d_GM_shift_143 rfl ?_
      refine wp_iload d_GM_shift_145 rfl ?_
      refine wp_bipush d_GM_shift_147 ⟨by decide, by decide⟩ ?_
      refine wp_iload d_GM_shift_149 rfl ?_
      refine xcV_V (md' := true) (As := [gI x5, gI x6, gI 41, gI (x7 + (26 * x9))]) (st := []) d_GM_shift_151 ca_GM_copy ml_GM_275 im_GM_copy se_GM_copy gc_GM hX.1 (gm_o2 hX) hX.2.2.1 rfl (by decide) (by decide) rfl (fun _ => rfl) (fun _ => rfl) T (fun M35 T => ?_)
      refine wp_aload_n d_GM_shift_154 rfl rfl (g_nz hX.1) ?_
      refine xgetR d_GM_shift_155 gc_GM f_GM_69.1 f_GM_69.2.1 f_GM_69.2.2.1 hX.1 (gm_o2 hX) hX.2.2.1 f_GM_69.2.2.2.2.1 (gm_row hX 18 rfl).1 ?_
      refine wp_ldcw (n := 213200) d_GM_shift_158 c_GM_547 rfl ?_
      refine wp_iload d_GM_shift_161 rfl ?_
      refine wp_iadd d_GM_shift_163 ?_
      refine wp_iaload d_GM_shift_164 (gm_row hX 18 rfl).2.2.1 (gm_row hX 18 rfl).2.2.2 (gm_row hX 18 rfl).2.1 (g32_n T.1 (by decide)) T.1.1 T.1.2 (fun h36 => ?_)
      have T := T.2 h36
      refine wp_iconst d_GM_shift_165 ?_
      refine xi_ne (tgt := 180) d_GM_shift_166 (by decide) (w32_id h36) (w32_id (g32_c (x := 3) rfl)) (fun h38 => ?_) (fun h38 => ?_)
      · have T := T.1 h38
        refine wp_iinc (L' := [.val (gR G o), .val (gI x1), .val (gI x2), .val (gI x3), .val (gI x4), .val (gI x5), .val (gI (x6 + 1)), .val (gI x7), .val (gI x8), .val (gI x9), .val (gI (x7 + (26 * x9)))]) d_GM_shift_180 rfl (by decide) rfl ?_
        refine wp_goto (tgt := 32) d_GM_shift_183 (by decide) ?_
        exact wp_md (wpt T (And.intro rfl (And.intro rfl (And.intro rfl (And.intro rfl (And.intro rfl (And.intro rfl (And.intro (gI_w _) True.intro))))))))
      · have T := T.2 h38
        refine wp_aload_n d_GM_shift_169 rfl rfl (g_nz hX.1) ?_
        refine wp_iload d_GM_shift_170 rfl ?_
        refine wp_iload_n d_GM_shift_172 rfl rfl ?_
        refine wp_iload_n d_GM_shift_173 rfl rfl ?_
        refine wp_iload_n d_GM_shift_174 rfl rfl ?_
        refine wp_iload d_GM_shift_175 rfl ?_
        refine xcV_V (md' := true) (As := [gI (x7 + (26 * x9)), gI x1, gI x2, gI x3, gI x4]) (st := []) d_GM_shift_177 ca_GM_follow ml_GM_568 im_GM_follow se_GM_follow gc_GM hX.1 (gm_o2 hX) hX.2.2.1 rfl (by decide) (by decide) rfl (fun _ => rfl) (fun _ => rfl) T (fun M37 T => ?_)
        refine wp_iinc (L' := [.val (gR G o), .val (gI x1), .val (gI x2), .val (gI x3), .val (gI x4), .val (gI x5), .val (gI (x6 + 1)), .val (gI x7), .val (gI x8), .val (gI x9), .val (gI (x7 + (26 * x9)))]) d_GM_shift_180 rfl (by decide) rfl ?_
        refine wp_goto (tgt := 32) d_GM_shift_183 (by decide) ?_
        exact wp_md (wpt T (And.intro rfl (And.intro rfl (And.intro rfl (And.intro rfl (And.intro rfl (And.intro rfl (And.intro (gI_w _) True.intro))))))))
    · have T := T.2 h43
      refine wp_iload d_GM_shift_121 rfl ?_
      refine wp_bipush d_GM_shift_123 ⟨by decide, by decide⟩ ?_
      refine wp_iload d_GM_shift_125 rfl ?_
      refine wp_imul d_GM_shift_127 ?_
      refine wp_iadd d_GM_shift_128 ?_
      refine wp_goto (tgt := 140) d_GM_shift_129 (by decide) ?_
      refine wp_istore (L' := [.val (gR G o), .val (gI x1), .val (gI x2), .val (gI x3), .val (gI x4), .val (gI x5), .val (gI x6), .val (gI x7), .val (gI x8), .val (gI x9), .val (gI (x9 + (26 * x8)))]) d_GM_shift_140 (by decide) rfl ?_
      refine wp_aload_n d_GM_shift_142 rfl rfl (g_nz hX.1) ?_
      refine wp_iload d_GM_shift_143 rfl ?_
      refine wp_iload d_GM_shift_145 rfl ?_
      refine wp_bipush d_GM_shift_147 ⟨by decide, by decide⟩ ?_
      refine wp_iload d_GM_shift_149 rfl ?_
      refine xcV_V (md' := true) (As := [gI x5, gI x6, gI 41, gI (x9 + (26 * x8))]) (st := []) d_GM_shift_151 ca_GM_copy ml_GM_275 im_GM_copy se_GM_copy gc_GM hX.1 (gm_o2 hX) hX.2.2.1 rfl (by decide) (by decide) rfl (fun _ => rfl) (fun _ => rfl) T (fun M39 T => ?_)
      refine wp_aload_n d_GM_shift_154 rfl rfl (g_nz hX.1) ?_
      refine xgetR d_GM_shift_155 gc_GM f_GM_69.1 f_GM_69.2.1 f_GM_69.2.2.1 hX.1 (gm_o2 hX) hX.2.2.1 f_GM_69.2.2.2.2.1 (gm_row hX 18 rfl).1 ?_
      refine wp_ldcw (n := 213200) d_GM_shift_158 c_GM_547 rfl ?_
      refine wp_iload d_GM_shift_161 rfl ?_
      refine wp_iadd d_GM_shift_163 ?_
      refine wp_iaload d_GM_shift_164 (gm_row hX 18 rfl).2.2.1 (gm_row hX 18 rfl).2.2.2 (gm_row hX 18 rfl).2.1 (g32_n T.1 (by decide)) T.1.1 T.1.2 (fun h40 => ?_)
      have T := T.2 h40
      refine wp_iconst d_GM_shift_165 ?_
      refine xi_ne (tgt := 180) d_GM_shift_166 (by decide) (w32_id h40) (w32_id (g32_c (x := 3) rfl)) (fun h42 => ?_) (fun h42 => ?_)
      · have T := T.1 h42
        refine wp_iinc (L' := [.val (gR G o), .val (gI x1), .val (gI x2), .val (gI x3), .val (gI x4), .val (gI x5), .val (gI (x6 + 1)), .val (gI x7), .val (gI x8), .val (gI x9), .val (gI (x9 + (26 * x8)))]) d_GM_shift_180 rfl (by decide) rfl ?_
        refine wp_goto (tgt := 32) d_GM_shift_183 (by decide) ?_
        exact wp_md (wpt T (And.intro rfl (And.intro rfl (And.intro rfl (And.intro rfl (And.intro rfl (And.intro rfl (And.intro (gI_w _) True.intro))))))))
      · have T := T.2 h42
        refine wp_aload_n d_GM_shift_169 rfl rfl (g_nz hX.1) ?_
        refine wp_iload d_GM_shift_170 rfl ?_
        refine wp_iload_n d_GM_shift_172 rfl rfl ?_
        refine wp_iload_n d_GM_shift_173 rfl rfl ?_
        refine wp_iload_n d_GM_shift_174 rfl rfl ?_
        refine wp_iload d_GM_shift_175 rfl ?_
        refine xcV_V (md' := true) (As := [gI (x9 + (26 * x8)), gI x1, gI x2, gI x3, gI x4]) (st := []) d_GM_shift_177 ca_GM_follow ml_GM_568 im_GM_follow se_GM_follow gc_GM hX.1 (gm_o2 hX) hX.2.2.1 rfl (by decide) (by decide) rfl (fun _ => rfl) (fun _ => rfl) T (fun M41 T => ?_)
        refine wp_iinc (L' := [.val (gR G o), .val (gI x1), .val (gI x2), .val (gI x3), .val (gI x4), .val (gI x5), .val (gI (x6 + 1)), .val (gI x7), .val (gI x8), .val (gI x9), .val (gI (x9 + (26 * x8)))]) d_GM_shift_180 rfl (by decide) rfl ?_
        refine wp_goto (tgt := 32) d_GM_shift_183 (by decide) ?_
        exact wp_md (wpt T (And.intro rfl (And.intro rfl (And.intro rfl (And.intro rfl (And.intro rfl (And.intro rfl (And.intro (gI_w _) True.intro))))))))
  · have T := T.2 h44
    refine wp_goto (tgt := 180) d_GM_shift_114 (by decide) ?_
    refine wp_iinc (L' := [.val (gR G o), .val (gI x1), .val (gI x2), .val (gI x3), .val (gI x4), .val (gI x5), .val (gI (x6 + 1)), .val (gI x7), .val (gI x8), .val (gI x9), .unset]) d_GM_shift_180 rfl (by decide) rfl ?_
    refine wp_goto (tgt := 32) d_GM_shift_183 (by decide) ?_
    exact wp_md (wpt T (And.intro rfl (And.intro rfl (And.intro rfl (And.intro rfl (And.intro rfl (And.intro rfl (And.intro (gI_w _) True.intro))))))))
theorem e_GM_shift {l : Launch} {G : gG} {d : Nat} {X : gX} {M : gM} {k : Int → gM → Prop} {o : Nat} {x1 : Int} {x2 : Int} {x3 : Int} (T : wp l G y_GM_shift (gRm (d + 1)) true (kkI X k) false 0 [.val (gR G o), .val (gI x1), .val (gI x2), .val (gI x3), .unset, .unset, .unset, .unset, .unset, .unset, .unset] [] X M 0 0) : cI l G y_GM_shift (gRm (d + 1)) true [gR G o, gI x1, gI x2, gI x3] X M k := cen_I (plainFor_of_name rfl) (by simp only [lg_sl_R, lg_sl_I, lg_sl_L, lg_sl_N, List.length_cons, List.length_nil]; decide) (by unfold gEn; simp only [lg_sl_R, lg_sl_I, lg_sl_L, lg_sl_N]; exact wpt T (And.intro rfl (And.intro rfl (And.intro rfl (And.intro rfl True.intro)))))
theorem d_GM_follow_0 : decode prog_15_method_88_code 0 = .ok (.aload_n 0, 1) := by decide +kernel
theorem d_GM_follow_1 : decode prog_15_method_88_code 1 = .ok (.getfield 72, 3) := by decide +kernel
theorem d_GM_follow_4 : decode prog_15_method_88_code 4 = .ok (.ldc_w 547, 3) := by decide +kernel
theorem d_GM_follow_7 : decode prog_15_method_88_code 7 = .ok (.iload_n 1, 1) := by decide +kernel
theorem d_GM_follow_8 : decode prog_15_method_88_code 8 = .ok (.iadd, 1) := by decide +kernel
theorem d_GM_follow_9 : decode prog_15_method_88_code 9 = .ok (.iaload, 1) := by decide +kernel
theorem d_GM_follow_10 : decode prog_15_method_88_code 10 = .ok (.istore 6, 2) := by decide +kernel
theorem d_GM_follow_12 : decode prog_15_method_88_code 12 = .ok (.iconst 0, 1) := by decide +kernel
theorem d_GM_follow_13 : decode prog_15_method_88_code 13 = .ok (.istore 7, 2) := by decide +kernel
theorem d_GM_follow_15 : decode prog_15_method_88_code 15 = .ok (.iload 7, 2) := by decide +kernel
theorem d_GM_follow_17 : decode prog_15_method_88_code 17 = .ok (.aload_n 0, 1) := by decide +kernel
theorem d_GM_follow_18 : decode prog_15_method_88_code 18 = .ok (.getfield 37, 3) := by decide +kernel
theorem d_GM_follow_21 : decode prog_15_method_88_code 21 = .ok (.iload 6, 2) := by decide +kernel
theorem d_GM_follow_23 : decode prog_15_method_88_code 23 = .ok (.iaload, 1) := by decide +kernel
theorem d_GM_follow_24 : decode prog_15_method_88_code 24 = .ok (.if_icmp .ge 357, 3) := by decide +kernel
theorem d_GM_follow_381 : decode prog_15_method_88_code 381 = .ok (.return_, 1) := by decide +kernel
theorem d_GM_follow_27 : decode prog_15_method_88_code 27 = .ok (.aload_n 0, 1) := by decide +kernel
theorem d_GM_follow_28 : decode prog_15_method_88_code 28 = .ok (.bipush 41, 2) := by decide +kernel
theorem d_GM_follow_30 : decode prog_15_method_88_code 30 = .ok (.iload_n 1, 1) := by decide +kernel
theorem d_GM_follow_31 : decode prog_15_method_88_code 31 = .ok (.iload 7, 2) := by decide +kernel
theorem d_GM_follow_33 : decode prog_15_method_88_code 33 = .ok (.invokevirtual 299, 3) := by decide +kernel
theorem d_GM_follow_36 : decode prog_15_method_88_code 36 = .ok (.istore 8, 2) := by decide +kernel
theorem d_GM_follow_38 : decode prog_15_method_88_code 38 = .ok (.aload_n 0, 1) := by decide +kernel
theorem d_GM_follow_39 : decode prog_15_method_88_code 39 = .ok (.bipush 41, 2) := by decide +kernel
theorem d_GM_follow_41 : decode prog_15_method_88_code 41 = .ok (.iload_n 1, 1) := by decide +kernel
theorem d_GM_follow_42 : decode prog_15_method_88_code 42 = .ok (.iload 7, 2) := by decide +kernel
theorem d_GM_follow_44 : decode prog_15_method_88_code 44 = .ok (.invokevirtual 295, 3) := by decide +kernel
theorem d_GM_follow_47 : decode prog_15_method_88_code 47 = .ok (.istore 9, 2) := by decide +kernel
theorem d_GM_follow_49 : decode prog_15_method_88_code 49 = .ok (.iload 8, 2) := by decide +kernel
theorem d_GM_follow_51 : decode prog_15_method_88_code 51 = .ok (.ifCond .lt 324, 3) := by decide +kernel
theorem d_GM_follow_54 : decode prog_15_method_88_code 54 = .ok (.iload 9, 2) := by decide +kernel
theorem d_GM_follow_56 : decode prog_15_method_88_code 56 = .ok (.iconst 2, 1) := by decide +kernel
theorem d_GM_follow_57 : decode prog_15_method_88_code 57 = .ok (.if_icmp .ne 6, 3) := by decide +kernel
theorem d_GM_follow_63 : decode prog_15_method_88_code 63 = .ok (.iload 9, 2) := by decide +kernel
theorem d_GM_follow_65 : decode prog_15_method_88_code 65 = .ok (.ifCond .ne 46, 3) := by decide +kernel
theorem d_GM_follow_111 : decode prog_15_method_88_code 111 = .ok (.aload_n 0, 1) := by decide +kernel
theorem d_GM_follow_112 : decode prog_15_method_88_code 112 = .ok (.bipush 41, 2) := by decide +kernel
theorem d_GM_follow_114 : decode prog_15_method_88_code 114 = .ok (.iload_n 1, 1) := by decide +kernel
theorem d_GM_follow_115 : decode prog_15_method_88_code 115 = .ok (.iload 7, 2) := by decide +kernel
theorem d_GM_follow_117 : decode prog_15_method_88_code 117 = .ok (.iconst 1, 1) := by decide +kernel
theorem d_GM_follow_118 : decode prog_15_method_88_code 118 = .ok (.iadd, 1) := by decide +kernel
theorem d_GM_follow_119 : decode prog_15_method_88_code 119 = .ok (.invokevirtual 299, 3) := by decide +kernel
theorem d_GM_follow_122 : decode prog_15_method_88_code 122 = .ok (.istore 10, 2) := by decide +kernel
theorem d_GM_follow_124 : decode prog_15_method_88_code 124 = .ok (.aload_n 0, 1) := by decide +kernel
theorem d_GM_follow_125 : decode prog_15_method_88_code 125 = .ok (.iload 8, 2) := by decide +kernel
theorem d_GM_follow_127 : decode prog_15_method_88_code 127 = .ok (.iload 10, 2) := by decide +kernel
theorem d_GM_follow_129 : decode prog_15_method_88_code 129 = .ok (.iload_n 2, 1) := by decide +kernel
theorem d_GM_follow_130 : decode prog_15_method_88_code 130 = .ok (.invokevirtual 292, 3) := by decide +kernel
theorem d_GM_follow_133 : decode prog_15_method_88_code 133 = .ok (.istore 11, 2) := by decide +kernel
theorem d_GM_follow_135 : decode prog_15_method_88_code 135 = .ok (.aload_n 0, 1) := by decide +kernel
theorem d_GM_follow_136 : decode prog_15_method_88_code 136 = .ok (.iload 8, 2) := by decide +kernel
theorem d_GM_follow_138 : decode prog_15_method_88_code 138 = .ok (.iload 10, 2) := by decide +kernel
theorem d_GM_follow_140 : decode prog_15_method_88_code 140 = .ok (.iload_n 2, 1) := by decide +kernel
theorem d_GM_follow_141 : decode prog_15_method_88_code 141 = .ok (.invokevirtual 288, 3) := by decide +kernel
theorem d_GM_follow_144 : decode prog_15_method_88_code 144 = .ok (.istore 12, 2) := by decide +kernel
theorem d_GM_follow_146 : decode prog_15_method_88_code 146 = .ok (.iconst (-1), 1) := by decide +kernel
theorem d_GM_follow_147 : decode prog_15_method_88_code 147 = .ok (.istore 13, 2) := by decide +kernel
theorem d_GM_follow_149 : decode prog_15_method_88_code 149 = .ok (.iconst (-1), 1) := by decide +kernel
theorem d_GM_follow_150 : decode prog_15_method_88_code 150 = .ok (.istore 14, 2) := by decide +kernel
theorem d_GM_follow_152 : decode prog_15_method_88_code 152 = .ok (.iload 11, 2) := by decide +kernel
theorem d_GM_follow_154 : decode prog_15_method_88_code 154 = .ok (.istore 15, 2) := by decide +kernel
theorem d_GM_follow_68 : decode prog_15_method_88_code 68 = .ok (.aload_n 0, 1) := by decide +kernel
theorem d_GM_follow_69 : decode prog_15_method_88_code 69 = .ok (.bipush 41, 2) := by decide +kernel
theorem d_GM_follow_71 : decode prog_15_method_88_code 71 = .ok (.iload_n 1, 1) := by decide +kernel
theorem d_GM_follow_72 : decode prog_15_method_88_code 72 = .ok (.iload 7, 2) := by decide +kernel
theorem d_GM_follow_74 : decode prog_15_method_88_code 74 = .ok (.iload 8, 2) := by decide +kernel
theorem d_GM_follow_76 : decode prog_15_method_88_code 76 = .ok (.iload_n 2, 1) := by decide +kernel
theorem d_GM_follow_77 : decode prog_15_method_88_code 77 = .ok (.iload_n 2, 1) := by decide +kernel
theorem d_GM_follow_78 : decode prog_15_method_88_code 78 = .ok (.ifCond .eq 11, 3) := by decide +kernel
theorem d_GM_follow_89 : decode prog_15_method_88_code 89 = .ok (.iload 8, 2) := by decide +kernel
theorem d_GM_follow_91 : decode prog_15_method_88_code 91 = .ok (.bipush 26, 2) := by decide +kernel
theorem d_GM_follow_93 : decode prog_15_method_88_code 93 = .ok (.idiv, 1) := by decide +kernel
theorem d_GM_follow_94 : decode prog_15_method_88_code 94 = .ok (.iload_n 3, 1) := by decide +kernel
theorem d_GM_follow_95 : decode prog_15_method_88_code 95 = .ok (.iload 4, 2) := by decide +kernel
theorem d_GM_follow_97 : decode prog_15_method_88_code 97 = .ok (.iload 5, 2) := by decide +kernel
theorem d_GM_follow_99 : decode prog_15_method_88_code 99 = .ok (.invokestatic 564, 3) := by decide +kernel
theorem d_GM_follow_102 : decode prog_15_method_88_code 102 = .ok (.invokestatic 572, 3) := by decide +kernel
theorem d_GM_follow_105 : decode prog_15_method_88_code 105 = .ok (.invokevirtual 561, 3) := by decide +kernel
theorem d_GM_follow_108 : decode prog_15_method_88_code 108 = .ok (.goto 267, 3) := by decide +kernel
theorem d_GM_follow_81 : decode prog_15_method_88_code 81 = .ok (.iload 8, 2) := by decide +kernel
theorem d_GM_follow_83 : decode prog_15_method_88_code 83 = .ok (.bipush 26, 2) := by decide +kernel
theorem d_GM_follow_85 : decode prog_15_method_88_code 85 = .ok (.irem, 1) := by decide +kernel
theorem d_GM_follow_86 : decode prog_15_method_88_code 86 = .ok (.goto 8, 3) := by decide +kernel
theorem d_GM_follow_60 : decode prog_15_method_88_code 60 = .ok (.goto 315, 3) := by decide +kernel
theorem d_GM_follow_375 : decode prog_15_method_88_code 375 = .ok (.iinc 7 1, 3) := by decide +kernel
theorem d_GM_follow_378 : decode prog_15_method_88_code 378 = .ok (.goto (-363), 3) := by decide +kernel
theorem d_GM_follow_156 : decode prog_15_method_88_code 156 = .ok (.iload 15, 2) := by decide +kernel
theorem d_GM_follow_158 : decode prog_15_method_88_code 158 = .ok (.iload 12, 2) := by decide +kernel
theorem d_GM_follow_160 : decode prog_15_method_88_code 160 = .ok (.if_icmp .gt 42, 3) := by decide +kernel
theorem d_GM_follow_202 : decode prog_15_method_88_code 202 = .ok (.iload 4, 2) := by decide +kernel
theorem d_GM_follow_204 : decode prog_15_method_88_code 204 = .ok (.ifCond .le 27, 3) := by decide +kernel
theorem d_GM_follow_207 : decode prog_15_method_88_code 207 = .ok (.iload 13, 2) := by decide +kernel
theorem d_GM_follow_209 : decode prog_15_method_88_code 209 = .ok (.ifCond .lt 22, 3) := by decide +kernel
theorem d_GM_follow_212 : decode prog_15_method_88_code 212 = .ok (.iload 12, 2) := by decide +kernel
theorem d_GM_follow_214 : decode prog_15_method_88_code 214 = .ok (.iload_n 3, 1) := by decide +kernel
theorem d_GM_follow_215 : decode prog_15_method_88_code 215 = .ok (.iload 4, 2) := by decide +kernel
theorem d_GM_follow_217 : decode prog_15_method_88_code 217 = .ok (.iload 5, 2) := by decide +kernel
theorem d_GM_follow_219 : decode prog_15_method_88_code 219 = .ok (.invokestatic 564, 3) := by decide +kernel
theorem d_GM_follow_222 : decode prog_15_method_88_code 222 = .ok (.ifCond .ge 9, 3) := by decide +kernel
theorem d_GM_follow_225 : decode prog_15_method_88_code 225 = .ok (.iload 5, 2) := by decide +kernel
theorem d_GM_follow_227 : decode prog_15_method_88_code 227 = .ok (.iconst 1, 1) := by decide +kernel
theorem d_GM_follow_228 : decode prog_15_method_88_code 228 = .ok (.isub, 1) := by decide +kernel
theorem d_GM_follow_229 : decode prog_15_method_88_code 229 = .ok (.istore 14, 2) := by decide +kernel
theorem d_GM_follow_163 : decode prog_15_method_88_code 163 = .ok (.iload 15, 2) := by decide +kernel
theorem d_GM_follow_165 : decode prog_15_method_88_code 165 = .ok (.iload_n 3, 1) := by decide +kernel
theorem d_GM_follow_166 : decode prog_15_method_88_code 166 = .ok (.iload 4, 2) := by decide +kernel
theorem d_GM_follow_168 : decode prog_15_method_88_code 168 = .ok (.iload 5, 2) := by decide +kernel
theorem d_GM_follow_170 : decode prog_15_method_88_code 170 = .ok (.invokestatic 564, 3) := by decide +kernel
theorem d_GM_follow_173 : decode prog_15_method_88_code 173 = .ok (.istore 16, 2) := by decide +kernel
theorem d_GM_follow_175 : decode prog_15_method_88_code 175 = .ok (.iload 16, 2) := by decide +kernel
theorem d_GM_follow_177 : decode prog_15_method_88_code 177 = .ok (.ifCond .ge 6, 3) := by decide +kernel
theorem d_GM_follow_183 : decode prog_15_method_88_code 183 = .ok (.iload 13, 2) := by decide +kernel
theorem d_GM_follow_185 : decode prog_15_method_88_code 185 = .ok (.ifCond .ge 7, 3) := by decide +kernel
theorem d_GM_follow_192 : decode prog_15_method_88_code 192 = .ok (.iload 16, 2) := by decide +kernel
theorem d_GM_follow_194 : decode prog_15_method_88_code 194 = .ok (.istore 14, 2) := by decide +kernel
theorem d_GM_follow_196 : decode prog_15_method_88_code 196 = .ok (.iinc 15 1, 3) := by decide +kernel
theorem d_GM_follow_199 : decode prog_15_method_88_code 199 = .ok (.goto (-43), 3) := by decide +kernel
theorem d_GM_follow_188 : decode prog_15_method_88_code 188 = .ok (.iload 16, 2) := by decide +kernel
theorem d_GM_follow_190 : decode prog_15_method_88_code 190 = .ok (.istore 13, 2) := by decide +kernel
theorem d_GM_follow_180 : decode prog_15_method_88_code 180 = .ok (.goto 16, 3) := by decide +kernel
theorem d_GM_follow_231 : decode prog_15_method_88_code 231 = .ok (.iload_n 2, 1) := by decide +kernel
theorem d_GM_follow_232 : decode prog_15_method_88_code 232 = .ok (.ifCond .eq 11, 3) := by decide +kernel
theorem d_GM_follow_243 : decode prog_15_method_88_code 243 = .ok (.iload 8, 2) := by decide +kernel
theorem d_GM_follow_245 : decode prog_15_method_88_code 245 = .ok (.bipush 26, 2) := by decide +kernel
theorem d_GM_follow_247 : decode prog_15_method_88_code 247 = .ok (.idiv, 1) := by decide +kernel
theorem d_GM_follow_235 : decode prog_15_method_88_code 235 = .ok (.iload 8, 2) := by decide +kernel
theorem d_GM_follow_237 : decode prog_15_method_88_code 237 = .ok (.bipush 26, 2) := by decide +kernel
theorem d_GM_follow_239 : decode prog_15_method_88_code 239 = .ok (.irem, 1) := by decide +kernel
theorem d_GM_follow_240 : decode prog_15_method_88_code 240 = .ok (.goto 8, 3) := by decide +kernel
theorem d_GM_follow_248 : decode prog_15_method_88_code 248 = .ok (.iload 11, 2) := by decide +kernel
theorem d_GM_follow_250 : decode prog_15_method_88_code 250 = .ok (.if_icmp .ne 7, 3) := by decide +kernel
theorem d_GM_follow_257 : decode prog_15_method_88_code 257 = .ok (.iconst 0, 1) := by decide +kernel
theorem d_GM_follow_253 : decode prog_15_method_88_code 253 = .ok (.iconst 1, 1) := by decide +kernel
theorem d_GM_follow_254 : decode prog_15_method_88_code 254 = .ok (.goto 4, 3) := by decide +kernel
theorem d_GM_follow_258 : decode prog_15_method_88_code 258 = .ok (.istore 15, 2) := by decide +kernel
theorem d_GM_follow_260 : decode prog_15_method_88_code 260 = .ok (.iload_n 2, 1) := by decide +kernel
theorem d_GM_follow_261 : decode prog_15_method_88_code 261 = .ok (.ifCond .eq 11, 3) := by decide +kernel
theorem d_GM_follow_272 : decode prog_15_method_88_code 272 = .ok (.iload 10, 2) := by decide +kernel
theorem d_GM_follow_274 : decode prog_15_method_88_code 274 = .ok (.bipush 26, 2) := by decide +kernel
theorem d_GM_follow_276 : decode prog_15_method_88_code 276 = .ok (.idiv, 1) := by decide +kernel
theorem d_GM_follow_264 : decode prog_15_method_88_code 264 = .ok (.iload 10, 2) := by decide +kernel
theorem d_GM_follow_266 : decode prog_15_method_88_code 266 = .ok (.bipush 26, 2) := by decide +kernel
theorem d_GM_follow_268 : decode prog_15_method_88_code 268 = .ok (.irem, 1) := by decide +kernel
theorem d_GM_follow_269 : decode prog_15_method_88_code 269 = .ok (.goto 8, 3) := by decide +kernel
theorem d_GM_follow_277 : decode prog_15_method_88_code 277 = .ok (.iload 11, 2) := by decide +kernel
theorem d_GM_follow_279 : decode prog_15_method_88_code 279 = .ok (.if_icmp .ne 7, 3) := by decide +kernel
theorem d_GM_follow_286 : decode prog_15_method_88_code 286 = .ok (.iconst 0, 1) := by decide +kernel
theorem d_GM_follow_282 : decode prog_15_method_88_code 282 = .ok (.iconst 1, 1) := by decide +kernel
theorem d_GM_follow_283 : decode prog_15_method_88_code 283 = .ok (.goto 4, 3) := by decide +kernel
theorem d_GM_follow_287 : decode prog_15_method_88_code 287 = .ok (.istore 16, 2) := by decide +kernel
theorem d_GM_follow_289 : decode prog_15_method_88_code 289 = .ok (.aload_n 0, 1) := by decide +kernel
theorem d_GM_follow_290 : decode prog_15_method_88_code 290 = .ok (.bipush 41, 2) := by decide +kernel
theorem d_GM_follow_292 : decode prog_15_method_88_code 292 = .ok (.iload_n 1, 1) := by decide +kernel
theorem d_GM_follow_293 : decode prog_15_method_88_code 293 = .ok (.iload 7, 2) := by decide +kernel
theorem d_GM_follow_295 : decode prog_15_method_88_code 295 = .ok (.iload 13, 2) := by decide +kernel
theorem d_GM_follow_297 : decode prog_15_method_88_code 297 = .ok (.ifCond .ge 7, 3) := by decide +kernel
theorem d_GM_follow_304 : decode prog_15_method_88_code 304 = .ok (.iload 8, 2) := by decide +kernel
theorem d_GM_follow_306 : decode prog_15_method_88_code 306 = .ok (.iload_n 2, 1) := by decide +kernel
theorem d_GM_follow_307 : decode prog_15_method_88_code 307 = .ok (.iload 15, 2) := by decide +kernel
theorem d_GM_follow_309 : decode prog_15_method_88_code 309 = .ok (.ifCond .eq 8, 3) := by decide +kernel
theorem d_GM_follow_317 : decode prog_15_method_88_code 317 = .ok (.iload 14, 2) := by decide +kernel
theorem d_GM_follow_319 : decode prog_15_method_88_code 319 = .ok (.invokestatic 572, 3) := by decide +kernel
theorem d_GM_follow_312 : decode prog_15_method_88_code 312 = .ok (.iload 13, 2) := by decide +kernel
theorem d_GM_follow_314 : decode prog_15_method_88_code 314 = .ok (.goto 5, 3) := by decide +kernel
theorem d_GM_follow_300 : decode prog_15_method_88_code 300 = .ok (.iconst (-1), 1) := by decide +kernel
theorem d_GM_follow_301 : decode prog_15_method_88_code 301 = .ok (.goto 21, 3) := by decide +kernel
theorem d_GM_follow_322 : decode prog_15_method_88_code 322 = .ok (.invokevirtual 561, 3) := by decide +kernel
theorem d_GM_follow_325 : decode prog_15_method_88_code 325 = .ok (.aload_n 0, 1) := by decide +kernel
theorem d_GM_follow_326 : decode prog_15_method_88_code 326 = .ok (.bipush 41, 2) := by decide +kernel
theorem d_GM_follow_328 : decode prog_15_method_88_code 328 = .ok (.iload_n 1, 1) := by decide +kernel
theorem d_GM_follow_329 : decode prog_15_method_88_code 329 = .ok (.iload 7, 2) := by decide +kernel
theorem d_GM_follow_331 : decode prog_15_method_88_code 331 = .ok (.iconst 1, 1) := by decide +kernel
theorem d_GM_follow_332 : decode prog_15_method_88_code 332 = .ok (.iadd, 1) := by decide +kernel
theorem d_GM_follow_333 : decode prog_15_method_88_code 333 = .ok (.iload 13, 2) := by decide +kernel
theorem d_GM_follow_335 : decode prog_15_method_88_code 335 = .ok (.ifCond .ge 7, 3) := by decide +kernel
theorem d_GM_follow_342 : decode prog_15_method_88_code 342 = .ok (.iload 10, 2) := by decide +kernel
theorem d_GM_follow_344 : decode prog_15_method_88_code 344 = .ok (.iload_n 2, 1) := by decide +kernel
theorem d_GM_follow_345 : decode prog_15_method_88_code 345 = .ok (.iload 16, 2) := by decide +kernel
theorem d_GM_follow_347 : decode prog_15_method_88_code 347 = .ok (.ifCond .eq 20, 3) := by decide +kernel
theorem d_GM_follow_367 : decode prog_15_method_88_code 367 = .ok (.iload 14, 2) := by decide +kernel
theorem d_GM_follow_369 : decode prog_15_method_88_code 369 = .ok (.invokestatic 572, 3) := by decide +kernel
theorem d_GM_follow_372 : decode prog_15_method_88_code 372 = .ok (.invokevirtual 561, 3) := by decide +kernel
theorem d_GM_follow_350 : decode prog_15_method_88_code 350 = .ok (.iload 15, 2) := by decide +kernel
theorem d_GM_follow_352 : decode prog_15_method_88_code 352 = .ok (.ifCond .eq 10, 3) := by decide +kernel
theorem d_GM_follow_362 : decode prog_15_method_88_code 362 = .ok (.iload 13, 2) := by decide +kernel
theorem d_GM_follow_364 : decode prog_15_method_88_code 364 = .ok (.goto 5, 3) := by decide +kernel
theorem d_GM_follow_355 : decode prog_15_method_88_code 355 = .ok (.iload 11, 2) := by decide +kernel
theorem d_GM_follow_357 : decode prog_15_method_88_code 357 = .ok (.iload 12, 2) := by decide +kernel
theorem d_GM_follow_359 : decode prog_15_method_88_code 359 = .ok (.if_icmp .ne 8, 3) := by decide +kernel
theorem d_GM_follow_338 : decode prog_15_method_88_code 338 = .ok (.iconst (-1), 1) := by decide +kernel
theorem d_GM_follow_339 : decode prog_15_method_88_code 339 = .ok (.goto 33, 3) := by decide +kernel
set_option maxHeartbeats 4000000 in
theorem w_GM_follow_0 {l : Launch} {G : gG} {d : Nat} {X : gX} {M : gM} {k : gM → Prop} {o : Nat} (hX : gmX X o) {x1 : Int} (hx1 : g32 x1) {x2 : Int} (hx2 : 0 ≤ x2 ∧ x2 ≤ 1) {x3 : Int} (hx3 : g32 x3) {x4 : Int} (hx4 : g32 x4) {x5 : Int} (hx5 : g32 x5) (T : ((0 : Int) ≤ 213200 + x1 ∧ 213200 + x1 < 218400) ∧ (g32 (M (o + 20) (Int.toNat (213200 + x1))) → (wp l G y_GM_follow (gRm (d + 1)) true (kkV X k) true 15 [.val (gR G o), .val (gI x1), .val (gI x2), .val (gI x3), .val (gI x4), .val (gI x5), .val (gI (M (o + 20) (Int.toNat (213200 + x1)))), .val (gI 0), .unset, .unset, .unset, .unset, .unset, .unset, .unset, .unset, .unset] [] X M 0 0))) : wp l G y_GM_follow (gRm (d + 1)) true (kkV X k) false 0 [.val (gR G o), .val (gI x1), .val (gI x2), .val (gI x3), .val (gI x4), .val (gI x5), .unset, .unset, .unset, .unset, .unset, .unset, .unset, .unset, .unset, .unset, .unset] [] X M 0 0 := by
  refine wp_aload_n d_GM_follow_0 rfl rfl (g_nz hX.1) ?_
  refine xgetR d_GM_follow_1 gc_GM f_GM_72.1 f_GM_72.2.1 f_GM_72.2.2.1 hX.1 (gm_o2 hX) hX.2.2.1 f_GM_72.2.2.2.2.1 (gm_row hX 19 rfl).1 ?_
  refine wp_ldcw (n := 213200) d_GM_follow_4 c_GM_547 rfl ?_
  refine wp_iload_n d_GM_follow_7 rfl rfl ?_
  refine wp_iadd d_GM_follow_8 ?_
  refine wp_iaload d_GM_follow_9 (gm_row hX 19 rfl).2.2.1 (gm_row hX 19 rfl).2.2.2 (gm_row hX 19 rfl).2.1 (g32_n T.1 (by decide)) T.1.1 T.1.2 (fun h1 => ?_)
  have T := T.2 h1
  refine wp_istore (L' := [.val (gR G o), .val (gI x1), .val (gI x2), .val (gI x3), .val (gI x4), .val (gI x5), .val (gI (M (o + 20) (Int.toNat (213200 + x1)))), .unset, .unset, .unset, .unset, .unset, .unset, .unset, .unset, .unset, .unset]) d_GM_follow_10 (by decide) rfl ?_
  refine wp_iconst d_GM_follow_12 ?_
  refine wp_istore (L' := [.val (gR G o), .val (gI x1), .val (gI x2), .val (gI x3), .val (gI x4), .val (gI x5), .val (gI (M (o + 20) (Int.toNat (213200 + x1)))), .val (gI 0), .unset, .unset, .unset, .unset, .unset, .unset, .unset, .unset, .unset]) d_GM_follow_13 (by decide) rfl ?_
  exact wp_md (wpt T (And.intro rfl (And.intro rfl (And.intro rfl (And.intro rfl (And.intro rfl (And.intro rfl (And.intro rfl (And.intro rfl True.intro)))))))))
set_option maxHeartbeats 4000000 in
theorem w_GM_follow_15 {l : Launch} {G : gG} {d : Nat} {X : gX} {M : gM} {k : gM → Prop} {o : Nat} (hX : gmX X o) {x1 : Int} (hx1 : g32 x1) {x2 : Int} (hx2 : g32 x2) {x3 : Int} (hx3 : g32 x3) {x4 : Int} (hx4 : g32 x4) {x5 : Int} (hx5 : g32 x5) {x6 : Int} (hx6 : g32 x6) {x7 : Int} (hx7 : g32 x7) (T : ((0 : Int) ≤ x6 ∧ x6 < 4200) ∧ (g32 (M (o + 9) (Int.toNat x6)) → ((M (o + 9) (Int.toNat x6) ≤ x7 → (k M)) ∧ (¬ M (o + 9) (Int.toNat x6) ≤ x7 → (cI l G y_GM_ref_2 (gRm d) false [gR G o, gI 41, gI x1, gI x7] X M (fun v4 M3 => (cI l G y_GM_corner (gRm d) false [gR G o, gI 41, gI x1, gI x7] X M3 (fun v7 M6 => ((v4 < 0 → (wp l G y_GM_follow (gRm (d + 1)) true (kkV X k) true 375 [.val (gR G o), .val (gI x1), .val (gI x2), .val (gI x3), .val (gI x4), .val (gI x5), .val (gI x6), .val (gI x7), .unset, .unset, .unset, .unset, .unset, .unset, .unset, .unset, .unset] [] X M6 0 0)) ∧ (¬ v4 < 0 → ((¬ v7 = 2 → ((¬ v7 = 0 → (cI l G y_GM_ref_2 (gRm d) false [gR G o, gI 41, gI x1, gI (x7 + 1)] X M6 (fun v10 M9 => (cI l G y_GM_low (gRm d) false [gR G o, gI v4, gI v10, gI x2] X M9 (fun v13 M12 => (cI l G y_GM_high (gRm d) false [gR G o, gI v4, gI v10, gI x2] X M12 (fun v16 M15 => (wp l G y_GM_follow (gRm (d + 1)) true (kkV X k) true 156 [.val (gR G o), .val (gI x1), .val (gI x2), .val (gI x3), .val (gI x4), .val (gI x5), .val (gI x6), .val (gI x7), .val (gI v4), .unset, .val (gI v10), .val (gI v13), .val (gI v16), .val (gI (-1)), .val (gI (-1)), .val (gI v13), .unset] [] X M15 0 0)))))))) ∧ (v7 = 0 → ((x2 = 0 → (cI l G y_GM_moved (gRm d) false [gI (v4.tdiv 26), gI x3, gI x4, gI x5] X M6 (fun v19 M18 => (cI l G y_GM_with (gRm d) false [gI v4, gI x2, gI v19] X M18 (fun v22 M21 => (cV l G y_GM_setRef (gRm d) true [gR G o, gI 41, gI x1, gI x7, gI v22] X M21 (fun M24 => (wp l G y_GM_follow (gRm (d + 1)) true (kkV X k) true 375 [.val (gR G o), .val (gI x1), .val (gI x2), .val (gI x3), .val (gI x4), .val (gI x5), .val (gI x6), .val (gI x7), .unset, .unset, .unset, .unset, .unset, .unset, .unset, .unset, .unset] [] X M24 0 0)))))))) ∧ (¬ x2 = 0 → (cI l G y_GM_moved (gRm d) false [gI (v4.tmod 26), gI x3, gI x4, gI x5] X M6 (fun v26 M25 => (cI l G y_GM_with (gRm d) false [gI v4, gI x2, gI v26] X M25 (fun v29 M28 => (cV l G y_GM_setRef (gRm d) true [gR G o, gI 41, gI x1, gI x7, gI v29] X M28 (fun M31 => (wp l G y_GM_follow (gRm (d + 1)) true (kkV X k) true 375 [.val (gR G o), .val (gI x1), .val (gI x2), .val (gI x3), .val (gI x4), .val (gI x5), .val (gI x6), .val (gI x7), .unset, .unset, .unset, .unset, .unset, .unset, .unset, .unset, .unset] [] X M31 0 0)))))))))))) ∧ (v7 = 2 → (wp l G y_GM_follow (gRm (d + 1)) true (kkV X k) true 375 [.val (gR G o), .val (gI x1), .val (gI x2), .val (gI x3), .val (gI x4), .val (gI x5), .val (gI x6), .val (gI x7), .unset, .unset, .unset, .unset, .unset, .unset, .unset, .unset, .unset] [] X M6 0 0))))))))))))) : wp l G y_GM_follow (gRm (d + 1)) true (kkV X k) true 15 [.val (gR G o), .val (gI x1), .val (gI x2), .val (gI x3), .val (gI x4), .val (gI x5), .val (gI x6), .val (gI x7), .unset, .unset, .unset, .unset, .unset, .unset, .unset, .unset, .unset] [] X M 0 0 := by
  refine wp_iload d_GM_follow_15 rfl ?_
  refine wp_aload_n d_GM_follow_17 rfl rfl (g_nz hX.1) ?_
  refine xgetR d_GM_follow_18 gc_GM f_GM_37.1 f_GM_37.2.1 f_GM_37.2.2.1 hX.1 (gm_o2 hX) hX.2.2.1 f_GM_37.2.2.2.2.1 (gm_row hX 8 rfl).1 ?_
  refine wp_iload d_GM_follow_21 rfl ?_
  refine wp_iaload d_GM_follow_23 (gm_row hX 8 rfl).2.2.1 (gm_row hX 8 rfl).2.2.2 (gm_row hX 8 rfl).2.1 (g32_n T.1 (by decide)) T.1.1 T.1.2 (fun h2 => ?_)
  have T := T.2 h2
  refine xi_ge (tgt := 381) d_GM_follow_24 (by decide) (w32_id hx7) (w32_id h2) (fun h36 => ?_) (fun h36 => ?_)
  · have T := T.1 h36
    exact wp_return d_GM_follow_381 rfl (fun _ => rfl) (Nat.zero_le _) (Nat.zero_le _) (kV_mk T)
  · have T := T.2 h36
    refine wp_aload_n d_GM_follow_27 rfl rfl (g_nz hX.1) ?_
    refine wp_bipush d_GM_follow_28 ⟨by decide, by decide⟩ ?_
    refine wp_iload_n d_GM_follow_30 rfl rfl ?_
    refine wp_iload d_GM_follow_31 rfl ?_
    refine xcV_I (md' := true) (As := [gI 41, gI x1, gI x7]) (st := []) d_GM_follow_33 ca_GM_ref_2 ml_GM_299 im_GM_ref_2 se_GM_ref_2 gc_GM hX.1 (gm_o2 hX) hX.2.2.1 rfl (by decide) (by decide) rfl (fun _ => rfl) (fun _ => rfl) T (fun v4 M3 h5 T => ?_)
    refine wp_istore (L' := [.val (gR G o), .val (gI x1), .val (gI x2), .val (gI x3), .val (gI x4), .val (gI x5), .val (gI x6), .val (gI x7), .val (gI v4), .unset, .unset, .unset, .unset, .unset, .unset, .unset, .unset]) d_GM_follow_36 (by decide) rfl ?_
    refine wp_aload_n d_GM_follow_38 rfl rfl (g_nz hX.1) ?_
    refine wp_bipush d_GM_follow_39 ⟨by decide, by decide⟩ ?_
    refine wp_iload_n d_GM_follow_41 rfl rfl ?_
    refine wp_iload d_GM_follow_42 rfl ?_
    refine xcV_I (md' := true) (As := [gI 41, gI x1, gI x7]) (st := []) d_GM_follow_44 ca_GM_corner ml_GM_295 im_GM_corner se_GM_corner gc_GM hX.1 (gm_o2 hX) hX.2.2.1 rfl (by decide) (by decide) rfl (fun _ => rfl) (fun _ => rfl) T (fun v7 M6 h8 T => ?_)
    refine wp_istore (L' := [.val (gR G o), .val (gI x1), .val (gI x2), .val (gI x3), .val (gI x4), .val (gI x5), .val (gI x6), .val (gI x7), .val (gI v4), .val (gI v7), .unset, .unset, .unset, .unset, .unset, .unset, .unset]) d_GM_follow_47 (by decide) rfl ?_
    refine wp_iload d_GM_follow_49 rfl ?_
    refine xz_lt (tgt := 375) d_GM_follow_51 (by decide) (w32_id h5) (fun h35 => ?_) (fun h35 => ?_)
    · have T := T.1 h35
      exact wp_md (wpt T (And.intro rfl (And.intro rfl (And.intro rfl (And.intro rfl (And.intro rfl (And.intro rfl (And.intro rfl (And.intro rfl True.intro)))))))))
    · have T := T.2 h35
      refine wp_iload d_GM_follow_54 rfl ?_
      refine wp_iconst d_GM_follow_56 ?_
      refine xi_ne (tgt := 63) d_GM_follow_57 (by decide) (w32_id h8) (w32_id (g32_c (x := 2) rfl)) (fun h34 => ?_) (fun h34 => ?_)
      · have T := T.1 h34
        refine wp_iload d_GM_follow_63 rfl ?_
        refine xz_ne (tgt := 111) d_GM_follow_65 (by decide) (w32_id h8) (fun h33 => ?_) (fun h33 => ?_)
        · have T := T.1 h33
          refine wp_aload_n d_GM_follow_111 rfl rfl (g_nz hX.1) ?_
          refine wp_bipush d_GM_follow_112 ⟨by decide, by decide⟩ ?_
          refine wp_iload_n d_GM_follow_114 rfl rfl ?_
          refine wp_iload d_GM_follow_115 rfl ?_
          refine wp_iconst d_GM_follow_117 ?_
          refine wp_iadd d_GM_follow_118 ?_
          refine xcV_I (md' := true) (As := [gI 41, gI x1, gI (x7 + 1)]) (st := []) d_GM_follow_119 ca_GM_ref_2 ml_GM_299 im_GM_ref_2 se_GM_ref_2 gc_GM hX.1 (gm_o2 hX) hX.2.2.1 rfl (by decide) (by decide) rfl (fun _ => rfl) (fun _ => rfl) T (fun v10 M9 h11 T => ?_)
          refine wp_istore (L' := [.val (gR G o), .val (gI x1), .val (gI x2), .val (gI x3), .val (gI x4), .val (gI x5), .val (gI x6), .val (gI x7), .val (gI v4), .val (gI v7), .val (gI v10), .unset, .unset, .unset, .unset, .unset, .unset]) d_GM_follow_122 (by decide) rfl ?_
          refine wp_aload_n d_GM_follow_124 rfl rfl (g_nz hX.1) ?_
          refine wp_iload d_GM_follow_125 rfl ?_
          refine wp_iload d_GM_follow_127 rfl ?_
          refine wp_iload_n d_GM_follow_129 rfl rfl ?_
          refine xcV_I (md' := true) (As := [gI v4, gI v10, gI x2]) (st := []) d_GM_follow_130 ca_GM_low ml_GM_292 im_GM_low se_GM_low gc_GM hX.1 (gm_o2 hX) hX.2.2.1 rfl (by decide) (by decide) rfl (fun _ => rfl) (fun _ => rfl) T (fun v13 M12 h14 T => ?_)
          refine wp_istore (L' := [.val (gR G o), .val (gI x1), .val (gI x2), .val (gI x3), .val (gI x4), .val (gI x5), .val (gI x6), .val (gI x7), .val (gI v4), .val (gI v7), .val (gI v10), .val (gI v13), .unset, .unset, .unset, .unset, .unset]) d_GM_follow_133 (by decide) rfl ?_
          refine wp_aload_n d_GM_follow_135 rfl rfl (g_nz hX.1) ?_
          refine wp_iload d_GM_follow_136 rfl ?_
          refine wp_iload d_GM_follow_138 rfl ?_
          refine wp_iload_n d_GM_follow_140 rfl rfl ?_
          refine xcV_I (md' := true) (As := [gI v4, gI v10, gI x2]) (st := []) d_GM_follow_141 ca_GM_high ml_GM_288 im_GM_high se_GM_high gc_GM hX.1 (gm_o2 hX) hX.2.2.1 rfl (by decide) (by decide) rfl (fun _ => rfl) (fun _ => rfl) T (fun v16 M15 h17 T => ?_)
          refine wp_istore (L' := [.val (gR G o), .val (gI x1), .val (gI x2), .val (gI x3), .val (gI x4), .val (gI x5), .val (gI x6), .val (gI x7), .val (gI v4), .val (gI v7), .val (gI v10), .val (gI v13), .val (gI v16), .unset, .unset, .unset, .unset]) d_GM_follow_144 (by decide) rfl ?_
          refine wp_iconst d_GM_follow_146 ?_
          refine wp_istore (L' := [.val (gR G o), .val (gI x1), .val (gI x2), .val (gI x3), .val (gI x4), .val (gI x5), .val (gI x6), .val (gI x7), .val (gI v4), .val (gI v7), .val (gI v10), .val (gI v13), .val (gI v16), .val (gI (-1)), .unset, .unset, .unset]) d_GM_follow_147 (by decide) rfl ?_
          refine wp_iconst d_GM_follow_149 ?_
          refine wp_istore (L' := [.val (gR G o), .val (gI x1), .val (gI x2), .val (gI x3), .val (gI x4), .val (gI x5), .val (gI x6), .val (gI x7), .val (gI v4), .val (gI v7), .val (gI v10), .val (gI v13), .val (gI v16), .val (gI (-1)), .val (gI (-1)), .unset, .unset]) d_GM_follow_150 (by decide) rfl ?_
          refine wp_iload d_GM_follow_152 rfl ?_
          refine wp_istore (L' := [.val (gR G o), .val (gI x1), .val (gI x2), .val (gI x3), .val (gI x4), .val (gI x5), .val (gI x6), .val (gI x7), .val (gI v4), .val (gI v7), .val (gI v10), .val (gI v13), .val (gI v16), .val (gI (-1)), .val (gI (-1)), .val (gI v13), .unset]) d_GM_follow_154 (by decide) rfl ?_
          exact wp_md (wpt T (And.intro rfl (And.intro rfl (And.intro rfl (And.intro rfl (And.intro rfl (And.intro rfl (And.intro rfl (And.intro rfl (And.intro rfl (And.intro rfl (And.intro rfl (And.intro rfl (And.intro rfl (And.intro rfl (And.intro rfl True.intro))))))))))))))))
        · have T := T.2 h33
          refine wp_aload_n d_GM_follow_68 rfl rfl (g_nz hX.1) ?_
          refine wp_bipush d_GM_follow_69 ⟨by decide, by decide⟩ ?_
          refine wp_iload_n d_GM_follow_71 rfl rfl ?_
          refine wp_iload d_GM_follow_72 rfl ?_
          refine wp_iload d_GM_follow_74 rfl ?_
          refine wp_iload_n d_GM_follow_76 rfl rfl ?_
          refine wp_iload_n d_GM_follow_77 rfl rfl ?_
          refine xz_eq (tgt := 89) d_GM_follow_78 (by decide) (w32_id hx2) (fun h32 => ?_) (fun h32 => ?_)
          · have T := T.1 h32
            refine wp_iload d_GM_follow_89 rfl ?_
            refine wp_bipush d_GM_follow_91 ⟨by decide, by decide⟩ ?_
            refine xidiv d_GM_follow_93 (w32_id h5) (w32_id (g32_c (x := 26) rfl)) (by decide) ?_
            refine wp_iload_n d_GM_follow_94 rfl rfl ?_
            refine wp_iload d_GM_follow_95 rfl ?_
            refine wp_iload d_GM_follow_97 rfl ?_
            refine xcS_I (md' := true) (As := [gI (v4.tdiv 26), gI x3, gI x4, gI x5]) (st := [gI x2, gI v4, gI x7, gI x1, gI 41, gR G o]) d_GM_follow_99 ca_GM_moved ml_GM_564 sm_GM_moved rfl (by decide) (by simp only [List.map, gR_cat, gI_cat, gL_cat, List.sum_cons, List.sum_nil]; decide) rfl (fun _ => rfl) (fun _ => rfl) T (fun v19 M18 h20 T => ?_)
            refine xcS_I (md' := true) (As := [gI v4, gI x2, gI v19]) (st := [gI x7, gI x1, gI 41, gR G o]) d_GM_follow_102 ca_GM_with ml_GM_572 sm_GM_with rfl (by decide) (by simp only [List.map, gR_cat, gI_cat, gL_cat, List.sum_cons, List.sum_nil]; decide) rfl (fun _ => rfl) (fun _ => rfl) T (fun v22 M21 h23 T => ?_)
            refine xcV_V (md' := true) (As := [gI 41, gI x1, gI x7, gI v22]) (st := []) d_GM_follow_105 ca_GM_setRef ml_GM_561 im_GM_setRef se_GM_setRef gc_GM hX.1 (gm_o2 hX) hX.2.2.1 rfl (by decide) (by decide) rfl (fun _ => rfl) (fun _ => rfl) T (fun M24 T => ?_)
            refine wp_goto (tgt := 375) d_GM_follow_108 (by decide) ?_
            exact wp_md (wpt T (And.intro rfl (And.intro rfl (And.intro rfl (And.intro rfl (And.intro rfl (And.intro rfl (And.intro rfl (And.intro rfl True.intro)))))))))
          · have T := T.2 h32
            refine wp_iload d_GM_follow_81 rfl ?_
            refine wp_bipush d_GM_follow_83 ⟨by decide, by decide⟩ ?_
            refine xirem d_GM_follow_85 (w32_id h5) (w32_id (g32_c (x := 26) rfl)) (by decide) ?_
            refine wp_goto (tgt := 94) d_GM_follow_86 (by decide) ?_
            refine wp_iload_n d_GM_follow_94 rfl rfl ?_
            refine wp_iload d_GM_follow_95 rfl ?_
            refine wp_iload d_GM_follow_97 rfl ?_
            refine xcS_I (md' := true) (As := [gI (v4.tmod 26), gI x3, gI x4, gI x5]) (st := [gI x2, gI v4, gI x7, gI x1, gI 41, gR G o]) d_GM_follow_99 ca_GM_moved ml_GM_564 sm_GM_moved rfl (by decide) (by simp only [List.map, gR_cat, gI_cat, gL_cat, List.sum_cons, List.sum_nil]; decide) rfl (fun _ => rfl) (fun _ => rfl) T (fun v26 M25 h27 T => ?_)
            refine xcS_I (md' := true) (As := [gI v4, gI x2, gI v26]) (st := [gI x7, gI x1, gI 41, gR G o]) d_GM_follow_102 ca_GM_with ml_GM_572 sm_GM_with rfl (by decide) (by simp only [List.map, gR_cat, gI_cat, gL_cat, List.sum_cons, List.sum_nil]; decide) rfl (fun _ => rfl) (fun _ => rfl) T (fun v29 M28 h30 T => ?_)
            refine xcV_V (md' := true) (As := [gI 41, gI x1, gI x7, gI v29]) (st := []) d_GM_follow_105 ca_GM_setRef ml_GM_561 im_GM_setRef se_GM_setRef gc_GM hX.1 (gm_o2 hX) hX.2.2.1 rfl (by decide) (by decide) rfl (fun _ => rfl) (fun _ => rfl) T (fun M31 T => ?_)
            refine wp_goto (tgt := 375) d_GM_follow_108 (by decide) ?_
            exact wp_md (wpt T (And.intro rfl (And.intro rfl (And.intro rfl (And.intro rfl (And.intro rfl (And.intro rfl (And.intro rfl (And.intro rfl True.intro)))))))))
      · have T := T.2 h34
        refine wp_goto (tgt := 375) d_GM_follow_60 (by decide) ?_
        exact wp_md (wpt T (And.intro rfl (And.intro rfl (And.intro rfl (And.intro rfl (And.intro rfl (And.intro rfl (And.intro rfl (And.intro rfl True.intro)))))))))
set_option maxHeartbeats 4000000 in
theorem w_GM_follow_375 {l : Launch} {G : gG} {d : Nat} {X : gX} {M : gM} {k : gM → Prop} {o : Nat} (hX : gmX X o) {x1 : Int} (hx1 : g32 x1) {x2 : Int} (hx2 : g32 x2) {x3 : Int} (hx3 : g32 x3) {x4 : Int} (hx4 : g32 x4) {x5 : Int} (hx5 : g32 x5) {x6 : Int} (hx6 : g32 x6) {x7 : Int} (hx7 : g32 x7) (T : wp l G y_GM_follow (gRm (d + 1)) true (kkV X k) true 15 [.val (gR G o), .val (gI x1), .val (gI x2), .val (gI x3), .val (gI x4), .val (gI x5), .val (gI x6), .val (gI (w32 (x7 + 1))), .unset, .unset, .unset, .unset, .unset, .unset, .unset, .unset, .unset] [] X M 0 0) : wp l G y_GM_follow (gRm (d + 1)) true (kkV X k) true 375 [.val (gR G o), .val (gI x1), .val (gI x2), .val (gI x3), .val (gI x4), .val (gI x5), .val (gI x6), .val (gI x7), .unset, .unset, .unset, .unset, .unset, .unset, .unset, .unset, .unset] [] X M 0 0 := by
  refine wp_iinc (L' := [.val (gR G o), .val (gI x1), .val (gI x2), .val (gI x3), .val (gI x4), .val (gI x5), .val (gI x6), .val (gI (x7 + 1)), .unset, .unset, .unset, .unset, .unset, .unset, .unset, .unset, .unset]) d_GM_follow_375 rfl (by decide) rfl ?_
  refine wp_goto (tgt := 15) d_GM_follow_378 (by decide) ?_
  exact wp_md (wpt T (And.intro rfl (And.intro rfl (And.intro rfl (And.intro rfl (And.intro rfl (And.intro rfl (And.intro rfl (And.intro (gI_w _) True.intro)))))))))
set_option maxHeartbeats 4000000 in
theorem w_GM_follow_156 {l : Launch} {G : gG} {d : Nat} {X : gX} {M : gM} {k : gM → Prop} {o : Nat} (hX : gmX X o) {x1 : Int} (hx1 : g32 x1) {x2 : Int} (hx2 : g32 x2) {x3 : Int} (hx3 : g32 x3) {x4 : Int} (hx4 : g32 x4) {x5 : Int} (hx5 : g32 x5) {x6 : Int} (hx6 : g32 x6) {x7 : Int} (hx7 : g32 x7) {x8 : Int} (hx8 : g32 x8) {x10 : Int} (hx10 : g32 x10) {x11 : Int} (hx11 : g32 x11) {x12 : Int} (hx12 : g32 x12) {x13 : Int} (hx13 : g32 x13) {x14 : Int} (hx14 : g32 x14) {x15 : Int} (hx15 : g32 x15) (T : (x12 < x15 → ((x4 ≤ 0 → (wp l G y_GM_follow (gRm (d + 1)) true (kkV X k) true 231 [.val (gR G o), .val (gI x1), .val (gI x2), .val (gI x3), .val (gI x4), .val (gI x5), .val (gI x6), .val (gI x7), .val (gI x8), .unset, .val (gI x10), .val (gI x11), .val (gI x12), .val (gI x13), .val (gI x14), .unset, .unset] [] X M 0 0)) ∧ (¬ x4 ≤ 0 → ((x13 < 0 → (wp l G y_GM_follow (gRm (d + 1)) true (kkV X k) true 231 [.val (gR G o), .val (gI x1), .val (gI x2), .val (gI x3), .val (gI x4), .val (gI x5), .val (gI x6), .val (gI x7), .val (gI x8), .unset, .val (gI x10), .val (gI x11), .val (gI x12), .val (gI x13), .val (gI x14), .unset, .unset] [] X M 0 0)) ∧ (¬ x13 < 0 → (cI l G y_GM_moved (gRm d) false [gI x12, gI x3, gI x4, gI x5] X M (fun v38 M37 => ((0 ≤ v38 → (wp l G y_GM_follow (gRm (d + 1)) true (kkV X k) true 231 [.val (gR G o), .val (gI x1), .val (gI x2), .val (gI x3), .val (gI x4), .val (gI x5), .val (gI x6), .val (gI x7), .val (gI x8), .unset, .val (gI x10), .val (gI x11), .val (gI x12), .val (gI x13), .val (gI x14), .unset, .unset] [] X M37 0 0)) ∧ (¬ 0 ≤ v38 → (wp l G y_GM_follow (gRm (d + 1)) true (kkV X k) true 231 [.val (gR G o), .val (gI x1), .val (gI x2), .val (gI x3), .val (gI x4), .val (gI x5), .val (gI x6), .val (gI x7), .val (gI x8), .unset, .val (gI x10), .val (gI x11), .val (gI x12), .val (gI x13), .val (gI (w32 (x5 - 1))), .unset, .unset] [] X M37 0 0)))))))))) ∧ (¬ x12 < x15 → (cI l G y_GM_moved (gRm d) false [gI x15, gI x3, gI x4, gI x5] X M (fun v44 M43 => ((0 ≤ v44 → ((0 ≤ x13 → (wp l G y_GM_follow (gRm (d + 1)) true (kkV X k) true 156 [.val (gR G o), .val (gI x1), .val (gI x2), .val (gI x3), .val (gI x4), .val (gI x5), .val (gI x6), .val (gI x7), .val (gI x8), .unset, .val (gI x10), .val (gI x11), .val (gI x12), .val (gI x13), .val (gI v44), .val (gI (w32 (x15 + 1))), .unset] [] X M43 0 0)) ∧ (¬ 0 ≤ x13 → (wp l G y_GM_follow (gRm (d + 1)) true (kkV X k) true 156 [.val (gR G o), .val (gI x1), .val (gI x2), .val (gI x3), .val (gI x4), .val (gI x5), .val (gI x6), .val (gI x7), .val (gI x8), .unset, .val (gI x10), .val (gI x11), .val (gI x12), .val (gI v44), .val (gI v44), .val (gI (w32 (x15 + 1))), .unset] [] X M43 0 0)))) ∧ (¬ 0 ≤ v44 → (wp l G y_GM_follow (gRm (d + 1)) true (kkV X k) true 156 [.val (gR G o), .val (gI x1), .val (gI x2), .val (gI x3), .val (gI x4), .val (gI x5), .val (gI x6), .val (gI x7), .val (gI x8), .unset, .val (gI x10), .val (gI x11), .val (gI x12), .val (gI x13), .val (gI x14), .val (gI (w32 (x15 + 1))), .unset] [] X M43 0 0))))))) : wp l G y_GM_follow (gRm (d + 1)) true (kkV X k) true 156 [.val (gR G o), .val (gI x1), .val (gI x2), .val (gI x3), .val (gI x4), .val (gI x5), .val (gI x6), .val (gI x7), .val (gI x8), .unset, .val (gI x10), .val (gI x11), .val (gI x12), .val (gI x13), .val (gI x14), .val (gI x15), .unset] [] X M 0 0 := by
  refine wp_iload d_GM_follow_156 rfl ?_
  refine wp_iload d_GM_follow_158 rfl ?_
  refine xi_gt (tgt := 202) d_GM_follow_160 (by decide) (w32_id hx15) (w32_id hx12) (fun h48 => ?_) (fun h48 => ?_)
  · have T := T.1 h48
    refine wp_iload d_GM_follow_202 rfl ?_
    refine xz_le (tgt := 231) d_GM_follow_204 (by decide) (w32_id hx4) (fun h42 => ?_) (fun h42 => ?_)
    · have T := T.1 h42
      exact wp_md (wpt T (And.intro rfl (And.intro rfl (And.intro rfl (And.intro rfl (And.intro rfl (And.intro rfl (And.intro rfl (And.intro rfl (And.intro rfl (And.intro rfl (And.intro rfl (And.intro rfl (And.intro rfl (And.intro rfl True.intro)))))))))))))))
    · have T := T.2 h42
      refine wp_iload d_GM_follow_207 rfl ?_
      refine xz_lt (tgt := 231) d_GM_follow_209 (by decide) (w32_id hx13) (fun h41 => ?_) (fun h41 => ?_)
      · have T := T.1 h41
        exact wp_md (wpt T (And.intro rfl (And.intro rfl (And.intro rfl (And.intro rfl (And.intro rfl (And.intro rfl (And.intro rfl (And.intro rfl (And.intro rfl (And.intro rfl (And.intro rfl (And.intro rfl (And.intro rfl (And.intro rfl True.intro)))))))))))))))
      · have T := T.2 h41
        refine wp_iload d_GM_follow_212 rfl ?_
        refine wp_iload_n d_GM_follow_214 rfl rfl ?_
        refine wp_iload d_GM_follow_215 rfl ?_
        refine wp_iload d_GM_follow_217 rfl ?_
        refine xcS_I (md' := true) (As := [gI x12, gI x3, gI x4, gI x5]) (st := []) d_GM_follow_219 ca_GM_moved ml_GM_564 sm_GM_moved rfl (by decide) (by decide) rfl (fun _ => rfl) (fun _ => rfl) T (fun v38 M37 h39 T => ?_)
        refine xz_ge (tgt := 231) d_GM_follow_222 (by decide) (w32_id h39) (fun h40 => ?_) (fun h40 => ?_)
        · have T := T.1 h40
          exact wp_md (wpt T (And.intro rfl (And.intro rfl (And.intro rfl (And.intro rfl (And.intro rfl (And.intro rfl (And.intro rfl (And.intro rfl (And.intro rfl (And.intro rfl (And.intro rfl (And.intro rfl (And.intro rfl (And.intro rfl True.intro)))))))))))))))
        · have T := T.2 h40
          refine wp_iload d_GM_follow_225 rfl ?_
          refine wp_iconst d_GM_follow_227 ?_
          refine wp_isub d_GM_follow_228 ?_
          refine wp_istore (L' := [.val (gR G o), .val (gI x1), .val (gI x2), .val (gI x3), .val (gI x4), .val (gI x5), .val (gI x6), .val (gI x7), .val (gI x8), .unset, .val (gI x10), .val (gI x11), .val (gI x12), .val (gI x13), .val (gI (x5 - 1)), .val (gI x15), .unset]) d_GM_follow_229 (by decide) rfl ?_
          exact wp_md (wpt T (And.intro rfl (And.intro rfl (And.intro rfl (And.intro rfl (And.intro rfl (And.intro rfl (And.intro rfl (And.intro rfl (And.intro rfl (And.intro rfl (And.intro rfl (And.intro rfl (And.intro rfl (And.intro (gI_w _) True.intro)))))))))))))))
  · have T := T.2 h48
    refine wp_iload d_GM_follow_163 rfl ?_
    refine wp_iload_n d_GM_follow_165 rfl rfl ?_
    refine wp_iload d_GM_follow_166 rfl ?_
    refine wp_iload d_GM_follow_168 rfl ?_
    refine xcS_I (md' := true) (As := [gI x15, gI x3, gI x4, gI x5]) (st := []) d_GM_follow_170 ca_GM_moved ml_GM_564 sm_GM_moved rfl (by decide) (by decide) rfl (fun _ => rfl) (fun _ => rfl) T (fun v44 M43 h45 T => ?_)
    refine wp_istore (L' := [.val (gR G o), .val (gI x1), .val (gI x2), .val (gI x3), .val (gI x4), .val (gI x5), .val (gI x6), .val (gI x7), .val (gI x8), .unset, .val (gI x10), .val (gI x11), .val (gI x12), .val (gI x13), .val (gI x14), .val (gI x15), .val (gI v44)]) d_GM_follow_173 (by decide) rfl ?_
    refine wp_iload d_GM_follow_175 rfl ?_
    refine xz_ge (tgt := 183) d_GM_follow_177 (by decide) (w32_id h45) (fun h47 => ?_) (fun h47 => ?_)
    · have T := T.1 h47
      refine wp_iload d_GM_follow_183 rfl ?_
      refine xz_ge (tgt := 192) d_GM_follow_185 (by decide) (w32_id hx13) (fun h46 => ?_) (fun h46 => ?_)
      · have T := T.1 h46
        refine wp_iload d_GM_follow_192 rfl ?_
        refine wp_istore (L' := [.val (gR G o), .val (gI x1), .val (gI x2), .val (gI x3), .val (gI x4), .val (gI x5), .val (gI x6), .val (gI x7), .val (gI x8), .unset, .val (gI x10), .val (gI x11), .val (gI x12), .val (gI x13), .val (gI v44), .val (gI x15), .val (gI v44)]) d_GM_follow_194 (by decide) rfl ?_
        refine wp_iinc (L' := [.val (gR G o), .val (gI x1), .val (gI x2), .val (gI x3), .val (gI x4), .val (gI x5), .val (gI x6), .val (gI x7), .val (gI x8), .unset, .val (gI x10), .val (gI x11), .val (gI x12), .val (gI x13), .val (gI v44), .val (gI (x15 + 1)), .val (gI v44)]) d_GM_follow_196 rfl (by decide) rfl ?_
        refine wp_goto (tgt := 156) d_GM_follow_199 (by decide) ?_
        exact wp_md (wpt T (And.intro rfl (And.intro rfl (And.intro rfl (And.intro rfl (And.intro rfl (And.intro rfl (And.intro rfl (And.intro rfl (And.intro rfl (And.intro rfl (And.intro rfl (And.intro rfl (And.intro rfl (And.intro rfl (And.intro (gI_w _) True.intro))))))))))))))))
      · have T := T.2 h46
        refine wp_iload d_GM_follow_188 rfl ?_
        refine wp_istore (L' := [.val (gR G o), .val (gI x1), .val (gI x2), .val (gI x3), .val (gI x4), .val (gI x5), .val (gI x6), .val (gI x7), .val (gI x8), .unset, .val (gI x10), .val (gI x11), .val (gI x12), .val (gI v44), .val (gI x14), .val (gI x15), .val (gI v44)]) d_GM_follow_190 (by decide) rfl ?_
        refine wp_iload d_GM_follow_192 rfl ?_
        refine wp_istore (L' := [.val (gR G o), .val (gI x1), .val (gI x2), .val (gI x3), .val (gI x4), .val (gI x5), .val (gI x6), .val (gI x7), .val (gI x8), .unset, .val (gI x10), .val (gI x11), .val (gI x12), .val (gI v44), .val (gI v44), .val (gI x15), .val (gI v44)]) d_GM_follow_194 (by decide) rfl ?_
        refine wp_iinc (L' := [.val (gR G o), .val (gI x1), .val (gI x2), .val (gI x3), .val (gI x4), .val (gI x5), .val (gI x6), .val (gI x7), .val (gI x8), .unset, .val (gI x10), .val (gI x11), .val (gI x12), .val (gI v44), .val (gI v44), .val (gI (x15 + 1)), .val (gI v44)]) d_GM_follow_196 rfl (by decide) rfl ?_
        refine wp_goto (tgt := 156) d_GM_follow_199 (by decide) ?_
        exact wp_md (wpt T (And.intro rfl (And.intro rfl (And.intro rfl (And.intro rfl (And.intro rfl (And.intro rfl (And.intro rfl (And.intro rfl (And.intro rfl (And.intro rfl (And.intro rfl (And.intro rfl (And.intro rfl (And.intro rfl (And.intro (gI_w _) True.intro))))))))))))))))
    · have T := T.2 h47
      refine wp_goto (tgt := 196) d_GM_follow_180 (by decide) ?_
      refine wp_iinc (L' := [.val (gR G o), .val (gI x1), .val (gI x2), .val (gI x3), .val (gI x4), .val (gI x5), .val (gI x6), .val (gI x7), .val (gI x8), .unset, .val (gI x10), .val (gI x11), .val (gI x12), .val (gI x13), .val (gI x14), .val (gI (x15 + 1)), .val (gI v44)]) d_GM_follow_196 rfl (by decide) rfl ?_
      refine wp_goto (tgt := 156) d_GM_follow_199 (by decide) ?_
      exact wp_md (wpt T (And.intro rfl (And.intro rfl (And.intro rfl (And.intro rfl (And.intro rfl (And.intro rfl (And.intro rfl (And.intro rfl (And.intro rfl (And.intro rfl (And.intro rfl (And.intro rfl (And.intro rfl (And.intro rfl (And.intro (gI_w _) True.intro))))))))))))))))
set_option maxHeartbeats 4000000 in
theorem w_GM_follow_231 {l : Launch} {G : gG} {d : Nat} {X : gX} {M : gM} {k : gM → Prop} {o : Nat} (hX : gmX X o) {x1 : Int} (hx1 : g32 x1) {x2 : Int} (hx2 : g32 x2) {x3 : Int} (hx3 : g32 x3) {x4 : Int} (hx4 : g32 x4) {x5 : Int} (hx5 : g32 x5) {x6 : Int} (hx6 : g32 x6) {x7 : Int} (hx7 : g32 x7) {x8 : Int} (hx8 : g32 x8) {x10 : Int} (hx10 : g32 x10) {x11 : Int} (hx11 : g32 x11) {x12 : Int} (hx12 : g32 x12) {x13 : Int} (hx13 : g32 x13) {x14 : Int} (hx14 : g32 x14) (T : (x2 = 0 → (wp l G y_GM_follow (gRm (d + 1)) true (kkV X k) true 248 [.val (gR G o), .val (gI x1), .val (gI x2), .val (gI x3), .val (gI x4), .val (gI x5), .val (gI x6), .val (gI x7), .val (gI x8), .unset, .val (gI x10), .val (gI x11), .val (gI x12), .val (gI x13), .val (gI x14), .unset, .unset] [gI (w32 (x8.tdiv 26))] X M 0 0)) ∧ (¬ x2 = 0 → (wp l G y_GM_follow (gRm (d + 1)) true (kkV X k) true 248 [.val (gR G o), .val (gI x1), .val (gI x2), .val (gI x3), .val (gI x4), .val (gI x5), .val (gI x6), .val (gI x7), .val (gI x8), .unset, .val (gI x10), .val (gI x11), .val (gI x12), .val (gI x13), .val (gI x14), .unset, .unset] [gI (w32 (x8.tmod 26))] X M 0 0))) : wp l G y_GM_follow (gRm (d + 1)) true (kkV X k) true 231 [.val (gR G o), .val (gI x1), .val (gI x2), .val (gI x3), .val (gI x4), .val (gI x5), .val (gI x6), .val (gI x7), .val (gI x8), .unset, .val (gI x10), .val (gI x11), .val (gI x12), .val (gI x13), .val (gI x14), .unset, .unset] [] X M 0 0 := by
  refine wp_iload_n d_GM_follow_231 rfl rfl ?_
  refine xz_eq (tgt := 243) d_GM_follow_232 (by decide) (w32_id hx2) (fun h49 => ?_) (fun h49 => ?_)
  · have T := T.1 h49
    refine wp_iload d_GM_follow_243 rfl ?_
    refine wp_bipush d_GM_follow_245 ⟨by decide, by decide⟩ ?_
    refine xidiv d_GM_follow_247 (w32_id hx8) (w32_id (g32_c (x := 26) rfl)) (by decide) ?_
    exact wp_md (wp_st (st' := [gI (w32 (x8.tdiv 26))]) (by simp only [gI_w, gL_w]) (wpt T (And.intro rfl (And.intro rfl (And.intro rfl (And.intro rfl (And.intro rfl (And.intro rfl (And.intro rfl (And.intro rfl (And.intro rfl (And.intro rfl (And.intro rfl (And.intro rfl (And.intro rfl (And.intro rfl True.intro))))))))))))))))
  · have T := T.2 h49
    refine wp_iload d_GM_follow_235 rfl ?_
    refine wp_bipush d_GM_follow_237 ⟨by decide, by decide⟩ ?_
    refine xirem d_GM_follow_239 (w32_id hx8) (w32_id (g32_c (x := 26) rfl)) (by decide) ?_
    refine wp_goto (tgt := 248) d_GM_follow_240 (by decide) ?_
    exact wp_md (wp_st (st' := [gI (w32 (x8.tmod 26))]) (by simp only [gI_w, gL_w]) (wpt T (And.intro rfl (And.intro rfl (And.intro rfl (And.intro rfl (And.intro rfl (And.intro rfl (And.intro rfl (And.intro rfl (And.intro rfl (And.intro rfl (And.intro rfl (And.intro rfl (And.intro rfl (And.intro rfl True.intro))))))))))))))))
set_option maxHeartbeats 4000000 in
theorem w_GM_follow_248 {l : Launch} {G : gG} {d : Nat} {X : gX} {M : gM} {k : gM → Prop} {o : Nat} (hX : gmX X o) {x1 : Int} (hx1 : g32 x1) {x2 : Int} (hx2 : g32 x2) {x3 : Int} (hx3 : g32 x3) {x4 : Int} (hx4 : g32 x4) {x5 : Int} (hx5 : g32 x5) {x6 : Int} (hx6 : g32 x6) {x7 : Int} (hx7 : g32 x7) {x8 : Int} (hx8 : g32 x8) {x10 : Int} (hx10 : g32 x10) {x11 : Int} (hx11 : g32 x11) {x12 : Int} (hx12 : g32 x12) {x13 : Int} (hx13 : g32 x13) {x14 : Int} (hx14 : g32 x14) {s0 : Int} (hs0 : g32 s0) (T : (¬ s0 = x11 → (wp l G y_GM_follow (gRm (d + 1)) true (kkV X k) true 258 [.val (gR G o), .val (gI x1), .val (gI x2), .val (gI x3), .val (gI x4), .val (gI x5), .val (gI x6), .val (gI x7), .val (gI x8), .unset, .val (gI x10), .val (gI x11), .val (gI x12), .val (gI x13), .val (gI x14), .unset, .unset] [gI 0] X M 0 0)) ∧ (s0 = x11 → (wp l G y_GM_follow (gRm (d + 1)) true (kkV X k) true 258 [.val (gR G o), .val (gI x1), .val (gI x2), .val (gI x3), .val (gI x4), .val (gI x5), .val (gI x6), .val (gI x7), .val (gI x8), .unset, .val (gI x10), .val (gI x11), .val (gI x12), .val (gI x13), .val (gI x14), .unset, .unset] [gI 1] X M 0 0))) : wp l G y_GM_follow (gRm (d + 1)) true (kkV X k) true 248 [.val (gR G o), .val (gI x1), .val (gI x2), .val (gI x3), .val (gI x4), .val (gI x5), .val (gI x6), .val (gI x7), .val (gI x8), .unset, .val (gI x10), .val (gI x11), .val (gI x12), .val (gI x13), .val (gI x14), .unset, .unset] [gI s0] X M 0 0 := by
  refine wp_iload d_GM_follow_248 rfl ?_
  refine xi_ne (tgt := 257) d_GM_follow_250 (by decide) (w32_id hs0) (w32_id hx11) (fun h50 => ?_) (fun h50 => ?_)
  · have T := T.1 h50
    refine wp_iconst d_GM_follow_257 ?_
    exact wp_md (wpt T (And.intro rfl (And.intro rfl (And.intro rfl (And.intro rfl (And.intro rfl (And.intro rfl (And.intro rfl (And.intro rfl (And.intro rfl (And.intro rfl (And.intro rfl (And.intro rfl (And.intro rfl (And.intro rfl True.intro)))))))))))))))
  · have T := T.2 h50
    refine wp_iconst d_GM_follow_253 ?_
    refine wp_goto (tgt := 258) d_GM_follow_254 (by decide) ?_
    exact wp_md (wpt T (And.intro rfl (And.intro rfl (And.intro rfl (And.intro rfl (And.intro rfl (And.intro rfl (And.intro rfl (And.intro rfl (And.intro rfl (And.intro rfl (And.intro rfl (And.intro rfl (And.intro rfl (And.intro rfl True.intro)))))))))))))))
set_option maxHeartbeats 4000000 in
theorem w_GM_follow_258 {l : Launch} {G : gG} {d : Nat} {X : gX} {M : gM} {k : gM → Prop} {o : Nat} (hX : gmX X o) {x1 : Int} (hx1 : g32 x1) {x2 : Int} (hx2 : g32 x2) {x3 : Int} (hx3 : g32 x3) {x4 : Int} (hx4 : g32 x4) {x5 : Int} (hx5 : g32 x5) {x6 : Int} (hx6 : g32 x6) {x7 : Int} (hx7 : g32 x7) {x8 : Int} (hx8 : g32 x8) {x10 : Int} (hx10 : g32 x10) {x11 : Int} (hx11 : g32 x11) {x12 : Int} (hx12 : g32 x12) {x13 : Int} (hx13 : g32 x13) {x14 : Int} (hx14 : g32 x14) {s0 : Int} (hs0 : g32 s0) (T : (x2 = 0 → (wp l G y_GM_follow (gRm (d + 1)) true (kkV X k) true 277 [.val (gR G o), .val (gI x1), .val (gI x2), .val (gI x3), .val (gI x4), .val (gI x5), .val (gI x6), .val (gI x7), .val (gI x8), .unset, .val (gI x10), .val (gI x11), .val (gI x12), .val (gI x13), .val (gI x14), .val (gI s0), .unset] [gI (w32 (x10.tdiv 26))] X M 0 0)) ∧ (¬ x2 = 0 → (wp l G y_GM_follow (gRm (d + 1)) true (kkV X k) true 277 [.val (gR G o), .val (gI x1), .val (gI x2), .val (gI x3), .val (gI x4), .val (gI x5), .val (gI x6), .val (gI x7), .val (gI x8), .unset, .val (gI x10), .val (gI x11), .val (gI x12), .val (gI x13), .val (gI x14), .val (gI s0), .unset] [gI (w32 (x10.tmod 26))] X M 0 0))) : wp l G y_GM_follow (gRm (d + 1)) true (kkV X k) true 258 [.val (gR G o), .val (gI x1), .val (gI x2), .val (gI x3), .val (gI x4), .val (gI x5), .val (gI x6), .val (gI x7), .val (gI x8), .unset, .val (gI x10), .val (gI x11), .val (gI x12), .val (gI x13), .val (gI x14), .unset, .unset] [gI s0] X M 0 0 := by
  refine wp_istore (L' := [.val (gR G o), .val (gI x1), .val (gI x2), .val (gI x3), .val (gI x4), .val (gI x5), .val (gI x6), .val (gI x7), .val (gI x8), .unset, .val (gI x10), .val (gI x11), .val (gI x12), .val (gI x13), .val (gI x14), .val (gI s0), .unset]) d_GM_follow_258 (by decide) rfl ?_
  refine wp_iload_n d_GM_follow_260 rfl rfl ?_
  refine xz_eq (tgt := 272) d_GM_follow_261 (by decide) (w32_id hx2) (fun h51 => ?_) (fun h51 => ?_)
  · have T := T.1 h51
    refine wp_iload d_GM_follow_272 rfl ?_
    refine wp_bipush d_GM_follow_274 ⟨by decide, by decide⟩ ?_
    refine xidiv d_GM_follow_276 (w32_id hx10) (w32_id (g32_c (x := 26) rfl)) (by decide) ?_
    exact wp_md (wp_st (st' := [gI (w32 (x10.tdiv 26))]) (by simp only [gI_w, gL_w]) (wpt T (And.intro rfl (And.intro rfl (And.intro rfl (And.intro rfl (And.intro rfl (And.intro rfl (And.intro rfl (And.intro rfl (And.intro rfl (And.intro rfl (And.intro rfl (And.intro rfl (And.intro rfl (And.intro rfl (And.intro rfl True.intro)))))))))))))))))
  · have T := T.2 h51
    refine wp_iload d_GM_follow_264 rfl ?_
    refine wp_bipush d_GM_follow_266 ⟨by decide, by decide⟩ ?_
    refine xirem d_GM_follow_268 (w32_id hx10) (w32_id (g32_c (x := 26) rfl)) (by decide) ?_
    refine wp_goto (tgt := 277) d_GM_follow_269 (by decide) ?_
    exact wp_md (wp_st (st' := [gI (w32 (x10.tmod 26))]) (by simp only [gI_w, gL_w]) (wpt T (And.intro rfl (And.intro rfl (And.intro rfl (And.intro rfl (And.intro rfl (And.intro rfl (And.intro rfl (And.intro rfl (And.intro rfl (And.intro rfl (And.intro rfl (And.intro rfl (And.intro rfl (And.intro rfl (And.intro rfl True.intro)))))))))))))))))
set_option maxHeartbeats 4000000 in
theorem w_GM_follow_277 {l : Launch} {G : gG} {d : Nat} {X : gX} {M : gM} {k : gM → Prop} {o : Nat} (hX : gmX X o) {x1 : Int} (hx1 : g32 x1) {x2 : Int} (hx2 : g32 x2) {x3 : Int} (hx3 : g32 x3) {x4 : Int} (hx4 : g32 x4) {x5 : Int} (hx5 : g32 x5) {x6 : Int} (hx6 : g32 x6) {x7 : Int} (hx7 : g32 x7) {x8 : Int} (hx8 : g32 x8) {x10 : Int} (hx10 : g32 x10) {x11 : Int} (hx11 : g32 x11) {x12 : Int} (hx12 : g32 x12) {x13 : Int} (hx13 : g32 x13) {x14 : Int} (hx14 : g32 x14) {x15 : Int} (hx15 : g32 x15) {s0 : Int} (hs0 : g32 s0) (T : (¬ s0 = x11 → (wp l G y_GM_follow (gRm (d + 1)) true (kkV X k) true 287 [.val (gR G o), .val (gI x1), .val (gI x2), .val (gI x3), .val (gI x4), .val (gI x5), .val (gI x6), .val (gI x7), .val (gI x8), .unset, .val (gI x10), .val (gI x11), .val (gI x12), .val (gI x13), .val (gI x14), .val (gI x15), .unset] [gI 0] X M 0 0)) ∧ (s0 = x11 → (wp l G y_GM_follow (gRm (d + 1)) true (kkV X k) true 287 [.val (gR G o), .val (gI x1), .val (gI x2), .val (gI x3), .val (gI x4), .val (gI x5), .val (gI x6), .val (gI x7), .val (gI x8), .unset, .val (gI x10), .val (gI x11), .val (gI x12), .val (gI x13), .val (gI x14), .val (gI x15), .unset] [gI 1] X M 0 0))) : wp l G y_GM_follow (gRm (d + 1)) true (kkV X k) true 277 [.val (gR G o), .val (gI x1), .val (gI x2), .val (gI x3), .val (gI x4), .val (gI x5), .val (gI x6), .val (gI x7), .val (gI x8), .unset, .val (gI x10), .val (gI x11), .val (gI x12), .val (gI x13), .val (gI x14), .val (gI x15), .unset] [gI s0] X M 0 0 := by
  refine wp_iload d_GM_follow_277 rfl ?_
  refine xi_ne (tgt := 286) d_GM_follow_279 (by decide) (w32_id hs0) (w32_id hx11) (fun h52 => ?_) (fun h52 => ?_)
  · have T := T.1 h52
    refine wp_iconst d_GM_follow_286 ?_
    exact wp_md (wpt T (And.intro rfl (And.intro rfl (And.intro rfl (And.intro rfl (And.intro rfl (And.intro rfl (And.intro rfl (And.intro rfl (And.intro rfl (And.intro rfl (And.intro rfl (And.intro rfl (And.intro rfl (And.intro rfl (And.intro rfl True.intro))))))))))))))))
  · have T := T.2 h52
    refine wp_iconst d_GM_follow_282 ?_
    refine wp_goto (tgt := 287) d_GM_follow_283 (by decide) ?_
    exact wp_md (wpt T (And.intro rfl (And.intro rfl (And.intro rfl (And.intro rfl (And.intro rfl (And.intro rfl (And.intro rfl (And.intro rfl (And.intro rfl (And.intro rfl (And.intro rfl (And.intro rfl (And.intro rfl (And.intro rfl (And.intro rfl True.intro))))))))))))))))
set_option maxHeartbeats 4000000 in
theorem w_GM_follow_287 {l : Launch} {G : gG} {d : Nat} {X : gX} {M : gM} {k : gM → Prop} {o : Nat} (hX : gmX X o) {x1 : Int} (hx1 : g32 x1) {x2 : Int} (hx2 : g32 x2) {x3 : Int} (hx3 : g32 x3) {x4 : Int} (hx4 : g32 x4) {x5 : Int} (hx5 : g32 x5) {x6 : Int} (hx6 : g32 x6) {x7 : Int} (hx7 : g32 x7) {x8 : Int} (hx8 : g32 x8) {x10 : Int} (hx10 : g32 x10) {x11 : Int} (hx11 : g32 x11) {x12 : Int} (hx12 : g32 x12) {x13 : Int} (hx13 : g32 x13) {x14 : Int} (hx14 : g32 x14) {x15 : Int} (hx15 : g32 x15) {s0 : Int} (hs0 : g32 s0) (T : (0 ≤ x13 → ((x15 = 0 → (cI l G y_GM_with (gRm d) false [gI x8, gI x2, gI x14] X M (fun v54 M53 => (wp l G y_GM_follow (gRm (d + 1)) true (kkV X k) true 322 [.val (gR G o), .val (gI x1), .val (gI x2), .val (gI x3), .val (gI x4), .val (gI x5), .val (gI x6), .val (gI x7), .unset, .unset, .val (gI x10), .val (gI x11), .val (gI x12), .val (gI x13), .val (gI x14), .val (gI x15), .val (gI s0)] [gI v54, gI x7, gI x1, gI 41, gR G o] X M53 0 0)))) ∧ (¬ x15 = 0 → (cI l G y_GM_with (gRm d) false [gI x8, gI x2, gI x13] X M (fun v57 M56 => (wp l G y_GM_follow (gRm (d + 1)) true (kkV X k) true 322 [.val (gR G o), .val (gI x1), .val (gI x2), .val (gI x3), .val (gI x4), .val (gI x5), .val (gI x6), .val (gI x7), .unset, .unset, .val (gI x10), .val (gI x11), .val (gI x12), .val (gI x13), .val (gI x14), .val (gI x15), .val (gI s0)] [gI v57, gI x7, gI x1, gI 41, gR G o] X M56 0 0)))))) ∧ (¬ 0 ≤ x13 → (wp l G y_GM_follow (gRm (d + 1)) true (kkV X k) true 322 [.val (gR G o), .val (gI x1), .val (gI x2), .val (gI x3), .val (gI x4), .val (gI x5), .val (gI x6), .val (gI x7), .unset, .unset, .val (gI x10), .val (gI x11), .val (gI x12), .val (gI x13), .val (gI x14), .val (gI x15), .val (gI s0)] [gI (-1), gI x7, gI x1, gI 41, gR G o] X M 0 0))) : wp l G y_GM_follow (gRm (d + 1)) true (kkV X k) true 287 [.val (gR G o), .val (gI x1), .val (gI x2), .val (gI x3), .val (gI x4), .val (gI x5), .val (gI x6), .val (gI x7), .val (gI x8), .unset, .val (gI x10), .val (gI x11), .val (gI x12), .val (gI x13), .val (gI x14), .val (gI x15), .unset] [gI s0] X M 0 0 := by
  refine wp_istore (L' := [.val (gR G o), .val (gI x1), .val (gI x2), .val (gI x3), .val (gI x4), .val (gI x5), .val (gI x6), .val (gI x7), .val (gI x8), .unset, .val (gI x10), .val (gI x11), .val (gI x12), .val (gI x13), .val (gI x14), .val (gI x15), .val (gI s0)]) d_GM_follow_287 (by decide) rfl ?_
  refine wp_aload_n d_GM_follow_289 rfl rfl (g_nz hX.1) ?_
  refine wp_bipush d_GM_follow_290 ⟨by decide, by decide⟩ ?_
  refine wp_iload_n d_GM_follow_292 rfl rfl ?_
  refine wp_iload d_GM_follow_293 rfl ?_
  refine wp_iload d_GM_follow_295 rfl ?_
  refine xz_ge (tgt := 304) d_GM_follow_297 (by decide) (w32_id hx13) (fun h60 => ?_) (fun h60 => ?_)
  · have T := T.1 h60
    refine wp_iload d_GM_follow_304 rfl ?_
    refine wp_iload_n d_GM_follow_306 rfl rfl ?_
    refine wp_iload d_GM_follow_307 rfl ?_
    refine xz_eq (tgt := 317) d_GM_follow_309 (by decide) (w32_id hx15) (fun h59 => ?_) (fun h59 => ?_)
    · have T := T.1 h59
      refine wp_iload d_GM_follow_317 rfl ?_
      refine xcS_I (md' := true) (As := [gI x8, gI x2, gI x14]) (st := [gI x7, gI x1, gI 41, gR G o]) d_GM_follow_319 ca_GM_with ml_GM_572 sm_GM_with rfl (by decide) (by simp only [List.map, gR_cat, gI_cat, gL_cat, List.sum_cons, List.sum_nil]; decide) rfl (fun _ => rfl) (fun _ => rfl) T (fun v54 M53 h55 T => ?_)
      exact wp_md (wpt T (And.intro rfl (And.intro rfl (And.intro rfl (And.intro rfl (And.intro rfl (And.intro rfl (And.intro rfl (And.intro rfl (And.intro rfl (And.intro rfl (And.intro rfl (And.intro rfl (And.intro rfl (And.intro rfl (And.intro rfl True.intro))))))))))))))))
    · have T := T.2 h59
      refine wp_iload d_GM_follow_312 rfl ?_
      refine wp_goto (tgt := 319) d_GM_follow_314 (by decide) ?_
      refine xcS_I (md' := true) (As := [gI x8, gI x2, gI x13]) (st := [gI x7, gI x1, gI 41, gR G o]) d_GM_follow_319 ca_GM_with ml_GM_572 sm_GM_with rfl (by decide) (by simp only [List.map, gR_cat, gI_cat, gL_cat, List.sum_cons, List.sum_nil]; decide) rfl (fun _ => rfl) (fun _ => rfl) T (fun v57 M56 h58 T => ?_)
      exact wp_md (wpt T (And.intro rfl (And.intro rfl (And.intro rfl (And.intro rfl (And.intro rfl (And.intro rfl (And.intro rfl (And.intro rfl (And.intro rfl (And.intro rfl (And.intro rfl (And.intro rfl (And.intro rfl (And.intro rfl (And.intro rfl True.intro))))))))))))))))
  · have T := T.2 h60
    refine wp_iconst d_GM_follow_300 ?_
    refine wp_goto (tgt := 322) d_GM_follow_301 (by decide) ?_
    exact wp_md (wpt T (And.intro rfl (And.intro rfl (And.intro rfl (And.intro rfl (And.intro rfl (And.intro rfl (And.intro rfl (And.intro rfl (And.intro rfl (And.intro rfl (And.intro rfl (And.intro rfl (And.intro rfl (And.intro rfl (And.intro rfl True.intro))))))))))))))))
set_option maxHeartbeats 4000000 in
theorem w_GM_follow_322 {l : Launch} {G : gG} {d : Nat} {X : gX} {M : gM} {k : gM → Prop} {o : Nat} (hX : gmX X o) {x1 : Int} (hx1 : g32 x1) {x2 : Int} (hx2 : g32 x2) {x3 : Int} (hx3 : g32 x3) {x4 : Int} (hx4 : g32 x4) {x5 : Int} (hx5 : g32 x5) {x6 : Int} (hx6 : g32 x6) {x7 : Int} (hx7 : g32 x7) {x10 : Int} (hx10 : g32 x10) {x11 : Int} (hx11 : g32 x11) {x12 : Int} (hx12 : g32 x12) {x13 : Int} (hx13 : g32 x13) {x14 : Int} (hx14 : g32 x14) {x15 : Int} (hx15 : g32 x15) {x16 : Int} (hx16 : g32 x16) {s0 : Int} (hs0 : g32 s0) {s1 : Int} (hs1 : g32 s1) {s2 : Int} (hs2 : g32 s2) {s3 : Int} (hs3 : g32 s3) (T : cV l G y_GM_setRef (gRm d) true [gR G o, gI s3, gI s2, gI s1, gI s0] X M (fun M61 => ((0 ≤ x13 → ((x16 = 0 → (cI l G y_GM_with (gRm d) false [gI x10, gI x2, gI x14] X M61 (fun v63 M62 => (cV l G y_GM_setRef (gRm d) true [gR G o, gI 41, gI x1, gI (x7 + 1), gI v63] X M62 (fun M65 => (wp l G y_GM_follow (gRm (d + 1)) true (kkV X k) true 375 [.val (gR G o), .val (gI x1), .val (gI x2), .val (gI x3), .val (gI x4), .val (gI x5), .val (gI x6), .val (gI x7), .unset, .unset, .unset, .unset, .unset, .unset, .unset, .unset, .unset] [] X M65 0 0)))))) ∧ (¬ x16 = 0 → ((x15 = 0 → (cI l G y_GM_with (gRm d) false [gI x10, gI x2, gI x13] X M61 (fun v67 M66 => (cV l G y_GM_setRef (gRm d) true [gR G o, gI 41, gI x1, gI (x7 + 1), gI v67] X M66 (fun M69 => (wp l G y_GM_follow (gRm (d + 1)) true (kkV X k) true 375 [.val (gR G o), .val (gI x1), .val (gI x2), .val (gI x3), .val (gI x4), .val (gI x5), .val (gI x6), .val (gI x7), .unset, .unset, .unset, .unset, .unset, .unset, .unset, .unset, .unset] [] X M69 0 0)))))) ∧ (¬ x15 = 0 → ((¬ x11 = x12 → (cI l G y_GM_with (gRm d) false [gI x10, gI x2, gI x14] X M61 (fun v71 M70 => (cV l G y_GM_setRef (gRm d) true [gR G o, gI 41, gI x1, gI (x7 + 1), gI v71] X M70 (fun M73 => (wp l G y_GM_follow (gRm (d + 1)) true (kkV X k) true 375 [.val (gR G o), .val (gI x1), .val (gI x2), .val (gI x3), .val (gI x4), .val (gI x5), .val (gI x6), .val (gI x7), .unset, .unset, .unset, .unset, .unset, .unset, .unset, .unset, .unset] [] X M73 0 0)))))) ∧ (x11 = x12 → (cI l G y_GM_with (gRm d) false [gI x10, gI x2, gI x13] X M61 (fun v75 M74 => (cV l G y_GM_setRef (gRm d) true [gR G o, gI 41, gI x1, gI (x7 + 1), gI v75] X M74 (fun M77 => (wp l G y_GM_follow (gRm (d + 1)) true (kkV X k) true 375 [.val (gR G o), .val (gI x1), .val (gI x2), .val (gI x3), .val (gI x4), .val (gI x5), .val (gI x6), .val (gI x7), .unset, .unset, .unset, .unset, .unset, .unset, .unset, .unset, .unset] [] X M77 0 0)))))))))))) ∧ (¬ 0 ≤ x13 → (cV l G y_GM_setRef (gRm d) true [gR G o, gI 41, gI x1, gI (x7 + 1), gI (-1)] X M61 (fun M81 => (wp l G y_GM_follow (gRm (d + 1)) true (kkV X k) true 375 [.val (gR G o), .val (gI x1), .val (gI x2), .val (gI x3), .val (gI x4), .val (gI x5), .val (gI x6), .val (gI x7), .unset, .unset, .unset, .unset, .unset, .unset, .unset, .unset, .unset] [] X M81 0 0))))))) : wp l G y_GM_follow (gRm (d + 1)) true (kkV X k) true 322 [.val (gR G o), .val (gI x1), .val (gI x2), .val (gI x3), .val (gI x4), .val (gI x5), .val (gI x6), .val (gI x7), .unset, .unset, .val (gI x10), .val (gI x11), .val (gI x12), .val (gI x13), .val (gI x14), .val (gI x15), .val (gI x16)] [gI s0, gI s1, gI s2, gI s3, gR G o] X M 0 0 := by
  refine xcV_V (md' := true) (As := [gI s3, gI s2, gI s1, gI s0]) (st := []) d_GM_follow_322 ca_GM_setRef ml_GM_561 im_GM_setRef se_GM_setRef gc_GM hX.1 (gm_o2 hX) hX.2.2.1 rfl (by decide) (by decide) rfl (fun _ => rfl) (fun _ => rfl) T (fun M61 T => ?_)
  refine wp_aload_n d_GM_follow_325 rfl rfl (g_nz hX.1) ?_
  refine wp_bipush d_GM_follow_326 ⟨by decide, by decide⟩ ?_
  refine wp_iload_n d_GM_follow_328 rfl rfl ?_
  refine wp_iload d_GM_follow_329 rfl ?_
  refine wp_iconst d_GM_follow_331 ?_
  refine wp_iadd d_GM_follow_332 ?_
  refine wp_iload d_GM_follow_333 rfl ?_
  refine xz_ge (tgt := 342) d_GM_follow_335 (by decide) (w32_id hx13) (fun h82 => ?_) (fun h82 => ?_)
  · have T := T.1 h82
    refine wp_iload d_GM_follow_342 rfl ?_
    refine wp_iload_n d_GM_follow_344 rfl rfl ?_
    refine wp_iload d_GM_follow_345 rfl ?_
    refine xz_eq (tgt := 367) d_GM_follow_347 (by decide) (w32_id hx16) (fun h80 => ?_) (fun h80 => ?_)
    · have T := T.1 h80
      refine wp_iload d_GM_follow_367 rfl ?_
      refine xcS_I (md' := true) (As := [gI x10, gI x2, gI x14]) (st := [gI (x7 + 1), gI x1, gI 41, gR G o]) d_GM_follow_369 ca_GM_with ml_GM_572 sm_GM_with rfl (by decide) (by simp only [List.map, gR_cat, gI_cat, gL_cat, List.sum_cons, List.sum_nil]; decide) rfl (fun _ => rfl) (fun _ => rfl) T (fun v63 M62 h64 T => ?_)
      refine xcV_V (md' := true) (As := [gI 41, gI x1, gI (x7 + 1), gI v63]) (st := []) d_GM_follow_372 ca_GM_setRef ml_GM_561 im_GM_setRef se_GM_setRef gc_GM hX.1 (gm_o2 hX) hX.2.2.1 rfl (by decide) (by decide) rfl (fun _ => rfl) (fun _ => rfl) T (fun M65 T => ?_)
      exact wp_md (wpt T (And.intro rfl (And.intro rfl (And.intro rfl (And.intro rfl (And.intro rfl (And.intro rfl (And.intro rfl (And.intro rfl True.intro)))))))))
    · have T := T.2 h80
      refine wp_iload d_GM_follow_350 rfl ?_
      refine xz_eq (tgt := 362) d_GM_follow_352 (by decide) (w32_id hx15) (fun h79 => ?_) (fun h79 => ?_)
      · have T := T.1 h79
        refine wp_iload d_GM_follow_362 rfl ?_
        refine wp_goto (tgt := 369) d_GM_follow_364 (by decide) ?_
        refine xcS_I (md' := true) (As := [gI x10, gI x2, gI x13]) (st := [gI (x7 + 1), gI x1, gI 41, gR G o]) d_GM_follow_369 ca_GM_with ml_GM_572 sm_GM_with rfl (by decide) (by simp only [List.map, gR_cat, gI_cat, gL_cat, List.sum_cons, List.sum_nil]; decide) rfl (fun _ => rfl) (fun _ => rfl) T (fun v67 M66 h68 T => ?_)
        refine xcV_V (md' := true) (As := [gI 41, gI x1, gI (x7 + 1), gI v67]) (st := []) d_GM_follow_372 ca_GM_setRef ml_GM_561 im_GM_setRef se_GM_setRef gc_GM hX.1 (gm_o2 hX) hX.2.2.1 rfl (by decide) (by decide) rfl (fun _ => rfl) (fun _ => rfl) T (fun M69 T => ?_)
        exact wp_md (wpt T (And.intro rfl (And.intro rfl (And.intro rfl (And.intro rfl (And.intro rfl (And.intro rfl (And.intro rfl (And.intro rfl True.intro)))))))))
      · have T := T.2 h79
        refine wp_iload d_GM_follow_355 rfl ?_
        refine wp_iload d_GM_follow_357 rfl ?_
        refine xi_ne (tgt := 367) d_GM_follow_359 (by decide) (w32_id hx11) (w32_id hx12) (fun h78 => ?_) (fun h78 => ?_)
        · have T := T.1 h78
          refine wp_iload d_GM_follow_367 rfl ?_
          refine xcS_I (md' := true) (As := [gI x10, gI x2, gI x14]) (st := [gI (x7 + 1), gI x1, gI 41, gR G o]) d_GM_follow_369 ca_GM_with ml_GM_572 sm_GM_with rfl (by decide) (by simp only [List.map, gR_cat, gI_cat, gL_cat, List.sum_cons, List.sum_nil]; decide) rfl (fun _ => rfl) (fun _ => rfl) T (fun v71 M70 h72 T => ?_)
          refine xcV_V (md' := true) (As := [gI 41, gI x1, gI (x7 + 1), gI v71]) (st := []) d_GM_follow_372 ca_GM_setRef ml_GM_561 im_GM_setRef se_GM_setRef gc_GM hX.1 (gm_o2 hX) hX.2.2.1 rfl (by decide) (by decide) rfl (fun _ => rfl) (fun _ => rfl) T (fun M73 T => ?_)
          exact wp_md (wpt T (And.intro rfl (And.intro rfl (And.intro rfl (And.intro rfl (And.intro rfl (And.intro rfl (And.intro rfl (And.intro rfl True.intro)))))))))
        · have T := T.2 h78
          refine wp_iload d_GM_follow_362 rfl ?_
          refine wp_goto (tgt := 369) d_GM_follow_364 (by decide) ?_
          refine xcS_I (md' := true) (As := [gI x10, gI x2, gI x13]) (st := [gI (x7 + 1), gI x1, gI 41, gR G o]) d_GM_follow_369 ca_GM_with ml_GM_572 sm_GM_with rfl (by decide) (by simp only [List.map, gR_cat, gI_cat, gL_cat, List.sum_cons, List.sum_nil]; decide) rfl (fun _ => rfl) (fun _ => rfl) T (fun v75 M74 h76 T => ?_)
          refine xcV_V (md' := true) (As := [gI 41, gI x1, gI (x7 + 1), gI v75]) (st := []) d_GM_follow_372 ca_GM_setRef ml_GM_561 im_GM_setRef se_GM_setRef gc_GM hX.1 (gm_o2 hX) hX.2.2.1 rfl (by decide) (by decide) rfl (fun _ => rfl) (fun _ => rfl) T (fun M77 T => ?_)
          exact wp_md (wpt T (And.intro rfl (And.intro rfl (And.intro rfl (And.intro rfl (And.intro rfl (And.intro rfl (And.intro rfl (And.intro rfl True.intro)))))))))
  · have T := T.2 h82
    refine wp_iconst d_GM_follow_338 ?_
    refine wp_goto (tgt := 372) d_GM_follow_339 (by decide) ?_
    refine xcV_V (md' := true) (As := [gI 41, gI x1, gI (x7 + 1), gI (-1)]) (st := []) d_GM_follow_372 ca_GM_setRef ml_GM_561 im_GM_setRef se_GM_setRef gc_GM hX.1 (gm_o2 hX) hX.2.2.1 rfl (by decide) (by decide) rfl (fun _ => rfl) (fun _ => rfl) T (fun M81 T => ?_)
    exact wp_md (wpt T (And.intro rfl (And.intro rfl (And.intro rfl (And.intro rfl (And.intro rfl (And.intro rfl (And.intro rfl (And.intro rfl True.intro)))))))))
theorem e_GM_follow {l : Launch} {G : gG} {d : Nat} {X : gX} {M : gM} {k : gM → Prop} {o : Nat} {x1 : Int} {x2 : Int} {x3 : Int} {x4 : Int} {x5 : Int} (T : wp l G y_GM_follow (gRm (d + 1)) true (kkV X k) false 0 [.val (gR G o), .val (gI x1), .val (gI x2), .val (gI x3), .val (gI x4), .val (gI x5), .unset, .unset, .unset, .unset, .unset, .unset, .unset, .unset, .unset, .unset, .unset] [] X M 0 0) : cV l G y_GM_follow (gRm (d + 1)) true [gR G o, gI x1, gI x2, gI x3, gI x4, gI x5] X M k := cen_V (plainFor_of_name rfl) (by simp only [lg_sl_R, lg_sl_I, lg_sl_L, lg_sl_N, List.length_cons, List.length_nil]; decide) (by unfold gEn; simp only [lg_sl_R, lg_sl_I, lg_sl_L, lg_sl_N]; exact wpt T (And.intro rfl (And.intro rfl (And.intro rfl (And.intro rfl (And.intro rfl (And.intro rfl True.intro)))))))
theorem d_GM_with_0 : decode prog_15_method_89_code 0 = .ok (.iload_n 2, 1) := by decide +kernel
theorem d_GM_with_1 : decode prog_15_method_89_code 1 = .ok (.ifCond .ge 7, 3) := by decide +kernel
theorem d_GM_with_8 : decode prog_15_method_89_code 8 = .ok (.iload_n 1, 1) := by decide +kernel
theorem d_GM_with_9 : decode prog_15_method_89_code 9 = .ok (.ifCond .eq 15, 3) := by decide +kernel
theorem d_GM_with_24 : decode prog_15_method_89_code 24 = .ok (.iload_n 0, 1) := by decide +kernel
theorem d_GM_with_25 : decode prog_15_method_89_code 25 = .ok (.bipush 26, 2) := by decide +kernel
theorem d_GM_with_27 : decode prog_15_method_89_code 27 = .ok (.irem, 1) := by decide +kernel
theorem d_GM_with_28 : decode prog_15_method_89_code 28 = .ok (.bipush 26, 2) := by decide +kernel
theorem d_GM_with_30 : decode prog_15_method_89_code 30 = .ok (.iload_n 2, 1) := by decide +kernel
theorem d_GM_with_31 : decode prog_15_method_89_code 31 = .ok (.imul, 1) := by decide +kernel
theorem d_GM_with_32 : decode prog_15_method_89_code 32 = .ok (.iadd, 1) := by decide +kernel
theorem d_GM_with_33 : decode prog_15_method_89_code 33 = .ok (.ireturn, 1) := by decide +kernel
theorem d_GM_with_12 : decode prog_15_method_89_code 12 = .ok (.iload_n 2, 1) := by decide +kernel
theorem d_GM_with_13 : decode prog_15_method_89_code 13 = .ok (.bipush 26, 2) := by decide +kernel
theorem d_GM_with_15 : decode prog_15_method_89_code 15 = .ok (.iload_n 0, 1) := by decide +kernel
theorem d_GM_with_16 : decode prog_15_method_89_code 16 = .ok (.bipush 26, 2) := by decide +kernel
theorem d_GM_with_18 : decode prog_15_method_89_code 18 = .ok (.idiv, 1) := by decide +kernel
theorem d_GM_with_19 : decode prog_15_method_89_code 19 = .ok (.imul, 1) := by decide +kernel
theorem d_GM_with_20 : decode prog_15_method_89_code 20 = .ok (.iadd, 1) := by decide +kernel
theorem d_GM_with_21 : decode prog_15_method_89_code 21 = .ok (.goto 12, 3) := by decide +kernel
theorem d_GM_with_4 : decode prog_15_method_89_code 4 = .ok (.iconst (-1), 1) := by decide +kernel
theorem d_GM_with_5 : decode prog_15_method_89_code 5 = .ok (.goto 28, 3) := by decide +kernel
set_option maxHeartbeats 4000000 in
theorem w_GM_with_0 {l : Launch} {G : gG} {d : Nat} {X : gX} {M : gM} {k : Int → gM → Prop}  {x0 : Int} (hx0 : g32 x0) {x1 : Int} (hx1 : 0 ≤ x1 ∧ x1 ≤ 1) {x2 : Int} (hx2 : g32 x2) (T : (0 ≤ x2 → ((x1 = 0 → (k (w32 ((x0.tmod 26) + (26 * x2))) M)) ∧ (¬ x1 = 0 → (k (w32 (x2 + (26 * (x0.tdiv 26)))) M)))) ∧ (¬ 0 ≤ x2 → (k (-1) M))) : wp l G y_GM_with (gRm d) false (kkI X k) false 0 [.val (gI x0), .val (gI x1), .val (gI x2)] [] X M 0 0 := by
  refine wp_iload_n d_GM_with_0 rfl rfl ?_
  refine xz_ge (tgt := 8) d_GM_with_1 (by decide) (w32_id hx2) (fun h2 => ?_) (fun h2 => ?_)
  · have T := T.1 h2
    refine wp_iload_n d_GM_with_8 rfl rfl ?_
    refine xz_eq (tgt := 24) d_GM_with_9 (by decide) (w32_id (g32_z hx1)) (fun h1 => ?_) (fun h1 => ?_)
    · have T := T.1 h1
      refine wp_iload_n d_GM_with_24 rfl rfl ?_
      refine wp_bipush d_GM_with_25 ⟨by decide, by decide⟩ ?_
      refine xirem d_GM_with_27 (w32_id hx0) (w32_id (g32_c (x := 26) rfl)) (by decide) ?_
      refine wp_bipush d_GM_with_28 ⟨by decide, by decide⟩ ?_
      refine wp_iload_n d_GM_with_30 rfl rfl ?_
      refine wp_imul d_GM_with_31 ?_
      refine wp_iadd d_GM_with_32 ?_
      exact wp_st (st' := [gI (w32 ((x0.tmod 26) + (26 * x2)))]) (by rw [gI_w]) (wp_ireturn d_GM_with_33 rfl id (Nat.zero_le _) (Nat.zero_le _) (kI_mk (w32_ok _) T))
    · have T := T.2 h1
      refine wp_iload_n d_GM_with_12 rfl rfl ?_
      refine wp_bipush d_GM_with_13 ⟨by decide, by decide⟩ ?_
      refine wp_iload_n d_GM_with_15 rfl rfl ?_
      refine wp_bipush d_GM_with_16 ⟨by decide, by decide⟩ ?_
      refine xidiv d_GM_with_18 (w32_id hx0) (w32_id (g32_c (x := 26) rfl)) (by decide) ?_
      refine wp_imul d_GM_with_19 ?_
      refine wp_iadd d_GM_with_20 ?_
      refine wp_goto (tgt := 33) d_GM_with_21 (by decide) ?_
      exact wp_st (st' := [gI (w32 (x2 + (26 * (x0.tdiv 26))))]) (by rw [gI_w]) (wp_ireturn d_GM_with_33 rfl id (Nat.zero_le _) (Nat.zero_le _) (kI_mk (w32_ok _) T))
  · have T := T.2 h2
    refine wp_iconst d_GM_with_4 ?_
    refine wp_goto (tgt := 33) d_GM_with_5 (by decide) ?_
    exact wp_ireturn d_GM_with_33 rfl id (Nat.zero_le _) (Nat.zero_le _) (kI_mk (g32_c (x := (-1)) rfl) T)
theorem e_GM_with {l : Launch} {G : gG} {d : Nat} {X : gX} {M : gM} {k : Int → gM → Prop}  {x0 : Int} {x1 : Int} {x2 : Int} (T : wp l G y_GM_with (gRm d) false (kkI X k) false 0 [.val (gI x0), .val (gI x1), .val (gI x2)] [] X M 0 0) : cI l G y_GM_with (gRm d) false [gI x0, gI x1, gI x2] X M k := cen_I (plainFor_of_name rfl) (by simp only [lg_sl_R, lg_sl_I, lg_sl_L, lg_sl_N, List.length_cons, List.length_nil]; decide) (by unfold gEn; simp only [lg_sl_R, lg_sl_I, lg_sl_L, lg_sl_N]; exact wpt T (And.intro rfl (And.intro rfl (And.intro rfl True.intro))))
