/-! Walks of the reference's methods, written by wip/whole/gen_model.py -/
theorem d_GM_put_0 : decode prog_15_method_83_code 0 = .ok (.aload_n 0, 1) := by decide +kernel
theorem d_GM_put_1 : decode prog_15_method_83_code 1 = .ok (.getfield 541, 3) := by decide +kernel
theorem d_GM_put_4 : decode prog_15_method_83_code 4 = .ok (.istore_n 3, 1) := by decide +kernel
theorem d_GM_put_5 : decode prog_15_method_83_code 5 = .ok (.aload_n 0, 1) := by decide +kernel
theorem d_GM_put_6 : decode prog_15_method_83_code 6 = .ok (.iconst 0, 1) := by decide +kernel
theorem d_GM_put_7 : decode prog_15_method_83_code 7 = .ok (.putfield 541, 3) := by decide +kernel
theorem d_GM_put_10 : decode prog_15_method_83_code 10 = .ok (.iload_n 1, 1) := by decide +kernel
theorem d_GM_put_11 : decode prog_15_method_83_code 11 = .ok (.iload_n 2, 1) := by decide +kernel
theorem d_GM_put_12 : decode prog_15_method_83_code 12 = .ok (.invokestatic 544, 3) := by decide +kernel
theorem d_GM_put_15 : decode prog_15_method_83_code 15 = .ok (.ifCond .ne 9, 3) := by decide +kernel
theorem d_GM_put_24 : decode prog_15_method_83_code 24 = .ok (.iconst 0, 1) := by decide +kernel
theorem d_GM_put_25 : decode prog_15_method_83_code 25 = .ok (.istore 4, 2) := by decide +kernel
theorem d_GM_put_18 : decode prog_15_method_83_code 18 = .ok (.aload_n 0, 1) := by decide +kernel
theorem d_GM_put_19 : decode prog_15_method_83_code 19 = .ok (.iconst 1, 1) := by decide +kernel
theorem d_GM_put_20 : decode prog_15_method_83_code 20 = .ok (.invokevirtual 526, 3) := by decide +kernel
theorem d_GM_put_23 : decode prog_15_method_83_code 23 = .ok (.ireturn, 1) := by decide +kernel
theorem d_GM_put_27 : decode prog_15_method_83_code 27 = .ok (.iload 4, 2) := by decide +kernel
theorem d_GM_put_29 : decode prog_15_method_83_code 29 = .ok (.iload_n 3, 1) := by decide +kernel
theorem d_GM_put_30 : decode prog_15_method_83_code 30 = .ok (.if_icmp .ge 39, 3) := by decide +kernel
theorem d_GM_put_69 : decode prog_15_method_83_code 69 = .ok (.iload_n 3, 1) := by decide +kernel
theorem d_GM_put_70 : decode prog_15_method_83_code 70 = .ok (.ifCond .le 20, 3) := by decide +kernel
theorem d_GM_put_73 : decode prog_15_method_83_code 73 = .ok (.aload_n 0, 1) := by decide +kernel
theorem d_GM_put_74 : decode prog_15_method_83_code 74 = .ok (.aload_n 0, 1) := by decide +kernel
theorem d_GM_put_75 : decode prog_15_method_83_code 75 = .ok (.getfield 154, 3) := by decide +kernel
theorem d_GM_put_78 : decode prog_15_method_83_code 78 = .ok (.iconst 0, 1) := by decide +kernel
theorem d_GM_put_79 : decode prog_15_method_83_code 79 = .ok (.iload_n 3, 1) := by decide +kernel
theorem d_GM_put_80 : decode prog_15_method_83_code 80 = .ok (.invokevirtual 185, 3) := by decide +kernel
theorem d_GM_put_83 : decode prog_15_method_83_code 83 = .ok (.ifCond .eq 7, 3) := by decide +kernel
theorem d_GM_put_86 : decode prog_15_method_83_code 86 = .ok (.iconst 1, 1) := by decide +kernel
theorem d_GM_put_87 : decode prog_15_method_83_code 87 = .ok (.goto 4, 3) := by decide +kernel
theorem d_GM_put_91 : decode prog_15_method_83_code 91 = .ok (.istore 4, 2) := by decide +kernel
theorem d_GM_put_93 : decode prog_15_method_83_code 93 = .ok (.iload_n 3, 1) := by decide +kernel
theorem d_GM_put_94 : decode prog_15_method_83_code 94 = .ok (.ifCond .le 18, 3) := by decide +kernel
theorem d_GM_put_97 : decode prog_15_method_83_code 97 = .ok (.aload_n 0, 1) := by decide +kernel
theorem d_GM_put_98 : decode prog_15_method_83_code 98 = .ok (.getfield 154, 3) := by decide +kernel
theorem d_GM_put_101 : decode prog_15_method_83_code 101 = .ok (.iconst 0, 1) := by decide +kernel
theorem d_GM_put_102 : decode prog_15_method_83_code 102 = .ok (.baload, 1) := by decide +kernel
theorem d_GM_put_103 : decode prog_15_method_83_code 103 = .ok (.bipush 61, 2) := by decide +kernel
theorem d_GM_put_105 : decode prog_15_method_83_code 105 = .ok (.if_icmp .ne 7, 3) := by decide +kernel
theorem d_GM_put_108 : decode prog_15_method_83_code 108 = .ok (.iconst 1, 1) := by decide +kernel
theorem d_GM_put_109 : decode prog_15_method_83_code 109 = .ok (.goto 4, 3) := by decide +kernel
theorem d_GM_put_113 : decode prog_15_method_83_code 113 = .ok (.istore 5, 2) := by decide +kernel
theorem d_GM_put_115 : decode prog_15_method_83_code 115 = .ok (.iload 5, 2) := by decide +kernel
theorem d_GM_put_117 : decode prog_15_method_83_code 117 = .ok (.ifCond .eq 13, 3) := by decide +kernel
theorem d_GM_put_130 : decode prog_15_method_83_code 130 = .ok (.iload 4, 2) := by decide +kernel
theorem d_GM_put_132 : decode prog_15_method_83_code 132 = .ok (.ifCond .ne 15, 3) := by decide +kernel
theorem d_GM_put_135 : decode prog_15_method_83_code 135 = .ok (.iload_n 3, 1) := by decide +kernel
theorem d_GM_put_136 : decode prog_15_method_83_code 136 = .ok (.bipush 64, 2) := by decide +kernel
theorem d_GM_put_138 : decode prog_15_method_83_code 138 = .ok (.if_icmp .le 9, 3) := by decide +kernel
theorem d_GM_put_141 : decode prog_15_method_83_code 141 = .ok (.aload_n 0, 1) := by decide +kernel
theorem d_GM_put_142 : decode prog_15_method_83_code 142 = .ok (.iconst 1, 1) := by decide +kernel
theorem d_GM_put_143 : decode prog_15_method_83_code 143 = .ok (.invokevirtual 526, 3) := by decide +kernel
theorem d_GM_put_146 : decode prog_15_method_83_code 146 = .ok (.ireturn, 1) := by decide +kernel
theorem d_GM_put_120 : decode prog_15_method_83_code 120 = .ok (.iload_n 3, 1) := by decide +kernel
theorem d_GM_put_121 : decode prog_15_method_83_code 121 = .ok (.sipush 201, 3) := by decide +kernel
theorem d_GM_put_124 : decode prog_15_method_83_code 124 = .ok (.if_icmp .le 23, 3) := by decide +kernel
theorem d_GM_put_127 : decode prog_15_method_83_code 127 = .ok (.goto 14, 3) := by decide +kernel
theorem d_GM_put_33 : decode prog_15_method_83_code 33 = .ok (.aload_n 0, 1) := by decide +kernel
theorem d_GM_put_34 : decode prog_15_method_83_code 34 = .ok (.getfield 154, 3) := by decide +kernel
theorem d_GM_put_37 : decode prog_15_method_83_code 37 = .ok (.iload 4, 2) := by decide +kernel
theorem d_GM_put_39 : decode prog_15_method_83_code 39 = .ok (.baload, 1) := by decide +kernel
theorem d_GM_put_40 : decode prog_15_method_83_code 40 = .ok (.bipush 32, 2) := by decide +kernel
theorem d_GM_put_42 : decode prog_15_method_83_code 42 = .ok (.if_icmp .lt 15, 3) := by decide +kernel
theorem d_GM_put_57 : decode prog_15_method_83_code 57 = .ok (.aload_n 0, 1) := by decide +kernel
theorem d_GM_put_58 : decode prog_15_method_83_code 58 = .ok (.iconst 1, 1) := by decide +kernel
theorem d_GM_put_59 : decode prog_15_method_83_code 59 = .ok (.invokevirtual 526, 3) := by decide +kernel
theorem d_GM_put_62 : decode prog_15_method_83_code 62 = .ok (.ireturn, 1) := by decide +kernel
theorem d_GM_put_45 : decode prog_15_method_83_code 45 = .ok (.aload_n 0, 1) := by decide +kernel
theorem d_GM_put_46 : decode prog_15_method_83_code 46 = .ok (.getfield 154, 3) := by decide +kernel
theorem d_GM_put_49 : decode prog_15_method_83_code 49 = .ok (.iload 4, 2) := by decide +kernel
theorem d_GM_put_51 : decode prog_15_method_83_code 51 = .ok (.baload, 1) := by decide +kernel
theorem d_GM_put_52 : decode prog_15_method_83_code 52 = .ok (.bipush 126, 2) := by decide +kernel
theorem d_GM_put_54 : decode prog_15_method_83_code 54 = .ok (.if_icmp .le 9, 3) := by decide +kernel
theorem d_GM_put_63 : decode prog_15_method_83_code 63 = .ok (.iinc 4 1, 3) := by decide +kernel
theorem d_GM_put_66 : decode prog_15_method_83_code 66 = .ok (.goto (-39), 3) := by decide +kernel
theorem d_GM_put_90 : decode prog_15_method_83_code 90 = .ok (.iconst 0, 1) := by decide +kernel
theorem d_GM_put_112 : decode prog_15_method_83_code 112 = .ok (.iconst 0, 1) := by decide +kernel
theorem d_GM_put_147 : decode prog_15_method_83_code 147 = .ok (.iload_n 1, 1) := by decide +kernel
theorem d_GM_put_148 : decode prog_15_method_83_code 148 = .ok (.bipush 26, 2) := by decide +kernel
theorem d_GM_put_150 : decode prog_15_method_83_code 150 = .ok (.iload_n 2, 1) := by decide +kernel
theorem d_GM_put_151 : decode prog_15_method_83_code 151 = .ok (.imul, 1) := by decide +kernel
theorem d_GM_put_152 : decode prog_15_method_83_code 152 = .ok (.iadd, 1) := by decide +kernel
theorem d_GM_put_153 : decode prog_15_method_83_code 153 = .ok (.istore 6, 2) := by decide +kernel
theorem d_GM_put_155 : decode prog_15_method_83_code 155 = .ok (.ldc_w 547, 3) := by decide +kernel
theorem d_GM_put_158 : decode prog_15_method_83_code 158 = .ok (.iload 6, 2) := by decide +kernel
theorem d_GM_put_160 : decode prog_15_method_83_code 160 = .ok (.iadd, 1) := by decide +kernel
theorem d_GM_put_161 : decode prog_15_method_83_code 161 = .ok (.istore 7, 2) := by decide +kernel
theorem d_GM_put_163 : decode prog_15_method_83_code 163 = .ok (.aload_n 0, 1) := by decide +kernel
theorem d_GM_put_164 : decode prog_15_method_83_code 164 = .ok (.getfield 548, 3) := by decide +kernel
theorem d_GM_put_167 : decode prog_15_method_83_code 167 = .ok (.istore 8, 2) := by decide +kernel
theorem d_GM_put_169 : decode prog_15_method_83_code 169 = .ok (.aload_n 0, 1) := by decide +kernel
theorem d_GM_put_170 : decode prog_15_method_83_code 170 = .ok (.aload_n 0, 1) := by decide +kernel
theorem d_GM_put_171 : decode prog_15_method_83_code 171 = .ok (.getfield 502, 3) := by decide +kernel
theorem d_GM_put_174 : decode prog_15_method_83_code 174 = .ok (.invokestatic 505, 3) := by decide +kernel
theorem d_GM_put_177 : decode prog_15_method_83_code 177 = .ok (.bipush 41, 2) := by decide +kernel
theorem d_GM_put_179 : decode prog_15_method_83_code 179 = .ok (.invokevirtual 535, 3) := by decide +kernel
theorem d_GM_put_182 : decode prog_15_method_83_code 182 = .ok (.aload_n 0, 1) := by decide +kernel
theorem d_GM_put_183 : decode prog_15_method_83_code 183 = .ok (.getfield 69, 3) := by decide +kernel
theorem d_GM_put_186 : decode prog_15_method_83_code 186 = .ok (.iload 7, 2) := by decide +kernel
theorem d_GM_put_188 : decode prog_15_method_83_code 188 = .ok (.iload_n 3, 1) := by decide +kernel
theorem d_GM_put_189 : decode prog_15_method_83_code 189 = .ok (.ifCond .ne 7, 3) := by decide +kernel
theorem d_GM_put_196 : decode prog_15_method_83_code 196 = .ok (.iload 4, 2) := by decide +kernel
theorem d_GM_put_198 : decode prog_15_method_83_code 198 = .ok (.ifCond .eq 7, 3) := by decide +kernel
theorem d_GM_put_205 : decode prog_15_method_83_code 205 = .ok (.iload 5, 2) := by decide +kernel
theorem d_GM_put_207 : decode prog_15_method_83_code 207 = .ok (.ifCond .eq 7, 3) := by decide +kernel
theorem d_GM_put_214 : decode prog_15_method_83_code 214 = .ok (.iconst 2, 1) := by decide +kernel
theorem d_GM_put_210 : decode prog_15_method_83_code 210 = .ok (.iconst 3, 1) := by decide +kernel
theorem d_GM_put_211 : decode prog_15_method_83_code 211 = .ok (.goto 4, 3) := by decide +kernel
theorem d_GM_put_201 : decode prog_15_method_83_code 201 = .ok (.iconst 1, 1) := by decide +kernel
theorem d_GM_put_202 : decode prog_15_method_83_code 202 = .ok (.goto 13, 3) := by decide +kernel
theorem d_GM_put_192 : decode prog_15_method_83_code 192 = .ok (.iconst 0, 1) := by decide +kernel
theorem d_GM_put_193 : decode prog_15_method_83_code 193 = .ok (.goto 22, 3) := by decide +kernel
theorem d_GM_put_215 : decode prog_15_method_83_code 215 = .ok (.iastore, 1) := by decide +kernel
theorem d_GM_put_216 : decode prog_15_method_83_code 216 = .ok (.aload_n 0, 1) := by decide +kernel
theorem d_GM_put_217 : decode prog_15_method_83_code 217 = .ok (.getfield 81, 3) := by decide +kernel
theorem d_GM_put_220 : decode prog_15_method_83_code 220 = .ok (.iload 7, 2) := by decide +kernel
theorem d_GM_put_222 : decode prog_15_method_83_code 222 = .ok (.iload 4, 2) := by decide +kernel
theorem d_GM_put_224 : decode prog_15_method_83_code 224 = .ok (.ifCond .eq 10, 3) := by decide +kernel
theorem d_GM_put_234 : decode prog_15_method_83_code 234 = .ok (.lconst 0, 1) := by decide +kernel
theorem d_GM_put_235 : decode prog_15_method_83_code 235 = .ok (.lastore, 1) := by decide +kernel
theorem d_GM_put_236 : decode prog_15_method_83_code 236 = .ok (.iconst 0, 1) := by decide +kernel
theorem d_GM_put_237 : decode prog_15_method_83_code 237 = .ok (.istore 9, 2) := by decide +kernel
theorem d_GM_put_239 : decode prog_15_method_83_code 239 = .ok (.iload_n 3, 1) := by decide +kernel
theorem d_GM_put_240 : decode prog_15_method_83_code 240 = .ok (.ifCond .le 99, 3) := by decide +kernel
theorem d_GM_put_243 : decode prog_15_method_83_code 243 = .ok (.iload 4, 2) := by decide +kernel
theorem d_GM_put_245 : decode prog_15_method_83_code 245 = .ok (.ifCond .ne 94, 3) := by decide +kernel
theorem d_GM_put_248 : decode prog_15_method_83_code 248 = .ok (.iconst 0, 1) := by decide +kernel
theorem d_GM_put_249 : decode prog_15_method_83_code 249 = .ok (.istore 10, 2) := by decide +kernel
theorem d_GM_put_227 : decode prog_15_method_83_code 227 = .ok (.aload_n 0, 1) := by decide +kernel
theorem d_GM_put_228 : decode prog_15_method_83_code 228 = .ok (.getfield 174, 3) := by decide +kernel
theorem d_GM_put_231 : decode prog_15_method_83_code 231 = .ok (.goto 4, 3) := by decide +kernel
theorem d_GM_put_339 : decode prog_15_method_83_code 339 = .ok (.iload 5, 2) := by decide +kernel
theorem d_GM_put_341 : decode prog_15_method_83_code 341 = .ok (.ifCond .eq 89, 3) := by decide +kernel
theorem d_GM_put_430 : decode prog_15_method_83_code 430 = .ok (.aload_n 0, 1) := by decide +kernel
theorem d_GM_put_431 : decode prog_15_method_83_code 431 = .ok (.invokevirtual 555, 3) := by decide +kernel
theorem d_GM_put_434 : decode prog_15_method_83_code 434 = .ok (.ireturn, 1) := by decide +kernel
theorem d_GM_put_344 : decode prog_15_method_83_code 344 = .ok (.aload_n 0, 1) := by decide +kernel
theorem d_GM_put_345 : decode prog_15_method_83_code 345 = .ok (.getfield 78, 3) := by decide +kernel
theorem d_GM_put_348 : decode prog_15_method_83_code 348 = .ok (.iload 7, 2) := by decide +kernel
theorem d_GM_put_350 : decode prog_15_method_83_code 350 = .ok (.aload_n 0, 1) := by decide +kernel
theorem d_GM_put_351 : decode prog_15_method_83_code 351 = .ok (.getfield 88, 3) := by decide +kernel
theorem d_GM_put_354 : decode prog_15_method_83_code 354 = .ok (.bipush 41, 2) := by decide +kernel
theorem d_GM_put_356 : decode prog_15_method_83_code 356 = .ok (.iaload, 1) := by decide +kernel
theorem d_GM_put_357 : decode prog_15_method_83_code 357 = .ok (.iastore, 1) := by decide +kernel
theorem d_GM_put_358 : decode prog_15_method_83_code 358 = .ok (.iconst 0, 1) := by decide +kernel
theorem d_GM_put_359 : decode prog_15_method_83_code 359 = .ok (.istore 10, 2) := by decide +kernel
set_option maxHeartbeats 4000000 in
theorem w_GM_put_0 {l : Launch} {G : gG} {d : Nat} {X : gX} {M : gM} {k : Int → gM → Prop} {o : Nat} (hX : gmX X o) {x1 : Int} (hx1 : g32 x1) {x2 : Int} (hx2 : g32 x2) (T : g32 (M o 72) → (cZ l G y_GM_inSheet (gRm d) false [gI x1, gI x2] X (gUp M o 72 0) (fun v3 M2 => ((¬ v3 = 0 → (wp l G y_GM_put (gRm (d + 1)) true (kkI X k) true 27 [.val (gR G o), .val (gI x1), .val (gI x2), .val (gI (M o 72)), .val (gI 0), .unset, .unset, .unset, .unset, .unset, .unset] [] X M2 0 0)) ∧ (v3 = 0 → (cI l G y_GM_no (gRm d) true [gR G o, gI 1] X M2 (fun v6 M5 => (k v6 M5)))))))) : wp l G y_GM_put (gRm (d + 1)) true (kkI X k) false 0 [.val (gR G o), .val (gI x1), .val (gI x2), .unset, .unset, .unset, .unset, .unset, .unset, .unset, .unset] [] X M 0 0 := by
  refine wp_aload_n d_GM_put_0 rfl rfl (g_nz hX.1) ?_
  refine xgetI d_GM_put_1 gc_GM f_GM_541.1 f_GM_541.2.1 f_GM_541.2.2.1 hX.1 (gm_o2 hX) hX.2.2.1 f_GM_541.2.2.2.2.1 (fun h1 => ?_)
  have T := T h1
  refine wp_istore_n (L' := [.val (gR G o), .val (gI x1), .val (gI x2), .val (gI (M o 72)), .unset, .unset, .unset, .unset, .unset, .unset, .unset]) d_GM_put_4 rfl (by decide) rfl ?_
  refine wp_aload_n d_GM_put_5 rfl rfl (g_nz hX.1) ?_
  refine wp_iconst d_GM_put_6 ?_
  refine xputI d_GM_put_7 gc_GM f_GM_541.1 f_GM_541.2.1 f_GM_541.2.2.1 hX.1 (gm_o2 hX) hX.2.2.1 f_GM_541.2.2.2.1 f_GM_541.2.2.2.2.1 f_GM_541.2.2.2.2.2 (w32_id (g32_c (x := 0) rfl)) ?_
  refine wp_iload_n d_GM_put_10 rfl rfl ?_
  refine wp_iload_n d_GM_put_11 rfl rfl ?_
  refine xcS_Z (md' := true) (As := [gI x1, gI x2]) (st := []) d_GM_put_12 ca_GM_inSheet ml_GM_544 sm_GM_inSheet rfl (by decide) (by decide) rfl (fun _ => rfl) (fun _ => rfl) T (fun v3 M2 h4 T => ?_)
  refine xz_ne (tgt := 24) d_GM_put_15 (by decide) (w32_id (g32_z h4)) (fun h8 => ?_) (fun h8 => ?_)
  · have T := T.1 h8
    refine wp_iconst d_GM_put_24 ?_
    refine wp_istore (L' := [.val (gR G o), .val (gI x1), .val (gI x2), .val (gI (M o 72)), .val (gI 0), .unset, .unset, .unset, .unset, .unset, .unset]) d_GM_put_25 (by decide) rfl ?_
    exact wp_md (wpt T (And.intro rfl (And.intro rfl (And.intro rfl (And.intro rfl (And.intro rfl True.intro))))))
  · have T := T.2 h8
    refine wp_aload_n d_GM_put_18 rfl rfl (g_nz hX.1) ?_
    refine wp_iconst d_GM_put_19 ?_
    refine xcV_I (md' := true) (As := [gI 1]) (st := []) d_GM_put_20 ca_GM_no ml_GM_526 im_GM_no se_GM_no gc_GM hX.1 (gm_o2 hX) hX.2.2.1 rfl (by decide) (by decide) rfl (fun _ => rfl) (fun _ => rfl) T (fun v6 M5 h7 T => ?_)
    exact wp_ireturn d_GM_put_23 rfl (fun _ => rfl) (Nat.zero_le _) (Nat.zero_le _) (kI_mk h7 T)
set_option maxHeartbeats 4000000 in
theorem w_GM_put_27 {l : Launch} {G : gG} {d : Nat} {X : gX} {M : gM} {k : Int → gM → Prop} {o : Nat} (hX : gmX X o) {x1 : Int} (hx1 : g32 x1) {x2 : Int} (hx2 : g32 x2) {x3 : Int} (hx3 : g32 x3) {x4 : Int} (hx4 : g32 x4) (T : (x3 ≤ x4 → ((x3 ≤ 0 → (wp l G y_GM_put (gRm (d + 1)) true (kkI X k) true 90 [.val (gR G o), .val (gI x1), .val (gI x2), .val (gI x3), .unset, .unset, .unset, .unset, .unset, .unset, .unset] [] X M 0 0)) ∧ (¬ x3 ≤ 0 → (cZ l G y_GM_isNumber (gRm d) true [gR G o, gR G (o + 46), gI 0, gI x3] X M (fun v10 M9 => ((v10 = 0 → (wp l G y_GM_put (gRm (d + 1)) true (kkI X k) true 90 [.val (gR G o), .val (gI x1), .val (gI x2), .val (gI x3), .unset, .unset, .unset, .unset, .unset, .unset, .unset] [] X M9 0 0)) ∧ (¬ v10 = 0 → ((x3 ≤ 0 → (wp l G y_GM_put (gRm (d + 1)) true (kkI X k) true 112 [.val (gR G o), .val (gI x1), .val (gI x2), .val (gI x3), .val (gI 1), .unset, .unset, .unset, .unset, .unset, .unset] [] X M9 0 0)) ∧ (¬ x3 ≤ 0 → (((0 : Int) ≤ (0 : Int) ∧ (0 : Int) < 240) ∧ ((-128 ≤ M9 (o + 46) (Int.toNat 0) ∧ M9 (o + 46) (Int.toNat 0) < 128) → ((¬ M9 (o + 46) (Int.toNat 0) = 61 → (wp l G y_GM_put (gRm (d + 1)) true (kkI X k) true 112 [.val (gR G o), .val (gI x1), .val (gI x2), .val (gI x3), .val (gI 1), .unset, .unset, .unset, .unset, .unset, .unset] [] X M9 0 0)) ∧ (M9 (o + 46) (Int.toNat 0) = 61 → (((1 : Int) = 0 → ((¬ (1 : Int) = 0 → (wp l G y_GM_put (gRm (d + 1)) true (kkI X k) true 147 [.val (gR G o), .val (gI x1), .val (gI x2), .val (gI x3), .val (gI 1), .val (gI 1), .unset, .unset, .unset, .unset, .unset] [] X M9 0 0)) ∧ ((1 : Int) = 0 → ((x3 ≤ 64 → (wp l G y_GM_put (gRm (d + 1)) true (kkI X k) true 147 [.val (gR G o), .val (gI x1), .val (gI x2), .val (gI x3), .val (gI 1), .val (gI 1), .unset, .unset, .unset, .unset, .unset] [] X M9 0 0)) ∧ (¬ x3 ≤ 64 → (cI l G y_GM_no (gRm d) true [gR G o, gI 1] X M9 (fun v14 M13 => (k v14 M13)))))))) ∧ (¬ (1 : Int) = 0 → ((x3 ≤ 201 → (wp l G y_GM_put (gRm (d + 1)) true (kkI X k) true 147 [.val (gR G o), .val (gI x1), .val (gI x2), .val (gI x3), .val (gI 1), .val (gI 1), .unset, .unset, .unset, .unset, .unset] [] X M9 0 0)) ∧ (¬ x3 ≤ 201 → (cI l G y_GM_no (gRm d) true [gR G o, gI 1] X M9 (fun v19 M18 => (k v19 M18)))))))))))))))))))) ∧ (¬ x3 ≤ x4 → (((0 : Int) ≤ x4 ∧ x4 < 240) ∧ ((-128 ≤ M (o + 46) (Int.toNat x4) ∧ M (o + 46) (Int.toNat x4) < 128) → ((M (o + 46) (Int.toNat x4) < 32 → (cI l G y_GM_no (gRm d) true [gR G o, gI 1] X M (fun v29 M28 => (k v29 M28)))) ∧ (¬ M (o + 46) (Int.toNat x4) < 32 → (((0 : Int) ≤ x4 ∧ x4 < 240) ∧ ((-128 ≤ M (o + 46) (Int.toNat x4) ∧ M (o + 46) (Int.toNat x4) < 128) → ((M (o + 46) (Int.toNat x4) ≤ 126 → (wp l G y_GM_put (gRm (d + 1)) true (kkI X k) true 27 [.val (gR G o), .val (gI x1), .val (gI x2), .val (gI x3), .val (gI (w32 (x4 + 1))), .unset, .unset, .unset, .unset, .unset, .unset] [] X M 0 0)) ∧ (¬ M (o + 46) (Int.toNat x4) ≤ 126 → (cI l G y_GM_no (gRm d) true [gR G o, gI 1] X M (fun v33 M32 => (k v33 M32))))))))))))) : wp l G y_GM_put (gRm (d + 1)) true (kkI X k) true 27 [.val (gR G o), .val (gI x1), .val (gI x2), .val (gI x3), .val (gI x4), .unset, .unset, .unset, .unset, .unset, .unset] [] X M 0 0 := by
  refine wp_iload d_GM_put_27 rfl ?_
  refine wp_iload_n d_GM_put_29 rfl rfl ?_
  refine xi_ge (tgt := 69) d_GM_put_30 (by decide) (w32_id hx4) (w32_id hx3) (fun h37 => ?_) (fun h37 => ?_)
  · have T := T.1 h37
    refine wp_iload_n d_GM_put_69 rfl rfl ?_
    refine xz_le (tgt := 90) d_GM_put_70 (by decide) (w32_id hx3) (fun h26 => ?_) (fun h26 => ?_)
    · have T := T.1 h26
      exact wp_md (wpt T (And.intro rfl (And.intro rfl (And.intro rfl (And.intro rfl True.intro)))))
    · have T := T.2 h26
      refine wp_aload_n d_GM_put_73 rfl rfl (g_nz hX.1) ?_
      refine wp_aload_n d_GM_put_74 rfl rfl (g_nz hX.1) ?_
      refine xgetR d_GM_put_75 gc_GM f_GM_154.1 f_GM_154.2.1 f_GM_154.2.2.1 hX.1 (gm_o2 hX) hX.2.2.1 f_GM_154.2.2.2.2.1 (gm_row hX 45 rfl).1 ?_
      refine wp_iconst d_GM_put_78 ?_
      refine wp_iload_n d_GM_put_79 rfl rfl ?_
      refine xcV_Z (md' := true) (As := [gR G (o + 46), gI 0, gI x3]) (st := []) d_GM_put_80 ca_GM_isNumber ml_GM_185 im_GM_isNumber se_GM_isNumber gc_GM hX.1 (gm_o2 hX) hX.2.2.1 rfl (by decide) (by decide) rfl (fun _ => rfl) (fun _ => rfl) T (fun v10 M9 h11 T => ?_)
      refine xz_eq (tgt := 90) d_GM_put_83 (by decide) (w32_id (g32_z h11)) (fun h25 => ?_) (fun h25 => ?_)
      · have T := T.1 h25
        exact wp_md (wpt T (And.intro rfl (And.intro rfl (And.intro rfl (And.intro rfl True.intro)))))
      · have T := T.2 h25
        refine wp_iconst d_GM_put_86 ?_
        refine wp_goto (tgt := 91) d_GM_put_87 (by decide) ?_
        refine wp_istore (L' := [.val (gR G o), .val (gI x1), .val (gI x2), .val (gI x3), .val (gI 1), .unset, .unset, .unset, .unset, .unset, .unset]) d_GM_put_91 (by decide) rfl ?_
        refine wp_iload_n d_GM_put_93 rfl rfl ?_
        refine xz_le (tgt := 112) d_GM_put_94 (by decide) (w32_id hx3) (fun h24 => ?_) (fun h24 => ?_)
        · have T := T.1 h24
          exact wp_md (wpt T (And.intro rfl (And.intro rfl (And.intro rfl (And.intro rfl (And.intro rfl True.intro))))))
        · have T := T.2 h24
          refine wp_aload_n d_GM_put_97 rfl rfl (g_nz hX.1) ?_
          refine xgetR d_GM_put_98 gc_GM f_GM_154.1 f_GM_154.2.1 f_GM_154.2.2.1 hX.1 (gm_o2 hX) hX.2.2.1 f_GM_154.2.2.2.2.1 (gm_row hX 45 rfl).1 ?_
          refine wp_iconst d_GM_put_101 ?_
          refine wp_baload d_GM_put_102 (gm_row hX 45 rfl).2.2.1 (gm_row hX 45 rfl).2.2.2 (gm_row hX 45 rfl).2.1 (g32_n T.1 (by decide)) T.1.1 T.1.2 (fun h12 => ?_)
          have T := T.2 h12
          refine wp_bipush d_GM_put_103 ⟨by decide, by decide⟩ ?_
          refine xi_ne (tgt := 112) d_GM_put_105 (by decide) (w32_id (g32_b h12)) (w32_id (g32_c (x := 61) rfl)) (fun h23 => ?_) (fun h23 => ?_)
          · have T := T.1 h23
            exact wp_md (wpt T (And.intro rfl (And.intro rfl (And.intro rfl (And.intro rfl (And.intro rfl True.intro))))))
          · have T := T.2 h23
            refine wp_iconst d_GM_put_108 ?_
            refine wp_goto (tgt := 113) d_GM_put_109 (by decide) ?_
            refine wp_istore (L' := [.val (gR G o), .val (gI x1), .val (gI x2), .val (gI x3), .val (gI 1), .val (gI 1), .unset, .unset, .unset, .unset, .unset]) d_GM_put_113 (by decide) rfl ?_
            refine wp_iload d_GM_put_115 rfl ?_
            refine xz_eq (tgt := 130) d_GM_put_117 (by decide) (w32_id (g32_c (x := 1) rfl)) (fun h22 => ?_) (fun h22 => ?_)
            · have T := T.1 h22
              refine wp_iload d_GM_put_130 rfl ?_
              refine xz_ne (tgt := 147) d_GM_put_132 (by decide) (w32_id (g32_c (x := 1) rfl)) (fun h17 => ?_) (fun h17 => ?_)
              · have T := T.1 h17
                exact wp_md (wpt T (And.intro rfl (And.intro rfl (And.intro rfl (And.intro rfl (And.intro rfl (And.intro rfl True.intro)))))))
              · have T := T.2 h17
                refine wp_iload_n d_GM_put_135 rfl rfl ?_
                refine wp_bipush d_GM_put_136 ⟨by decide, by decide⟩ ?_
                refine xi_le (tgt := 147) d_GM_put_138 (by decide) (w32_id hx3) (w32_id (g32_c (x := 64) rfl)) (fun h16 => ?_) (fun h16 => ?_)
                · have T := T.1 h16
                  exact wp_md (wpt T (And.intro rfl (And.intro rfl (And.intro rfl (And.intro rfl (And.intro rfl (And.intro rfl True.intro)))))))
                · have T := T.2 h16
                  refine wp_aload_n d_GM_put_141 rfl rfl (g_nz hX.1) ?_
                  refine wp_iconst d_GM_put_142 ?_
                  refine xcV_I (md' := true) (As := [gI 1]) (st := []) d_GM_put_143 ca_GM_no ml_GM_526 im_GM_no se_GM_no gc_GM hX.1 (gm_o2 hX) hX.2.2.1 rfl (by decide) (by decide) rfl (fun _ => rfl) (fun _ => rfl) T (fun v14 M13 h15 T => ?_)
                  exact wp_ireturn d_GM_put_146 rfl (fun _ => rfl) (Nat.zero_le _) (Nat.zero_le _) (kI_mk h15 T)
            · have T := T.2 h22
              refine wp_iload_n d_GM_put_120 rfl rfl ?_
              refine wp_sipush d_GM_put_121 ⟨by decide, by decide⟩ ?_
              refine xi_le (tgt := 147) d_GM_put_124 (by decide) (w32_id hx3) (w32_id (g32_c (x := 201) rfl)) (fun h21 => ?_) (fun h21 => ?_)
              · have T := T.1 h21
                exact wp_md (wpt T (And.intro rfl (And.intro rfl (And.intro rfl (And.intro rfl (And.intro rfl (And.intro rfl True.intro)))))))
              · have T := T.2 h21
                refine wp_goto (tgt := 141) d_GM_put_127 (by decide) ?_
                refine wp_aload_n d_GM_put_141 rfl rfl (g_nz hX.1) ?_
                refine wp_iconst d_GM_put_142 ?_
                refine xcV_I (md' := true) (As := [gI 1]) (st := []) d_GM_put_143 ca_GM_no ml_GM_526 im_GM_no se_GM_no gc_GM hX.1 (gm_o2 hX) hX.2.2.1 rfl (by decide) (by decide) rfl (fun _ => rfl) (fun _ => rfl) T (fun v19 M18 h20 T => ?_)
                exact wp_ireturn d_GM_put_146 rfl (fun _ => rfl) (Nat.zero_le _) (Nat.zero_le _) (kI_mk h20 T)
  · have T := T.2 h37
    refine wp_aload_n d_GM_put_33 rfl rfl (g_nz hX.1) ?_
    refine xgetR d_GM_put_34 gc_GM f_GM_154.1 f_GM_154.2.1 f_GM_154.2.2.1 hX.1 (gm_o2 hX) hX.2.2.1 f_GM_154.2.2.2.2.1 (gm_row hX 45 rfl).1 ?_
    refine wp_iload d_GM_put_37 rfl ?_
    refine wp_baload d_GM_put_39 (gm_row hX 45 rfl).2.2.1 (gm_row hX 45 rfl).2.2.2 (gm_row hX 45 rfl).2.1 (g32_n T.1 (by decide)) T.1.1 T.1.2 (fun h27 => ?_)
    have T := T.2 h27
    refine wp_bipush d_GM_put_40 ⟨by decide, by decide⟩ ?_
    refine xi_lt (tgt := 57) d_GM_put_42 (by decide) (w32_id (g32_b h27)) (w32_id (g32_c (x := 32) rfl)) (fun h36 => ?_) (fun h36 => ?_)
    · have T := T.1 h36
      refine wp_aload_n d_GM_put_57 rfl rfl (g_nz hX.1) ?_
      refine wp_iconst d_GM_put_58 ?_
      refine xcV_I (md' := true) (As := [gI 1]) (st := []) d_GM_put_59 ca_GM_no ml_GM_526 im_GM_no se_GM_no gc_GM hX.1 (gm_o2 hX) hX.2.2.1 rfl (by decide) (by decide) rfl (fun _ => rfl) (fun _ => rfl) T (fun v29 M28 h30 T => ?_)
      exact wp_ireturn d_GM_put_62 rfl (fun _ => rfl) (Nat.zero_le _) (Nat.zero_le _) (kI_mk h30 T)
    · have T := T.2 h36
      refine wp_aload_n d_GM_put_45 rfl rfl (g_nz hX.1) ?_
      refine xgetR d_GM_put_46 gc_GM f_GM_154.1 f_GM_154.2.1 f_GM_154.2.2.1 hX.1 (gm_o2 hX) hX.2.2.1 f_GM_154.2.2.2.2.1 (gm_row hX 45 rfl).1 ?_
      refine wp_iload d_GM_put_49 rfl ?_
      refine wp_baload d_GM_put_51 (gm_row hX 45 rfl).2.2.1 (gm_row hX 45 rfl).2.2.2 (gm_row hX 45 rfl).2.1 (g32_n T.1 (by decide)) T.1.1 T.1.2 (fun h31 => ?_)
      have T := T.2 h31
      refine wp_bipush d_GM_put_52 ⟨by decide, by decide⟩ ?_
      refine xi_le (tgt := 63) d_GM_put_54 (by decide) (w32_id (g32_b h31)) (w32_id (g32_c (x := 126) rfl)) (fun h35 => ?_) (fun h35 => ?_)
      · have T := T.1 h35
        refine wp_iinc (L' := [.val (gR G o), .val (gI x1), .val (gI x2), .val (gI x3), .val (gI (x4 + 1)), .unset, .unset, .unset, .unset, .unset, .unset]) d_GM_put_63 rfl (by decide) rfl ?_
        refine wp_goto (tgt := 27) d_GM_put_66 (by decide) ?_
        exact wp_md (wpt T (And.intro rfl (And.intro rfl (And.intro rfl (And.intro rfl (And.intro (gI_w _) True.intro))))))
      · have T := T.2 h35
        refine wp_aload_n d_GM_put_57 rfl rfl (g_nz hX.1) ?_
        refine wp_iconst d_GM_put_58 ?_
        refine xcV_I (md' := true) (As := [gI 1]) (st := []) d_GM_put_59 ca_GM_no ml_GM_526 im_GM_no se_GM_no gc_GM hX.1 (gm_o2 hX) hX.2.2.1 rfl (by decide) (by decide) rfl (fun _ => rfl) (fun _ => rfl) T (fun v33 M32 h34 T => ?_)
        exact wp_ireturn d_GM_put_62 rfl (fun _ => rfl) (Nat.zero_le _) (Nat.zero_le _) (kI_mk h34 T)
set_option maxHeartbeats 4000000 in
theorem w_GM_put_90 {l : Launch} {G : gG} {d : Nat} {X : gX} {M : gM} {k : Int → gM → Prop} {o : Nat} (hX : gmX X o) {x1 : Int} (hx1 : g32 x1) {x2 : Int} (hx2 : g32 x2) {x3 : Int} (hx3 : g32 x3) (T : (x3 ≤ 0 → (wp l G y_GM_put (gRm (d + 1)) true (kkI X k) true 112 [.val (gR G o), .val (gI x1), .val (gI x2), .val (gI x3), .val (gI 0), .unset, .unset, .unset, .unset, .unset, .unset] [] X M 0 0)) ∧ (¬ x3 ≤ 0 → (((0 : Int) ≤ (0 : Int) ∧ (0 : Int) < 240) ∧ ((-128 ≤ M (o + 46) (Int.toNat 0) ∧ M (o + 46) (Int.toNat 0) < 128) → ((¬ M (o + 46) (Int.toNat 0) = 61 → (wp l G y_GM_put (gRm (d + 1)) true (kkI X k) true 112 [.val (gR G o), .val (gI x1), .val (gI x2), .val (gI x3), .val (gI 0), .unset, .unset, .unset, .unset, .unset, .unset] [] X M 0 0)) ∧ (M (o + 46) (Int.toNat 0) = 61 → (((1 : Int) = 0 → ((¬ (0 : Int) = 0 → (wp l G y_GM_put (gRm (d + 1)) true (kkI X k) true 147 [.val (gR G o), .val (gI x1), .val (gI x2), .val (gI x3), .val (gI 0), .val (gI 1), .unset, .unset, .unset, .unset, .unset] [] X M 0 0)) ∧ ((0 : Int) = 0 → ((x3 ≤ 64 → (wp l G y_GM_put (gRm (d + 1)) true (kkI X k) true 147 [.val (gR G o), .val (gI x1), .val (gI x2), .val (gI x3), .val (gI 0), .val (gI 1), .unset, .unset, .unset, .unset, .unset] [] X M 0 0)) ∧ (¬ x3 ≤ 64 → (cI l G y_GM_no (gRm d) true [gR G o, gI 1] X M (fun v40 M39 => (k v40 M39)))))))) ∧ (¬ (1 : Int) = 0 → ((x3 ≤ 201 → (wp l G y_GM_put (gRm (d + 1)) true (kkI X k) true 147 [.val (gR G o), .val (gI x1), .val (gI x2), .val (gI x3), .val (gI 0), .val (gI 1), .unset, .unset, .unset, .unset, .unset] [] X M 0 0)) ∧ (¬ x3 ≤ 201 → (cI l G y_GM_no (gRm d) true [gR G o, gI 1] X M (fun v45 M44 => (k v45 M44))))))))))))) : wp l G y_GM_put (gRm (d + 1)) true (kkI X k) true 90 [.val (gR G o), .val (gI x1), .val (gI x2), .val (gI x3), .unset, .unset, .unset, .unset, .unset, .unset, .unset] [] X M 0 0 := by
  refine wp_iconst d_GM_put_90 ?_
  refine wp_istore (L' := [.val (gR G o), .val (gI x1), .val (gI x2), .val (gI x3), .val (gI 0), .unset, .unset, .unset, .unset, .unset, .unset]) d_GM_put_91 (by decide) rfl ?_
  refine wp_iload_n d_GM_put_93 rfl rfl ?_
  refine xz_le (tgt := 112) d_GM_put_94 (by decide) (w32_id hx3) (fun h50 => ?_) (fun h50 => ?_)
  · have T := T.1 h50
    exact wp_md (wpt T (And.intro rfl (And.intro rfl (And.intro rfl (And.intro rfl (And.intro rfl True.intro))))))
  · have T := T.2 h50
    refine wp_aload_n d_GM_put_97 rfl rfl (g_nz hX.1) ?_
    refine xgetR d_GM_put_98 gc_GM f_GM_154.1 f_GM_154.2.1 f_GM_154.2.2.1 hX.1 (gm_o2 hX) hX.2.2.1 f_GM_154.2.2.2.2.1 (gm_row hX 45 rfl).1 ?_
    refine wp_iconst d_GM_put_101 ?_
    refine wp_baload d_GM_put_102 (gm_row hX 45 rfl).2.2.1 (gm_row hX 45 rfl).2.2.2 (gm_row hX 45 rfl).2.1 (g32_n T.1 (by decide)) T.1.1 T.1.2 (fun h38 => ?_)
    have T := T.2 h38
    refine wp_bipush d_GM_put_103 ⟨by decide, by decide⟩ ?_
    refine xi_ne (tgt := 112) d_GM_put_105 (by decide) (w32_id (g32_b h38)) (w32_id (g32_c (x := 61) rfl)) (fun h49 => ?_) (fun h49 => ?_)
    · have T := T.1 h49
      exact wp_md (wpt T (And.intro rfl (And.intro rfl (And.intro rfl (And.intro rfl (And.intro rfl True.intro))))))
    · have T := T.2 h49
      refine wp_iconst d_GM_put_108 ?_
      refine wp_goto (tgt := 113) d_GM_put_109 (by decide) ?_
      refine wp_istore (L' := [.val (gR G o), .val (gI x1), .val (gI x2), .val (gI x3), .val (gI 0), .val (gI 1), .unset, .unset, .unset, .unset, .unset]) d_GM_put_113 (by decide) rfl ?_
      refine wp_iload d_GM_put_115 rfl ?_
      refine xz_eq (tgt := 130) d_GM_put_117 (by decide) (w32_id (g32_c (x := 1) rfl)) (fun h48 => ?_) (fun h48 => ?_)
      · have T := T.1 h48
        refine wp_iload d_GM_put_130 rfl ?_
        refine xz_ne (tgt := 147) d_GM_put_132 (by decide) (w32_id (g32_c (x := 0) rfl)) (fun h43 => ?_) (fun h43 => ?_)
        · have T := T.1 h43
          exact wp_md (wpt T (And.intro rfl (And.intro rfl (And.intro rfl (And.intro rfl (And.intro rfl (And.intro rfl True.intro)))))))
        · have T := T.2 h43
          refine wp_iload_n d_GM_put_135 rfl rfl ?_
          refine wp_bipush d_GM_put_136 ⟨by decide, by decide⟩ ?_
          refine xi_le (tgt := 147) d_GM_put_138 (by decide) (w32_id hx3) (w32_id (g32_c (x := 64) rfl)) (fun h42 => ?_) (fun h42 => ?_)
          · have T := T.1 h42
            exact wp_md (wpt T (And.intro rfl (And.intro rfl (And.intro rfl (And.intro rfl (And.intro rfl (And.intro rfl True.intro)))))))
          · have T := T.2 h42
            refine wp_aload_n d_GM_put_141 rfl rfl (g_nz hX.1) ?_
            refine wp_iconst d_GM_put_142 ?_
            refine xcV_I (md' := true) (As := [gI 1]) (st := []) d_GM_put_143 ca_GM_no ml_GM_526 im_GM_no se_GM_no gc_GM hX.1 (gm_o2 hX) hX.2.2.1 rfl (by decide) (by decide) rfl (fun _ => rfl) (fun _ => rfl) T (fun v40 M39 h41 T => ?_)
            exact wp_ireturn d_GM_put_146 rfl (fun _ => rfl) (Nat.zero_le _) (Nat.zero_le _) (kI_mk h41 T)
      · have T := T.2 h48
        refine wp_iload_n d_GM_put_120 rfl rfl ?_
        refine wp_sipush d_GM_put_121 ⟨by decide, by decide⟩ ?_
        refine xi_le (tgt := 147) d_GM_put_124 (by decide) (w32_id hx3) (w32_id (g32_c (x := 201) rfl)) (fun h47 => ?_) (fun h47 => ?_)
        · have T := T.1 h47
          exact wp_md (wpt T (And.intro rfl (And.intro rfl (And.intro rfl (And.intro rfl (And.intro rfl (And.intro rfl True.intro)))))))
        · have T := T.2 h47
          refine wp_goto (tgt := 141) d_GM_put_127 (by decide) ?_
          refine wp_aload_n d_GM_put_141 rfl rfl (g_nz hX.1) ?_
          refine wp_iconst d_GM_put_142 ?_
          refine xcV_I (md' := true) (As := [gI 1]) (st := []) d_GM_put_143 ca_GM_no ml_GM_526 im_GM_no se_GM_no gc_GM hX.1 (gm_o2 hX) hX.2.2.1 rfl (by decide) (by decide) rfl (fun _ => rfl) (fun _ => rfl) T (fun v45 M44 h46 T => ?_)
          exact wp_ireturn d_GM_put_146 rfl (fun _ => rfl) (Nat.zero_le _) (Nat.zero_le _) (kI_mk h46 T)
set_option maxHeartbeats 4000000 in
theorem w_GM_put_112 {l : Launch} {G : gG} {d : Nat} {X : gX} {M : gM} {k : Int → gM → Prop} {o : Nat} (hX : gmX X o) {x1 : Int} (hx1 : g32 x1) {x2 : Int} (hx2 : g32 x2) {x3 : Int} (hx3 : g32 x3) {x4 : Int} (hx4 : g32 x4) (T : ((0 : Int) = 0 → ((¬ x4 = 0 → (wp l G y_GM_put (gRm (d + 1)) true (kkI X k) true 147 [.val (gR G o), .val (gI x1), .val (gI x2), .val (gI x3), .val (gI x4), .val (gI 0), .unset, .unset, .unset, .unset, .unset] [] X M 0 0)) ∧ (x4 = 0 → ((x3 ≤ 64 → (wp l G y_GM_put (gRm (d + 1)) true (kkI X k) true 147 [.val (gR G o), .val (gI x1), .val (gI x2), .val (gI x3), .val (gI x4), .val (gI 0), .unset, .unset, .unset, .unset, .unset] [] X M 0 0)) ∧ (¬ x3 ≤ 64 → (cI l G y_GM_no (gRm d) true [gR G o, gI 1] X M (fun v52 M51 => (k v52 M51)))))))) ∧ (¬ (0 : Int) = 0 → ((x3 ≤ 201 → (wp l G y_GM_put (gRm (d + 1)) true (kkI X k) true 147 [.val (gR G o), .val (gI x1), .val (gI x2), .val (gI x3), .val (gI x4), .val (gI 0), .unset, .unset, .unset, .unset, .unset] [] X M 0 0)) ∧ (¬ x3 ≤ 201 → (cI l G y_GM_no (gRm d) true [gR G o, gI 1] X M (fun v57 M56 => (k v57 M56))))))) : wp l G y_GM_put (gRm (d + 1)) true (kkI X k) true 112 [.val (gR G o), .val (gI x1), .val (gI x2), .val (gI x3), .val (gI x4), .unset, .unset, .unset, .unset, .unset, .unset] [] X M 0 0 := by
  refine wp_iconst d_GM_put_112 ?_
  refine wp_istore (L' := [.val (gR G o), .val (gI x1), .val (gI x2), .val (gI x3), .val (gI x4), .val (gI 0), .unset, .unset, .unset, .unset, .unset]) d_GM_put_113 (by decide) rfl ?_
  refine wp_iload d_GM_put_115 rfl ?_
  refine xz_eq (tgt := 130) d_GM_put_117 (by decide) (w32_id (g32_c (x := 0) rfl)) (fun h60 => ?_) (fun h60 => ?_)
  · have T := T.1 h60
    refine wp_iload d_GM_put_130 rfl ?_
    refine xz_ne (tgt := 147) d_GM_put_132 (by decide) (w32_id hx4) (fun h55 => ?_) (fun h55 => ?_)
    · have T := T.1 h55
      exact wp_md (wpt T (And.intro rfl (And.intro rfl (And.intro rfl (And.intro rfl (And.intro rfl (And.intro rfl True.intro)))))))
    · have T := T.2 h55
      refine wp_iload_n d_GM_put_135 rfl rfl ?_
      refine wp_bipush d_GM_put_136 ⟨by decide, by decide⟩ ?_
      refine xi_le (tgt := 147) d_GM_put_138 (by decide) (w32_id hx3) (w32_id (g32_c (x := 64) rfl)) (fun h54 => ?_) (fun h54 => ?_)
      · have T := T.1 h54
        exact wp_md (wpt T (And.intro rfl (And.intro rfl (And.intro rfl (And.intro rfl (And.intro rfl (And.intro rfl True.intro)))))))
      · have T := T.2 h54
        refine wp_aload_n d_GM_put_141 rfl rfl (g_nz hX.1) ?_
        refine wp_iconst d_GM_put_142 ?_
        refine xcV_I (md' := true) (As := [gI 1]) (st := []) d_GM_put_143 ca_GM_no ml_GM_526 im_GM_no se_GM_no gc_GM hX.1 (gm_o2 hX) hX.2.2.1 rfl (by decide) (by decide) rfl (fun _ => rfl) (fun _ => rfl) T (fun v52 M51 h53 T => ?_)
        exact wp_ireturn d_GM_put_146 rfl (fun _ => rfl) (Nat.zero_le _) (Nat.zero_le _) (kI_mk h53 T)
  · have T := T.2 h60
    refine wp_iload_n d_GM_put_120 rfl rfl ?_
    refine wp_sipush d_GM_put_121 ⟨by decide, by decide⟩ ?_
    refine xi_le (tgt := 147) d_GM_put_124 (by decide) (w32_id hx3) (w32_id (g32_c (x := 201) rfl)) (fun h59 => ?_) (fun h59 => ?_)
    · have T := T.1 h59
      exact wp_md (wpt T (And.intro rfl (And.intro rfl (And.intro rfl (And.intro rfl (And.intro rfl (And.intro rfl True.intro)))))))
    · have T := T.2 h59
      refine wp_goto (tgt := 141) d_GM_put_127 (by decide) ?_
      refine wp_aload_n d_GM_put_141 rfl rfl (g_nz hX.1) ?_
      refine wp_iconst d_GM_put_142 ?_
      refine xcV_I (md' := true) (As := [gI 1]) (st := []) d_GM_put_143 ca_GM_no ml_GM_526 im_GM_no se_GM_no gc_GM hX.1 (gm_o2 hX) hX.2.2.1 rfl (by decide) (by decide) rfl (fun _ => rfl) (fun _ => rfl) T (fun v57 M56 h58 T => ?_)
      exact wp_ireturn d_GM_put_146 rfl (fun _ => rfl) (Nat.zero_le _) (Nat.zero_le _) (kI_mk h58 T)
set_option maxHeartbeats 4000000 in
theorem w_GM_put_147 {l : Launch} {G : gG} {d : Nat} {X : gX} {M : gM} {k : Int → gM → Prop} {o : Nat} (hX : gmX X o) {x1 : Int} (hx1 : g32 x1) {x2 : Int} (hx2 : g32 x2) {x3 : Int} (hx3 : g32 x3) {x4 : Int} (hx4 : g32 x4) {x5 : Int} (hx5 : g32 x5) (T : g32 (M o 2) → (g32 (M o 36) → (cI l G y_GM_slot (gRm d) false [gI (M o 36)] X M (fun v64 M63 => (cV l G y_GM_copyAll (gRm d) true [gR G o, gI v64, gI 41] X M63 (fun M66 => ((¬ x3 = 0 → ((x4 = 0 → ((x5 = 0 → (wp l G y_GM_put (gRm (d + 1)) true (kkI X k) true 215 [.val (gR G o), .unset, .unset, .val (gI x3), .val (gI x4), .val (gI x5), .unset, .val (gI (w32 (213200 + (x1 + (26 * x2))))), .val (gI (M o 2)), .unset, .unset] [gI 2, gI (w32 (213200 + (x1 + (26 * x2)))), gR G (o + 19)] X M66 0 0)) ∧ (¬ x5 = 0 → (wp l G y_GM_put (gRm (d + 1)) true (kkI X k) true 215 [.val (gR G o), .unset, .unset, .val (gI x3), .val (gI x4), .val (gI x5), .unset, .val (gI (w32 (213200 + (x1 + (26 * x2))))), .val (gI (M o 2)), .unset, .unset] [gI 3, gI (w32 (213200 + (x1 + (26 * x2)))), gR G (o + 19)] X M66 0 0)))) ∧ (¬ x4 = 0 → (wp l G y_GM_put (gRm (d + 1)) true (kkI X k) true 215 [.val (gR G o), .unset, .unset, .val (gI x3), .val (gI x4), .val (gI x5), .unset, .val (gI (w32 (213200 + (x1 + (26 * x2))))), .val (gI (M o 2)), .unset, .unset] [gI 1, gI (w32 (213200 + (x1 + (26 * x2)))), gR G (o + 19)] X M66 0 0)))) ∧ (x3 = 0 → (wp l G y_GM_put (gRm (d + 1)) true (kkI X k) true 215 [.val (gR G o), .unset, .unset, .val (gI x3), .val (gI x4), .val (gI x5), .unset, .val (gI (w32 (213200 + (x1 + (26 * x2))))), .val (gI (M o 2)), .unset, .unset] [gI 0, gI (w32 (213200 + (x1 + (26 * x2)))), gR G (o + 19)] X M66 0 0))))))))) : wp l G y_GM_put (gRm (d + 1)) true (kkI X k) true 147 [.val (gR G o), .val (gI x1), .val (gI x2), .val (gI x3), .val (gI x4), .val (gI x5), .unset, .unset, .unset, .unset, .unset] [] X M 0 0 := by
  refine wp_iload_n d_GM_put_147 rfl rfl ?_
  refine wp_bipush d_GM_put_148 ⟨by decide, by decide⟩ ?_
  refine wp_iload_n d_GM_put_150 rfl rfl ?_
  refine wp_imul d_GM_put_151 ?_
  refine wp_iadd d_GM_put_152 ?_
  refine wp_istore (L' := [.val (gR G o), .val (gI x1), .val (gI x2), .val (gI x3), .val (gI x4), .val (gI x5), .val (gI (x1 + (26 * x2))), .unset, .unset, .unset, .unset]) d_GM_put_153 (by decide) rfl ?_
  refine wp_ldcw (n := 213200) d_GM_put_155 c_GM_547 rfl ?_
  refine wp_iload d_GM_put_158 rfl ?_
  refine wp_iadd d_GM_put_160 ?_
  refine wp_istore (L' := [.val (gR G o), .val (gI x1), .val (gI x2), .val (gI x3), .val (gI x4), .val (gI x5), .val (gI (x1 + (26 * x2))), .val (gI (213200 + (x1 + (26 * x2)))), .unset, .unset, .unset]) d_GM_put_161 (by decide) rfl ?_
  refine wp_aload_n d_GM_put_163 rfl rfl (g_nz hX.1) ?_
  refine xgetI d_GM_put_164 gc_GM f_GM_548.1 f_GM_548.2.1 f_GM_548.2.2.1 hX.1 (gm_o2 hX) hX.2.2.1 f_GM_548.2.2.2.2.1 (fun h61 => ?_)
  have T := T h61
  refine wp_istore (L' := [.val (gR G o), .val (gI x1), .val (gI x2), .val (gI x3), .val (gI x4), .val (gI x5), .val (gI (x1 + (26 * x2))), .val (gI (213200 + (x1 + (26 * x2)))), .val (gI (M o 2)), .unset, .unset]) d_GM_put_167 (by decide) rfl ?_
  refine wp_aload_n d_GM_put_169 rfl rfl (g_nz hX.1) ?_
  refine wp_aload_n d_GM_put_170 rfl rfl (g_nz hX.1) ?_
  refine xgetI d_GM_put_171 gc_GM f_GM_502.1 f_GM_502.2.1 f_GM_502.2.2.1 hX.1 (gm_o2 hX) hX.2.2.1 f_GM_502.2.2.2.2.1 (fun h62 => ?_)
  have T := T h62
  refine xcS_I (md' := true) (As := [gI (M o 36)]) (st := [gR G o]) d_GM_put_174 ca_GM_slot ml_GM_505 sm_GM_slot rfl (by decide) (by simp only [List.map, gR_cat, gI_cat, gL_cat, List.sum_cons, List.sum_nil]; decide) rfl (fun _ => rfl) (fun _ => rfl) T (fun v64 M63 h65 T => ?_)
  refine wp_bipush d_GM_put_177 ⟨by decide, by decide⟩ ?_
  refine xcV_V (md' := true) (As := [gI v64, gI 41]) (st := []) d_GM_put_179 ca_GM_copyAll ml_GM_535 im_GM_copyAll se_GM_copyAll gc_GM hX.1 (gm_o2 hX) hX.2.2.1 rfl (by decide) (by decide) rfl (fun _ => rfl) (fun _ => rfl) T (fun M66 T => ?_)
  refine wp_aload_n d_GM_put_182 rfl rfl (g_nz hX.1) ?_
  refine xgetR d_GM_put_183 gc_GM f_GM_69.1 f_GM_69.2.1 f_GM_69.2.2.1 hX.1 (gm_o2 hX) hX.2.2.1 f_GM_69.2.2.2.2.1 (gm_row hX 18 rfl).1 ?_
  refine wp_iload d_GM_put_186 rfl ?_
  refine wp_iload_n d_GM_put_188 rfl rfl ?_
  refine xz_ne (tgt := 196) d_GM_put_189 (by decide) (w32_id hx3) (fun h69 => ?_) (fun h69 => ?_)
  · have T := T.1 h69
    refine wp_iload d_GM_put_196 rfl ?_
    refine xz_eq (tgt := 205) d_GM_put_198 (by decide) (w32_id hx4) (fun h68 => ?_) (fun h68 => ?_)
    · have T := T.1 h68
      refine wp_iload d_GM_put_205 rfl ?_
      refine xz_eq (tgt := 214) d_GM_put_207 (by decide) (w32_id hx5) (fun h67 => ?_) (fun h67 => ?_)
      · have T := T.1 h67
        refine wp_iconst d_GM_put_214 ?_
        exact wp_md (wp_st (st' := [gI 2, gI (w32 (213200 + (x1 + (26 * x2)))), gR G (o + 19)]) (by simp only [gI_w, gL_w]) (wpt T (And.intro rfl (And.intro rfl (And.intro rfl (And.intro rfl (And.intro (gI_w _) (And.intro rfl True.intro))))))))
      · have T := T.2 h67
        refine wp_iconst d_GM_put_210 ?_
        refine wp_goto (tgt := 215) d_GM_put_211 (by decide) ?_
        exact wp_md (wp_st (st' := [gI 3, gI (w32 (213200 + (x1 + (26 * x2)))), gR G (o + 19)]) (by simp only [gI_w, gL_w]) (wpt T (And.intro rfl (And.intro rfl (And.intro rfl (And.intro rfl (And.intro (gI_w _) (And.intro rfl True.intro))))))))
    · have T := T.2 h68
      refine wp_iconst d_GM_put_201 ?_
      refine wp_goto (tgt := 215) d_GM_put_202 (by decide) ?_
      exact wp_md (wp_st (st' := [gI 1, gI (w32 (213200 + (x1 + (26 * x2)))), gR G (o + 19)]) (by simp only [gI_w, gL_w]) (wpt T (And.intro rfl (And.intro rfl (And.intro rfl (And.intro rfl (And.intro (gI_w _) (And.intro rfl True.intro))))))))
  · have T := T.2 h69
    refine wp_iconst d_GM_put_192 ?_
    refine wp_goto (tgt := 215) d_GM_put_193 (by decide) ?_
    exact wp_md (wp_st (st' := [gI 0, gI (w32 (213200 + (x1 + (26 * x2)))), gR G (o + 19)]) (by simp only [gI_w, gL_w]) (wpt T (And.intro rfl (And.intro rfl (And.intro rfl (And.intro rfl (And.intro (gI_w _) (And.intro rfl True.intro))))))))
set_option maxHeartbeats 4000000 in
theorem w_GM_put_215 {l : Launch} {G : gG} {d : Nat} {X : gX} {M : gM} {k : Int → gM → Prop} {o : Nat} (hX : gmX X o) {x3 : Int} (hx3 : g32 x3) {x4 : Int} (hx4 : g32 x4) {x5 : Int} (hx5 : g32 x5) {x7 : Int} (hx7 : g32 x7) {x8 : Int} (hx8 : g32 x8) {s0 : Int} (hs0 : g32 s0) {s1 : Int} (hs1 : g32 s1) (T : ((0 : Int) ≤ s1 ∧ s1 < 218400) ∧ ((x4 = 0 → (((0 : Int) ≤ x7 ∧ x7 < 218400) ∧ ((x3 ≤ 0 → (wp l G y_GM_put (gRm (d + 1)) true (kkI X k) true 339 [.val (gR G o), .unset, .unset, .unset, .unset, .val (gI x5), .unset, .val (gI x7), .unset, .val (gI 0), .unset] [] X (gUp (gUp M (o + 19) (Int.toNat s1) s0) (o + 23) (Int.toNat x7) 0) 0 0)) ∧ (¬ x3 ≤ 0 → ((¬ x4 = 0 → (wp l G y_GM_put (gRm (d + 1)) true (kkI X k) true 339 [.val (gR G o), .unset, .unset, .unset, .unset, .val (gI x5), .unset, .val (gI x7), .unset, .val (gI 0), .unset] [] X (gUp (gUp M (o + 19) (Int.toNat s1) s0) (o + 23) (Int.toNat x7) 0) 0 0)) ∧ (x4 = 0 → (wp l G y_GM_put (gRm (d + 1)) true (kkI X k) true 251 [.val (gR G o), .unset, .unset, .val (gI x3), .unset, .val (gI x5), .unset, .val (gI x7), .val (gI x8), .val (gI 0), .val (gI 0)] [] X (gUp (gUp M (o + 19) (Int.toNat s1) s0) (o + 23) (Int.toNat x7) 0) 0 0))))))) ∧ (¬ x4 = 0 → (g64 ((gUp M (o + 19) (Int.toNat s1) s0) o 3) → (((0 : Int) ≤ x7 ∧ x7 < 218400) ∧ ((x3 ≤ 0 → (wp l G y_GM_put (gRm (d + 1)) true (kkI X k) true 339 [.val (gR G o), .unset, .unset, .unset, .unset, .val (gI x5), .unset, .val (gI x7), .unset, .val (gI 0), .unset] [] X (gUp (gUp M (o + 19) (Int.toNat s1) s0) (o + 23) (Int.toNat x7) ((gUp M (o + 19) (Int.toNat s1) s0) o 3)) 0 0)) ∧ (¬ x3 ≤ 0 → ((¬ x4 = 0 → (wp l G y_GM_put (gRm (d + 1)) true (kkI X k) true 339 [.val (gR G o), .unset, .unset, .unset, .unset, .val (gI x5), .unset, .val (gI x7), .unset, .val (gI 0), .unset] [] X (gUp (gUp M (o + 19) (Int.toNat s1) s0) (o + 23) (Int.toNat x7) ((gUp M (o + 19) (Int.toNat s1) s0) o 3)) 0 0)) ∧ (x4 = 0 → (wp l G y_GM_put (gRm (d + 1)) true (kkI X k) true 251 [.val (gR G o), .unset, .unset, .val (gI x3), .unset, .val (gI x5), .unset, .val (gI x7), .val (gI x8), .val (gI 0), .val (gI 0)] [] X (gUp (gUp M (o + 19) (Int.toNat s1) s0) (o + 23) (Int.toNat x7) ((gUp M (o + 19) (Int.toNat s1) s0) o 3)) 0 0)))))))))) : wp l G y_GM_put (gRm (d + 1)) true (kkI X k) true 215 [.val (gR G o), .unset, .unset, .val (gI x3), .val (gI x4), .val (gI x5), .unset, .val (gI x7), .val (gI x8), .unset, .unset] [gI s0, gI s1, gR G (o + 19)] X M 0 0 := by
  refine xiast d_GM_put_215 (gm_row hX 18 rfl).2.2.1 (gm_row hX 18 rfl).2.2.2 (gm_row hX 18 rfl).2.1 (by decide) T.1 (w32_id hs0) ?_
  have T := T.2
  refine wp_aload_n d_GM_put_216 rfl rfl (g_nz hX.1) ?_
  refine xgetR d_GM_put_217 gc_GM f_GM_81.1 f_GM_81.2.1 f_GM_81.2.2.1 hX.1 (gm_o2 hX) hX.2.2.1 f_GM_81.2.2.2.2.1 (gm_row hX 22 rfl).1 ?_
  refine wp_iload d_GM_put_220 rfl ?_
  refine wp_iload d_GM_put_222 rfl ?_
  refine xz_eq (tgt := 234) d_GM_put_224 (by decide) (w32_id hx4) (fun h75 => ?_) (fun h75 => ?_)
  · have T := T.1 h75
    refine wp_lconst0 d_GM_put_234 ?_
    refine xlast d_GM_put_235 (gm_row hX 22 rfl).2.2.1 (gm_row hX 22 rfl).2.2.2 (gm_row hX 22 rfl).2.1 (by decide) T.1 (w64_id (g64_c (x := 0) rfl)) ?_
    have T := T.2
    refine wp_iconst d_GM_put_236 ?_
    refine wp_istore (L' := [.val (gR G o), .unset, .unset, .val (gI x3), .val (gI x4), .val (gI x5), .unset, .val (gI x7), .val (gI x8), .val (gI 0), .unset]) d_GM_put_237 (by decide) rfl ?_
    refine wp_iload_n d_GM_put_239 rfl rfl ?_
    refine xz_le (tgt := 339) d_GM_put_240 (by decide) (w32_id hx3) (fun h71 => ?_) (fun h71 => ?_)
    · have T := T.1 h71
      exact wp_md (wpt T (And.intro rfl (And.intro rfl (And.intro rfl (And.intro rfl True.intro)))))
    · have T := T.2 h71
      refine wp_iload d_GM_put_243 rfl ?_
      refine xz_ne (tgt := 339) d_GM_put_245 (by decide) (w32_id hx4) (fun h70 => ?_) (fun h70 => ?_)
      · have T := T.1 h70
        exact wp_md (wpt T (And.intro rfl (And.intro rfl (And.intro rfl (And.intro rfl True.intro)))))
      · have T := T.2 h70
        refine wp_iconst d_GM_put_248 ?_
        refine wp_istore (L' := [.val (gR G o), .unset, .unset, .val (gI x3), .val (gI x4), .val (gI x5), .unset, .val (gI x7), .val (gI x8), .val (gI 0), .val (gI 0)]) d_GM_put_249 (by decide) rfl ?_
        exact wp_md (wpt T (And.intro rfl (And.intro rfl (And.intro rfl (And.intro rfl (And.intro rfl (And.intro rfl (And.intro rfl True.intro))))))))
  · have T := T.2 h75
    refine wp_aload_n d_GM_put_227 rfl rfl (g_nz hX.1) ?_
    refine xgetJ d_GM_put_228 gc_GM f_GM_174.1 f_GM_174.2.1 f_GM_174.2.2.1 hX.1 (gm_o2 hX) hX.2.2.1 f_GM_174.2.2.2.2.1 (fun h72 => ?_)
    have T := T h72
    refine wp_goto (tgt := 235) d_GM_put_231 (by decide) ?_
    refine xlast d_GM_put_235 (gm_row hX 22 rfl).2.2.1 (gm_row hX 22 rfl).2.2.2 (gm_row hX 22 rfl).2.1 (by decide) T.1 (w64_id h72) ?_
    have T := T.2
    refine wp_iconst d_GM_put_236 ?_
    refine wp_istore (L' := [.val (gR G o), .unset, .unset, .val (gI x3), .val (gI x4), .val (gI x5), .unset, .val (gI x7), .val (gI x8), .val (gI 0), .unset]) d_GM_put_237 (by decide) rfl ?_
    refine wp_iload_n d_GM_put_239 rfl rfl ?_
    refine xz_le (tgt := 339) d_GM_put_240 (by decide) (w32_id hx3) (fun h74 => ?_) (fun h74 => ?_)
    · have T := T.1 h74
      exact wp_md (wpt T (And.intro rfl (And.intro rfl (And.intro rfl (And.intro rfl True.intro)))))
    · have T := T.2 h74
      refine wp_iload d_GM_put_243 rfl ?_
      refine xz_ne (tgt := 339) d_GM_put_245 (by decide) (w32_id hx4) (fun h73 => ?_) (fun h73 => ?_)
      · have T := T.1 h73
        exact wp_md (wpt T (And.intro rfl (And.intro rfl (And.intro rfl (And.intro rfl True.intro)))))
      · have T := T.2 h73
        refine wp_iconst d_GM_put_248 ?_
        refine wp_istore (L' := [.val (gR G o), .unset, .unset, .val (gI x3), .val (gI x4), .val (gI x5), .unset, .val (gI x7), .val (gI x8), .val (gI 0), .val (gI 0)]) d_GM_put_249 (by decide) rfl ?_
        exact wp_md (wpt T (And.intro rfl (And.intro rfl (And.intro rfl (And.intro rfl (And.intro rfl (And.intro rfl (And.intro rfl True.intro))))))))
set_option maxHeartbeats 4000000 in
theorem w_GM_put_339 {l : Launch} {G : gG} {d : Nat} {X : gX} {M : gM} {k : Int → gM → Prop} {o : Nat} (hX : gmX X o) {x5 : Int} (hx5 : g32 x5) {x7 : Int} (hx7 : g32 x7) {x9 : Int} (hx9 : g32 x9) (T : (x5 = 0 → (cI l G y_GM_accept (gRm d) true [gR G o] X M (fun v77 M76 => (k v77 M76)))) ∧ (¬ x5 = 0 → (((0 : Int) ≤ (41 : Int) ∧ (41 : Int) < 42) ∧ (g32 (M (o + 25) (Int.toNat 41)) → (((0 : Int) ≤ x7 ∧ x7 < 218400) ∧ (wp l G y_GM_put (gRm (d + 1)) true (kkI X k) true 361 [.val (gR G o), .unset, .unset, .unset, .unset, .unset, .unset, .unset, .unset, .val (gI x9), .val (gI 0)] [] X (gUp M (o + 22) (Int.toNat x7) (M (o + 25) (Int.toNat 41))) 0 0)))))) : wp l G y_GM_put (gRm (d + 1)) true (kkI X k) true 339 [.val (gR G o), .unset, .unset, .unset, .unset, .val (gI x5), .unset, .val (gI x7), .unset, .val (gI x9), .unset] [] X M 0 0 := by
  refine wp_iload d_GM_put_339 rfl ?_
  refine xz_eq (tgt := 430) d_GM_put_341 (by decide) (w32_id hx5) (fun h80 => ?_) (fun h80 => ?_)
  · have T := T.1 h80
    refine wp_aload_n d_GM_put_430 rfl rfl (g_nz hX.1) ?_
    refine xcV_I (md' := true) (As := []) (st := []) d_GM_put_431 ca_GM_accept ml_GM_555 im_GM_accept se_GM_accept gc_GM hX.1 (gm_o2 hX) hX.2.2.1 rfl (by decide) (by decide) rfl (fun _ => rfl) (fun _ => rfl) T (fun v77 M76 h78 T => ?_)
    exact wp_ireturn d_GM_put_434 rfl (fun _ => rfl) (Nat.zero_le _) (Nat.zero_le _) (kI_mk h78 T)
  · have T := T.2 h80
    refine wp_aload_n d_GM_put_344 rfl rfl (g_nz hX.1) ?_
    refine xgetR d_GM_put_345 gc_GM f_GM_78.1 f_GM_78.2.1 f_GM_78.2.2.1 hX.1 (gm_o2 hX) hX.2.2.1 f_GM_78.2.2.2.2.1 (gm_row hX 21 rfl).1 ?_
    refine wp_iload d_GM_put_348 rfl ?_
    refine wp_aload_n d_GM_put_350 rfl rfl (g_nz hX.1) ?_
    refine xgetR d_GM_put_351 gc_GM f_GM_88.1 f_GM_88.2.1 f_GM_88.2.2.1 hX.1 (gm_o2 hX) hX.2.2.1 f_GM_88.2.2.2.2.1 (gm_row hX 24 rfl).1 ?_
    refine wp_bipush d_GM_put_354 ⟨by decide, by decide⟩ ?_
    refine wp_iaload d_GM_put_356 (gm_row hX 24 rfl).2.2.1 (gm_row hX 24 rfl).2.2.2 (gm_row hX 24 rfl).2.1 (g32_n T.1 (by decide)) T.1.1 T.1.2 (fun h79 => ?_)
    have T := T.2 h79
    refine xiast d_GM_put_357 (gm_row hX 21 rfl).2.2.1 (gm_row hX 21 rfl).2.2.2 (gm_row hX 21 rfl).2.1 (by decide) T.1 (w32_id h79) ?_
    have T := T.2
    refine wp_iconst d_GM_put_358 ?_
    refine wp_istore (L' := [.val (gR G o), .unset, .unset, .unset, .unset, .val (gI x5), .unset, .val (gI x7), .unset, .val (gI x9), .val (gI 0)]) d_GM_put_359 (by decide) rfl ?_
    exact wp_md (wpt T (And.intro rfl (And.intro rfl (And.intro rfl True.intro))))
theorem e_GM_put {l : Launch} {G : gG} {d : Nat} {X : gX} {M : gM} {k : Int → gM → Prop} {o : Nat} {x1 : Int} {x2 : Int} (T : wp l G y_GM_put (gRm (d + 1)) true (kkI X k) false 0 [.val (gR G o), .val (gI x1), .val (gI x2), .unset, .unset, .unset, .unset, .unset, .unset, .unset, .unset] [] X M 0 0) : cI l G y_GM_put (gRm (d + 1)) true [gR G o, gI x1, gI x2] X M k := cen_I (plainFor_of_name rfl) (by simp only [lg_sl_R, lg_sl_I, lg_sl_L, lg_sl_N, List.length_cons, List.length_nil]; decide) (by unfold gEn; simp only [lg_sl_R, lg_sl_I, lg_sl_L, lg_sl_N]; exact wpt T (And.intro rfl (And.intro rfl (And.intro rfl True.intro))))
theorem d_GM_fill_0 : decode prog_15_method_84_code 0 = .ok (.iload_n 1, 1) := by decide +kernel
theorem d_GM_fill_1 : decode prog_15_method_84_code 1 = .ok (.iload_n 2, 1) := by decide +kernel
theorem d_GM_fill_2 : decode prog_15_method_84_code 2 = .ok (.invokestatic 544, 3) := by decide +kernel
theorem d_GM_fill_5 : decode prog_15_method_84_code 5 = .ok (.ifCond .eq 35, 3) := by decide +kernel
theorem d_GM_fill_8 : decode prog_15_method_84_code 8 = .ok (.iload_n 3, 1) := by decide +kernel
theorem d_GM_fill_9 : decode prog_15_method_84_code 9 = .ok (.iload 4, 2) := by decide +kernel
theorem d_GM_fill_11 : decode prog_15_method_84_code 11 = .ok (.invokestatic 544, 3) := by decide +kernel
theorem d_GM_fill_14 : decode prog_15_method_84_code 14 = .ok (.ifCond .eq 26, 3) := by decide +kernel
theorem d_GM_fill_17 : decode prog_15_method_84_code 17 = .ok (.iload 5, 2) := by decide +kernel
theorem d_GM_fill_19 : decode prog_15_method_84_code 19 = .ok (.iload 6, 2) := by decide +kernel
theorem d_GM_fill_21 : decode prog_15_method_84_code 21 = .ok (.invokestatic 544, 3) := by decide +kernel
theorem d_GM_fill_24 : decode prog_15_method_84_code 24 = .ok (.ifCond .eq 16, 3) := by decide +kernel
theorem d_GM_fill_27 : decode prog_15_method_84_code 27 = .ok (.iload_n 3, 1) := by decide +kernel
theorem d_GM_fill_28 : decode prog_15_method_84_code 28 = .ok (.iload 5, 2) := by decide +kernel
theorem d_GM_fill_30 : decode prog_15_method_84_code 30 = .ok (.if_icmp .gt 10, 3) := by decide +kernel
theorem d_GM_fill_33 : decode prog_15_method_84_code 33 = .ok (.iload 4, 2) := by decide +kernel
theorem d_GM_fill_35 : decode prog_15_method_84_code 35 = .ok (.iload 6, 2) := by decide +kernel
theorem d_GM_fill_37 : decode prog_15_method_84_code 37 = .ok (.if_icmp .le 9, 3) := by decide +kernel
theorem d_GM_fill_46 : decode prog_15_method_84_code 46 = .ok (.iload_n 1, 1) := by decide +kernel
theorem d_GM_fill_47 : decode prog_15_method_84_code 47 = .ok (.bipush 26, 2) := by decide +kernel
theorem d_GM_fill_49 : decode prog_15_method_84_code 49 = .ok (.iload_n 2, 1) := by decide +kernel
theorem d_GM_fill_50 : decode prog_15_method_84_code 50 = .ok (.imul, 1) := by decide +kernel
theorem d_GM_fill_51 : decode prog_15_method_84_code 51 = .ok (.iadd, 1) := by decide +kernel
theorem d_GM_fill_52 : decode prog_15_method_84_code 52 = .ok (.istore 7, 2) := by decide +kernel
theorem d_GM_fill_54 : decode prog_15_method_84_code 54 = .ok (.aload_n 0, 1) := by decide +kernel
theorem d_GM_fill_55 : decode prog_15_method_84_code 55 = .ok (.getfield 502, 3) := by decide +kernel
theorem d_GM_fill_58 : decode prog_15_method_84_code 58 = .ok (.invokestatic 505, 3) := by decide +kernel
theorem d_GM_fill_61 : decode prog_15_method_84_code 61 = .ok (.istore 8, 2) := by decide +kernel
theorem d_GM_fill_63 : decode prog_15_method_84_code 63 = .ok (.aload_n 0, 1) := by decide +kernel
theorem d_GM_fill_64 : decode prog_15_method_84_code 64 = .ok (.getfield 69, 3) := by decide +kernel
theorem d_GM_fill_67 : decode prog_15_method_84_code 67 = .ok (.iload 8, 2) := by decide +kernel
theorem d_GM_fill_69 : decode prog_15_method_84_code 69 = .ok (.sipush 5200, 3) := by decide +kernel
theorem d_GM_fill_72 : decode prog_15_method_84_code 72 = .ok (.imul, 1) := by decide +kernel
theorem d_GM_fill_73 : decode prog_15_method_84_code 73 = .ok (.iload 7, 2) := by decide +kernel
theorem d_GM_fill_75 : decode prog_15_method_84_code 75 = .ok (.iadd, 1) := by decide +kernel
theorem d_GM_fill_76 : decode prog_15_method_84_code 76 = .ok (.iaload, 1) := by decide +kernel
theorem d_GM_fill_77 : decode prog_15_method_84_code 77 = .ok (.ifCond .eq 7, 3) := by decide +kernel
theorem d_GM_fill_84 : decode prog_15_method_84_code 84 = .ok (.iconst 0, 1) := by decide +kernel
theorem d_GM_fill_85 : decode prog_15_method_84_code 85 = .ok (.istore 9, 2) := by decide +kernel
theorem d_GM_fill_87 : decode prog_15_method_84_code 87 = .ok (.iconst 0, 1) := by decide +kernel
theorem d_GM_fill_88 : decode prog_15_method_84_code 88 = .ok (.istore 10, 2) := by decide +kernel
theorem d_GM_fill_90 : decode prog_15_method_84_code 90 = .ok (.iconst 0, 1) := by decide +kernel
theorem d_GM_fill_91 : decode prog_15_method_84_code 91 = .ok (.istore 11, 2) := by decide +kernel
theorem d_GM_fill_80 : decode prog_15_method_84_code 80 = .ok (.iconst 1, 1) := by decide +kernel
theorem d_GM_fill_81 : decode prog_15_method_84_code 81 = .ok (.goto 4, 3) := by decide +kernel
theorem d_GM_fill_40 : decode prog_15_method_84_code 40 = .ok (.aload_n 0, 1) := by decide +kernel
theorem d_GM_fill_41 : decode prog_15_method_84_code 41 = .ok (.iconst 1, 1) := by decide +kernel
theorem d_GM_fill_42 : decode prog_15_method_84_code 42 = .ok (.invokevirtual 526, 3) := by decide +kernel
theorem d_GM_fill_45 : decode prog_15_method_84_code 45 = .ok (.ireturn, 1) := by decide +kernel
theorem d_GM_fill_93 : decode prog_15_method_84_code 93 = .ok (.iload 11, 2) := by decide +kernel
theorem d_GM_fill_95 : decode prog_15_method_84_code 95 = .ok (.sipush 5200, 3) := by decide +kernel
theorem d_GM_fill_98 : decode prog_15_method_84_code 98 = .ok (.if_icmp .ge 88, 3) := by decide +kernel
theorem d_GM_fill_186 : decode prog_15_method_84_code 186 = .ok (.iload 10, 2) := by decide +kernel
theorem d_GM_fill_188 : decode prog_15_method_84_code 188 = .ok (.sipush 400, 3) := by decide +kernel
theorem d_GM_fill_191 : decode prog_15_method_84_code 191 = .ok (.if_icmp .le 9, 3) := by decide +kernel
theorem d_GM_fill_200 : decode prog_15_method_84_code 200 = .ok (.aload_n 0, 1) := by decide +kernel
theorem d_GM_fill_201 : decode prog_15_method_84_code 201 = .ok (.bipush 41, 2) := by decide +kernel
theorem d_GM_fill_203 : decode prog_15_method_84_code 203 = .ok (.invokevirtual 272, 3) := by decide +kernel
theorem d_GM_fill_206 : decode prog_15_method_84_code 206 = .ok (.iconst 0, 1) := by decide +kernel
theorem d_GM_fill_207 : decode prog_15_method_84_code 207 = .ok (.istore 11, 2) := by decide +kernel
theorem d_GM_fill_194 : decode prog_15_method_84_code 194 = .ok (.aload_n 0, 1) := by decide +kernel
theorem d_GM_fill_195 : decode prog_15_method_84_code 195 = .ok (.iconst 2, 1) := by decide +kernel
theorem d_GM_fill_196 : decode prog_15_method_84_code 196 = .ok (.invokevirtual 526, 3) := by decide +kernel
theorem d_GM_fill_199 : decode prog_15_method_84_code 199 = .ok (.ireturn, 1) := by decide +kernel
theorem d_GM_fill_101 : decode prog_15_method_84_code 101 = .ok (.iload 11, 2) := by decide +kernel
theorem d_GM_fill_103 : decode prog_15_method_84_code 103 = .ok (.bipush 26, 2) := by decide +kernel
theorem d_GM_fill_105 : decode prog_15_method_84_code 105 = .ok (.irem, 1) := by decide +kernel
theorem d_GM_fill_106 : decode prog_15_method_84_code 106 = .ok (.iload_n 3, 1) := by decide +kernel
theorem d_GM_fill_107 : decode prog_15_method_84_code 107 = .ok (.if_icmp .lt 37, 3) := by decide +kernel
theorem d_GM_fill_110 : decode prog_15_method_84_code 110 = .ok (.iload 11, 2) := by decide +kernel
theorem d_GM_fill_112 : decode prog_15_method_84_code 112 = .ok (.bipush 26, 2) := by decide +kernel
theorem d_GM_fill_114 : decode prog_15_method_84_code 114 = .ok (.irem, 1) := by decide +kernel
theorem d_GM_fill_115 : decode prog_15_method_84_code 115 = .ok (.iload 5, 2) := by decide +kernel
theorem d_GM_fill_117 : decode prog_15_method_84_code 117 = .ok (.if_icmp .gt 27, 3) := by decide +kernel
theorem d_GM_fill_120 : decode prog_15_method_84_code 120 = .ok (.iload 11, 2) := by decide +kernel
theorem d_GM_fill_122 : decode prog_15_method_84_code 122 = .ok (.bipush 26, 2) := by decide +kernel
theorem d_GM_fill_124 : decode prog_15_method_84_code 124 = .ok (.idiv, 1) := by decide +kernel
theorem d_GM_fill_125 : decode prog_15_method_84_code 125 = .ok (.iload 4, 2) := by decide +kernel
theorem d_GM_fill_127 : decode prog_15_method_84_code 127 = .ok (.if_icmp .lt 17, 3) := by decide +kernel
theorem d_GM_fill_130 : decode prog_15_method_84_code 130 = .ok (.iload 11, 2) := by decide +kernel
theorem d_GM_fill_132 : decode prog_15_method_84_code 132 = .ok (.bipush 26, 2) := by decide +kernel
theorem d_GM_fill_134 : decode prog_15_method_84_code 134 = .ok (.idiv, 1) := by decide +kernel
theorem d_GM_fill_135 : decode prog_15_method_84_code 135 = .ok (.iload 6, 2) := by decide +kernel
theorem d_GM_fill_137 : decode prog_15_method_84_code 137 = .ok (.if_icmp .gt 7, 3) := by decide +kernel
theorem d_GM_fill_140 : decode prog_15_method_84_code 140 = .ok (.iconst 1, 1) := by decide +kernel
theorem d_GM_fill_141 : decode prog_15_method_84_code 141 = .ok (.goto 4, 3) := by decide +kernel
theorem d_GM_fill_145 : decode prog_15_method_84_code 145 = .ok (.istore 12, 2) := by decide +kernel
theorem d_GM_fill_147 : decode prog_15_method_84_code 147 = .ok (.iload 12, 2) := by decide +kernel
theorem d_GM_fill_149 : decode prog_15_method_84_code 149 = .ok (.ifCond .eq 11, 3) := by decide +kernel
theorem d_GM_fill_160 : decode prog_15_method_84_code 160 = .ok (.aload_n 0, 1) := by decide +kernel
theorem d_GM_fill_161 : decode prog_15_method_84_code 161 = .ok (.getfield 69, 3) := by decide +kernel
theorem d_GM_fill_164 : decode prog_15_method_84_code 164 = .ok (.iload 8, 2) := by decide +kernel
theorem d_GM_fill_166 : decode prog_15_method_84_code 166 = .ok (.sipush 5200, 3) := by decide +kernel
theorem d_GM_fill_169 : decode prog_15_method_84_code 169 = .ok (.imul, 1) := by decide +kernel
theorem d_GM_fill_170 : decode prog_15_method_84_code 170 = .ok (.iload 11, 2) := by decide +kernel
theorem d_GM_fill_172 : decode prog_15_method_84_code 172 = .ok (.iadd, 1) := by decide +kernel
theorem d_GM_fill_173 : decode prog_15_method_84_code 173 = .ok (.iaload, 1) := by decide +kernel
theorem d_GM_fill_174 : decode prog_15_method_84_code 174 = .ok (.ifCond .eq 6, 3) := by decide +kernel
theorem d_GM_fill_177 : decode prog_15_method_84_code 177 = .ok (.iinc 10 1, 3) := by decide +kernel
theorem d_GM_fill_152 : decode prog_15_method_84_code 152 = .ok (.iload 9, 2) := by decide +kernel
theorem d_GM_fill_154 : decode prog_15_method_84_code 154 = .ok (.ifCond .eq 26, 3) := by decide +kernel
theorem d_GM_fill_157 : decode prog_15_method_84_code 157 = .ok (.goto 20, 3) := by decide +kernel
theorem d_GM_fill_209 : decode prog_15_method_84_code 209 = .ok (.iload 11, 2) := by decide +kernel
theorem d_GM_fill_211 : decode prog_15_method_84_code 211 = .ok (.sipush 5200, 3) := by decide +kernel
theorem d_GM_fill_214 : decode prog_15_method_84_code 214 = .ok (.if_icmp .ge 122, 3) := by decide +kernel
theorem d_GM_fill_336 : decode prog_15_method_84_code 336 = .ok (.aload_n 0, 1) := by decide +kernel
theorem d_GM_fill_337 : decode prog_15_method_84_code 337 = .ok (.invokevirtual 555, 3) := by decide +kernel
theorem d_GM_fill_340 : decode prog_15_method_84_code 340 = .ok (.ireturn, 1) := by decide +kernel
theorem d_GM_fill_217 : decode prog_15_method_84_code 217 = .ok (.iload 11, 2) := by decide +kernel
theorem d_GM_fill_219 : decode prog_15_method_84_code 219 = .ok (.bipush 26, 2) := by decide +kernel
theorem d_GM_fill_221 : decode prog_15_method_84_code 221 = .ok (.irem, 1) := by decide +kernel
theorem d_GM_fill_222 : decode prog_15_method_84_code 222 = .ok (.iload_n 3, 1) := by decide +kernel
theorem d_GM_fill_223 : decode prog_15_method_84_code 223 = .ok (.if_icmp .lt 37, 3) := by decide +kernel
theorem d_GM_fill_226 : decode prog_15_method_84_code 226 = .ok (.iload 11, 2) := by decide +kernel
theorem d_GM_fill_228 : decode prog_15_method_84_code 228 = .ok (.bipush 26, 2) := by decide +kernel
theorem d_GM_fill_230 : decode prog_15_method_84_code 230 = .ok (.irem, 1) := by decide +kernel
theorem d_GM_fill_231 : decode prog_15_method_84_code 231 = .ok (.iload 5, 2) := by decide +kernel
theorem d_GM_fill_233 : decode prog_15_method_84_code 233 = .ok (.if_icmp .gt 27, 3) := by decide +kernel
theorem d_GM_fill_236 : decode prog_15_method_84_code 236 = .ok (.iload 11, 2) := by decide +kernel
theorem d_GM_fill_238 : decode prog_15_method_84_code 238 = .ok (.bipush 26, 2) := by decide +kernel
theorem d_GM_fill_240 : decode prog_15_method_84_code 240 = .ok (.idiv, 1) := by decide +kernel
theorem d_GM_fill_241 : decode prog_15_method_84_code 241 = .ok (.iload 4, 2) := by decide +kernel
theorem d_GM_fill_243 : decode prog_15_method_84_code 243 = .ok (.if_icmp .lt 17, 3) := by decide +kernel
theorem d_GM_fill_246 : decode prog_15_method_84_code 246 = .ok (.iload 11, 2) := by decide +kernel
theorem d_GM_fill_248 : decode prog_15_method_84_code 248 = .ok (.bipush 26, 2) := by decide +kernel
theorem d_GM_fill_250 : decode prog_15_method_84_code 250 = .ok (.idiv, 1) := by decide +kernel
theorem d_GM_fill_251 : decode prog_15_method_84_code 251 = .ok (.iload 6, 2) := by decide +kernel
theorem d_GM_fill_253 : decode prog_15_method_84_code 253 = .ok (.if_icmp .gt 7, 3) := by decide +kernel
theorem d_GM_fill_256 : decode prog_15_method_84_code 256 = .ok (.iconst 1, 1) := by decide +kernel
theorem d_GM_fill_257 : decode prog_15_method_84_code 257 = .ok (.goto 4, 3) := by decide +kernel
theorem d_GM_fill_144 : decode prog_15_method_84_code 144 = .ok (.iconst 0, 1) := by decide +kernel
theorem d_GM_fill_180 : decode prog_15_method_84_code 180 = .ok (.iinc 11 1, 3) := by decide +kernel
theorem d_GM_fill_183 : decode prog_15_method_84_code 183 = .ok (.goto (-90), 3) := by decide +kernel
theorem d_GM_fill_260 : decode prog_15_method_84_code 260 = .ok (.iconst 0, 1) := by decide +kernel
theorem d_GM_fill_261 : decode prog_15_method_84_code 261 = .ok (.istore 12, 2) := by decide +kernel
theorem d_GM_fill_263 : decode prog_15_method_84_code 263 = .ok (.aload_n 0, 1) := by decide +kernel
theorem d_GM_fill_264 : decode prog_15_method_84_code 264 = .ok (.iload 8, 2) := by decide +kernel
theorem d_GM_fill_266 : decode prog_15_method_84_code 266 = .ok (.iload 12, 2) := by decide +kernel
theorem d_GM_fill_268 : decode prog_15_method_84_code 268 = .ok (.ifCond .eq 8, 3) := by decide +kernel
theorem d_GM_fill_276 : decode prog_15_method_84_code 276 = .ok (.iload 11, 2) := by decide +kernel
theorem d_GM_fill_278 : decode prog_15_method_84_code 278 = .ok (.bipush 41, 2) := by decide +kernel
theorem d_GM_fill_280 : decode prog_15_method_84_code 280 = .ok (.iload 11, 2) := by decide +kernel
theorem d_GM_fill_282 : decode prog_15_method_84_code 282 = .ok (.invokevirtual 275, 3) := by decide +kernel
theorem d_GM_fill_285 : decode prog_15_method_84_code 285 = .ok (.iload 12, 2) := by decide +kernel
theorem d_GM_fill_287 : decode prog_15_method_84_code 287 = .ok (.ifCond .eq 43, 3) := by decide +kernel
theorem d_GM_fill_290 : decode prog_15_method_84_code 290 = .ok (.iload 9, 2) := by decide +kernel
theorem d_GM_fill_292 : decode prog_15_method_84_code 292 = .ok (.ifCond .eq 38, 3) := by decide +kernel
theorem d_GM_fill_295 : decode prog_15_method_84_code 295 = .ok (.aload_n 0, 1) := by decide +kernel
theorem d_GM_fill_296 : decode prog_15_method_84_code 296 = .ok (.getfield 69, 3) := by decide +kernel
theorem d_GM_fill_299 : decode prog_15_method_84_code 299 = .ok (.ldc_w 547, 3) := by decide +kernel
theorem d_GM_fill_302 : decode prog_15_method_84_code 302 = .ok (.iload 11, 2) := by decide +kernel
theorem d_GM_fill_304 : decode prog_15_method_84_code 304 = .ok (.iadd, 1) := by decide +kernel
theorem d_GM_fill_305 : decode prog_15_method_84_code 305 = .ok (.iaload, 1) := by decide +kernel
theorem d_GM_fill_306 : decode prog_15_method_84_code 306 = .ok (.iconst 3, 1) := by decide +kernel
theorem d_GM_fill_307 : decode prog_15_method_84_code 307 = .ok (.if_icmp .ne 23, 3) := by decide +kernel
theorem d_GM_fill_310 : decode prog_15_method_84_code 310 = .ok (.aload_n 0, 1) := by decide +kernel
theorem d_GM_fill_311 : decode prog_15_method_84_code 311 = .ok (.iload 11, 2) := by decide +kernel
theorem d_GM_fill_313 : decode prog_15_method_84_code 313 = .ok (.iload 11, 2) := by decide +kernel
theorem d_GM_fill_315 : decode prog_15_method_84_code 315 = .ok (.bipush 26, 2) := by decide +kernel
theorem d_GM_fill_317 : decode prog_15_method_84_code 317 = .ok (.irem, 1) := by decide +kernel
theorem d_GM_fill_318 : decode prog_15_method_84_code 318 = .ok (.iload_n 1, 1) := by decide +kernel
theorem d_GM_fill_319 : decode prog_15_method_84_code 319 = .ok (.isub, 1) := by decide +kernel
theorem d_GM_fill_320 : decode prog_15_method_84_code 320 = .ok (.iload 11, 2) := by decide +kernel
theorem d_GM_fill_322 : decode prog_15_method_84_code 322 = .ok (.bipush 26, 2) := by decide +kernel
theorem d_GM_fill_324 : decode prog_15_method_84_code 324 = .ok (.idiv, 1) := by decide +kernel
theorem d_GM_fill_325 : decode prog_15_method_84_code 325 = .ok (.iload_n 2, 1) := by decide +kernel
theorem d_GM_fill_326 : decode prog_15_method_84_code 326 = .ok (.isub, 1) := by decide +kernel
theorem d_GM_fill_327 : decode prog_15_method_84_code 327 = .ok (.invokevirtual 558, 3) := by decide +kernel
theorem d_GM_fill_271 : decode prog_15_method_84_code 271 = .ok (.iload 7, 2) := by decide +kernel
theorem d_GM_fill_273 : decode prog_15_method_84_code 273 = .ok (.goto 5, 3) := by decide +kernel
theorem d_GM_fill_330 : decode prog_15_method_84_code 330 = .ok (.iinc 11 1, 3) := by decide +kernel
theorem d_GM_fill_333 : decode prog_15_method_84_code 333 = .ok (.goto (-124), 3) := by decide +kernel
set_option maxHeartbeats 4000000 in
theorem w_GM_fill_0 {l : Launch} {G : gG} {d : Nat} {X : gX} {M : gM} {k : Int → gM → Prop} {o : Nat} (hX : gmX X o) {x1 : Int} (hx1 : g32 x1) {x2 : Int} (hx2 : g32 x2) {x3 : Int} (hx3 : g32 x3) {x4 : Int} (hx4 : g32 x4) {x5 : Int} (hx5 : g32 x5) {x6 : Int} (hx6 : g32 x6) (T : cZ l G y_GM_inSheet (gRm d) false [gI x1, gI x2] X M (fun v2 M1 => ((v2 = 0 → (wp l G y_GM_fill (gRm (d + 1)) true (kkI X k) true 40 [.val (gR G o), .unset, .unset, .unset, .unset, .unset, .unset, .unset, .unset, .unset, .unset, .unset, .unset] [] X M1 0 0)) ∧ (¬ v2 = 0 → (cZ l G y_GM_inSheet (gRm d) false [gI x3, gI x4] X M1 (fun v5 M4 => ((v5 = 0 → (wp l G y_GM_fill (gRm (d + 1)) true (kkI X k) true 40 [.val (gR G o), .unset, .unset, .unset, .unset, .unset, .unset, .unset, .unset, .unset, .unset, .unset, .unset] [] X M4 0 0)) ∧ (¬ v5 = 0 → (cZ l G y_GM_inSheet (gRm d) false [gI x5, gI x6] X M4 (fun v8 M7 => ((v8 = 0 → (wp l G y_GM_fill (gRm (d + 1)) true (kkI X k) true 40 [.val (gR G o), .unset, .unset, .unset, .unset, .unset, .unset, .unset, .unset, .unset, .unset, .unset, .unset] [] X M7 0 0)) ∧ (¬ v8 = 0 → ((x5 < x3 → (wp l G y_GM_fill (gRm (d + 1)) true (kkI X k) true 40 [.val (gR G o), .unset, .unset, .unset, .unset, .unset, .unset, .unset, .unset, .unset, .unset, .unset, .unset] [] X M7 0 0)) ∧ (¬ x5 < x3 → ((x4 ≤ x6 → (g32 (M7 o 36) → (cI l G y_GM_slot (gRm d) false [gI (M7 o 36)] X M7 (fun v12 M11 => (((0 : Int) ≤ (v12 * 5200) + (x1 + (26 * x2)) ∧ (v12 * 5200) + (x1 + (26 * x2)) < 218400) ∧ (g32 (M11 (o + 19) (Int.toNat ((v12 * 5200) + (x1 + (26 * x2))))) → ((M11 (o + 19) (Int.toNat ((v12 * 5200) + (x1 + (26 * x2)))) = 0 → (wp l G y_GM_fill (gRm (d + 1)) true (kkI X k) true 93 [.val (gR G o), .val (gI x1), .val (gI x2), .val (gI x3), .val (gI x4), .val (gI x5), .val (gI x6), .val (gI (w32 (x1 + (26 * x2)))), .val (gI v12), .val (gI 0), .val (gI 0), .val (gI 0), .unset] [] X M11 0 0)) ∧ (¬ M11 (o + 19) (Int.toNat ((v12 * 5200) + (x1 + (26 * x2)))) = 0 → (wp l G y_GM_fill (gRm (d + 1)) true (kkI X k) true 93 [.val (gR G o), .val (gI x1), .val (gI x2), .val (gI x3), .val (gI x4), .val (gI x5), .val (gI x6), .val (gI (w32 (x1 + (26 * x2)))), .val (gI v12), .val (gI 1), .val (gI 0), .val (gI 0), .unset] [] X M11 0 0))))))))) ∧ (¬ x4 ≤ x6 → (wp l G y_GM_fill (gRm (d + 1)) true (kkI X k) true 40 [.val (gR G o), .unset, .unset, .unset, .unset, .unset, .unset, .unset, .unset, .unset, .unset, .unset, .unset] [] X M7 0 0))))))))))))))))) : wp l G y_GM_fill (gRm (d + 1)) true (kkI X k) false 0 [.val (gR G o), .val (gI x1), .val (gI x2), .val (gI x3), .val (gI x4), .val (gI x5), .val (gI x6), .unset, .unset, .unset, .unset, .unset, .unset] [] X M 0 0 := by
  refine wp_iload_n d_GM_fill_0 rfl rfl ?_
  refine wp_iload_n d_GM_fill_1 rfl rfl ?_
  refine xcS_Z (md' := false) (As := [gI x1, gI x2]) (st := []) d_GM_fill_2 ca_GM_inSheet ml_GM_544 sm_GM_inSheet rfl (by decide) (by decide) rfl id id T (fun v2 M1 h3 T => ?_)
  refine xz_eq (tgt := 40) d_GM_fill_5 (by decide) (w32_id (g32_z h3)) (fun h20 => ?_) (fun h20 => ?_)
  · have T := T.1 h20
    exact wp_md (wpt T (And.intro rfl True.intro))
  · have T := T.2 h20
    refine wp_iload_n d_GM_fill_8 rfl rfl ?_
    refine wp_iload d_GM_fill_9 rfl ?_
    refine xcS_Z (md' := false) (As := [gI x3, gI x4]) (st := []) d_GM_fill_11 ca_GM_inSheet ml_GM_544 sm_GM_inSheet rfl (by decide) (by decide) rfl id id T (fun v5 M4 h6 T => ?_)
    refine xz_eq (tgt := 40) d_GM_fill_14 (by decide) (w32_id (g32_z h6)) (fun h19 => ?_) (fun h19 => ?_)
    · have T := T.1 h19
      exact wp_md (wpt T (And.intro rfl True.intro))
    · have T := T.2 h19
      refine wp_iload d_GM_fill_17 rfl ?_
      refine wp_iload d_GM_fill_19 rfl ?_
      refine xcS_Z (md' := false) (As := [gI x5, gI x6]) (st := []) d_GM_fill_21 ca_GM_inSheet ml_GM_544 sm_GM_inSheet rfl (by decide) (by decide) rfl id id T (fun v8 M7 h9 T => ?_)
      refine xz_eq (tgt := 40) d_GM_fill_24 (by decide) (w32_id (g32_z h9)) (fun h18 => ?_) (fun h18 => ?_)
      · have T := T.1 h18
        exact wp_md (wpt T (And.intro rfl True.intro))
      · have T := T.2 h18
        refine wp_iload_n d_GM_fill_27 rfl rfl ?_
        refine wp_iload d_GM_fill_28 rfl ?_
        refine xi_gt (tgt := 40) d_GM_fill_30 (by decide) (w32_id hx3) (w32_id hx5) (fun h17 => ?_) (fun h17 => ?_)
        · have T := T.1 h17
          exact wp_md (wpt T (And.intro rfl True.intro))
        · have T := T.2 h17
          refine wp_iload d_GM_fill_33 rfl ?_
          refine wp_iload d_GM_fill_35 rfl ?_
          refine xi_le (tgt := 46) d_GM_fill_37 (by decide) (w32_id hx4) (w32_id hx6) (fun h16 => ?_) (fun h16 => ?_)
          · have T := T.1 h16
            refine wp_iload_n d_GM_fill_46 rfl rfl ?_
            refine wp_bipush d_GM_fill_47 ⟨by decide, by decide⟩ ?_
            refine wp_iload_n d_GM_fill_49 rfl rfl ?_
            refine wp_imul d_GM_fill_50 ?_
            refine wp_iadd d_GM_fill_51 ?_
            refine wp_istore (L' := [.val (gR G o), .val (gI x1), .val (gI x2), .val (gI x3), .val (gI x4), .val (gI x5), .val (gI x6), .val (gI (x1 + (26 * x2))), .unset, .unset, .unset, .unset, .unset]) d_GM_fill_52 (by decide) rfl ?_
            refine wp_aload_n d_GM_fill_54 rfl rfl (g_nz hX.1) ?_
            refine xgetI d_GM_fill_55 gc_GM f_GM_502.1 f_GM_502.2.1 f_GM_502.2.2.1 hX.1 (gm_o2 hX) hX.2.2.1 f_GM_502.2.2.2.2.1 (fun h10 => ?_)
            have T := T h10
            refine xcS_I (md' := false) (As := [gI (M7 o 36)]) (st := []) d_GM_fill_58 ca_GM_slot ml_GM_505 sm_GM_slot rfl (by decide) (by decide) rfl id id T (fun v12 M11 h13 T => ?_)
            refine wp_istore (L' := [.val (gR G o), .val (gI x1), .val (gI x2), .val (gI x3), .val (gI x4), .val (gI x5), .val (gI x6), .val (gI (x1 + (26 * x2))), .val (gI v12), .unset, .unset, .unset, .unset]) d_GM_fill_61 (by decide) rfl ?_
            refine wp_aload_n d_GM_fill_63 rfl rfl (g_nz hX.1) ?_
            refine xgetR d_GM_fill_64 gc_GM f_GM_69.1 f_GM_69.2.1 f_GM_69.2.2.1 hX.1 (gm_o2 hX) hX.2.2.1 f_GM_69.2.2.2.2.1 (gm_row hX 18 rfl).1 ?_
            refine wp_iload d_GM_fill_67 rfl ?_
            refine wp_sipush d_GM_fill_69 ⟨by decide, by decide⟩ ?_
            refine wp_imul d_GM_fill_72 ?_
            refine wp_iload d_GM_fill_73 rfl ?_
            refine wp_iadd d_GM_fill_75 ?_
            refine wp_iaload d_GM_fill_76 (gm_row hX 18 rfl).2.2.1 (gm_row hX 18 rfl).2.2.2 (gm_row hX 18 rfl).2.1 (g32_n T.1 (by decide)) T.1.1 T.1.2 (fun h14 => ?_)
            have T := T.2 h14
            refine xz_eq (tgt := 84) d_GM_fill_77 (by decide) (w32_id h14) (fun h15 => ?_) (fun h15 => ?_)
            · have T := T.1 h15
              refine wp_iconst d_GM_fill_84 ?_
              refine wp_istore (L' := [.val (gR G o), .val (gI x1), .val (gI x2), .val (gI x3), .val (gI x4), .val (gI x5), .val (gI x6), .val (gI (x1 + (26 * x2))), .val (gI v12), .val (gI 0), .unset, .unset, .unset]) d_GM_fill_85 (by decide) rfl ?_
              refine wp_iconst d_GM_fill_87 ?_
              refine wp_istore (L' := [.val (gR G o), .val (gI x1), .val (gI x2), .val (gI x3), .val (gI x4), .val (gI x5), .val (gI x6), .val (gI (x1 + (26 * x2))), .val (gI v12), .val (gI 0), .val (gI 0), .unset, .unset]) d_GM_fill_88 (by decide) rfl ?_
              refine wp_iconst d_GM_fill_90 ?_
              refine wp_istore (L' := [.val (gR G o), .val (gI x1), .val (gI x2), .val (gI x3), .val (gI x4), .val (gI x5), .val (gI x6), .val (gI (x1 + (26 * x2))), .val (gI v12), .val (gI 0), .val (gI 0), .val (gI 0), .unset]) d_GM_fill_91 (by decide) rfl ?_
              exact wp_md (wpt T (And.intro rfl (And.intro rfl (And.intro rfl (And.intro rfl (And.intro rfl (And.intro rfl (And.intro rfl (And.intro (gI_w _) (And.intro rfl (And.intro rfl (And.intro rfl (And.intro rfl True.intro)))))))))))))
            · have T := T.2 h15
              refine wp_iconst d_GM_fill_80 ?_
              refine wp_goto (tgt := 85) d_GM_fill_81 (by decide) ?_
              refine wp_istore (L' := [.val (gR G o), .val (gI x1), .val (gI x2), .val (gI x3), .val (gI x4), .val (gI x5), .val (gI x6), .val (gI (x1 + (26 * x2))), .val (gI v12), .val (gI 1), .unset, .unset, .unset]) d_GM_fill_85 (by decide) rfl ?_
              refine wp_iconst d_GM_fill_87 ?_
              refine wp_istore (L' := [.val (gR G o), .val (gI x1), .val (gI x2), .val (gI x3), .val (gI x4), .val (gI x5), .val (gI x6), .val (gI (x1 + (26 * x2))), .val (gI v12), .val (gI 1), .val (gI 0), .unset, .unset]) d_GM_fill_88 (by decide) rfl ?_
              refine wp_iconst d_GM_fill_90 ?_
              refine wp_istore (L' := [.val (gR G o), .val (gI x1), .val (gI x2), .val (gI x3), .val (gI x4), .val (gI x5), .val (gI x6), .val (gI (x1 + (26 * x2))), .val (gI v12), .val (gI 1), .val (gI 0), .val (gI 0), .unset]) d_GM_fill_91 (by decide) rfl ?_
              exact wp_md (wpt T (And.intro rfl (And.intro rfl (And.intro rfl (And.intro rfl (And.intro rfl (And.intro rfl (And.intro rfl (And.intro (gI_w _) (And.intro rfl (And.intro rfl (And.intro rfl (And.intro rfl True.intro)))))))))))))
          · have T := T.2 h16
            exact wp_md (wpt T (And.intro rfl True.intro))
set_option maxHeartbeats 4000000 in
theorem w_GM_fill_40 {l : Launch} {G : gG} {d : Nat} {X : gX} {M : gM} {k : Int → gM → Prop} {o : Nat} (hX : gmX X o)  (T : cI l G y_GM_no (gRm d) true [gR G o, gI 1] X M (fun v22 M21 => (k v22 M21))) : wp l G y_GM_fill (gRm (d + 1)) true (kkI X k) true 40 [.val (gR G o), .unset, .unset, .unset, .unset, .unset, .unset, .unset, .unset, .unset, .unset, .unset, .unset] [] X M 0 0 := by
  refine wp_aload_n d_GM_fill_40 rfl rfl (g_nz hX.1) ?_
  refine wp_iconst d_GM_fill_41 ?_
  refine xcV_I (md' := true) (As := [gI 1]) (st := []) d_GM_fill_42 ca_GM_no ml_GM_526 im_GM_no se_GM_no gc_GM hX.1 (gm_o2 hX) hX.2.2.1 rfl (by decide) (by decide) rfl (fun _ => rfl) (fun _ => rfl) T (fun v22 M21 h23 T => ?_)
  exact wp_ireturn d_GM_fill_45 rfl (fun _ => rfl) (Nat.zero_le _) (Nat.zero_le _) (kI_mk h23 T)
set_option maxHeartbeats 4000000 in
theorem w_GM_fill_93 {l : Launch} {G : gG} {d : Nat} {X : gX} {M : gM} {k : Int → gM → Prop} {o : Nat} (hX : gmX X o) {x1 : Int} (hx1 : g32 x1) {x2 : Int} (hx2 : g32 x2) {x3 : Int} (hx3 : g32 x3) {x4 : Int} (hx4 : g32 x4) {x5 : Int} (hx5 : g32 x5) {x6 : Int} (hx6 : g32 x6) {x7 : Int} (hx7 : g32 x7) {x8 : Int} (hx8 : g32 x8) {x9 : Int} (hx9 : g32 x9) {x10 : Int} (hx10 : g32 x10) {x11 : Int} (hx11 : g32 x11) (T : (5200 ≤ x11 → ((x10 ≤ 400 → (cV l G y_GM_clear (gRm d) true [gR G o, gI 41] X M (fun M24 => (wp l G y_GM_fill (gRm (d + 1)) true (kkI X k) true 209 [.val (gR G o), .val (gI x1), .val (gI x2), .val (gI x3), .val (gI x4), .val (gI x5), .val (gI x6), .val (gI x7), .val (gI x8), .val (gI x9), .unset, .val (gI 0), .unset] [] X M24 0 0)))) ∧ (¬ x10 ≤ 400 → (cI l G y_GM_no (gRm d) true [gR G o, gI 2] X M (fun v26 M25 => (k v26 M25)))))) ∧ (¬ 5200 ≤ x11 → (((w32 (x11.tmod 26)) < x3 → (wp l G y_GM_fill (gRm (d + 1)) true (kkI X k) true 144 [.val (gR G o), .val (gI x1), .val (gI x2), .val (gI x3), .val (gI x4), .val (gI x5), .val (gI x6), .val (gI x7), .val (gI x8), .val (gI x9), .val (gI x10), .val (gI x11), .unset] [] X M 0 0)) ∧ (¬ (w32 (x11.tmod 26)) < x3 → ((x5 < (w32 (x11.tmod 26)) → (wp l G y_GM_fill (gRm (d + 1)) true (kkI X k) true 144 [.val (gR G o), .val (gI x1), .val (gI x2), .val (gI x3), .val (gI x4), .val (gI x5), .val (gI x6), .val (gI x7), .val (gI x8), .val (gI x9), .val (gI x10), .val (gI x11), .unset] [] X M 0 0)) ∧ (¬ x5 < (w32 (x11.tmod 26)) → (((w32 (x11.tdiv 26)) < x4 → (wp l G y_GM_fill (gRm (d + 1)) true (kkI X k) true 144 [.val (gR G o), .val (gI x1), .val (gI x2), .val (gI x3), .val (gI x4), .val (gI x5), .val (gI x6), .val (gI x7), .val (gI x8), .val (gI x9), .val (gI x10), .val (gI x11), .unset] [] X M 0 0)) ∧ (¬ (w32 (x11.tdiv 26)) < x4 → ((x6 < (w32 (x11.tdiv 26)) → (wp l G y_GM_fill (gRm (d + 1)) true (kkI X k) true 144 [.val (gR G o), .val (gI x1), .val (gI x2), .val (gI x3), .val (gI x4), .val (gI x5), .val (gI x6), .val (gI x7), .val (gI x8), .val (gI x9), .val (gI x10), .val (gI x11), .unset] [] X M 0 0)) ∧ (¬ x6 < (w32 (x11.tdiv 26)) → (((1 : Int) = 0 → (((0 : Int) ≤ (x8 * 5200) + x11 ∧ (x8 * 5200) + x11 < 218400) ∧ (g32 (M (o + 19) (Int.toNat ((x8 * 5200) + x11))) → ((M (o + 19) (Int.toNat ((x8 * 5200) + x11)) = 0 → (wp l G y_GM_fill (gRm (d + 1)) true (kkI X k) true 180 [.val (gR G o), .val (gI x1), .val (gI x2), .val (gI x3), .val (gI x4), .val (gI x5), .val (gI x6), .val (gI x7), .val (gI x8), .val (gI x9), .val (gI x10), .val (gI x11), .unset] [] X M 0 0)) ∧ (¬ M (o + 19) (Int.toNat ((x8 * 5200) + x11)) = 0 → (wp l G y_GM_fill (gRm (d + 1)) true (kkI X k) true 180 [.val (gR G o), .val (gI x1), .val (gI x2), .val (gI x3), .val (gI x4), .val (gI x5), .val (gI x6), .val (gI x7), .val (gI x8), .val (gI x9), .val (gI (w32 (x10 + 1))), .val (gI x11), .unset] [] X M 0 0)))))) ∧ (¬ (1 : Int) = 0 → ((x9 = 0 → (wp l G y_GM_fill (gRm (d + 1)) true (kkI X k) true 180 [.val (gR G o), .val (gI x1), .val (gI x2), .val (gI x3), .val (gI x4), .val (gI x5), .val (gI x6), .val (gI x7), .val (gI x8), .val (gI x9), .val (gI x10), .val (gI x11), .unset] [] X M 0 0)) ∧ (¬ x9 = 0 → (wp l G y_GM_fill (gRm (d + 1)) true (kkI X k) true 180 [.val (gR G o), .val (gI x1), .val (gI x2), .val (gI x3), .val (gI x4), .val (gI x5), .val (gI x6), .val (gI x7), .val (gI x8), .val (gI x9), .val (gI (w32 (x10 + 1))), .val (gI x11), .unset] [] X M 0 0))))))))))))))) : wp l G y_GM_fill (gRm (d + 1)) true (kkI X k) true 93 [.val (gR G o), .val (gI x1), .val (gI x2), .val (gI x3), .val (gI x4), .val (gI x5), .val (gI x6), .val (gI x7), .val (gI x8), .val (gI x9), .val (gI x10), .val (gI x11), .unset] [] X M 0 0 := by
  refine wp_iload d_GM_fill_93 rfl ?_
  refine wp_sipush d_GM_fill_95 ⟨by decide, by decide⟩ ?_
  refine xi_ge (tgt := 186) d_GM_fill_98 (by decide) (w32_id hx11) (w32_id (g32_c (x := 5200) rfl)) (fun h37 => ?_) (fun h37 => ?_)
  · have T := T.1 h37
    refine wp_iload d_GM_fill_186 rfl ?_
    refine wp_sipush d_GM_fill_188 ⟨by decide, by decide⟩ ?_
    refine xi_le (tgt := 200) d_GM_fill_191 (by decide) (w32_id hx10) (w32_id (g32_c (x := 400) rfl)) (fun h28 => ?_) (fun h28 => ?_)
    · have T := T.1 h28
      refine wp_aload_n d_GM_fill_200 rfl rfl (g_nz hX.1) ?_
      refine wp_bipush d_GM_fill_201 ⟨by decide, by decide⟩ ?_
      refine xcV_V (md' := true) (As := [gI 41]) (st := []) d_GM_fill_203 ca_GM_clear ml_GM_272 im_GM_clear se_GM_clear gc_GM hX.1 (gm_o2 hX) hX.2.2.1 rfl (by decide) (by decide) rfl (fun _ => rfl) (fun _ => rfl) T (fun M24 T => ?_)
      refine wp_iconst d_GM_fill_206 ?_
      refine wp_istore (L' := [.val (gR G o), .val (gI x1), .val (gI x2), .val (gI x3), .val (gI x4), .val (gI x5), .val (gI x6), .val (gI x7), .val (gI x8), .val (gI x9), .val (gI x10), .val (gI 0), .unset]) d_GM_fill_207 (by decide) rfl ?_
      exact wp_md (wpt T (And.intro rfl (And.intro rfl (And.intro rfl (And.intro rfl (And.intro rfl (And.intro rfl (And.intro rfl (And.intro rfl (And.intro rfl (And.intro rfl (And.intro rfl True.intro))))))))))))
    · have T := T.2 h28
      refine wp_aload_n d_GM_fill_194 rfl rfl (g_nz hX.1) ?_
      refine wp_iconst d_GM_fill_195 ?_
      refine xcV_I (md' := true) (As := [gI 2]) (st := []) d_GM_fill_196 ca_GM_no ml_GM_526 im_GM_no se_GM_no gc_GM hX.1 (gm_o2 hX) hX.2.2.1 rfl (by decide) (by decide) rfl (fun _ => rfl) (fun _ => rfl) T (fun v26 M25 h27 T => ?_)
      exact wp_ireturn d_GM_fill_199 rfl (fun _ => rfl) (Nat.zero_le _) (Nat.zero_le _) (kI_mk h27 T)
  · have T := T.2 h37
    refine wp_iload d_GM_fill_101 rfl ?_
    refine wp_bipush d_GM_fill_103 ⟨by decide, by decide⟩ ?_
    refine xirem d_GM_fill_105 (w32_id hx11) (w32_id (g32_c (x := 26) rfl)) (by decide) ?_
    refine wp_iload_n d_GM_fill_106 rfl rfl ?_
    refine xi_lt (tgt := 144) d_GM_fill_107 (by decide) rfl (w32_id hx3) (fun h36 => ?_) (fun h36 => ?_)
    · have T := T.1 h36
      exact wp_md (wpt T (And.intro rfl (And.intro rfl (And.intro rfl (And.intro rfl (And.intro rfl (And.intro rfl (And.intro rfl (And.intro rfl (And.intro rfl (And.intro rfl (And.intro rfl (And.intro rfl True.intro)))))))))))))
    · have T := T.2 h36
      refine wp_iload d_GM_fill_110 rfl ?_
      refine wp_bipush d_GM_fill_112 ⟨by decide, by decide⟩ ?_
      refine xirem d_GM_fill_114 (w32_id hx11) (w32_id (g32_c (x := 26) rfl)) (by decide) ?_
      refine wp_iload d_GM_fill_115 rfl ?_
      refine xi_gt (tgt := 144) d_GM_fill_117 (by decide) rfl (w32_id hx5) (fun h35 => ?_) (fun h35 => ?_)
      · have T := T.1 h35
        exact wp_md (wpt T (And.intro rfl (And.intro rfl (And.intro rfl (And.intro rfl (And.intro rfl (And.intro rfl (And.intro rfl (And.intro rfl (And.intro rfl (And.intro rfl (And.intro rfl (And.intro rfl True.intro)))))))))))))
      · have T := T.2 h35
        refine wp_iload d_GM_fill_120 rfl ?_
        refine wp_bipush d_GM_fill_122 ⟨by decide, by decide⟩ ?_
        refine xidiv d_GM_fill_124 (w32_id hx11) (w32_id (g32_c (x := 26) rfl)) (by decide) ?_
        refine wp_iload d_GM_fill_125 rfl ?_
        refine xi_lt (tgt := 144) d_GM_fill_127 (by decide) rfl (w32_id hx4) (fun h34 => ?_) (fun h34 => ?_)
        · have T := T.1 h34
          exact wp_md (wpt T (And.intro rfl (And.intro rfl (And.intro rfl (And.intro rfl (And.intro rfl (And.intro rfl (And.intro rfl (And.intro rfl (And.intro rfl (And.intro rfl (And.intro rfl (And.intro rfl True.intro)))))))))))))
        · have T := T.2 h34
          refine wp_iload d_GM_fill_130 rfl ?_
          refine wp_bipush d_GM_fill_132 ⟨by decide, by decide⟩ ?_
          refine xidiv d_GM_fill_134 (w32_id hx11) (w32_id (g32_c (x := 26) rfl)) (by decide) ?_
          refine wp_iload d_GM_fill_135 rfl ?_
          refine xi_gt (tgt := 144) d_GM_fill_137 (by decide) rfl (w32_id hx6) (fun h33 => ?_) (fun h33 => ?_)
          · have T := T.1 h33
            exact wp_md (wpt T (And.intro rfl (And.intro rfl (And.intro rfl (And.intro rfl (And.intro rfl (And.intro rfl (And.intro rfl (And.intro rfl (And.intro rfl (And.intro rfl (And.intro rfl (And.intro rfl True.intro)))))))))))))
          · have T := T.2 h33
            refine wp_iconst d_GM_fill_140 ?_
            refine wp_goto (tgt := 145) d_GM_fill_141 (by decide) ?_
            refine wp_istore (L' := [.val (gR G o), .val (gI x1), .val (gI x2), .val (gI x3), .val (gI x4), .val (gI x5), .val (gI x6), .val (gI x7), .val (gI x8), .val (gI x9), .val (gI x10), .val (gI x11), .val (gI 1)]) d_GM_fill_145 (by decide) rfl ?_
            refine wp_iload d_GM_fill_147 rfl ?_
            refine xz_eq (tgt := 160) d_GM_fill_149 (by decide) (w32_id (g32_c (x := 1) rfl)) (fun h32 => ?_) (fun h32 => ?_)
            · have T := T.1 h32
              refine wp_aload_n d_GM_fill_160 rfl rfl (g_nz hX.1) ?_
              refine xgetR d_GM_fill_161 gc_GM f_GM_69.1 f_GM_69.2.1 f_GM_69.2.2.1 hX.1 (gm_o2 hX) hX.2.2.1 f_GM_69.2.2.2.2.1 (gm_row hX 18 rfl).1 ?_
              refine wp_iload d_GM_fill_164 rfl ?_
              refine wp_sipush d_GM_fill_166 ⟨by decide, by decide⟩ ?_
              refine wp_imul d_GM_fill_169 ?_
              refine wp_iload d_GM_fill_170 rfl ?_
              refine wp_iadd d_GM_fill_172 ?_
              refine wp_iaload d_GM_fill_173 (gm_row hX 18 rfl).2.2.1 (gm_row hX 18 rfl).2.2.2 (gm_row hX 18 rfl).2.1 (g32_n T.1 (by decide)) T.1.1 T.1.2 (fun h29 => ?_)
              have T := T.2 h29
              refine xz_eq (tgt := 180) d_GM_fill_174 (by decide) (w32_id h29) (fun h30 => ?_) (fun h30 => ?_)
              · have T := T.1 h30
                exact wp_md (wpt T (And.intro rfl (And.intro rfl (And.intro rfl (And.intro rfl (And.intro rfl (And.intro rfl (And.intro rfl (And.intro rfl (And.intro rfl (And.intro rfl (And.intro rfl (And.intro rfl True.intro)))))))))))))
              · have T := T.2 h30
                refine wp_iinc (L' := [.val (gR G o), .val (gI x1), .val (gI x2), .val (gI x3), .val (gI x4), .val (gI x5), .val (gI x6), .val (gI x7), .val (gI x8), .val (gI x9), .val (gI (x10 + 1)), .val (gI x11), .val (gI 1)]) d_GM_fill_177 rfl (by decide) rfl ?_
                exact wp_md (wpt T (And.intro rfl (And.intro rfl (And.intro rfl (And.intro rfl (And.intro rfl (And.intro rfl (And.intro rfl (And.intro rfl (And.intro rfl (And.intro rfl (And.intro (gI_w _) (And.intro rfl True.intro)))))))))))))
            · have T := T.2 h32
              refine wp_iload d_GM_fill_152 rfl ?_
              refine xz_eq (tgt := 180) d_GM_fill_154 (by decide) (w32_id hx9) (fun h31 => ?_) (fun h31 => ?_)
              · have T := T.1 h31
                exact wp_md (wpt T (And.intro rfl (And.intro rfl (And.intro rfl (And.intro rfl (And.intro rfl (And.intro rfl (And.intro rfl (And.intro rfl (And.intro rfl (And.intro rfl (And.intro rfl (And.intro rfl True.intro)))))))))))))
              · have T := T.2 h31
                refine wp_goto (tgt := 177) d_GM_fill_157 (by decide) ?_
                refine wp_iinc (L' := [.val (gR G o), .val (gI x1), .val (gI x2), .val (gI x3), .val (gI x4), .val (gI x5), .val (gI x6), .val (gI x7), .val (gI x8), .val (gI x9), .val (gI (x10 + 1)), .val (gI x11), .val (gI 1)]) d_GM_fill_177 rfl (by decide) rfl ?_
                exact wp_md (wpt T (And.intro rfl (And.intro rfl (And.intro rfl (And.intro rfl (And.intro rfl (And.intro rfl (And.intro rfl (And.intro rfl (And.intro rfl (And.intro rfl (And.intro (gI_w _) (And.intro rfl True.intro)))))))))))))
set_option maxHeartbeats 4000000 in
theorem w_GM_fill_209 {l : Launch} {G : gG} {d : Nat} {X : gX} {M : gM} {k : Int → gM → Prop} {o : Nat} (hX : gmX X o) {x1 : Int} (hx1 : g32 x1) {x2 : Int} (hx2 : g32 x2) {x3 : Int} (hx3 : g32 x3) {x4 : Int} (hx4 : g32 x4) {x5 : Int} (hx5 : g32 x5) {x6 : Int} (hx6 : g32 x6) {x7 : Int} (hx7 : g32 x7) {x8 : Int} (hx8 : g32 x8) {x9 : Int} (hx9 : g32 x9) {x11 : Int} (hx11 : g32 x11) (T : (5200 ≤ x11 → (cI l G y_GM_accept (gRm d) true [gR G o] X M (fun v39 M38 => (k v39 M38)))) ∧ (¬ 5200 ≤ x11 → (((w32 (x11.tmod 26)) < x3 → (wp l G y_GM_fill (gRm (d + 1)) true (kkI X k) true 260 [.val (gR G o), .val (gI x1), .val (gI x2), .val (gI x3), .val (gI x4), .val (gI x5), .val (gI x6), .val (gI x7), .val (gI x8), .val (gI x9), .unset, .val (gI x11), .unset] [] X M 0 0)) ∧ (¬ (w32 (x11.tmod 26)) < x3 → ((x5 < (w32 (x11.tmod 26)) → (wp l G y_GM_fill (gRm (d + 1)) true (kkI X k) true 260 [.val (gR G o), .val (gI x1), .val (gI x2), .val (gI x3), .val (gI x4), .val (gI x5), .val (gI x6), .val (gI x7), .val (gI x8), .val (gI x9), .unset, .val (gI x11), .unset] [] X M 0 0)) ∧ (¬ x5 < (w32 (x11.tmod 26)) → (((w32 (x11.tdiv 26)) < x4 → (wp l G y_GM_fill (gRm (d + 1)) true (kkI X k) true 260 [.val (gR G o), .val (gI x1), .val (gI x2), .val (gI x3), .val (gI x4), .val (gI x5), .val (gI x6), .val (gI x7), .val (gI x8), .val (gI x9), .unset, .val (gI x11), .unset] [] X M 0 0)) ∧ (¬ (w32 (x11.tdiv 26)) < x4 → ((x6 < (w32 (x11.tdiv 26)) → (wp l G y_GM_fill (gRm (d + 1)) true (kkI X k) true 260 [.val (gR G o), .val (gI x1), .val (gI x2), .val (gI x3), .val (gI x4), .val (gI x5), .val (gI x6), .val (gI x7), .val (gI x8), .val (gI x9), .unset, .val (gI x11), .unset] [] X M 0 0)) ∧ (¬ x6 < (w32 (x11.tdiv 26)) → (wp l G y_GM_fill (gRm (d + 1)) true (kkI X k) true 261 [.val (gR G o), .val (gI x1), .val (gI x2), .val (gI x3), .val (gI x4), .val (gI x5), .val (gI x6), .val (gI x7), .val (gI x8), .val (gI x9), .unset, .val (gI x11), .unset] [gI 1] X M 0 0))))))))))) : wp l G y_GM_fill (gRm (d + 1)) true (kkI X k) true 209 [.val (gR G o), .val (gI x1), .val (gI x2), .val (gI x3), .val (gI x4), .val (gI x5), .val (gI x6), .val (gI x7), .val (gI x8), .val (gI x9), .unset, .val (gI x11), .unset] [] X M 0 0 := by
  refine wp_iload d_GM_fill_209 rfl ?_
  refine wp_sipush d_GM_fill_211 ⟨by decide, by decide⟩ ?_
  refine xi_ge (tgt := 336) d_GM_fill_214 (by decide) (w32_id hx11) (w32_id (g32_c (x := 5200) rfl)) (fun h45 => ?_) (fun h45 => ?_)
  · have T := T.1 h45
    refine wp_aload_n d_GM_fill_336 rfl rfl (g_nz hX.1) ?_
    refine xcV_I (md' := true) (As := []) (st := []) d_GM_fill_337 ca_GM_accept ml_GM_555 im_GM_accept se_GM_accept gc_GM hX.1 (gm_o2 hX) hX.2.2.1 rfl (by decide) (by decide) rfl (fun _ => rfl) (fun _ => rfl) T (fun v39 M38 h40 T => ?_)
    exact wp_ireturn d_GM_fill_340 rfl (fun _ => rfl) (Nat.zero_le _) (Nat.zero_le _) (kI_mk h40 T)
  · have T := T.2 h45
    refine wp_iload d_GM_fill_217 rfl ?_
    refine wp_bipush d_GM_fill_219 ⟨by decide, by decide⟩ ?_
    refine xirem d_GM_fill_221 (w32_id hx11) (w32_id (g32_c (x := 26) rfl)) (by decide) ?_
    refine wp_iload_n d_GM_fill_222 rfl rfl ?_
    refine xi_lt (tgt := 260) d_GM_fill_223 (by decide) rfl (w32_id hx3) (fun h44 => ?_) (fun h44 => ?_)
    · have T := T.1 h44
      exact wp_md (wpt T (And.intro rfl (And.intro rfl (And.intro rfl (And.intro rfl (And.intro rfl (And.intro rfl (And.intro rfl (And.intro rfl (And.intro rfl (And.intro rfl (And.intro rfl True.intro))))))))))))
    · have T := T.2 h44
      refine wp_iload d_GM_fill_226 rfl ?_
      refine wp_bipush d_GM_fill_228 ⟨by decide, by decide⟩ ?_
      refine xirem d_GM_fill_230 (w32_id hx11) (w32_id (g32_c (x := 26) rfl)) (by decide) ?_
      refine wp_iload d_GM_fill_231 rfl ?_
      refine xi_gt (tgt := 260) d_GM_fill_233 (by decide) rfl (w32_id hx5) (fun h43 => ?_) (fun h43 => ?_)
      · have T := T.1 h43
        exact wp_md (wpt T (And.intro rfl (And.intro rfl (And.intro rfl (And.intro rfl (And.intro rfl (And.intro rfl (And.intro rfl (And.intro rfl (And.intro rfl (And.intro rfl (And.intro rfl True.intro))))))))))))
      · have T := T.2 h43
        refine wp_iload d_GM_fill_236 rfl ?_
        refine wp_bipush d_GM_fill_238 ⟨by decide, by decide⟩ ?_
        refine xidiv d_GM_fill_240 (w32_id hx11) (w32_id (g32_c (x := 26) rfl)) (by decide) ?_
        refine wp_iload d_GM_fill_241 rfl ?_
        refine xi_lt (tgt := 260) d_GM_fill_243 (by decide) rfl (w32_id hx4) (fun h42 => ?_) (fun h42 => ?_)
        · have T := T.1 h42
          exact wp_md (wpt T (And.intro rfl (And.intro rfl (And.intro rfl (And.intro rfl (And.intro rfl (And.intro rfl (And.intro rfl (And.intro rfl (And.intro rfl (And.intro rfl (And.intro rfl True.intro))))))))))))
        · have T := T.2 h42
          refine wp_iload d_GM_fill_246 rfl ?_
          refine wp_bipush d_GM_fill_248 ⟨by decide, by decide⟩ ?_
          refine xidiv d_GM_fill_250 (w32_id hx11) (w32_id (g32_c (x := 26) rfl)) (by decide) ?_
          refine wp_iload d_GM_fill_251 rfl ?_
          refine xi_gt (tgt := 260) d_GM_fill_253 (by decide) rfl (w32_id hx6) (fun h41 => ?_) (fun h41 => ?_)
          · have T := T.1 h41
            exact wp_md (wpt T (And.intro rfl (And.intro rfl (And.intro rfl (And.intro rfl (And.intro rfl (And.intro rfl (And.intro rfl (And.intro rfl (And.intro rfl (And.intro rfl (And.intro rfl True.intro))))))))))))
          · have T := T.2 h41
            refine wp_iconst d_GM_fill_256 ?_
            refine wp_goto (tgt := 261) d_GM_fill_257 (by decide) ?_
            exact wp_md (wpt T (And.intro rfl (And.intro rfl (And.intro rfl (And.intro rfl (And.intro rfl (And.intro rfl (And.intro rfl (And.intro rfl (And.intro rfl (And.intro rfl (And.intro rfl True.intro))))))))))))
set_option maxHeartbeats 4000000 in
theorem w_GM_fill_144 {l : Launch} {G : gG} {d : Nat} {X : gX} {M : gM} {k : Int → gM → Prop} {o : Nat} (hX : gmX X o) {x1 : Int} (hx1 : g32 x1) {x2 : Int} (hx2 : g32 x2) {x3 : Int} (hx3 : g32 x3) {x4 : Int} (hx4 : g32 x4) {x5 : Int} (hx5 : g32 x5) {x6 : Int} (hx6 : g32 x6) {x7 : Int} (hx7 : g32 x7) {x8 : Int} (hx8 : g32 x8) {x9 : Int} (hx9 : g32 x9) {x10 : Int} (hx10 : g32 x10) {x11 : Int} (hx11 : g32 x11) (T : ((0 : Int) = 0 → (((0 : Int) ≤ (x8 * 5200) + x11 ∧ (x8 * 5200) + x11 < 218400) ∧ (g32 (M (o + 19) (Int.toNat ((x8 * 5200) + x11))) → ((M (o + 19) (Int.toNat ((x8 * 5200) + x11)) = 0 → (wp l G y_GM_fill (gRm (d + 1)) true (kkI X k) true 180 [.val (gR G o), .val (gI x1), .val (gI x2), .val (gI x3), .val (gI x4), .val (gI x5), .val (gI x6), .val (gI x7), .val (gI x8), .val (gI x9), .val (gI x10), .val (gI x11), .unset] [] X M 0 0)) ∧ (¬ M (o + 19) (Int.toNat ((x8 * 5200) + x11)) = 0 → (wp l G y_GM_fill (gRm (d + 1)) true (kkI X k) true 180 [.val (gR G o), .val (gI x1), .val (gI x2), .val (gI x3), .val (gI x4), .val (gI x5), .val (gI x6), .val (gI x7), .val (gI x8), .val (gI x9), .val (gI (w32 (x10 + 1))), .val (gI x11), .unset] [] X M 0 0)))))) ∧ (¬ (0 : Int) = 0 → ((x9 = 0 → (wp l G y_GM_fill (gRm (d + 1)) true (kkI X k) true 180 [.val (gR G o), .val (gI x1), .val (gI x2), .val (gI x3), .val (gI x4), .val (gI x5), .val (gI x6), .val (gI x7), .val (gI x8), .val (gI x9), .val (gI x10), .val (gI x11), .unset] [] X M 0 0)) ∧ (¬ x9 = 0 → (wp l G y_GM_fill (gRm (d + 1)) true (kkI X k) true 180 [.val (gR G o), .val (gI x1), .val (gI x2), .val (gI x3), .val (gI x4), .val (gI x5), .val (gI x6), .val (gI x7), .val (gI x8), .val (gI x9), .val (gI (w32 (x10 + 1))), .val (gI x11), .unset] [] X M 0 0))))) : wp l G y_GM_fill (gRm (d + 1)) true (kkI X k) true 144 [.val (gR G o), .val (gI x1), .val (gI x2), .val (gI x3), .val (gI x4), .val (gI x5), .val (gI x6), .val (gI x7), .val (gI x8), .val (gI x9), .val (gI x10), .val (gI x11), .unset] [] X M 0 0 := by
  refine wp_iconst d_GM_fill_144 ?_
  refine wp_istore (L' := [.val (gR G o), .val (gI x1), .val (gI x2), .val (gI x3), .val (gI x4), .val (gI x5), .val (gI x6), .val (gI x7), .val (gI x8), .val (gI x9), .val (gI x10), .val (gI x11), .val (gI 0)]) d_GM_fill_145 (by decide) rfl ?_
  refine wp_iload d_GM_fill_147 rfl ?_
  refine xz_eq (tgt := 160) d_GM_fill_149 (by decide) (w32_id (g32_c (x := 0) rfl)) (fun h49 => ?_) (fun h49 => ?_)
  · have T := T.1 h49
    refine wp_aload_n d_GM_fill_160 rfl rfl (g_nz hX.1) ?_
    refine xgetR d_GM_fill_161 gc_GM f_GM_69.1 f_GM_69.2.1 f_GM_69.2.2.1 hX.1 (gm_o2 hX) hX.2.2.1 f_GM_69.2.2.2.2.1 (gm_row hX 18 rfl).1 ?_
    refine wp_iload d_GM_fill_164 rfl ?_
    refine wp_sipush d_GM_fill_166 ⟨by decide, by decide⟩ ?_
    refine wp_imul d_GM_fill_169 ?_
    refine wp_iload d_GM_fill_170 rfl ?_
    refine wp_iadd d_GM_fill_172 ?_
    refine wp_iaload d_GM_fill_173 (gm_row hX 18 rfl).2.2.1 (gm_row hX 18 rfl).2.2.2 (gm_row hX 18 rfl).2.1 (g32_n T.1 (by decide)) T.1.1 T.1.2 (fun h46 => ?_)
    have T := T.2 h46
    refine xz_eq (tgt := 180) d_GM_fill_174 (by decide) (w32_id h46) (fun h47 => ?_) (fun h47 => ?_)
    · have T := T.1 h47
      exact wp_md (wpt T (And.intro rfl (And.intro rfl (And.intro rfl (And.intro rfl (And.intro rfl (And.intro rfl (And.intro rfl (And.intro rfl (And.intro rfl (And.intro rfl (And.intro rfl (And.intro rfl True.intro)))))))))))))
    · have T := T.2 h47
      refine wp_iinc (L' := [.val (gR G o), .val (gI x1), .val (gI x2), .val (gI x3), .val (gI x4), .val (gI x5), .val (gI x6), .val (gI x7), .val (gI x8), .val (gI x9), .val (gI (x10 + 1)), .val (gI x11), .val (gI 0)]) d_GM_fill_177 rfl (by decide) rfl ?_
      exact wp_md (wpt T (And.intro rfl (And.intro rfl (And.intro rfl (And.intro rfl (And.intro rfl (And.intro rfl (And.intro rfl (And.intro rfl (And.intro rfl (And.intro rfl (And.intro (gI_w _) (And.intro rfl True.intro)))))))))))))
  · have T := T.2 h49
    refine wp_iload d_GM_fill_152 rfl ?_
    refine xz_eq (tgt := 180) d_GM_fill_154 (by decide) (w32_id hx9) (fun h48 => ?_) (fun h48 => ?_)
    · have T := T.1 h48
      exact wp_md (wpt T (And.intro rfl (And.intro rfl (And.intro rfl (And.intro rfl (And.intro rfl (And.intro rfl (And.intro rfl (And.intro rfl (And.intro rfl (And.intro rfl (And.intro rfl (And.intro rfl True.intro)))))))))))))
    · have T := T.2 h48
      refine wp_goto (tgt := 177) d_GM_fill_157 (by decide) ?_
      refine wp_iinc (L' := [.val (gR G o), .val (gI x1), .val (gI x2), .val (gI x3), .val (gI x4), .val (gI x5), .val (gI x6), .val (gI x7), .val (gI x8), .val (gI x9), .val (gI (x10 + 1)), .val (gI x11), .val (gI 0)]) d_GM_fill_177 rfl (by decide) rfl ?_
      exact wp_md (wpt T (And.intro rfl (And.intro rfl (And.intro rfl (And.intro rfl (And.intro rfl (And.intro rfl (And.intro rfl (And.intro rfl (And.intro rfl (And.intro rfl (And.intro (gI_w _) (And.intro rfl True.intro)))))))))))))
set_option maxHeartbeats 4000000 in
theorem w_GM_fill_180 {l : Launch} {G : gG} {d : Nat} {X : gX} {M : gM} {k : Int → gM → Prop} {o : Nat} (hX : gmX X o) {x1 : Int} (hx1 : g32 x1) {x2 : Int} (hx2 : g32 x2) {x3 : Int} (hx3 : g32 x3) {x4 : Int} (hx4 : g32 x4) {x5 : Int} (hx5 : g32 x5) {x6 : Int} (hx6 : g32 x6) {x7 : Int} (hx7 : g32 x7) {x8 : Int} (hx8 : g32 x8) {x9 : Int} (hx9 : g32 x9) {x10 : Int} (hx10 : g32 x10) {x11 : Int} (hx11 : g32 x11) (T : wp l G y_GM_fill (gRm (d + 1)) true (kkI X k) true 93 [.val (gR G o), .val (gI x1), .val (gI x2), .val (gI x3), .val (gI x4), .val (gI x5), .val (gI x6), .val (gI x7), .val (gI x8), .val (gI x9), .val (gI x10), .val (gI (w32 (x11 + 1))), .unset] [] X M 0 0) : wp l G y_GM_fill (gRm (d + 1)) true (kkI X k) true 180 [.val (gR G o), .val (gI x1), .val (gI x2), .val (gI x3), .val (gI x4), .val (gI x5), .val (gI x6), .val (gI x7), .val (gI x8), .val (gI x9), .val (gI x10), .val (gI x11), .unset] [] X M 0 0 := by
  refine wp_iinc (L' := [.val (gR G o), .val (gI x1), .val (gI x2), .val (gI x3), .val (gI x4), .val (gI x5), .val (gI x6), .val (gI x7), .val (gI x8), .val (gI x9), .val (gI x10), .val (gI (x11 + 1)), .unset]) d_GM_fill_180 rfl (by decide) rfl ?_
  refine wp_goto (tgt := 93) d_GM_fill_183 (by decide) ?_
  exact wp_md (wpt T (And.intro rfl (And.intro rfl (And.intro rfl (And.intro rfl (And.intro rfl (And.intro rfl (And.intro rfl (And.intro rfl (And.intro rfl (And.intro rfl (And.intro rfl (And.intro (gI_w _) True.intro)))))))))))))
set_option maxHeartbeats 4000000 in
theorem w_GM_fill_260 {l : Launch} {G : gG} {d : Nat} {X : gX} {M : gM} {k : Int → gM → Prop} {o : Nat} (hX : gmX X o) {x1 : Int} (hx1 : g32 x1) {x2 : Int} (hx2 : g32 x2) {x3 : Int} (hx3 : g32 x3) {x4 : Int} (hx4 : g32 x4) {x5 : Int} (hx5 : g32 x5) {x6 : Int} (hx6 : g32 x6) {x7 : Int} (hx7 : g32 x7) {x8 : Int} (hx8 : g32 x8) {x9 : Int} (hx9 : g32 x9) {x11 : Int} (hx11 : g32 x11) (T : wp l G y_GM_fill (gRm (d + 1)) true (kkI X k) true 261 [.val (gR G o), .val (gI x1), .val (gI x2), .val (gI x3), .val (gI x4), .val (gI x5), .val (gI x6), .val (gI x7), .val (gI x8), .val (gI x9), .unset, .val (gI x11), .unset] [gI 0] X M 0 0) : wp l G y_GM_fill (gRm (d + 1)) true (kkI X k) true 260 [.val (gR G o), .val (gI x1), .val (gI x2), .val (gI x3), .val (gI x4), .val (gI x5), .val (gI x6), .val (gI x7), .val (gI x8), .val (gI x9), .unset, .val (gI x11), .unset] [] X M 0 0 := by
  refine wp_iconst d_GM_fill_260 ?_
  exact wp_md (wpt T (And.intro rfl (And.intro rfl (And.intro rfl (And.intro rfl (And.intro rfl (And.intro rfl (And.intro rfl (And.intro rfl (And.intro rfl (And.intro rfl (And.intro rfl True.intro))))))))))))
set_option maxHeartbeats 4000000 in
theorem w_GM_fill_261 {l : Launch} {G : gG} {d : Nat} {X : gX} {M : gM} {k : Int → gM → Prop} {o : Nat} (hX : gmX X o) {x1 : Int} (hx1 : g32 x1) {x2 : Int} (hx2 : g32 x2) {x3 : Int} (hx3 : g32 x3) {x4 : Int} (hx4 : g32 x4) {x5 : Int} (hx5 : g32 x5) {x6 : Int} (hx6 : g32 x6) {x7 : Int} (hx7 : g32 x7) {x8 : Int} (hx8 : g32 x8) {x9 : Int} (hx9 : g32 x9) {x11 : Int} (hx11 : g32 x11) {s0 : Int} (hs0 : g32 s0) (T : (s0 = 0 → (cV l G y_GM_copy (gRm d) true [gR G o, gI x8, gI x11, gI 41, gI x11] X M (fun M50 => ((s0 = 0 → (wp l G y_GM_fill (gRm (d + 1)) true (kkI X k) true 330 [.val (gR G o), .val (gI x1), .val (gI x2), .val (gI x3), .val (gI x4), .val (gI x5), .val (gI x6), .val (gI x7), .val (gI x8), .val (gI x9), .unset, .val (gI x11), .unset] [] X M50 0 0)) ∧ (¬ s0 = 0 → ((x9 = 0 → (wp l G y_GM_fill (gRm (d + 1)) true (kkI X k) true 330 [.val (gR G o), .val (gI x1), .val (gI x2), .val (gI x3), .val (gI x4), .val (gI x5), .val (gI x6), .val (gI x7), .val (gI x8), .val (gI x9), .unset, .val (gI x11), .unset] [] X M50 0 0)) ∧ (¬ x9 = 0 → (((0 : Int) ≤ 213200 + x11 ∧ 213200 + x11 < 218400) ∧ (g32 (M50 (o + 19) (Int.toNat (213200 + x11))) → ((¬ M50 (o + 19) (Int.toNat (213200 + x11)) = 3 → (wp l G y_GM_fill (gRm (d + 1)) true (kkI X k) true 330 [.val (gR G o), .val (gI x1), .val (gI x2), .val (gI x3), .val (gI x4), .val (gI x5), .val (gI x6), .val (gI x7), .val (gI x8), .val (gI x9), .unset, .val (gI x11), .unset] [] X M50 0 0)) ∧ (M50 (o + 19) (Int.toNat (213200 + x11)) = 3 → (cV l G y_GM_move (gRm d) true [gR G o, gI x11, gI ((x11.tmod 26) - x1), gI ((x11.tdiv 26) - x2)] X M50 (fun M52 => (wp l G y_GM_fill (gRm (d + 1)) true (kkI X k) true 330 [.val (gR G o), .val (gI x1), .val (gI x2), .val (gI x3), .val (gI x4), .val (gI x5), .val (gI x6), .val (gI x7), .val (gI x8), .val (gI x9), .unset, .val (gI x11), .unset] [] X M52 0 0)))))))))))))) ∧ (¬ s0 = 0 → (cV l G y_GM_copy (gRm d) true [gR G o, gI x8, gI x7, gI 41, gI x11] X M (fun M56 => ((s0 = 0 → (wp l G y_GM_fill (gRm (d + 1)) true (kkI X k) true 330 [.val (gR G o), .val (gI x1), .val (gI x2), .val (gI x3), .val (gI x4), .val (gI x5), .val (gI x6), .val (gI x7), .val (gI x8), .val (gI x9), .unset, .val (gI x11), .unset] [] X M56 0 0)) ∧ (¬ s0 = 0 → ((x9 = 0 → (wp l G y_GM_fill (gRm (d + 1)) true (kkI X k) true 330 [.val (gR G o), .val (gI x1), .val (gI x2), .val (gI x3), .val (gI x4), .val (gI x5), .val (gI x6), .val (gI x7), .val (gI x8), .val (gI x9), .unset, .val (gI x11), .unset] [] X M56 0 0)) ∧ (¬ x9 = 0 → (((0 : Int) ≤ 213200 + x11 ∧ 213200 + x11 < 218400) ∧ (g32 (M56 (o + 19) (Int.toNat (213200 + x11))) → ((¬ M56 (o + 19) (Int.toNat (213200 + x11)) = 3 → (wp l G y_GM_fill (gRm (d + 1)) true (kkI X k) true 330 [.val (gR G o), .val (gI x1), .val (gI x2), .val (gI x3), .val (gI x4), .val (gI x5), .val (gI x6), .val (gI x7), .val (gI x8), .val (gI x9), .unset, .val (gI x11), .unset] [] X M56 0 0)) ∧ (M56 (o + 19) (Int.toNat (213200 + x11)) = 3 → (cV l G y_GM_move (gRm d) true [gR G o, gI x11, gI ((x11.tmod 26) - x1), gI ((x11.tdiv 26) - x2)] X M56 (fun M58 => (wp l G y_GM_fill (gRm (d + 1)) true (kkI X k) true 330 [.val (gR G o), .val (gI x1), .val (gI x2), .val (gI x3), .val (gI x4), .val (gI x5), .val (gI x6), .val (gI x7), .val (gI x8), .val (gI x9), .unset, .val (gI x11), .unset] [] X M58 0 0))))))))))))))) : wp l G y_GM_fill (gRm (d + 1)) true (kkI X k) true 261 [.val (gR G o), .val (gI x1), .val (gI x2), .val (gI x3), .val (gI x4), .val (gI x5), .val (gI x6), .val (gI x7), .val (gI x8), .val (gI x9), .unset, .val (gI x11), .unset] [gI s0] X M 0 0 := by
  refine wp_istore (L' := [.val (gR G o), .val (gI x1), .val (gI x2), .val (gI x3), .val (gI x4), .val (gI x5), .val (gI x6), .val (gI x7), .val (gI x8), .val (gI x9), .unset, .val (gI x11), .val (gI s0)]) d_GM_fill_261 (by decide) rfl ?_
  refine wp_aload_n d_GM_fill_263 rfl rfl (g_nz hX.1) ?_
  refine wp_iload d_GM_fill_264 rfl ?_
  refine wp_iload d_GM_fill_266 rfl ?_
  refine xz_eq (tgt := 276) d_GM_fill_268 (by decide) (w32_id hs0) (fun h62 => ?_) (fun h62 => ?_)
  · have T := T.1 h62
    refine wp_iload d_GM_fill_276 rfl ?_
    refine wp_bipush d_GM_fill_278 ⟨by decide, by decide⟩ ?_
    refine wp_iload d_GM_fill_280 rfl ?_
    refine xcV_V (md' := true) (As := [gI x8, gI x11, gI 41, gI x11]) (st := []) d_GM_fill_282 ca_GM_copy ml_GM_275 im_GM_copy se_GM_copy gc_GM hX.1 (gm_o2 hX) hX.2.2.1 rfl (by decide) (by decide) rfl (fun _ => rfl) (fun _ => rfl) T (fun M50 T => ?_)
    refine wp_iload d_GM_fill_285 rfl ?_
    refine xz_eq (tgt := 330) d_GM_fill_287 (by decide) (w32_id hs0) (fun h55 => ?_) (fun h55 => ?_)
    · have T := T.1 h55
      exact wp_md (wpt T (And.intro rfl (And.intro rfl (And.intro rfl (And.intro rfl (And.intro rfl (And.intro rfl (And.intro rfl (And.intro rfl (And.intro rfl (And.intro rfl (And.intro rfl True.intro))))))))))))
    · have T := T.2 h55
      refine wp_iload d_GM_fill_290 rfl ?_
      refine xz_eq (tgt := 330) d_GM_fill_292 (by decide) (w32_id hx9) (fun h54 => ?_) (fun h54 => ?_)
      · have T := T.1 h54
        exact wp_md (wpt T (And.intro rfl (And.intro rfl (And.intro rfl (And.intro rfl (And.intro rfl (And.intro rfl (And.intro rfl (And.intro rfl (And.intro rfl (And.intro rfl (And.intro rfl True.intro))))))))))))
      · have T := T.2 h54
        refine wp_aload_n d_GM_fill_295 rfl rfl (g_nz hX.1) ?_
        refine xgetR d_GM_fill_296 gc_GM f_GM_69.1 f_GM_69.2.1 f_GM_69.2.2.1 hX.1 (gm_o2 hX) hX.2.2.1 f_GM_69.2.2.2.2.1 (gm_row hX 18 rfl).1 ?_
        refine wp_ldcw (n := 213200) d_GM_fill_299 c_GM_547 rfl ?_
        refine wp_iload d_GM_fill_302 rfl ?_
        refine wp_iadd d_GM_fill_304 ?_
        refine wp_iaload d_GM_fill_305 (gm_row hX 18 rfl).2.2.1 (gm_row hX 18 rfl).2.2.2 (gm_row hX 18 rfl).2.1 (g32_n T.1 (by decide)) T.1.1 T.1.2 (fun h51 => ?_)
        have T := T.2 h51
        refine wp_iconst d_GM_fill_306 ?_
        refine xi_ne (tgt := 330) d_GM_fill_307 (by decide) (w32_id h51) (w32_id (g32_c (x := 3) rfl)) (fun h53 => ?_) (fun h53 => ?_)
        · have T := T.1 h53
          exact wp_md (wpt T (And.intro rfl (And.intro rfl (And.intro rfl (And.intro rfl (And.intro rfl (And.intro rfl (And.intro rfl (And.intro rfl (And.intro rfl (And.intro rfl (And.intro rfl True.intro))))))))))))
        · have T := T.2 h53
          refine wp_aload_n d_GM_fill_310 rfl rfl (g_nz hX.1) ?_
          refine wp_iload d_GM_fill_311 rfl ?_
          refine wp_iload d_GM_fill_313 rfl ?_
          refine wp_bipush d_GM_fill_315 ⟨by decide, by decide⟩ ?_
          refine xirem d_GM_fill_317 (w32_id hx11) (w32_id (g32_c (x := 26) rfl)) (by decide) ?_
          refine wp_iload_n d_GM_fill_318 rfl rfl ?_
          refine wp_isub d_GM_fill_319 ?_
          refine wp_iload d_GM_fill_320 rfl ?_
          refine wp_bipush d_GM_fill_322 ⟨by decide, by decide⟩ ?_
          refine xidiv d_GM_fill_324 (w32_id hx11) (w32_id (g32_c (x := 26) rfl)) (by decide) ?_
          refine wp_iload_n d_GM_fill_325 rfl rfl ?_
          refine wp_isub d_GM_fill_326 ?_
          refine xcV_V (md' := true) (As := [gI x11, gI ((x11.tmod 26) - x1), gI ((x11.tdiv 26) - x2)]) (st := []) d_GM_fill_327 ca_GM_move ml_GM_558 im_GM_move se_GM_move gc_GM hX.1 (gm_o2 hX) hX.2.2.1 rfl (by decide) (by decide) rfl (fun _ => rfl) (fun _ => rfl) T (fun M52 T => ?_)
          exact wp_md (wpt T (And.intro rfl (And.intro rfl (And.intro rfl (And.intro rfl (And.intro rfl (And.intro rfl (And.intro rfl (And.intro rfl (And.intro rfl (And.intro rfl (And.intro rfl True.intro))))))))))))
  · have T := T.2 h62
    refine wp_iload d_GM_fill_271 rfl ?_
    refine wp_goto (tgt := 278) d_GM_fill_273 (by decide) ?_
    refine wp_bipush d_GM_fill_278 ⟨by decide, by decide⟩ ?_
    refine wp_iload d_GM_fill_280 rfl ?_
    refine xcV_V (md' := true) (As := [gI x8, gI x7, gI 41, gI x11]) (st := []) d_GM_fill_282 ca_GM_copy ml_GM_275 im_GM_copy se_GM_copy gc_GM hX.1 (gm_o2 hX) hX.2.2.1 rfl (by decide) (by decide) rfl (fun _ => rfl) (fun _ => rfl) T (fun M56 T => ?_)
    refine wp_iload d_GM_fill_285 rfl ?_
    refine xz_eq (tgt := 330) d_GM_fill_287 (by decide) (w32_id hs0) (fun h61 => ?_) (fun h61 => ?_)
    · have T := T.1 h61
      exact wp_md (wpt T (And.intro rfl (And.intro rfl (And.intro rfl (And.intro rfl (And.intro rfl (And.intro rfl (And.intro rfl (And.intro rfl (And.intro rfl (And.intro rfl (And.intro rfl True.intro))))))))))))
    · have T := T.2 h61
      refine wp_iload d_GM_fill_290 rfl ?_
      refine xz_eq (tgt := 330) d_GM_fill_292 (by decide) (w32_id hx9) (fun h60 => ?_) (fun h60 => ?_)
      · have T := T.1 h60
        exact wp_md (wpt T (And.intro rfl (And.intro rfl (And.intro rfl (And.intro rfl (And.intro rfl (And.intro rfl (And.intro rfl (And.intro rfl (And.intro rfl (And.intro rfl (And.intro rfl True.intro))))))))))))
      · have T := T.2 h60
        refine wp_aload_n d_GM_fill_295 rfl rfl (g_nz hX.1) ?_
        refine xgetR d_GM_fill_296 gc_GM f_GM_69.1 f_GM_69.2.1 f_GM_69.2.2.1 hX.1 (gm_o2 hX) hX.2.2.1 f_GM_69.2.2.2.2.1 (gm_row hX 18 rfl).1 ?_
        refine wp_ldcw (n := 213200) d_GM_fill_299 c_GM_547 rfl ?_
        refine wp_iload d_GM_fill_302 rfl ?_
        refine wp_iadd d_GM_fill_304 ?_
        refine wp_iaload d_GM_fill_305 (gm_row hX 18 rfl).2.2.1 (gm_row hX 18 rfl).2.2.2 (gm_row hX 18 rfl).2.1 (g32_n T.1 (by decide)) T.1.1 T.1.2 (fun h57 => ?_)
        have T := T.2 h57
        refine wp_iconst d_GM_fill_306 ?_
        refine xi_ne (tgt := 330) d_GM_fill_307 (by decide) (w32_id h57) (w32_id (g32_c (x := 3) rfl)) (fun h59 => ?_) (fun h59 => ?_)
        · have T := T.1 h59
          exact wp_md (wpt T (And.intro rfl (And.intro rfl (And.intro rfl (And.intro rfl (And.intro rfl (And.intro rfl (And.intro rfl (And.intro rfl (And.intro rfl (And.intro rfl (And.intro rfl True.intro))))))))))))
        · have T := T.2 h59
          refine wp_aload_n d_GM_fill_310 rfl rfl (g_nz hX.1) ?_
          refine wp_iload d_GM_fill_311 rfl ?_
          refine wp_iload d_GM_fill_313 rfl ?_
          refine wp_bipush d_GM_fill_315 ⟨by decide, by decide⟩ ?_
          refine xirem d_GM_fill_317 (w32_id hx11) (w32_id (g32_c (x := 26) rfl)) (by decide) ?_
          refine wp_iload_n d_GM_fill_318 rfl rfl ?_
          refine wp_isub d_GM_fill_319 ?_
          refine wp_iload d_GM_fill_320 rfl ?_
          refine wp_bipush d_GM_fill_322 ⟨by decide, by decide⟩ ?_
          refine xidiv d_GM_fill_324 (w32_id hx11) (w32_id (g32_c (x := 26) rfl)) (by decide) ?_
          refine wp_iload_n d_GM_fill_325 rfl rfl ?_
          refine wp_isub d_GM_fill_326 ?_
          refine xcV_V (md' := true) (As := [gI x11, gI ((x11.tmod 26) - x1), gI ((x11.tdiv 26) - x2)]) (st := []) d_GM_fill_327 ca_GM_move ml_GM_558 im_GM_move se_GM_move gc_GM hX.1 (gm_o2 hX) hX.2.2.1 rfl (by decide) (by decide) rfl (fun _ => rfl) (fun _ => rfl) T (fun M58 T => ?_)
          exact wp_md (wpt T (And.intro rfl (And.intro rfl (And.intro rfl (And.intro rfl (And.intro rfl (And.intro rfl (And.intro rfl (And.intro rfl (And.intro rfl (And.intro rfl (And.intro rfl True.intro))))))))))))
set_option maxHeartbeats 4000000 in
theorem w_GM_fill_330 {l : Launch} {G : gG} {d : Nat} {X : gX} {M : gM} {k : Int → gM → Prop} {o : Nat} (hX : gmX X o) {x1 : Int} (hx1 : g32 x1) {x2 : Int} (hx2 : g32 x2) {x3 : Int} (hx3 : g32 x3) {x4 : Int} (hx4 : g32 x4) {x5 : Int} (hx5 : g32 x5) {x6 : Int} (hx6 : g32 x6) {x7 : Int} (hx7 : g32 x7) {x8 : Int} (hx8 : g32 x8) {x9 : Int} (hx9 : g32 x9) {x11 : Int} (hx11 : g32 x11) (T : wp l G y_GM_fill (gRm (d + 1)) true (kkI X k) true 209 [.val (gR G o), .val (gI x1), .val (gI x2), .val (gI x3), .val (gI x4), .val (gI x5), .val (gI x6), .val (gI x7), .val (gI x8), .val (gI x9), .unset, .val (gI (w32 (x11 + 1))), .unset] [] X M 0 0) : wp l G y_GM_fill (gRm (d + 1)) true (kkI X k) true 330 [.val (gR G o), .val (gI x1), .val (gI x2), .val (gI x3), .val (gI x4), .val (gI x5), .val (gI x6), .val (gI x7), .val (gI x8), .val (gI x9), .unset, .val (gI x11), .unset] [] X M 0 0 := by
  refine wp_iinc (L' := [.val (gR G o), .val (gI x1), .val (gI x2), .val (gI x3), .val (gI x4), .val (gI x5), .val (gI x6), .val (gI x7), .val (gI x8), .val (gI x9), .unset, .val (gI (x11 + 1)), .unset]) d_GM_fill_330 rfl (by decide) rfl ?_
  refine wp_goto (tgt := 209) d_GM_fill_333 (by decide) ?_
  exact wp_md (wpt T (And.intro rfl (And.intro rfl (And.intro rfl (And.intro rfl (And.intro rfl (And.intro rfl (And.intro rfl (And.intro rfl (And.intro rfl (And.intro rfl (And.intro (gI_w _) True.intro))))))))))))
theorem e_GM_fill {l : Launch} {G : gG} {d : Nat} {X : gX} {M : gM} {k : Int → gM → Prop} {o : Nat} {x1 : Int} {x2 : Int} {x3 : Int} {x4 : Int} {x5 : Int} {x6 : Int} (T : wp l G y_GM_fill (gRm (d + 1)) true (kkI X k) false 0 [.val (gR G o), .val (gI x1), .val (gI x2), .val (gI x3), .val (gI x4), .val (gI x5), .val (gI x6), .unset, .unset, .unset, .unset, .unset, .unset] [] X M 0 0) : cI l G y_GM_fill (gRm (d + 1)) true [gR G o, gI x1, gI x2, gI x3, gI x4, gI x5, gI x6] X M k := cen_I (plainFor_of_name rfl) (by simp only [lg_sl_R, lg_sl_I, lg_sl_L, lg_sl_N, List.length_cons, List.length_nil]; decide) (by unfold gEn; simp only [lg_sl_R, lg_sl_I, lg_sl_L, lg_sl_N]; exact wpt T (And.intro rfl (And.intro rfl (And.intro rfl (And.intro rfl (And.intro rfl (And.intro rfl (And.intro rfl True.intro))))))))
