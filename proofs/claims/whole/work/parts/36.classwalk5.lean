/-! Walks of the class's methods, written by wip/whole/gen_class.py -/
theorem d_Ma_pick_0 : decode prog_6_method_6_code 0 = .ok (.lload_n 2, 1) := by decide +kernel
theorem d_Ma_pick_1 : decode prog_6_method_6_code 1 = .ok (.bipush 32, 2) := by decide +kernel
theorem d_Ma_pick_3 : decode prog_6_method_6_code 3 = .ok (.lshr, 1) := by decide +kernel
theorem d_Ma_pick_4 : decode prog_6_method_6_code 4 = .ok (.l2i, 1) := by decide +kernel
theorem d_Ma_pick_5 : decode prog_6_method_6_code 5 = .ok (.istore 5, 2) := by decide +kernel
theorem d_Ma_pick_7 : decode prog_6_method_6_code 7 = .ok (.lload_n 2, 1) := by decide +kernel
theorem d_Ma_pick_8 : decode prog_6_method_6_code 8 = .ok (.bipush 16, 2) := by decide +kernel
theorem d_Ma_pick_10 : decode prog_6_method_6_code 10 = .ok (.lshr, 1) := by decide +kernel
theorem d_Ma_pick_11 : decode prog_6_method_6_code 11 = .ok (.ldc2_w 141, 3) := by decide +kernel
theorem d_Ma_pick_14 : decode prog_6_method_6_code 14 = .ok (.land, 1) := by decide +kernel
theorem d_Ma_pick_15 : decode prog_6_method_6_code 15 = .ok (.l2i, 1) := by decide +kernel
theorem d_Ma_pick_16 : decode prog_6_method_6_code 16 = .ok (.istore 6, 2) := by decide +kernel
theorem d_Ma_pick_18 : decode prog_6_method_6_code 18 = .ok (.lload_n 2, 1) := by decide +kernel
theorem d_Ma_pick_19 : decode prog_6_method_6_code 19 = .ok (.ldc2_w 141, 3) := by decide +kernel
theorem d_Ma_pick_22 : decode prog_6_method_6_code 22 = .ok (.land, 1) := by decide +kernel
theorem d_Ma_pick_23 : decode prog_6_method_6_code 23 = .ok (.l2i, 1) := by decide +kernel
theorem d_Ma_pick_24 : decode prog_6_method_6_code 24 = .ok (.istore 7, 2) := by decide +kernel
theorem d_Ma_pick_26 : decode prog_6_method_6_code 26 = .ok (.aload_n 0, 1) := by decide +kernel
theorem d_Ma_pick_27 : decode prog_6_method_6_code 27 = .ok (.getfield 65, 3) := by decide +kernel
theorem d_Ma_pick_30 : decode prog_6_method_6_code 30 = .ok (.iconst 1, 1) := by decide +kernel
theorem d_Ma_pick_31 : decode prog_6_method_6_code 31 = .ok (.isub, 1) := by decide +kernel
theorem d_Ma_pick_32 : decode prog_6_method_6_code 32 = .ok (.istore 8, 2) := by decide +kernel
theorem d_Ma_pick_34 : decode prog_6_method_6_code 34 = .ok (.aload_n 0, 1) := by decide +kernel
theorem d_Ma_pick_35 : decode prog_6_method_6_code 35 = .ok (.getfield 14, 3) := by decide +kernel
theorem d_Ma_pick_38 : decode prog_6_method_6_code 38 = .ok (.getfield 107, 3) := by decide +kernel
theorem d_Ma_pick_41 : decode prog_6_method_6_code 41 = .ok (.iload 8, 2) := by decide +kernel
theorem d_Ma_pick_43 : decode prog_6_method_6_code 43 = .ok (.iaload, 1) := by decide +kernel
theorem d_Ma_pick_44 : decode prog_6_method_6_code 44 = .ok (.iconst 4, 1) := by decide +kernel
theorem d_Ma_pick_45 : decode prog_6_method_6_code 45 = .ok (.if_icmp .ne 7, 3) := by decide +kernel
theorem d_Ma_pick_52 : decode prog_6_method_6_code 52 = .ok (.iconst 0, 1) := by decide +kernel
theorem d_Ma_pick_48 : decode prog_6_method_6_code 48 = .ok (.iconst 1, 1) := by decide +kernel
theorem d_Ma_pick_49 : decode prog_6_method_6_code 49 = .ok (.goto 4, 3) := by decide +kernel
theorem d_Ma_pick_53 : decode prog_6_method_6_code 53 = .ok (.istore 9, 2) := by decide +kernel
theorem d_Ma_pick_55 : decode prog_6_method_6_code 55 = .ok (.iload_n 1, 1) := by decide +kernel
theorem d_Ma_pick_56 : decode prog_6_method_6_code 56 = .ok (.bipush 9, 2) := by decide +kernel
theorem d_Ma_pick_58 : decode prog_6_method_6_code 58 = .ok (.if_icmp .ne 35, 3) := by decide +kernel
theorem d_Ma_pick_93 : decode prog_6_method_6_code 93 = .ok (.iload 9, 2) := by decide +kernel
theorem d_Ma_pick_95 : decode prog_6_method_6_code 95 = .ok (.ifCond .eq 6, 3) := by decide +kernel
theorem d_Ma_pick_101 : decode prog_6_method_6_code 101 = .ok (.aload_n 0, 1) := by decide +kernel
theorem d_Ma_pick_102 : decode prog_6_method_6_code 102 = .ok (.getfield 14, 3) := by decide +kernel
theorem d_Ma_pick_105 : decode prog_6_method_6_code 105 = .ok (.iload 8, 2) := by decide +kernel
theorem d_Ma_pick_107 : decode prog_6_method_6_code 107 = .ok (.iload_n 1, 1) := by decide +kernel
theorem d_Ma_pick_108 : decode prog_6_method_6_code 108 = .ok (.bipush 7, 2) := by decide +kernel
theorem d_Ma_pick_110 : decode prog_6_method_6_code 110 = .ok (.if_icmp .ne 8, 3) := by decide +kernel
theorem d_Ma_pick_118 : decode prog_6_method_6_code 118 = .ok (.bipush 110, 2) := by decide +kernel
theorem d_Ma_pick_113 : decode prog_6_method_6_code 113 = .ok (.bipush 98, 2) := by decide +kernel
theorem d_Ma_pick_115 : decode prog_6_method_6_code 115 = .ok (.goto 5, 3) := by decide +kernel
theorem d_Ma_pick_98 : decode prog_6_method_6_code 98 = .ok (.iload 7, 2) := by decide +kernel
theorem d_Ma_pick_100 : decode prog_6_method_6_code 100 = .ok (.ireturn, 1) := by decide +kernel
theorem d_Ma_pick_61 : decode prog_6_method_6_code 61 = .ok (.aload_n 0, 1) := by decide +kernel
theorem d_Ma_pick_62 : decode prog_6_method_6_code 62 = .ok (.dup, 1) := by decide +kernel
theorem d_Ma_pick_63 : decode prog_6_method_6_code 63 = .ok (.getfield 65, 3) := by decide +kernel
theorem d_Ma_pick_66 : decode prog_6_method_6_code 66 = .ok (.iload 9, 2) := by decide +kernel
theorem d_Ma_pick_68 : decode prog_6_method_6_code 68 = .ok (.ifCond .eq 7, 3) := by decide +kernel
theorem d_Ma_pick_75 : decode prog_6_method_6_code 75 = .ok (.iconst 0, 1) := by decide +kernel
theorem d_Ma_pick_76 : decode prog_6_method_6_code 76 = .ok (.isub, 1) := by decide +kernel
theorem d_Ma_pick_77 : decode prog_6_method_6_code 77 = .ok (.putfield 65, 3) := by decide +kernel
theorem d_Ma_pick_80 : decode prog_6_method_6_code 80 = .ok (.iload 9, 2) := by decide +kernel
theorem d_Ma_pick_82 : decode prog_6_method_6_code 82 = .ok (.ifCond .eq 8, 3) := by decide +kernel
theorem d_Ma_pick_90 : decode prog_6_method_6_code 90 = .ok (.iload 7, 2) := by decide +kernel
theorem d_Ma_pick_92 : decode prog_6_method_6_code 92 = .ok (.ireturn, 1) := by decide +kernel
theorem d_Ma_pick_85 : decode prog_6_method_6_code 85 = .ok (.iload 4, 2) := by decide +kernel
theorem d_Ma_pick_87 : decode prog_6_method_6_code 87 = .ok (.goto 5, 3) := by decide +kernel
theorem d_Ma_pick_71 : decode prog_6_method_6_code 71 = .ok (.iconst 1, 1) := by decide +kernel
theorem d_Ma_pick_72 : decode prog_6_method_6_code 72 = .ok (.goto 4, 3) := by decide +kernel
theorem d_Ma_pick_120 : decode prog_6_method_6_code 120 = .ok (.invokevirtual 143, 3) := by decide +kernel
theorem d_Ma_pick_123 : decode prog_6_method_6_code 123 = .ok (.ifCond .ne 19, 3) := by decide +kernel
theorem d_Ma_pick_142 : decode prog_6_method_6_code 142 = .ok (.iload_n 1, 1) := by decide +kernel
theorem d_Ma_pick_143 : decode prog_6_method_6_code 143 = .ok (.bipush 7, 2) := by decide +kernel
theorem d_Ma_pick_145 : decode prog_6_method_6_code 145 = .ok (.if_icmp .ne 20, 3) := by decide +kernel
theorem d_Ma_pick_165 : decode prog_6_method_6_code 165 = .ok (.aload_n 0, 1) := by decide +kernel
theorem d_Ma_pick_166 : decode prog_6_method_6_code 166 = .ok (.getfield 14, 3) := by decide +kernel
theorem d_Ma_pick_169 : decode prog_6_method_6_code 169 = .ok (.getfield 149, 3) := by decide +kernel
theorem d_Ma_pick_172 : decode prog_6_method_6_code 172 = .ok (.iload 8, 2) := by decide +kernel
theorem d_Ma_pick_174 : decode prog_6_method_6_code 174 = .ok (.laload, 1) := by decide +kernel
theorem d_Ma_pick_148 : decode prog_6_method_6_code 148 = .ok (.ldc2_w 130, 3) := by decide +kernel
theorem d_Ma_pick_151 : decode prog_6_method_6_code 151 = .ok (.aload_n 0, 1) := by decide +kernel
theorem d_Ma_pick_152 : decode prog_6_method_6_code 152 = .ok (.getfield 14, 3) := by decide +kernel
theorem d_Ma_pick_155 : decode prog_6_method_6_code 155 = .ok (.getfield 149, 3) := by decide +kernel
theorem d_Ma_pick_158 : decode prog_6_method_6_code 158 = .ok (.iload 8, 2) := by decide +kernel
theorem d_Ma_pick_160 : decode prog_6_method_6_code 160 = .ok (.laload, 1) := by decide +kernel
theorem d_Ma_pick_161 : decode prog_6_method_6_code 161 = .ok (.lsub, 1) := by decide +kernel
theorem d_Ma_pick_162 : decode prog_6_method_6_code 162 = .ok (.goto 13, 3) := by decide +kernel
theorem d_Ma_pick_126 : decode prog_6_method_6_code 126 = .ok (.aload_n 0, 1) := by decide +kernel
theorem d_Ma_pick_127 : decode prog_6_method_6_code 127 = .ok (.getfield 14, 3) := by decide +kernel
theorem d_Ma_pick_130 : decode prog_6_method_6_code 130 = .ok (.iload 8, 2) := by decide +kernel
theorem d_Ma_pick_132 : decode prog_6_method_6_code 132 = .ok (.iconst 4, 1) := by decide +kernel
theorem d_Ma_pick_133 : decode prog_6_method_6_code 133 = .ok (.ldc2_w 147, 3) := by decide +kernel
theorem d_Ma_pick_136 : decode prog_6_method_6_code 136 = .ok (.invokevirtual 110, 3) := by decide +kernel
theorem d_Ma_pick_139 : decode prog_6_method_6_code 139 = .ok (.iload 7, 2) := by decide +kernel
theorem d_Ma_pick_141 : decode prog_6_method_6_code 141 = .ok (.ireturn, 1) := by decide +kernel
theorem d_Ma_pick_175 : decode prog_6_method_6_code 175 = .ok (.lstore 10, 2) := by decide +kernel
theorem d_Ma_pick_177 : decode prog_6_method_6_code 177 = .ok (.lload 10, 2) := by decide +kernel
theorem d_Ma_pick_179 : decode prog_6_method_6_code 179 = .ok (.lconst 1, 1) := by decide +kernel
theorem d_Ma_pick_180 : decode prog_6_method_6_code 180 = .ok (.lcmp, 1) := by decide +kernel
theorem d_Ma_pick_181 : decode prog_6_method_6_code 181 = .ok (.ifCond .lt 12, 3) := by decide +kernel
theorem d_Ma_pick_193 : decode prog_6_method_6_code 193 = .ok (.aload_n 0, 1) := by decide +kernel
theorem d_Ma_pick_194 : decode prog_6_method_6_code 194 = .ok (.getfield 14, 3) := by decide +kernel
theorem d_Ma_pick_197 : decode prog_6_method_6_code 197 = .ok (.iload 8, 2) := by decide +kernel
theorem d_Ma_pick_199 : decode prog_6_method_6_code 199 = .ok (.iconst 4, 1) := by decide +kernel
theorem d_Ma_pick_200 : decode prog_6_method_6_code 200 = .ok (.ldc2_w 147, 3) := by decide +kernel
theorem d_Ma_pick_203 : decode prog_6_method_6_code 203 = .ok (.invokevirtual 110, 3) := by decide +kernel
theorem d_Ma_pick_206 : decode prog_6_method_6_code 206 = .ok (.iload 7, 2) := by decide +kernel
theorem d_Ma_pick_208 : decode prog_6_method_6_code 208 = .ok (.ireturn, 1) := by decide +kernel
theorem d_Ma_pick_184 : decode prog_6_method_6_code 184 = .ok (.lload 10, 2) := by decide +kernel
theorem d_Ma_pick_186 : decode prog_6_method_6_code 186 = .ok (.ldc2_w 152, 3) := by decide +kernel
theorem d_Ma_pick_189 : decode prog_6_method_6_code 189 = .ok (.lcmp, 1) := by decide +kernel
theorem d_Ma_pick_190 : decode prog_6_method_6_code 190 = .ok (.ifCond .le 19, 3) := by decide +kernel
theorem d_Ma_pick_209 : decode prog_6_method_6_code 209 = .ok (.aload_n 0, 1) := by decide +kernel
theorem d_Ma_pick_210 : decode prog_6_method_6_code 210 = .ok (.dup, 1) := by decide +kernel
theorem d_Ma_pick_211 : decode prog_6_method_6_code 211 = .ok (.getfield 65, 3) := by decide +kernel
theorem d_Ma_pick_214 : decode prog_6_method_6_code 214 = .ok (.lload 10, 2) := by decide +kernel
theorem d_Ma_pick_216 : decode prog_6_method_6_code 216 = .ok (.iload 5, 2) := by decide +kernel
theorem d_Ma_pick_218 : decode prog_6_method_6_code 218 = .ok (.i2l, 1) := by decide +kernel
theorem d_Ma_pick_219 : decode prog_6_method_6_code 219 = .ok (.lcmp, 1) := by decide +kernel
theorem d_Ma_pick_220 : decode prog_6_method_6_code 220 = .ok (.ifCond .ne 7, 3) := by decide +kernel
theorem d_Ma_pick_227 : decode prog_6_method_6_code 227 = .ok (.iconst 0, 1) := by decide +kernel
theorem d_Ma_pick_228 : decode prog_6_method_6_code 228 = .ok (.isub, 1) := by decide +kernel
theorem d_Ma_pick_229 : decode prog_6_method_6_code 229 = .ok (.putfield 65, 3) := by decide +kernel
theorem d_Ma_pick_232 : decode prog_6_method_6_code 232 = .ok (.lload 10, 2) := by decide +kernel
theorem d_Ma_pick_234 : decode prog_6_method_6_code 234 = .ok (.iload 5, 2) := by decide +kernel
theorem d_Ma_pick_236 : decode prog_6_method_6_code 236 = .ok (.i2l, 1) := by decide +kernel
theorem d_Ma_pick_237 : decode prog_6_method_6_code 237 = .ok (.lcmp, 1) := by decide +kernel
theorem d_Ma_pick_238 : decode prog_6_method_6_code 238 = .ok (.ifCond .ne 8, 3) := by decide +kernel
theorem d_Ma_pick_246 : decode prog_6_method_6_code 246 = .ok (.iload 6, 2) := by decide +kernel
theorem d_Ma_pick_248 : decode prog_6_method_6_code 248 = .ok (.ireturn, 1) := by decide +kernel
theorem d_Ma_pick_241 : decode prog_6_method_6_code 241 = .ok (.iload 4, 2) := by decide +kernel
theorem d_Ma_pick_243 : decode prog_6_method_6_code 243 = .ok (.goto 5, 3) := by decide +kernel
theorem d_Ma_pick_223 : decode prog_6_method_6_code 223 = .ok (.iconst 1, 1) := by decide +kernel
theorem d_Ma_pick_224 : decode prog_6_method_6_code 224 = .ok (.goto 4, 3) := by decide +kernel
set_option maxHeartbeats 4000000 in
theorem w_Ma_pick_0 {l : Launch} {G : gG} {d : Nat} {X : gX} {M : gM} {k : Int → gM → Prop} {c : Nat} (hX : glX X c) {x1 : Int} (hx1 : g32 x1) {x2 : Int} (hx2 : g64 x2) {x4 : Int} (hx4 : g32 x4)  (T : g32 (M (c + 1057) 6) → (((0 : Int) ≤ (M (c + 1057) 6) - 1 ∧ (M (c + 1057) 6) - 1 < 104) ∧ (g32 (M ((c + 1058) + 1) (Int.toNat ((M (c + 1057) 6) - 1))) → ((¬ M ((c + 1058) + 1) (Int.toNat ((M (c + 1057) 6) - 1)) = 4 → (wp l G y_Ma_pick (gRm (d + 1)) true (kkI X k) true 53 [.val (gR G (c + 1057)), .val (gI x1), .unset, .unset, .val (gI x4), .val (gI (w32 (gLshr x2 32))), .val (gI (w32 (gLand (gLshr x2 16) 65535))), .val (gI (w32 (gLand x2 65535))), .val (gI (w32 ((M (c + 1057) 6) - 1))), .unset, .unset, .unset] [gI 0] X M 0 0)) ∧ (M ((c + 1058) + 1) (Int.toNat ((M (c + 1057) 6) - 1)) = 4 → (wp l G y_Ma_pick (gRm (d + 1)) true (kkI X k) true 53 [.val (gR G (c + 1057)), .val (gI x1), .unset, .unset, .val (gI x4), .val (gI (w32 (gLshr x2 32))), .val (gI (w32 (gLand (gLshr x2 16) 65535))), .val (gI (w32 (gLand x2 65535))), .val (gI (w32 ((M (c + 1057) 6) - 1))), .unset, .unset, .unset] [gI 1] X M 0 0)))))) : wp l G y_Ma_pick (gRm (d + 1)) true (kkI X k) false 0 [.val (gR G (c + 1057)), .val (gI x1), .val (gL x2), .unset, .val (gI x4), .unset, .unset, .unset, .unset, .unset, .unset, .unset] [] X M 0 0 := by
  refine wp_lload_n d_Ma_pick_0 rfl rfl ?_
  refine wp_bipush d_Ma_pick_1 ⟨by decide, by decide⟩ ?_
  refine wp_lshr d_Ma_pick_3 ?_
  refine wp_l2i d_Ma_pick_4 ?_
  refine wp_istore (L' := [.val (gR G (c + 1057)), .val (gI x1), .val (gL x2), .unset, .val (gI x4), .val (gI (gLshr x2 32)), .unset, .unset, .unset, .unset, .unset, .unset]) d_Ma_pick_5 (by decide) rfl ?_
  refine wp_lload_n d_Ma_pick_7 rfl rfl ?_
  refine wp_bipush d_Ma_pick_8 ⟨by decide, by decide⟩ ?_
  refine wp_lshr d_Ma_pick_10 ?_
  refine wp_ldc2 (n := 65535) d_Ma_pick_11 c_Ma_141 rfl ?_
  refine wp_land d_Ma_pick_14 ?_
  refine wp_l2i d_Ma_pick_15 ?_
  refine wp_istore (L' := [.val (gR G (c + 1057)), .val (gI x1), .val (gL x2), .unset, .val (gI x4), .val (gI (gLshr x2 32)), .val (gI (gLand (gLshr x2 16) 65535)), .unset, .unset, .unset, .unset, .unset]) d_Ma_pick_16 (by decide) rfl ?_
  refine wp_lload_n d_Ma_pick_18 rfl rfl ?_
  refine wp_ldc2 (n := 65535) d_Ma_pick_19 c_Ma_141 rfl ?_
  refine wp_land d_Ma_pick_22 ?_
  refine wp_l2i d_Ma_pick_23 ?_
  refine wp_istore (L' := [.val (gR G (c + 1057)), .val (gI x1), .val (gL x2), .unset, .val (gI x4), .val (gI (gLshr x2 32)), .val (gI (gLand (gLshr x2 16) 65535)), .val (gI (gLand x2 65535)), .unset, .unset, .unset, .unset]) d_Ma_pick_24 (by decide) rfl ?_
  refine wp_aload_n d_Ma_pick_26 rfl rfl (g_nz (gl_1 hX 1057)) ?_
  refine xgetI d_Ma_pick_27 gc_Ma f_Ma_65.1 f_Ma_65.2.1 f_Ma_65.2.2.1 (gl_1 hX 1057) (gl_2 hX (a := 1057) (by decide)) (gl_s hX 37 rfl) f_Ma_65.2.2.2.2.1 (fun h1 => ?_)
  have T := T h1
  refine wp_iconst d_Ma_pick_30 ?_
  refine wp_isub d_Ma_pick_31 ?_
  refine wp_istore (L' := [.val (gR G (c + 1057)), .val (gI x1), .val (gL x2), .unset, .val (gI x4), .val (gI (gLshr x2 32)), .val (gI (gLand (gLshr x2 16) 65535)), .val (gI (gLand x2 65535)), .val (gI ((M (c + 1057) 6) - 1)), .unset, .unset, .unset]) d_Ma_pick_32 (by decide) rfl ?_
  refine wp_aload_n d_Ma_pick_34 rfl rfl (g_nz (gl_1 hX 1057)) ?_
  refine xgetR d_Ma_pick_35 gc_Ma f_Ma_14.1 f_Ma_14.2.1 f_Ma_14.2.2.1 (gl_1 hX 1057) (gl_2 hX (a := 1057) (by decide)) (gl_s hX 37 rfl) f_Ma_14.2.2.2.2.1 (gl_f hX 42 rfl) ?_
  refine xgetR d_Ma_pick_38 gc_Vl f_Ma_107.1 f_Ma_107.2.1 f_Ma_107.2.2.1 (gl_stk hX).1 (gv_2 (gl_stk hX)) (gl_stk hX).2.2.1 f_Ma_107.2.2.2.2.1 (gv_r1 (gl_stk hX)).1 ?_
  refine wp_iload d_Ma_pick_41 rfl ?_
  refine wp_iaload d_Ma_pick_43 (gv_r1 (gl_stk hX)).2.2.1 (gv_r1 (gl_stk hX)).2.2.2 (gv_r1 (gl_stk hX)).2.1 (g32_n T.1 (gv_n (gl_stk hX))) T.1.1 T.1.2 (fun h2 => ?_)
  have T := T.2 h2
  refine wp_iconst d_Ma_pick_44 ?_
  refine xi_ne (tgt := 52) d_Ma_pick_45 (by decide) (w32_id h2) (w32_id (g32_c (x := 4) rfl)) (fun h3 => ?_) (fun h3 => ?_)
  · have T := T.1 h3
    refine wp_iconst d_Ma_pick_52 ?_
    exact wp_md (wpt T (And.intro rfl (And.intro rfl (And.intro rfl (And.intro (gI_w _) (And.intro (gI_w _) (And.intro (gI_w _) (And.intro (gI_w _) True.intro))))))))
  · have T := T.2 h3
    refine wp_iconst d_Ma_pick_48 ?_
    refine wp_goto (tgt := 53) d_Ma_pick_49 (by decide) ?_
    exact wp_md (wpt T (And.intro rfl (And.intro rfl (And.intro rfl (And.intro (gI_w _) (And.intro (gI_w _) (And.intro (gI_w _) (And.intro (gI_w _) True.intro))))))))
set_option maxHeartbeats 4000000 in
theorem w_Ma_pick_53 {l : Launch} {G : gG} {d : Nat} {X : gX} {M : gM} {k : Int → gM → Prop} {c : Nat} (hX : glX X c) {x1 : Int} (hx1 : g32 x1) {x4 : Int} (hx4 : g32 x4) {x5 : Int} (hx5 : g32 x5) {x6 : Int} (hx6 : g32 x6) {x7 : Int} (hx7 : g32 x7) {x8 : Int} (hx8 : g32 x8) {s0 : Int} (hs0 : g32 s0)  (T : (¬ x1 = 9 → ((s0 = 0 → ((¬ x1 = 7 → (wp l G y_Ma_pick (gRm (d + 1)) true (kkI X k) true 120 [.val (gR G (c + 1057)), .val (gI x1), .unset, .unset, .val (gI x4), .val (gI x5), .val (gI x6), .val (gI x7), .val (gI x8), .unset, .unset, .unset] [gI 110, gI x8, gR G (c + 1058)] X M 0 0)) ∧ (x1 = 7 → (wp l G y_Ma_pick (gRm (d + 1)) true (kkI X k) true 120 [.val (gR G (c + 1057)), .val (gI x1), .unset, .unset, .val (gI x4), .val (gI x5), .val (gI x6), .val (gI x7), .val (gI x8), .unset, .unset, .unset] [gI 98, gI x8, gR G (c + 1058)] X M 0 0)))) ∧ (¬ s0 = 0 → (k x7 M)))) ∧ (x1 = 9 → (g32 (M (c + 1057) 6) → ((s0 = 0 → ((s0 = 0 → (k x7 (gUp M (c + 1057) 6 (w32 ((M (c + 1057) 6) - 0))))) ∧ (¬ s0 = 0 → (k x4 (gUp M (c + 1057) 6 (w32 ((M (c + 1057) 6) - 0))))))) ∧ (¬ s0 = 0 → ((s0 = 0 → (k x7 (gUp M (c + 1057) 6 (w32 ((M (c + 1057) 6) - 1))))) ∧ (¬ s0 = 0 → (k x4 (gUp M (c + 1057) 6 (w32 ((M (c + 1057) 6) - 1))))))))))) : wp l G y_Ma_pick (gRm (d + 1)) true (kkI X k) true 53 [.val (gR G (c + 1057)), .val (gI x1), .unset, .unset, .val (gI x4), .val (gI x5), .val (gI x6), .val (gI x7), .val (gI x8), .unset, .unset, .unset] [gI s0] X M 0 0 := by
  refine wp_istore (L' := [.val (gR G (c + 1057)), .val (gI x1), .unset, .unset, .val (gI x4), .val (gI x5), .val (gI x6), .val (gI x7), .val (gI x8), .val (gI s0), .unset, .unset]) d_Ma_pick_53 (by decide) rfl ?_
  refine wp_iload_n d_Ma_pick_55 rfl rfl ?_
  refine wp_bipush d_Ma_pick_56 ⟨by decide, by decide⟩ ?_
  refine xi_ne (tgt := 93) d_Ma_pick_58 (by decide) (w32_id hx1) (w32_id (g32_c (x := 9) rfl)) (fun h10 => ?_) (fun h10 => ?_)
  · have T := T.1 h10
    refine wp_iload d_Ma_pick_93 rfl ?_
    refine xz_eq (tgt := 101) d_Ma_pick_95 (by decide) (w32_id hs0) (fun h5 => ?_) (fun h5 => ?_)
    · have T := T.1 h5
      refine wp_aload_n d_Ma_pick_101 rfl rfl (g_nz (gl_1 hX 1057)) ?_
      refine xgetR d_Ma_pick_102 gc_Ma f_Ma_14.1 f_Ma_14.2.1 f_Ma_14.2.2.1 (gl_1 hX 1057) (gl_2 hX (a := 1057) (by decide)) (gl_s hX 37 rfl) f_Ma_14.2.2.2.2.1 (gl_f hX 42 rfl) ?_
      refine wp_iload d_Ma_pick_105 rfl ?_
      refine wp_iload_n d_Ma_pick_107 rfl rfl ?_
      refine wp_bipush d_Ma_pick_108 ⟨by decide, by decide⟩ ?_
      refine xi_ne (tgt := 118) d_Ma_pick_110 (by decide) (w32_id hx1) (w32_id (g32_c (x := 7) rfl)) (fun h4 => ?_) (fun h4 => ?_)
      · have T := T.1 h4
        refine wp_bipush d_Ma_pick_118 ⟨by decide, by decide⟩ ?_
        exact wp_md (wpt T (And.intro rfl (And.intro rfl (And.intro rfl (And.intro rfl (And.intro rfl (And.intro rfl (And.intro rfl True.intro))))))))
      · have T := T.2 h4
        refine wp_bipush d_Ma_pick_113 ⟨by decide, by decide⟩ ?_
        refine wp_goto (tgt := 120) d_Ma_pick_115 (by decide) ?_
        exact wp_md (wpt T (And.intro rfl (And.intro rfl (And.intro rfl (And.intro rfl (And.intro rfl (And.intro rfl (And.intro rfl True.intro))))))))
    · have T := T.2 h5
      refine wp_iload d_Ma_pick_98 rfl ?_
      exact wp_ireturn d_Ma_pick_100 rfl (fun _ => rfl) (Nat.zero_le _) (Nat.zero_le _) (kI_mk hx7 T)
  · have T := T.2 h10
    refine wp_aload_n d_Ma_pick_61 rfl rfl (g_nz (gl_1 hX 1057)) ?_
    refine wp_dup d_Ma_pick_62 (gR_cat _) ?_
    refine xgetI d_Ma_pick_63 gc_Ma f_Ma_65.1 f_Ma_65.2.1 f_Ma_65.2.2.1 (gl_1 hX 1057) (gl_2 hX (a := 1057) (by decide)) (gl_s hX 37 rfl) f_Ma_65.2.2.2.2.1 (fun h6 => ?_)
    have T := T h6
    refine wp_iload d_Ma_pick_66 rfl ?_
    refine xz_eq (tgt := 75) d_Ma_pick_68 (by decide) (w32_id hs0) (fun h9 => ?_) (fun h9 => ?_)
    · have T := T.1 h9
      refine wp_iconst d_Ma_pick_75 ?_
      refine wp_isub d_Ma_pick_76 ?_
      refine xputI d_Ma_pick_77 gc_Ma f_Ma_65.1 f_Ma_65.2.1 f_Ma_65.2.2.1 (gl_1 hX 1057) (gl_2 hX (a := 1057) (by decide)) (gl_s hX 37 rfl) f_Ma_65.2.2.2.1 f_Ma_65.2.2.2.2.1 f_Ma_65.2.2.2.2.2 rfl ?_
      refine wp_iload d_Ma_pick_80 rfl ?_
      refine xz_eq (tgt := 90) d_Ma_pick_82 (by decide) (w32_id hs0) (fun h7 => ?_) (fun h7 => ?_)
      · have T := T.1 h7
        refine wp_iload d_Ma_pick_90 rfl ?_
        exact wp_ireturn d_Ma_pick_92 rfl (fun _ => rfl) (Nat.zero_le _) (Nat.zero_le _) (kI_mk hx7 T)
      · have T := T.2 h7
        refine wp_iload d_Ma_pick_85 rfl ?_
        refine wp_goto (tgt := 92) d_Ma_pick_87 (by decide) ?_
        exact wp_ireturn d_Ma_pick_92 rfl (fun _ => rfl) (Nat.zero_le _) (Nat.zero_le _) (kI_mk hx4 T)
    · have T := T.2 h9
      refine wp_iconst d_Ma_pick_71 ?_
      refine wp_goto (tgt := 76) d_Ma_pick_72 (by decide) ?_
      refine wp_isub d_Ma_pick_76 ?_
      refine xputI d_Ma_pick_77 gc_Ma f_Ma_65.1 f_Ma_65.2.1 f_Ma_65.2.2.1 (gl_1 hX 1057) (gl_2 hX (a := 1057) (by decide)) (gl_s hX 37 rfl) f_Ma_65.2.2.2.1 f_Ma_65.2.2.2.2.1 f_Ma_65.2.2.2.2.2 rfl ?_
      refine wp_iload d_Ma_pick_80 rfl ?_
      refine xz_eq (tgt := 90) d_Ma_pick_82 (by decide) (w32_id hs0) (fun h8 => ?_) (fun h8 => ?_)
      · have T := T.1 h8
        refine wp_iload d_Ma_pick_90 rfl ?_
        exact wp_ireturn d_Ma_pick_92 rfl (fun _ => rfl) (Nat.zero_le _) (Nat.zero_le _) (kI_mk hx7 T)
      · have T := T.2 h8
        refine wp_iload d_Ma_pick_85 rfl ?_
        refine wp_goto (tgt := 92) d_Ma_pick_87 (by decide) ?_
        exact wp_ireturn d_Ma_pick_92 rfl (fun _ => rfl) (Nat.zero_le _) (Nat.zero_le _) (kI_mk hx4 T)
set_option maxHeartbeats 4000000 in
theorem w_Ma_pick_120 {l : Launch} {G : gG} {d : Nat} {X : gX} {M : gM} {k : Int → gM → Prop} {c : Nat} (hX : glX X c) {x1 : Int} (hx1 : g32 x1) {x4 : Int} (hx4 : g32 x4) {x5 : Int} (hx5 : g32 x5) {x6 : Int} (hx6 : g32 x6) {x7 : Int} (hx7 : g32 x7) {x8 : Int} (hx8 : g32 x8) {s0 : Int} (hs0 : g32 s0) {s1 : Int} (hs1 : g32 s1)  (T : cZ l G y_Vl_turn (gRm d) true [gR G (c + 1058), gI s1, gI s0] X M (fun v12 M11 => ((¬ v12 = 0 → ((¬ x1 = 7 → (((0 : Int) ≤ x8 ∧ x8 < 104) ∧ (g64 (M11 ((c + 1058) + 2) (Int.toNat x8)) → (wp l G y_Ma_pick (gRm (d + 1)) true (kkI X k) true 175 [.val (gR G (c + 1057)), .unset, .unset, .unset, .val (gI x4), .val (gI x5), .val (gI x6), .val (gI x7), .val (gI x8), .unset, .unset, .unset] [gL (M11 ((c + 1058) + 2) (Int.toNat x8))] X M11 0 0)))) ∧ (x1 = 7 → (((0 : Int) ≤ x8 ∧ x8 < 104) ∧ (g64 (M11 ((c + 1058) + 2) (Int.toNat x8)) → (wp l G y_Ma_pick (gRm (d + 1)) true (kkI X k) true 175 [.val (gR G (c + 1057)), .unset, .unset, .unset, .val (gI x4), .val (gI x5), .val (gI x6), .val (gI x7), .val (gI x8), .unset, .unset, .unset] [gL (w64 (2 - (M11 ((c + 1058) + 2) (Int.toNat x8))))] X M11 0 0)))))) ∧ (v12 = 0 → (cV l G y_Vl_set (gRm d) true [gR G (c + 1058), gI x8, gI 4, gL 4] X M11 (fun M17 => (k x7 M17))))))) : wp l G y_Ma_pick (gRm (d + 1)) true (kkI X k) true 120 [.val (gR G (c + 1057)), .val (gI x1), .unset, .unset, .val (gI x4), .val (gI x5), .val (gI x6), .val (gI x7), .val (gI x8), .unset, .unset, .unset] [gI s0, gI s1, gR G (c + 1058)] X M 0 0 := by
  refine xcV_Z (md' := true) (As := [gI s1, gI s0]) (st := []) d_Ma_pick_120 ca_Vl_turn ml_Ma_143 im_Vl_turn se_Vl_turn gc_Vl (gl_stk hX).1 (gv_2 (gl_stk hX)) (gl_stk hX).2.2.1 rfl (by decide) (by decide) rfl (fun _ => rfl) (fun _ => rfl) T (fun v12 M11 h13 T => ?_)
  refine xz_ne (tgt := 142) d_Ma_pick_123 (by decide) (w32_id (g32_z h13)) (fun h18 => ?_) (fun h18 => ?_)
  · have T := T.1 h18
    refine wp_iload_n d_Ma_pick_142 rfl rfl ?_
    refine wp_bipush d_Ma_pick_143 ⟨by decide, by decide⟩ ?_
    refine xi_ne (tgt := 165) d_Ma_pick_145 (by decide) (w32_id hx1) (w32_id (g32_c (x := 7) rfl)) (fun h16 => ?_) (fun h16 => ?_)
    · have T := T.1 h16
      refine wp_aload_n d_Ma_pick_165 rfl rfl (g_nz (gl_1 hX 1057)) ?_
      refine xgetR d_Ma_pick_166 gc_Ma f_Ma_14.1 f_Ma_14.2.1 f_Ma_14.2.2.1 (gl_1 hX 1057) (gl_2 hX (a := 1057) (by decide)) (gl_s hX 37 rfl) f_Ma_14.2.2.2.2.1 (gl_f hX 42 rfl) ?_
      refine xgetR d_Ma_pick_169 gc_Vl f_Ma_149.1 f_Ma_149.2.1 f_Ma_149.2.2.1 (gl_stk hX).1 (gv_2 (gl_stk hX)) (gl_stk hX).2.2.1 f_Ma_149.2.2.2.2.1 (gv_r2 (gl_stk hX)).1 ?_
      refine wp_iload d_Ma_pick_172 rfl ?_
      refine wp_laload d_Ma_pick_174 (gv_r2 (gl_stk hX)).2.2.1 (gv_r2 (gl_stk hX)).2.2.2 (gv_r2 (gl_stk hX)).2.1 (g32_n T.1 (gv_n (gl_stk hX))) T.1.1 T.1.2 (fun h14 => ?_)
      have T := T.2 h14
      exact wp_md (wpt T (And.intro rfl (And.intro rfl (And.intro rfl (And.intro rfl (And.intro rfl (And.intro rfl True.intro)))))))
    · have T := T.2 h16
      refine wp_ldc2 (n := 2) d_Ma_pick_148 c_Ma_130 rfl ?_
      refine wp_aload_n d_Ma_pick_151 rfl rfl (g_nz (gl_1 hX 1057)) ?_
      refine xgetR d_Ma_pick_152 gc_Ma f_Ma_14.1 f_Ma_14.2.1 f_Ma_14.2.2.1 (gl_1 hX 1057) (gl_2 hX (a := 1057) (by decide)) (gl_s hX 37 rfl) f_Ma_14.2.2.2.2.1 (gl_f hX 42 rfl) ?_
      refine xgetR d_Ma_pick_155 gc_Vl f_Ma_149.1 f_Ma_149.2.1 f_Ma_149.2.2.1 (gl_stk hX).1 (gv_2 (gl_stk hX)) (gl_stk hX).2.2.1 f_Ma_149.2.2.2.2.1 (gv_r2 (gl_stk hX)).1 ?_
      refine wp_iload d_Ma_pick_158 rfl ?_
      refine wp_laload d_Ma_pick_160 (gv_r2 (gl_stk hX)).2.2.1 (gv_r2 (gl_stk hX)).2.2.2 (gv_r2 (gl_stk hX)).2.1 (g32_n T.1 (gv_n (gl_stk hX))) T.1.1 T.1.2 (fun h15 => ?_)
      have T := T.2 h15
      refine wp_lsub d_Ma_pick_161 ?_
      refine wp_goto (tgt := 175) d_Ma_pick_162 (by decide) ?_
      exact wp_md (wp_st (st' := [gL (w64 (2 - (M11 ((c + 1058) + 2) (Int.toNat x8))))]) (by simp only [gI_w, gL_w]) (wpt T (And.intro rfl (And.intro rfl (And.intro rfl (And.intro rfl (And.intro rfl (And.intro rfl True.intro))))))))
  · have T := T.2 h18
    refine wp_aload_n d_Ma_pick_126 rfl rfl (g_nz (gl_1 hX 1057)) ?_
    refine xgetR d_Ma_pick_127 gc_Ma f_Ma_14.1 f_Ma_14.2.1 f_Ma_14.2.2.1 (gl_1 hX 1057) (gl_2 hX (a := 1057) (by decide)) (gl_s hX 37 rfl) f_Ma_14.2.2.2.2.1 (gl_f hX 42 rfl) ?_
    refine wp_iload d_Ma_pick_130 rfl ?_
    refine wp_iconst d_Ma_pick_132 ?_
    refine wp_ldc2 (n := 4) d_Ma_pick_133 c_Ma_147 rfl ?_
    refine xcV_V (md' := true) (As := [gI x8, gI 4, gL 4]) (st := []) d_Ma_pick_136 ca_Vl_set ml_Ma_110 im_Vl_set se_Vl_set gc_Vl (gl_stk hX).1 (gv_2 (gl_stk hX)) (gl_stk hX).2.2.1 rfl (by decide) (by decide) rfl (fun _ => rfl) (fun _ => rfl) T (fun M17 T => ?_)
    refine wp_iload d_Ma_pick_139 rfl ?_
    exact wp_ireturn d_Ma_pick_141 rfl (fun _ => rfl) (Nat.zero_le _) (Nat.zero_le _) (kI_mk hx7 T)
set_option maxHeartbeats 4000000 in
theorem w_Ma_pick_175 {l : Launch} {G : gG} {d : Nat} {X : gX} {M : gM} {k : Int → gM → Prop} {c : Nat} (hX : glX X c) {x4 : Int} (hx4 : g32 x4) {x5 : Int} (hx5 : g32 x5) {x6 : Int} (hx6 : g32 x6) {x7 : Int} (hx7 : g32 x7) {x8 : Int} (hx8 : g32 x8) {s0 : Int} (hs0 : g64 s0)  (T : (s0 < 1 → (cV l G y_Vl_set (gRm d) true [gR G (c + 1058), gI x8, gI 4, gL 4] X M (fun M19 => (k x7 M19)))) ∧ (¬ s0 < 1 → ((s0 ≤ 3 → (g32 (M (c + 1057) 6) → ((¬ s0 = x5 → ((¬ s0 = x5 → (k x6 (gUp M (c + 1057) 6 (w32 ((M (c + 1057) 6) - 0))))) ∧ (s0 = x5 → (k x4 (gUp M (c + 1057) 6 (w32 ((M (c + 1057) 6) - 0))))))) ∧ (s0 = x5 → ((¬ s0 = x5 → (k x6 (gUp M (c + 1057) 6 (w32 ((M (c + 1057) 6) - 1))))) ∧ (s0 = x5 → (k x4 (gUp M (c + 1057) 6 (w32 ((M (c + 1057) 6) - 1)))))))))) ∧ (¬ s0 ≤ 3 → (cV l G y_Vl_set (gRm d) true [gR G (c + 1058), gI x8, gI 4, gL 4] X M (fun M24 => (k x7 M24))))))) : wp l G y_Ma_pick (gRm (d + 1)) true (kkI X k) true 175 [.val (gR G (c + 1057)), .unset, .unset, .unset, .val (gI x4), .val (gI x5), .val (gI x6), .val (gI x7), .val (gI x8), .unset, .unset, .unset] [gL s0] X M 0 0 := by
  refine wp_lstore (L' := [.val (gR G (c + 1057)), .unset, .unset, .unset, .val (gI x4), .val (gI x5), .val (gI x6), .val (gI x7), .val (gI x8), .unset, .val (gL s0), .unset]) d_Ma_pick_175 (by decide) rfl ?_
  refine wp_lload d_Ma_pick_177 rfl ?_
  refine wp_lconst1 d_Ma_pick_179 ?_
  refine xl_lt (tgt := 193) d_Ma_pick_180 d_Ma_pick_181 (by decide) (w64_id hs0) (w64_id (g64_c (x := 1) rfl)) (fun h26 => ?_) (fun h26 => ?_)
  · have T := T.1 h26
    refine wp_aload_n d_Ma_pick_193 rfl rfl (g_nz (gl_1 hX 1057)) ?_
    refine xgetR d_Ma_pick_194 gc_Ma f_Ma_14.1 f_Ma_14.2.1 f_Ma_14.2.2.1 (gl_1 hX 1057) (gl_2 hX (a := 1057) (by decide)) (gl_s hX 37 rfl) f_Ma_14.2.2.2.2.1 (gl_f hX 42 rfl) ?_
    refine wp_iload d_Ma_pick_197 rfl ?_
    refine wp_iconst d_Ma_pick_199 ?_
    refine wp_ldc2 (n := 4) d_Ma_pick_200 c_Ma_147 rfl ?_
    refine xcV_V (md' := true) (As := [gI x8, gI 4, gL 4]) (st := []) d_Ma_pick_203 ca_Vl_set ml_Ma_110 im_Vl_set se_Vl_set gc_Vl (gl_stk hX).1 (gv_2 (gl_stk hX)) (gl_stk hX).2.2.1 rfl (by decide) (by decide) rfl (fun _ => rfl) (fun _ => rfl) T (fun M19 T => ?_)
    refine wp_iload d_Ma_pick_206 rfl ?_
    exact wp_ireturn d_Ma_pick_208 rfl (fun _ => rfl) (Nat.zero_le _) (Nat.zero_le _) (kI_mk hx7 T)
  · have T := T.2 h26
    refine wp_lload d_Ma_pick_184 rfl ?_
    refine wp_ldc2 (n := 3) d_Ma_pick_186 c_Ma_152 rfl ?_
    refine xl_le (tgt := 209) d_Ma_pick_189 d_Ma_pick_190 (by decide) (w64_id hs0) (w64_id (g64_c (x := 3) rfl)) (fun h25 => ?_) (fun h25 => ?_)
    · have T := T.1 h25
      refine wp_aload_n d_Ma_pick_209 rfl rfl (g_nz (gl_1 hX 1057)) ?_
      refine wp_dup d_Ma_pick_210 (gR_cat _) ?_
      refine xgetI d_Ma_pick_211 gc_Ma f_Ma_65.1 f_Ma_65.2.1 f_Ma_65.2.2.1 (gl_1 hX 1057) (gl_2 hX (a := 1057) (by decide)) (gl_s hX 37 rfl) f_Ma_65.2.2.2.2.1 (fun h20 => ?_)
      have T := T h20
      refine wp_lload d_Ma_pick_214 rfl ?_
      refine wp_iload d_Ma_pick_216 rfl ?_
      refine xi2l d_Ma_pick_218 (w32_id hx5) ?_
      refine xl_ne (tgt := 227) d_Ma_pick_219 d_Ma_pick_220 (by decide) (w64_id hs0) (w64_id (g64_32 hx5)) (fun h23 => ?_) (fun h23 => ?_)
      · have T := T.1 h23
        refine wp_iconst d_Ma_pick_227 ?_
        refine wp_isub d_Ma_pick_228 ?_
        refine xputI d_Ma_pick_229 gc_Ma f_Ma_65.1 f_Ma_65.2.1 f_Ma_65.2.2.1 (gl_1 hX 1057) (gl_2 hX (a := 1057) (by decide)) (gl_s hX 37 rfl) f_Ma_65.2.2.2.1 f_Ma_65.2.2.2.2.1 f_Ma_65.2.2.2.2.2 rfl ?_
        refine wp_lload d_Ma_pick_232 rfl ?_
        refine wp_iload d_Ma_pick_234 rfl ?_
        refine xi2l d_Ma_pick_236 (w32_id hx5) ?_
        refine xl_ne (tgt := 246) d_Ma_pick_237 d_Ma_pick_238 (by decide) (w64_id hs0) (w64_id (g64_32 hx5)) (fun h21 => ?_) (fun h21 => ?_)
        · have T := T.1 h21
          refine wp_iload d_Ma_pick_246 rfl ?_
          exact wp_ireturn d_Ma_pick_248 rfl (fun _ => rfl) (Nat.zero_le _) (Nat.zero_le _) (kI_mk hx6 T)
        · have T := T.2 h21
          refine wp_iload d_Ma_pick_241 rfl ?_
          refine wp_goto (tgt := 248) d_Ma_pick_243 (by decide) ?_
          exact wp_ireturn d_Ma_pick_248 rfl (fun _ => rfl) (Nat.zero_le _) (Nat.zero_le _) (kI_mk hx4 T)
      · have T := T.2 h23
        refine wp_iconst d_Ma_pick_223 ?_
        refine wp_goto (tgt := 228) d_Ma_pick_224 (by decide) ?_
        refine wp_isub d_Ma_pick_228 ?_
        refine xputI d_Ma_pick_229 gc_Ma f_Ma_65.1 f_Ma_65.2.1 f_Ma_65.2.2.1 (gl_1 hX 1057) (gl_2 hX (a := 1057) (by decide)) (gl_s hX 37 rfl) f_Ma_65.2.2.2.1 f_Ma_65.2.2.2.2.1 f_Ma_65.2.2.2.2.2 rfl ?_
        refine wp_lload d_Ma_pick_232 rfl ?_
        refine wp_iload d_Ma_pick_234 rfl ?_
        refine xi2l d_Ma_pick_236 (w32_id hx5) ?_
        refine xl_ne (tgt := 246) d_Ma_pick_237 d_Ma_pick_238 (by decide) (w64_id hs0) (w64_id (g64_32 hx5)) (fun h22 => ?_) (fun h22 => ?_)
        · have T := T.1 h22
          refine wp_iload d_Ma_pick_246 rfl ?_
          exact wp_ireturn d_Ma_pick_248 rfl (fun _ => rfl) (Nat.zero_le _) (Nat.zero_le _) (kI_mk hx6 T)
        · have T := T.2 h22
          refine wp_iload d_Ma_pick_241 rfl ?_
          refine wp_goto (tgt := 248) d_Ma_pick_243 (by decide) ?_
          exact wp_ireturn d_Ma_pick_248 rfl (fun _ => rfl) (Nat.zero_le _) (Nat.zero_le _) (kI_mk hx4 T)
    · have T := T.2 h25
      refine wp_aload_n d_Ma_pick_193 rfl rfl (g_nz (gl_1 hX 1057)) ?_
      refine xgetR d_Ma_pick_194 gc_Ma f_Ma_14.1 f_Ma_14.2.1 f_Ma_14.2.2.1 (gl_1 hX 1057) (gl_2 hX (a := 1057) (by decide)) (gl_s hX 37 rfl) f_Ma_14.2.2.2.2.1 (gl_f hX 42 rfl) ?_
      refine wp_iload d_Ma_pick_197 rfl ?_
      refine wp_iconst d_Ma_pick_199 ?_
      refine wp_ldc2 (n := 4) d_Ma_pick_200 c_Ma_147 rfl ?_
      refine xcV_V (md' := true) (As := [gI x8, gI 4, gL 4]) (st := []) d_Ma_pick_203 ca_Vl_set ml_Ma_110 im_Vl_set se_Vl_set gc_Vl (gl_stk hX).1 (gv_2 (gl_stk hX)) (gl_stk hX).2.2.1 rfl (by decide) (by decide) rfl (fun _ => rfl) (fun _ => rfl) T (fun M24 T => ?_)
      refine wp_iload d_Ma_pick_206 rfl ?_
      exact wp_ireturn d_Ma_pick_208 rfl (fun _ => rfl) (Nat.zero_le _) (Nat.zero_le _) (kI_mk hx7 T)
theorem e_Ma_pick {l : Launch} {G : gG} {d : Nat} {X : gX} {M : gM} {k : Int → gM → Prop} {c : Nat} {x1 : Int} {x2 : Int} {x4 : Int} (T : wp l G y_Ma_pick (gRm (d + 1)) true (kkI X k) false 0 [.val (gR G (c + 1057)), .val (gI x1), .val (gL x2), .unset, .val (gI x4), .unset, .unset, .unset, .unset, .unset, .unset, .unset] [] X M 0 0) : cI l G y_Ma_pick (gRm (d + 1)) true [gR G (c + 1057), gI x1, gL x2, gI x4] X M k := cen_I (plainFor_of_name rfl) (by simp only [lg_sl_R, lg_sl_I, lg_sl_L, lg_sl_N, List.length_cons, List.length_nil]; decide) (by unfold gEn; simp only [lg_sl_R, lg_sl_I, lg_sl_L, lg_sl_N]; exact wpt T (And.intro rfl (And.intro rfl (And.intro rfl (And.intro rfl True.intro)))))
theorem d_Ma_settle_0 : decode prog_6_method_11_code 0 = .ok (.aload_n 0, 1) := by decide +kernel
theorem d_Ma_settle_1 : decode prog_6_method_11_code 1 = .ok (.getfield 14, 3) := by decide +kernel
theorem d_Ma_settle_4 : decode prog_6_method_11_code 4 = .ok (.iload_n 1, 1) := by decide +kernel
theorem d_Ma_settle_5 : decode prog_6_method_11_code 5 = .ok (.iload 4, 2) := by decide +kernel
theorem d_Ma_settle_7 : decode prog_6_method_11_code 7 = .ok (.ifCond .eq 7, 3) := by decide +kernel
theorem d_Ma_settle_14 : decode prog_6_method_11_code 14 = .ok (.iconst 4, 1) := by decide +kernel
theorem d_Ma_settle_15 : decode prog_6_method_11_code 15 = .ok (.iload 4, 2) := by decide +kernel
theorem d_Ma_settle_17 : decode prog_6_method_11_code 17 = .ok (.ifCond .eq 7, 3) := by decide +kernel
theorem d_Ma_settle_24 : decode prog_6_method_11_code 24 = .ok (.ldc2_w 231, 3) := by decide +kernel
theorem d_Ma_settle_27 : decode prog_6_method_11_code 27 = .ok (.invokevirtual 110, 3) := by decide +kernel
theorem d_Ma_settle_30 : decode prog_6_method_11_code 30 = .ok (.return_, 1) := by decide +kernel
theorem d_Ma_settle_20 : decode prog_6_method_11_code 20 = .ok (.lload_n 2, 1) := by decide +kernel
theorem d_Ma_settle_21 : decode prog_6_method_11_code 21 = .ok (.goto 6, 3) := by decide +kernel
theorem d_Ma_settle_10 : decode prog_6_method_11_code 10 = .ok (.iconst 1, 1) := by decide +kernel
theorem d_Ma_settle_11 : decode prog_6_method_11_code 11 = .ok (.goto 4, 3) := by decide +kernel
set_option maxHeartbeats 4000000 in
theorem w_Ma_settle_0 {l : Launch} {G : gG} {d : Nat} {X : gX} {M : gM} {k : gM → Prop} {c : Nat} (hX : glX X c) {x1 : Int} (hx1 : g32 x1) {x2 : Int} (hx2 : g64 x2) {x4 : Int} (hx4 : 0 ≤ x4 ∧ x4 ≤ 1)  (T : (x4 = 0 → ((x4 = 0 → (cV l G y_Vl_set (gRm d) true [gR G (c + 1058), gI x1, gI 4, gL 6] X M (fun M1 => (k M1)))) ∧ (¬ x4 = 0 → (cV l G y_Vl_set (gRm d) true [gR G (c + 1058), gI x1, gI 4, gL x2] X M (fun M2 => (k M2)))))) ∧ (¬ x4 = 0 → ((x4 = 0 → (cV l G y_Vl_set (gRm d) true [gR G (c + 1058), gI x1, gI 1, gL 6] X M (fun M4 => (k M4)))) ∧ (¬ x4 = 0 → (cV l G y_Vl_set (gRm d) true [gR G (c + 1058), gI x1, gI 1, gL x2] X M (fun M5 => (k M5))))))) : wp l G y_Ma_settle (gRm (d + 1)) true (kkV X k) false 0 [.val (gR G (c + 1057)), .val (gI x1), .val (gL x2), .unset, .val (gI x4)] [] X M 0 0 := by
  refine wp_aload_n d_Ma_settle_0 rfl rfl (g_nz (gl_1 hX 1057)) ?_
  refine xgetR d_Ma_settle_1 gc_Ma f_Ma_14.1 f_Ma_14.2.1 f_Ma_14.2.2.1 (gl_1 hX 1057) (gl_2 hX (a := 1057) (by decide)) (gl_s hX 37 rfl) f_Ma_14.2.2.2.2.1 (gl_f hX 42 rfl) ?_
  refine wp_iload_n d_Ma_settle_4 rfl rfl ?_
  refine wp_iload d_Ma_settle_5 rfl ?_
  refine xz_eq (tgt := 14) d_Ma_settle_7 (by decide) (w32_id (g32_z hx4)) (fun h7 => ?_) (fun h7 => ?_)
  · have T := T.1 h7
    refine wp_iconst d_Ma_settle_14 ?_
    refine wp_iload d_Ma_settle_15 rfl ?_
    refine xz_eq (tgt := 24) d_Ma_settle_17 (by decide) (w32_id (g32_z hx4)) (fun h3 => ?_) (fun h3 => ?_)
    · have T := T.1 h3
      refine wp_ldc2 (n := 6) d_Ma_settle_24 c_Ma_231 rfl ?_
      refine xcV_V (md' := true) (As := [gI x1, gI 4, gL 6]) (st := []) d_Ma_settle_27 ca_Vl_set ml_Ma_110 im_Vl_set se_Vl_set gc_Vl (gl_stk hX).1 (gv_2 (gl_stk hX)) (gl_stk hX).2.2.1 rfl (by decide) (by decide) rfl (fun _ => rfl) (fun _ => rfl) T (fun M1 T => ?_)
      exact wp_return d_Ma_settle_30 rfl (fun _ => rfl) (Nat.zero_le _) (Nat.zero_le _) (kV_mk T)
    · have T := T.2 h3
      refine wp_lload_n d_Ma_settle_20 rfl rfl ?_
      refine wp_goto (tgt := 27) d_Ma_settle_21 (by decide) ?_
      refine xcV_V (md' := true) (As := [gI x1, gI 4, gL x2]) (st := []) d_Ma_settle_27 ca_Vl_set ml_Ma_110 im_Vl_set se_Vl_set gc_Vl (gl_stk hX).1 (gv_2 (gl_stk hX)) (gl_stk hX).2.2.1 rfl (by decide) (by decide) rfl (fun _ => rfl) (fun _ => rfl) T (fun M2 T => ?_)
      exact wp_return d_Ma_settle_30 rfl (fun _ => rfl) (Nat.zero_le _) (Nat.zero_le _) (kV_mk T)
  · have T := T.2 h7
    refine wp_iconst d_Ma_settle_10 ?_
    refine wp_goto (tgt := 15) d_Ma_settle_11 (by decide) ?_
    refine wp_iload d_Ma_settle_15 rfl ?_
    refine xz_eq (tgt := 24) d_Ma_settle_17 (by decide) (w32_id (g32_z hx4)) (fun h6 => ?_) (fun h6 => ?_)
    · have T := T.1 h6
      refine wp_ldc2 (n := 6) d_Ma_settle_24 c_Ma_231 rfl ?_
      refine xcV_V (md' := true) (As := [gI x1, gI 1, gL 6]) (st := []) d_Ma_settle_27 ca_Vl_set ml_Ma_110 im_Vl_set se_Vl_set gc_Vl (gl_stk hX).1 (gv_2 (gl_stk hX)) (gl_stk hX).2.2.1 rfl (by decide) (by decide) rfl (fun _ => rfl) (fun _ => rfl) T (fun M4 T => ?_)
      exact wp_return d_Ma_settle_30 rfl (fun _ => rfl) (Nat.zero_le _) (Nat.zero_le _) (kV_mk T)
    · have T := T.2 h6
      refine wp_lload_n d_Ma_settle_20 rfl rfl ?_
      refine wp_goto (tgt := 27) d_Ma_settle_21 (by decide) ?_
      refine xcV_V (md' := true) (As := [gI x1, gI 1, gL x2]) (st := []) d_Ma_settle_27 ca_Vl_set ml_Ma_110 im_Vl_set se_Vl_set gc_Vl (gl_stk hX).1 (gv_2 (gl_stk hX)) (gl_stk hX).2.2.1 rfl (by decide) (by decide) rfl (fun _ => rfl) (fun _ => rfl) T (fun M5 T => ?_)
      exact wp_return d_Ma_settle_30 rfl (fun _ => rfl) (Nat.zero_le _) (Nat.zero_le _) (kV_mk T)
theorem e_Ma_settle {l : Launch} {G : gG} {d : Nat} {X : gX} {M : gM} {k : gM → Prop} {c : Nat} {x1 : Int} {x2 : Int} {x4 : Int} (T : wp l G y_Ma_settle (gRm (d + 1)) true (kkV X k) false 0 [.val (gR G (c + 1057)), .val (gI x1), .val (gL x2), .unset, .val (gI x4)] [] X M 0 0) : cV l G y_Ma_settle (gRm (d + 1)) true [gR G (c + 1057), gI x1, gL x2, gI x4] X M k := cen_V (plainFor_of_name rfl) (by simp only [lg_sl_R, lg_sl_I, lg_sl_L, lg_sl_N, List.length_cons, List.length_nil]; decide) (by unfold gEn; simp only [lg_sl_R, lg_sl_I, lg_sl_L, lg_sl_N]; exact wpt T (And.intro rfl (And.intro rfl (And.intro rfl (And.intro rfl True.intro)))))
theorem d_Ma_divide_0 : decode prog_6_method_12_code 0 = .ok (.lload 4, 2) := by decide +kernel
theorem d_Ma_divide_2 : decode prog_6_method_12_code 2 = .ok (.lconst 0, 1) := by decide +kernel
theorem d_Ma_divide_3 : decode prog_6_method_12_code 3 = .ok (.lcmp, 1) := by decide +kernel
theorem d_Ma_divide_4 : decode prog_6_method_12_code 4 = .ok (.ifCond .ne 18, 3) := by decide +kernel
theorem d_Ma_divide_22 : decode prog_6_method_12_code 22 = .ok (.aload_n 0, 1) := by decide +kernel
theorem d_Ma_divide_23 : decode prog_6_method_12_code 23 = .ok (.iload_n 1, 1) := by decide +kernel
theorem d_Ma_divide_24 : decode prog_6_method_12_code 24 = .ok (.lload_n 2, 1) := by decide +kernel
theorem d_Ma_divide_25 : decode prog_6_method_12_code 25 = .ok (.lload 4, 2) := by decide +kernel
theorem d_Ma_divide_27 : decode prog_6_method_12_code 27 = .ok (.ldiv, 1) := by decide +kernel
theorem d_Ma_divide_28 : decode prog_6_method_12_code 28 = .ok (.lload_n 2, 1) := by decide +kernel
theorem d_Ma_divide_29 : decode prog_6_method_12_code 29 = .ok (.ldc2_w 223, 3) := by decide +kernel
theorem d_Ma_divide_32 : decode prog_6_method_12_code 32 = .ok (.lcmp, 1) := by decide +kernel
theorem d_Ma_divide_33 : decode prog_6_method_12_code 33 = .ok (.ifCond .ne 12, 3) := by decide +kernel
theorem d_Ma_divide_45 : decode prog_6_method_12_code 45 = .ok (.iconst 1, 1) := by decide +kernel
theorem d_Ma_divide_46 : decode prog_6_method_12_code 46 = .ok (.goto 4, 3) := by decide +kernel
theorem d_Ma_divide_50 : decode prog_6_method_12_code 50 = .ok (.invokevirtual 205, 3) := by decide +kernel
theorem d_Ma_divide_53 : decode prog_6_method_12_code 53 = .ok (.return_, 1) := by decide +kernel
theorem d_Ma_divide_36 : decode prog_6_method_12_code 36 = .ok (.lload 4, 2) := by decide +kernel
theorem d_Ma_divide_38 : decode prog_6_method_12_code 38 = .ok (.ldc2_w 235, 3) := by decide +kernel
theorem d_Ma_divide_41 : decode prog_6_method_12_code 41 = .ok (.lcmp, 1) := by decide +kernel
theorem d_Ma_divide_42 : decode prog_6_method_12_code 42 = .ok (.ifCond .eq 7, 3) := by decide +kernel
theorem d_Ma_divide_49 : decode prog_6_method_12_code 49 = .ok (.iconst 0, 1) := by decide +kernel
theorem d_Ma_divide_7 : decode prog_6_method_12_code 7 = .ok (.aload_n 0, 1) := by decide +kernel
theorem d_Ma_divide_8 : decode prog_6_method_12_code 8 = .ok (.getfield 14, 3) := by decide +kernel
theorem d_Ma_divide_11 : decode prog_6_method_12_code 11 = .ok (.iload_n 1, 1) := by decide +kernel
theorem d_Ma_divide_12 : decode prog_6_method_12_code 12 = .ok (.iconst 4, 1) := by decide +kernel
theorem d_Ma_divide_13 : decode prog_6_method_12_code 13 = .ok (.ldc2_w 233, 3) := by decide +kernel
theorem d_Ma_divide_16 : decode prog_6_method_12_code 16 = .ok (.invokevirtual 110, 3) := by decide +kernel
theorem d_Ma_divide_19 : decode prog_6_method_12_code 19 = .ok (.goto 34, 3) := by decide +kernel
set_option maxHeartbeats 4000000 in
theorem w_Ma_divide_0 {l : Launch} {G : gG} {d : Nat} {X : gX} {M : gM} {k : gM → Prop} {c : Nat} (hX : glX X c) {x1 : Int} (hx1 : g32 x1) {x2 : Int} (hx2 : g64 x2) {x4 : Int} (hx4 : g64 x4)  (T : (¬ x4 = 0 → ((x4 ≠ 0) ∧ ((¬ x2 = (-9223372036854775808) → (cV l G y_Ma_settle (gRm d) true [gR G (c + 1057), gI x1, gL (x2.tdiv x4), gI 1] X M (fun M1 => (k M1)))) ∧ (x2 = (-9223372036854775808) → ((x4 = (-1) → (cV l G y_Ma_settle (gRm d) true [gR G (c + 1057), gI x1, gL (x2.tdiv x4), gI 0] X M (fun M2 => (k M2)))) ∧ (¬ x4 = (-1) → (cV l G y_Ma_settle (gRm d) true [gR G (c + 1057), gI x1, gL (x2.tdiv x4), gI 1] X M (fun M3 => (k M3))))))))) ∧ (x4 = 0 → (cV l G y_Vl_set (gRm d) true [gR G (c + 1058), gI x1, gI 4, gL 5] X M (fun M6 => (k M6))))) : wp l G y_Ma_divide (gRm (d + 1)) true (kkV X k) false 0 [.val (gR G (c + 1057)), .val (gI x1), .val (gL x2), .unset, .val (gL x4), .unset] [] X M 0 0 := by
  refine wp_lload d_Ma_divide_0 rfl ?_
  refine wp_lconst0 d_Ma_divide_2 ?_
  refine xl_ne (tgt := 22) d_Ma_divide_3 d_Ma_divide_4 (by decide) (w64_id hx4) (w64_id (g64_c (x := 0) rfl)) (fun h7 => ?_) (fun h7 => ?_)
  · have T := T.1 h7
    refine wp_aload_n d_Ma_divide_22 rfl rfl (g_nz (gl_1 hX 1057)) ?_
    refine wp_iload_n d_Ma_divide_23 rfl rfl ?_
    refine wp_lload_n d_Ma_divide_24 rfl rfl ?_
    refine wp_lload d_Ma_divide_25 rfl ?_
    refine xldiv d_Ma_divide_27 (w64_id hx2) (w64_id hx4) T.1 ?_
    have T := T.2
    refine wp_lload_n d_Ma_divide_28 rfl rfl ?_
    refine wp_ldc2 (n := (-9223372036854775808)) d_Ma_divide_29 c_Ma_223 rfl ?_
    refine xl_ne (tgt := 45) d_Ma_divide_32 d_Ma_divide_33 (by decide) (w64_id hx2) (w64_id (g64_c (x := (-9223372036854775808)) rfl)) (fun h5 => ?_) (fun h5 => ?_)
    · have T := T.1 h5
      refine wp_iconst d_Ma_divide_45 ?_
      refine wp_goto (tgt := 50) d_Ma_divide_46 (by decide) ?_
      refine xcV_V (md' := true) (As := [gI x1, gL (x2.tdiv x4), gI 1]) (st := []) d_Ma_divide_50 ca_Ma_settle ml_Ma_205 im_Ma_settle se_Ma_settle gc_Ma (gl_1 hX 1057) (gl_2 hX (a := 1057) (by decide)) (gl_s hX 37 rfl) rfl (by decide) (by decide) rfl (fun _ => rfl) (fun _ => rfl) T (fun M1 T => ?_)
      exact wp_return d_Ma_divide_53 rfl (fun _ => rfl) (Nat.zero_le _) (Nat.zero_le _) (kV_mk T)
    · have T := T.2 h5
      refine wp_lload d_Ma_divide_36 rfl ?_
      refine wp_ldc2 (n := (-1)) d_Ma_divide_38 c_Ma_235 rfl ?_
      refine xl_eq (tgt := 49) d_Ma_divide_41 d_Ma_divide_42 (by decide) (w64_id hx4) (w64_id (g64_c (x := (-1)) rfl)) (fun h4 => ?_) (fun h4 => ?_)
      · have T := T.1 h4
        refine wp_iconst d_Ma_divide_49 ?_
        refine xcV_V (md' := true) (As := [gI x1, gL (x2.tdiv x4), gI 0]) (st := []) d_Ma_divide_50 ca_Ma_settle ml_Ma_205 im_Ma_settle se_Ma_settle gc_Ma (gl_1 hX 1057) (gl_2 hX (a := 1057) (by decide)) (gl_s hX 37 rfl) rfl (by decide) (by decide) rfl (fun _ => rfl) (fun _ => rfl) T (fun M2 T => ?_)
        exact wp_return d_Ma_divide_53 rfl (fun _ => rfl) (Nat.zero_le _) (Nat.zero_le _) (kV_mk T)
      · have T := T.2 h4
        refine wp_iconst d_Ma_divide_45 ?_
        refine wp_goto (tgt := 50) d_Ma_divide_46 (by decide) ?_
        refine xcV_V (md' := true) (As := [gI x1, gL (x2.tdiv x4), gI 1]) (st := []) d_Ma_divide_50 ca_Ma_settle ml_Ma_205 im_Ma_settle se_Ma_settle gc_Ma (gl_1 hX 1057) (gl_2 hX (a := 1057) (by decide)) (gl_s hX 37 rfl) rfl (by decide) (by decide) rfl (fun _ => rfl) (fun _ => rfl) T (fun M3 T => ?_)
        exact wp_return d_Ma_divide_53 rfl (fun _ => rfl) (Nat.zero_le _) (Nat.zero_le _) (kV_mk T)
  · have T := T.2 h7
    refine wp_aload_n d_Ma_divide_7 rfl rfl (g_nz (gl_1 hX 1057)) ?_
    refine xgetR d_Ma_divide_8 gc_Ma f_Ma_14.1 f_Ma_14.2.1 f_Ma_14.2.2.1 (gl_1 hX 1057) (gl_2 hX (a := 1057) (by decide)) (gl_s hX 37 rfl) f_Ma_14.2.2.2.2.1 (gl_f hX 42 rfl) ?_
    refine wp_iload_n d_Ma_divide_11 rfl rfl ?_
    refine wp_iconst d_Ma_divide_12 ?_
    refine wp_ldc2 (n := 5) d_Ma_divide_13 c_Ma_233 rfl ?_
    refine xcV_V (md' := true) (As := [gI x1, gI 4, gL 5]) (st := []) d_Ma_divide_16 ca_Vl_set ml_Ma_110 im_Vl_set se_Vl_set gc_Vl (gl_stk hX).1 (gv_2 (gl_stk hX)) (gl_stk hX).2.2.1 rfl (by decide) (by decide) rfl (fun _ => rfl) (fun _ => rfl) T (fun M6 T => ?_)
    refine wp_goto (tgt := 53) d_Ma_divide_19 (by decide) ?_
    exact wp_return d_Ma_divide_53 rfl (fun _ => rfl) (Nat.zero_le _) (Nat.zero_le _) (kV_mk T)
theorem e_Ma_divide {l : Launch} {G : gG} {d : Nat} {X : gX} {M : gM} {k : gM → Prop} {c : Nat} {x1 : Int} {x2 : Int} {x4 : Int} (T : wp l G y_Ma_divide (gRm (d + 1)) true (kkV X k) false 0 [.val (gR G (c + 1057)), .val (gI x1), .val (gL x2), .unset, .val (gL x4), .unset] [] X M 0 0) : cV l G y_Ma_divide (gRm (d + 1)) true [gR G (c + 1057), gI x1, gL x2, gL x4] X M k := cen_V (plainFor_of_name rfl) (by simp only [lg_sl_R, lg_sl_I, lg_sl_L, lg_sl_N, List.length_cons, List.length_nil]; decide) (by unfold gEn; simp only [lg_sl_R, lg_sl_I, lg_sl_L, lg_sl_N]; exact wpt T (And.intro rfl (And.intro rfl (And.intro rfl (And.intro rfl True.intro)))))
theorem d_Ma_modulo_0 : decode prog_6_method_13_code 0 = .ok (.lload 4, 2) := by decide +kernel
theorem d_Ma_modulo_2 : decode prog_6_method_13_code 2 = .ok (.lconst 0, 1) := by decide +kernel
theorem d_Ma_modulo_3 : decode prog_6_method_13_code 3 = .ok (.lcmp, 1) := by decide +kernel
theorem d_Ma_modulo_4 : decode prog_6_method_13_code 4 = .ok (.ifCond .ne 18, 3) := by decide +kernel
theorem d_Ma_modulo_22 : decode prog_6_method_13_code 22 = .ok (.aload_n 0, 1) := by decide +kernel
theorem d_Ma_modulo_23 : decode prog_6_method_13_code 23 = .ok (.getfield 14, 3) := by decide +kernel
theorem d_Ma_modulo_26 : decode prog_6_method_13_code 26 = .ok (.iload_n 1, 1) := by decide +kernel
theorem d_Ma_modulo_27 : decode prog_6_method_13_code 27 = .ok (.iconst 1, 1) := by decide +kernel
theorem d_Ma_modulo_28 : decode prog_6_method_13_code 28 = .ok (.lload_n 2, 1) := by decide +kernel
theorem d_Ma_modulo_29 : decode prog_6_method_13_code 29 = .ok (.lload 4, 2) := by decide +kernel
theorem d_Ma_modulo_31 : decode prog_6_method_13_code 31 = .ok (.invokestatic 237, 3) := by decide +kernel
theorem d_Ma_modulo_34 : decode prog_6_method_13_code 34 = .ok (.invokevirtual 110, 3) := by decide +kernel
theorem d_Ma_modulo_37 : decode prog_6_method_13_code 37 = .ok (.return_, 1) := by decide +kernel
theorem d_Ma_modulo_7 : decode prog_6_method_13_code 7 = .ok (.aload_n 0, 1) := by decide +kernel
theorem d_Ma_modulo_8 : decode prog_6_method_13_code 8 = .ok (.getfield 14, 3) := by decide +kernel
theorem d_Ma_modulo_11 : decode prog_6_method_13_code 11 = .ok (.iload_n 1, 1) := by decide +kernel
theorem d_Ma_modulo_12 : decode prog_6_method_13_code 12 = .ok (.iconst 4, 1) := by decide +kernel
theorem d_Ma_modulo_13 : decode prog_6_method_13_code 13 = .ok (.ldc2_w 233, 3) := by decide +kernel
theorem d_Ma_modulo_16 : decode prog_6_method_13_code 16 = .ok (.invokevirtual 110, 3) := by decide +kernel
theorem d_Ma_modulo_19 : decode prog_6_method_13_code 19 = .ok (.goto 18, 3) := by decide +kernel
set_option maxHeartbeats 4000000 in
theorem w_Ma_modulo_0 {l : Launch} {G : gG} {d : Nat} {X : gX} {M : gM} {k : gM → Prop} {c : Nat} (hX : glX X c) {x1 : Int} (hx1 : g32 x1) {x2 : Int} (hx2 : g64 x2) {x4 : Int} (hx4 : g64 x4)  (T : (¬ x4 = 0 → (cL l G y_jMath_floorMod (gRm d) false [gL x2, gL x4] X M (fun v2 M1 => (cV l G y_Vl_set (gRm d) true [gR G (c + 1058), gI x1, gI 1, gL v2] X M1 (fun M4 => (k M4)))))) ∧ (x4 = 0 → (cV l G y_Vl_set (gRm d) true [gR G (c + 1058), gI x1, gI 4, gL 5] X M (fun M5 => (k M5))))) : wp l G y_Ma_modulo (gRm (d + 1)) true (kkV X k) false 0 [.val (gR G (c + 1057)), .val (gI x1), .val (gL x2), .unset, .val (gL x4), .unset] [] X M 0 0 := by
  refine wp_lload d_Ma_modulo_0 rfl ?_
  refine wp_lconst0 d_Ma_modulo_2 ?_
  refine xl_ne (tgt := 22) d_Ma_modulo_3 d_Ma_modulo_4 (by decide) (w64_id hx4) (w64_id (g64_c (x := 0) rfl)) (fun h6 => ?_) (fun h6 => ?_)
  · have T := T.1 h6
    refine wp_aload_n d_Ma_modulo_22 rfl rfl (g_nz (gl_1 hX 1057)) ?_
    refine xgetR d_Ma_modulo_23 gc_Ma f_Ma_14.1 f_Ma_14.2.1 f_Ma_14.2.2.1 (gl_1 hX 1057) (gl_2 hX (a := 1057) (by decide)) (gl_s hX 37 rfl) f_Ma_14.2.2.2.2.1 (gl_f hX 42 rfl) ?_
    refine wp_iload_n d_Ma_modulo_26 rfl rfl ?_
    refine wp_iconst d_Ma_modulo_27 ?_
    refine wp_lload_n d_Ma_modulo_28 rfl rfl ?_
    refine wp_lload d_Ma_modulo_29 rfl ?_
    refine xcS_L (md' := false) (As := [gL x2, gL x4]) (st := [gI 1, gI x1, gR G (c + 1058)]) d_Ma_modulo_31 ca_jMath_floorMod ml_Ma_237 sm_jMath_floorMod rfl (by decide) (by simp only [List.map, gR_cat, gI_cat, gL_cat, List.sum_cons, List.sum_nil]; decide) rfl id id T (fun v2 M1 h3 T => ?_)
    refine xcV_V (md' := true) (As := [gI x1, gI 1, gL v2]) (st := []) d_Ma_modulo_34 ca_Vl_set ml_Ma_110 im_Vl_set se_Vl_set gc_Vl (gl_stk hX).1 (gv_2 (gl_stk hX)) (gl_stk hX).2.2.1 rfl (by decide) (by decide) rfl (fun _ => rfl) (fun _ => rfl) T (fun M4 T => ?_)
    exact wp_return d_Ma_modulo_37 rfl (fun _ => rfl) (Nat.zero_le _) (Nat.zero_le _) (kV_mk T)
  · have T := T.2 h6
    refine wp_aload_n d_Ma_modulo_7 rfl rfl (g_nz (gl_1 hX 1057)) ?_
    refine xgetR d_Ma_modulo_8 gc_Ma f_Ma_14.1 f_Ma_14.2.1 f_Ma_14.2.2.1 (gl_1 hX 1057) (gl_2 hX (a := 1057) (by decide)) (gl_s hX 37 rfl) f_Ma_14.2.2.2.2.1 (gl_f hX 42 rfl) ?_
    refine wp_iload_n d_Ma_modulo_11 rfl rfl ?_
    refine wp_iconst d_Ma_modulo_12 ?_
    refine wp_ldc2 (n := 5) d_Ma_modulo_13 c_Ma_233 rfl ?_
    refine xcV_V (md' := true) (As := [gI x1, gI 4, gL 5]) (st := []) d_Ma_modulo_16 ca_Vl_set ml_Ma_110 im_Vl_set se_Vl_set gc_Vl (gl_stk hX).1 (gv_2 (gl_stk hX)) (gl_stk hX).2.2.1 rfl (by decide) (by decide) rfl (fun _ => rfl) (fun _ => rfl) T (fun M5 T => ?_)
    refine wp_goto (tgt := 37) d_Ma_modulo_19 (by decide) ?_
    exact wp_return d_Ma_modulo_37 rfl (fun _ => rfl) (Nat.zero_le _) (Nat.zero_le _) (kV_mk T)
theorem e_Ma_modulo {l : Launch} {G : gG} {d : Nat} {X : gX} {M : gM} {k : gM → Prop} {c : Nat} {x1 : Int} {x2 : Int} {x4 : Int} (T : wp l G y_Ma_modulo (gRm (d + 1)) true (kkV X k) false 0 [.val (gR G (c + 1057)), .val (gI x1), .val (gL x2), .unset, .val (gL x4), .unset] [] X M 0 0) : cV l G y_Ma_modulo (gRm (d + 1)) true [gR G (c + 1057), gI x1, gL x2, gL x4] X M k := cen_V (plainFor_of_name rfl) (by simp only [lg_sl_R, lg_sl_I, lg_sl_L, lg_sl_N, List.length_cons, List.length_nil]; decide) (by unfold gEn; simp only [lg_sl_R, lg_sl_I, lg_sl_L, lg_sl_N]; exact wpt T (And.intro rfl (And.intro rfl (And.intro rfl (And.intro rfl True.intro)))))
theorem d_Ma_raise_0 : decode prog_6_method_14_code 0 = .ok (.lload_n 2, 1) := by decide +kernel
theorem d_Ma_raise_1 : decode prog_6_method_14_code 1 = .ok (.ldc2_w 235, 3) := by decide +kernel
theorem d_Ma_raise_4 : decode prog_6_method_14_code 4 = .ok (.lcmp, 1) := by decide +kernel
theorem d_Ma_raise_5 : decode prog_6_method_14_code 5 = .ok (.ifCond .lt 13, 3) := by decide +kernel
theorem d_Ma_raise_8 : decode prog_6_method_14_code 8 = .ok (.lload_n 2, 1) := by decide +kernel
theorem d_Ma_raise_9 : decode prog_6_method_14_code 9 = .ok (.lconst 1, 1) := by decide +kernel
theorem d_Ma_raise_10 : decode prog_6_method_14_code 10 = .ok (.lcmp, 1) := by decide +kernel
theorem d_Ma_raise_11 : decode prog_6_method_14_code 11 = .ok (.ifCond .gt 7, 3) := by decide +kernel
theorem d_Ma_raise_14 : decode prog_6_method_14_code 14 = .ok (.iconst 1, 1) := by decide +kernel
theorem d_Ma_raise_15 : decode prog_6_method_14_code 15 = .ok (.goto 4, 3) := by decide +kernel
theorem d_Ma_raise_19 : decode prog_6_method_14_code 19 = .ok (.istore 6, 2) := by decide +kernel
theorem d_Ma_raise_21 : decode prog_6_method_14_code 21 = .ok (.iload 6, 2) := by decide +kernel
theorem d_Ma_raise_23 : decode prog_6_method_14_code 23 = .ok (.ifCond .eq 25, 3) := by decide +kernel
theorem d_Ma_raise_48 : decode prog_6_method_14_code 48 = .ok (.lload 4, 2) := by decide +kernel
theorem d_Ma_raise_50 : decode prog_6_method_14_code 50 = .ok (.ldc2_w 243, 3) := by decide +kernel
theorem d_Ma_raise_53 : decode prog_6_method_14_code 53 = .ok (.invokestatic 245, 3) := by decide +kernel
theorem d_Ma_raise_56 : decode prog_6_method_14_code 56 = .ok (.lstore 7, 2) := by decide +kernel
theorem d_Ma_raise_58 : decode prog_6_method_14_code 58 = .ok (.lload 4, 2) := by decide +kernel
theorem d_Ma_raise_60 : decode prog_6_method_14_code 60 = .ok (.lconst 0, 1) := by decide +kernel
theorem d_Ma_raise_61 : decode prog_6_method_14_code 61 = .ok (.lcmp, 1) := by decide +kernel
theorem d_Ma_raise_62 : decode prog_6_method_14_code 62 = .ok (.ifCond .lt 7, 3) := by decide +kernel
theorem d_Ma_raise_69 : decode prog_6_method_14_code 69 = .ok (.iconst 0, 1) := by decide +kernel
theorem d_Ma_raise_70 : decode prog_6_method_14_code 70 = .ok (.istore 9, 2) := by decide +kernel
theorem d_Ma_raise_72 : decode prog_6_method_14_code 72 = .ok (.lconst 1, 1) := by decide +kernel
theorem d_Ma_raise_73 : decode prog_6_method_14_code 73 = .ok (.lstore 10, 2) := by decide +kernel
theorem d_Ma_raise_75 : decode prog_6_method_14_code 75 = .ok (.iconst 0, 1) := by decide +kernel
theorem d_Ma_raise_76 : decode prog_6_method_14_code 76 = .ok (.istore 12, 2) := by decide +kernel
theorem d_Ma_raise_65 : decode prog_6_method_14_code 65 = .ok (.iconst 1, 1) := by decide +kernel
theorem d_Ma_raise_66 : decode prog_6_method_14_code 66 = .ok (.goto 4, 3) := by decide +kernel
theorem d_Ma_raise_26 : decode prog_6_method_14_code 26 = .ok (.lload 4, 2) := by decide +kernel
theorem d_Ma_raise_28 : decode prog_6_method_14_code 28 = .ok (.ldc2_w 130, 3) := by decide +kernel
theorem d_Ma_raise_31 : decode prog_6_method_14_code 31 = .ok (.lcmp, 1) := by decide +kernel
theorem d_Ma_raise_32 : decode prog_6_method_14_code 32 = .ok (.ifCond .le 16, 3) := by decide +kernel
theorem d_Ma_raise_35 : decode prog_6_method_14_code 35 = .ok (.ldc2_w 130, 3) := by decide +kernel
theorem d_Ma_raise_38 : decode prog_6_method_14_code 38 = .ok (.lload 4, 2) := by decide +kernel
theorem d_Ma_raise_40 : decode prog_6_method_14_code 40 = .ok (.ldc2_w 130, 3) := by decide +kernel
theorem d_Ma_raise_43 : decode prog_6_method_14_code 43 = .ok (.lrem, 1) := by decide +kernel
theorem d_Ma_raise_44 : decode prog_6_method_14_code 44 = .ok (.lsub, 1) := by decide +kernel
theorem d_Ma_raise_45 : decode prog_6_method_14_code 45 = .ok (.goto 11, 3) := by decide +kernel
theorem d_Ma_raise_18 : decode prog_6_method_14_code 18 = .ok (.iconst 0, 1) := by decide +kernel
theorem d_Ma_raise_78 : decode prog_6_method_14_code 78 = .ok (.iload 9, 2) := by decide +kernel
theorem d_Ma_raise_80 : decode prog_6_method_14_code 80 = .ok (.ifCond .eq 32, 3) := by decide +kernel
theorem d_Ma_raise_112 : decode prog_6_method_14_code 112 = .ok (.aload_n 0, 1) := by decide +kernel
theorem d_Ma_raise_113 : decode prog_6_method_14_code 113 = .ok (.iload_n 1, 1) := by decide +kernel
theorem d_Ma_raise_114 : decode prog_6_method_14_code 114 = .ok (.lload 10, 2) := by decide +kernel
theorem d_Ma_raise_116 : decode prog_6_method_14_code 116 = .ok (.iload 9, 2) := by decide +kernel
theorem d_Ma_raise_118 : decode prog_6_method_14_code 118 = .ok (.invokevirtual 205, 3) := by decide +kernel
theorem d_Ma_raise_121 : decode prog_6_method_14_code 121 = .ok (.return_, 1) := by decide +kernel
theorem d_Ma_raise_83 : decode prog_6_method_14_code 83 = .ok (.iload 12, 2) := by decide +kernel
theorem d_Ma_raise_85 : decode prog_6_method_14_code 85 = .ok (.i2l, 1) := by decide +kernel
theorem d_Ma_raise_86 : decode prog_6_method_14_code 86 = .ok (.lload 7, 2) := by decide +kernel
theorem d_Ma_raise_88 : decode prog_6_method_14_code 88 = .ok (.lcmp, 1) := by decide +kernel
theorem d_Ma_raise_89 : decode prog_6_method_14_code 89 = .ok (.ifCond .ge 23, 3) := by decide +kernel
theorem d_Ma_raise_92 : decode prog_6_method_14_code 92 = .ok (.lload 10, 2) := by decide +kernel
theorem d_Ma_raise_94 : decode prog_6_method_14_code 94 = .ok (.lload_n 2, 1) := by decide +kernel
theorem d_Ma_raise_95 : decode prog_6_method_14_code 95 = .ok (.invokestatic 209, 3) := by decide +kernel
theorem d_Ma_raise_98 : decode prog_6_method_14_code 98 = .ok (.istore 9, 2) := by decide +kernel
theorem d_Ma_raise_100 : decode prog_6_method_14_code 100 = .ok (.lload 10, 2) := by decide +kernel
theorem d_Ma_raise_102 : decode prog_6_method_14_code 102 = .ok (.lload_n 2, 1) := by decide +kernel
theorem d_Ma_raise_103 : decode prog_6_method_14_code 103 = .ok (.lmul, 1) := by decide +kernel
theorem d_Ma_raise_104 : decode prog_6_method_14_code 104 = .ok (.lstore 10, 2) := by decide +kernel
theorem d_Ma_raise_106 : decode prog_6_method_14_code 106 = .ok (.iinc 12 1, 3) := by decide +kernel
theorem d_Ma_raise_109 : decode prog_6_method_14_code 109 = .ok (.goto (-31), 3) := by decide +kernel
set_option maxHeartbeats 4000000 in
theorem w_Ma_raise_0 {l : Launch} {G : gG} {d : Nat} {X : gX} {M : gM} {k : gM → Prop} {c : Nat} (hX : glX X c) {x1 : Int} (hx1 : g32 x1) {x2 : Int} (hx2 : g64 x2) {x4 : Int} (hx4 : g64 x4)  (T : (x2 < (-1) → (wp l G y_Ma_raise (gRm (d + 1)) true (kkV X k) true 18 [.val (gR G (c + 1057)), .val (gI x1), .val (gL x2), .unset, .val (gL x4), .unset, .unset, .unset, .unset, .unset, .unset, .unset, .unset] [] X M 0 0)) ∧ (¬ x2 < (-1) → ((1 < x2 → (wp l G y_Ma_raise (gRm (d + 1)) true (kkV X k) true 18 [.val (gR G (c + 1057)), .val (gI x1), .val (gL x2), .unset, .val (gL x4), .unset, .unset, .unset, .unset, .unset, .unset, .unset, .unset] [] X M 0 0)) ∧ (¬ 1 < x2 → (((1 : Int) = 0 → (cL l G y_jMath_min_2 (gRm d) false [gL x4, gL 64] X M (fun v2 M1 => ((x4 < 0 → (wp l G y_Ma_raise (gRm (d + 1)) true (kkV X k) true 78 [.val (gR G (c + 1057)), .val (gI x1), .val (gL x2), .unset, .unset, .unset, .unset, .val (gL v2), .unset, .val (gI 0), .val (gL 1), .unset, .val (gI 0)] [] X M1 0 0)) ∧ (¬ x4 < 0 → (wp l G y_Ma_raise (gRm (d + 1)) true (kkV X k) true 78 [.val (gR G (c + 1057)), .val (gI x1), .val (gL x2), .unset, .unset, .unset, .unset, .val (gL v2), .unset, .val (gI 1), .val (gL 1), .unset, .val (gI 0)] [] X M1 0 0)))))) ∧ (¬ (1 : Int) = 0 → ((x4 ≤ 2 → (cL l G y_jMath_min_2 (gRm d) false [gL x4, gL 64] X M (fun v6 M5 => ((x4 < 0 → (wp l G y_Ma_raise (gRm (d + 1)) true (kkV X k) true 78 [.val (gR G (c + 1057)), .val (gI x1), .val (gL x2), .unset, .unset, .unset, .unset, .val (gL v6), .unset, .val (gI 0), .val (gL 1), .unset, .val (gI 0)] [] X M5 0 0)) ∧ (¬ x4 < 0 → (wp l G y_Ma_raise (gRm (d + 1)) true (kkV X k) true 78 [.val (gR G (c + 1057)), .val (gI x1), .val (gL x2), .unset, .unset, .unset, .unset, .val (gL v6), .unset, .val (gI 1), .val (gL 1), .unset, .val (gI 0)] [] X M5 0 0)))))) ∧ (¬ x4 ≤ 2 → ((x4 < 0 → (wp l G y_Ma_raise (gRm (d + 1)) true (kkV X k) true 78 [.val (gR G (c + 1057)), .val (gI x1), .val (gL x2), .unset, .unset, .unset, .unset, .val (gL (w64 (2 - (x4.tmod 2)))), .unset, .val (gI 0), .val (gL 1), .unset, .val (gI 0)] [] X M 0 0)) ∧ (¬ x4 < 0 → (wp l G y_Ma_raise (gRm (d + 1)) true (kkV X k) true 78 [.val (gR G (c + 1057)), .val (gI x1), .val (gL x2), .unset, .unset, .unset, .unset, .val (gL (w64 (2 - (x4.tmod 2)))), .unset, .val (gI 1), .val (gL 1), .unset, .val (gI 0)] [] X M 0 0))))))))))) : wp l G y_Ma_raise (gRm (d + 1)) true (kkV X k) false 0 [.val (gR G (c + 1057)), .val (gI x1), .val (gL x2), .unset, .val (gL x4), .unset, .unset, .unset, .unset, .unset, .unset, .unset, .unset] [] X M 0 0 := by
  refine wp_lload_n d_Ma_raise_0 rfl rfl ?_
  refine wp_ldc2 (n := (-1)) d_Ma_raise_1 c_Ma_235 rfl ?_
  refine xl_lt (tgt := 18) d_Ma_raise_4 d_Ma_raise_5 (by decide) (w64_id hx2) (w64_id (g64_c (x := (-1)) rfl)) (fun h13 => ?_) (fun h13 => ?_)
  · have T := T.1 h13
    exact wp_md (wpt T (And.intro rfl (And.intro rfl (And.intro rfl (And.intro rfl True.intro)))))
  · have T := T.2 h13
    refine wp_lload_n d_Ma_raise_8 rfl rfl ?_
    refine wp_lconst1 d_Ma_raise_9 ?_
    refine xl_gt (tgt := 18) d_Ma_raise_10 d_Ma_raise_11 (by decide) (w64_id hx2) (w64_id (g64_c (x := 1) rfl)) (fun h12 => ?_) (fun h12 => ?_)
    · have T := T.1 h12
      exact wp_md (wpt T (And.intro rfl (And.intro rfl (And.intro rfl (And.intro rfl True.intro)))))
    · have T := T.2 h12
      refine wp_iconst d_Ma_raise_14 ?_
      refine wp_goto (tgt := 19) d_Ma_raise_15 (by decide) ?_
      refine wp_istore (L' := [.val (gR G (c + 1057)), .val (gI x1), .val (gL x2), .unset, .val (gL x4), .unset, .val (gI 1), .unset, .unset, .unset, .unset, .unset, .unset]) d_Ma_raise_19 (by decide) rfl ?_
      refine wp_iload d_Ma_raise_21 rfl ?_
      refine xz_eq (tgt := 48) d_Ma_raise_23 (by decide) (w32_id (g32_c (x := 1) rfl)) (fun h11 => ?_) (fun h11 => ?_)
      · have T := T.1 h11
        refine wp_lload d_Ma_raise_48 rfl ?_
        refine wp_ldc2 (n := 64) d_Ma_raise_50 c_Ma_243 rfl ?_
        refine xcS_L (md' := false) (As := [gL x4, gL 64]) (st := []) d_Ma_raise_53 ca_jMath_min_2 ml_Ma_245 sm_jMath_min_2 rfl (by decide) (by decide) rfl id id T (fun v2 M1 h3 T => ?_)
        refine wp_lstore (L' := [.val (gR G (c + 1057)), .val (gI x1), .val (gL x2), .unset, .val (gL x4), .unset, .val (gI 1), .val (gL v2), .unset, .unset, .unset, .unset, .unset]) d_Ma_raise_56 (by decide) rfl ?_
        refine wp_lload d_Ma_raise_58 rfl ?_
        refine wp_lconst0 d_Ma_raise_60 ?_
        refine xl_lt (tgt := 69) d_Ma_raise_61 d_Ma_raise_62 (by decide) (w64_id hx4) (w64_id (g64_c (x := 0) rfl)) (fun h4 => ?_) (fun h4 => ?_)
        · have T := T.1 h4
          refine wp_iconst d_Ma_raise_69 ?_
          refine wp_istore (L' := [.val (gR G (c + 1057)), .val (gI x1), .val (gL x2), .unset, .val (gL x4), .unset, .val (gI 1), .val (gL v2), .unset, .val (gI 0), .unset, .unset, .unset]) d_Ma_raise_70 (by decide) rfl ?_
          refine wp_lconst1 d_Ma_raise_72 ?_
          refine wp_lstore (L' := [.val (gR G (c + 1057)), .val (gI x1), .val (gL x2), .unset, .val (gL x4), .unset, .val (gI 1), .val (gL v2), .unset, .val (gI 0), .val (gL 1), .unset, .unset]) d_Ma_raise_73 (by decide) rfl ?_
          refine wp_iconst d_Ma_raise_75 ?_
          refine wp_istore (L' := [.val (gR G (c + 1057)), .val (gI x1), .val (gL x2), .unset, .val (gL x4), .unset, .val (gI 1), .val (gL v2), .unset, .val (gI 0), .val (gL 1), .unset, .val (gI 0)]) d_Ma_raise_76 (by decide) rfl ?_
          exact wp_md (wpt T (And.intro rfl (And.intro rfl (And.intro rfl (And.intro rfl (And.intro rfl (And.intro rfl (And.intro rfl True.intro))))))))
        · have T := T.2 h4
          refine wp_iconst d_Ma_raise_65 ?_
          refine wp_goto (tgt := 70) d_Ma_raise_66 (by decide) ?_
          refine wp_istore (L' := [.val (gR G (c + 1057)), .val (gI x1), .val (gL x2), .unset, .val (gL x4), .unset, .val (gI 1), .val (gL v2), .unset, .val (gI 1), .unset, .unset, .unset]) d_Ma_raise_70 (by decide) rfl ?_
          refine wp_lconst1 d_Ma_raise_72 ?_
          refine wp_lstore (L' := [.val (gR G (c + 1057)), .val (gI x1), .val (gL x2), .unset, .val (gL x4), .unset, .val (gI 1), .val (gL v2), .unset, .val (gI 1), .val (gL 1), .unset, .unset]) d_Ma_raise_73 (by decide) rfl ?_
          refine wp_iconst d_Ma_raise_75 ?_
          refine wp_istore (L' := [.val (gR G (c + 1057)), .val (gI x1), .val (gL x2), .unset, .val (gL x4), .unset, .val (gI 1), .val (gL v2), .unset, .val (gI 1), .val (gL 1), .unset, .val (gI 0)]) d_Ma_raise_76 (by decide) rfl ?_
          exact wp_md (wpt T (And.intro rfl (And.intro rfl (And.intro rfl (And.intro rfl (And.intro rfl (And.intro rfl (And.intro rfl True.intro))))))))
      · have T := T.2 h11
        refine wp_lload d_Ma_raise_26 rfl ?_
        refine wp_ldc2 (n := 2) d_Ma_raise_28 c_Ma_130 rfl ?_
        refine xl_le (tgt := 48) d_Ma_raise_31 d_Ma_raise_32 (by decide) (w64_id hx4) (w64_id (g64_c (x := 2) rfl)) (fun h10 => ?_) (fun h10 => ?_)
        · have T := T.1 h10
          refine wp_lload d_Ma_raise_48 rfl ?_
          refine wp_ldc2 (n := 64) d_Ma_raise_50 c_Ma_243 rfl ?_
          refine xcS_L (md' := false) (As := [gL x4, gL 64]) (st := []) d_Ma_raise_53 ca_jMath_min_2 ml_Ma_245 sm_jMath_min_2 rfl (by decide) (by decide) rfl id id T (fun v6 M5 h7 T => ?_)
          refine wp_lstore (L' := [.val (gR G (c + 1057)), .val (gI x1), .val (gL x2), .unset, .val (gL x4), .unset, .val (gI 1), .val (gL v6), .unset, .unset, .unset, .unset, .unset]) d_Ma_raise_56 (by decide) rfl ?_
          refine wp_lload d_Ma_raise_58 rfl ?_
          refine wp_lconst0 d_Ma_raise_60 ?_
          refine xl_lt (tgt := 69) d_Ma_raise_61 d_Ma_raise_62 (by decide) (w64_id hx4) (w64_id (g64_c (x := 0) rfl)) (fun h8 => ?_) (fun h8 => ?_)
          · have T := T.1 h8
            refine wp_iconst d_Ma_raise_69 ?_
            refine wp_istore (L' := [.val (gR G (c + 1057)), .val (gI x1), .val (gL x2), .unset, .val (gL x4), .unset, .val (gI 1), .val (gL v6), .unset, .val (gI 0), .unset, .unset, .unset]) d_Ma_raise_70 (by decide) rfl ?_
            refine wp_lconst1 d_Ma_raise_72 ?_
            refine wp_lstore (L' := [.val (gR G (c + 1057)), .val (gI x1), .val (gL x2), .unset, .val (gL x4), .unset, .val (gI 1), .val (gL v6), .unset, .val (gI 0), .val (gL 1), .unset, .unset]) d_Ma_raise_73 (by decide) rfl ?_
            refine wp_iconst d_Ma_raise_75 ?_
            refine wp_istore (L' := [.val (gR G (c + 1057)), .val (gI x1), .val (gL x2), .unset, .val (gL x4), .unset, .val (gI 1), .val (gL v6), .unset, .val (gI 0), .val (gL 1), .unset, .val (gI 0)]) d_Ma_raise_76 (by decide) rfl ?_
            exact wp_md (wpt T (And.intro rfl (And.intro rfl (And.intro rfl (And.intro rfl (And.intro rfl (And.intro rfl (And.intro rfl True.intro))))))))
          · have T := T.2 h8
            refine wp_iconst d_Ma_raise_65 ?_
            refine wp_goto (tgt := 70) d_Ma_raise_66 (by decide) ?_
            refine wp_istore (L' := [.val (gR G (c + 1057)), .val (gI x1), .val (gL x2), .unset, .val (gL x4), .unset, .val (gI 1), .val (gL v6), .unset, .val (gI 1), .unset, .unset, .unset]) d_Ma_raise_70 (by decide) rfl ?_
            refine wp_lconst1 d_Ma_raise_72 ?_
            refine wp_lstore (L' := [.val (gR G (c + 1057)), .val (gI x1), .val (gL x2), .unset, .val (gL x4), .unset, .val (gI 1), .val (gL v6), .unset, .val (gI 1), .val (gL 1), .unset, .unset]) d_Ma_raise_73 (by decide) rfl ?_
            refine wp_iconst d_Ma_raise_75 ?_
            refine wp_istore (L' := [.val (gR G (c + 1057)), .val (gI x1), .val (gL x2), .unset, .val (gL x4), .unset, .val (gI 1), .val (gL v6), .unset, .val (gI 1), .val (gL 1), .unset, .val (gI 0)]) d_Ma_raise_76 (by decide) rfl ?_
            exact wp_md (wpt T (And.intro rfl (And.intro rfl (And.intro rfl (And.intro rfl (And.intro rfl (And.intro rfl (And.intro rfl True.intro))))))))
        · have T := T.2 h10
          refine wp_ldc2 (n := 2) d_Ma_raise_35 c_Ma_130 rfl ?_
          refine wp_lload d_Ma_raise_38 rfl ?_
          refine wp_ldc2 (n := 2) d_Ma_raise_40 c_Ma_130 rfl ?_
          refine xlrem d_Ma_raise_43 (w64_id hx4) (w64_id (g64_c (x := 2) rfl)) (by decide) ?_
          refine wp_lsub d_Ma_raise_44 ?_
          refine wp_goto (tgt := 56) d_Ma_raise_45 (by decide) ?_
          refine wp_lstore (L' := [.val (gR G (c + 1057)), .val (gI x1), .val (gL x2), .unset, .val (gL x4), .unset, .val (gI 1), .val (gL (2 - (x4.tmod 2))), .unset, .unset, .unset, .unset, .unset]) d_Ma_raise_56 (by decide) rfl ?_
          refine wp_lload d_Ma_raise_58 rfl ?_
          refine wp_lconst0 d_Ma_raise_60 ?_
          refine xl_lt (tgt := 69) d_Ma_raise_61 d_Ma_raise_62 (by decide) (w64_id hx4) (w64_id (g64_c (x := 0) rfl)) (fun h9 => ?_) (fun h9 => ?_)
          · have T := T.1 h9
            refine wp_iconst d_Ma_raise_69 ?_
            refine wp_istore (L' := [.val (gR G (c + 1057)), .val (gI x1), .val (gL x2), .unset, .val (gL x4), .unset, .val (gI 1), .val (gL (2 - (x4.tmod 2))), .unset, .val (gI 0), .unset, .unset, .unset]) d_Ma_raise_70 (by decide) rfl ?_
            refine wp_lconst1 d_Ma_raise_72 ?_
            refine wp_lstore (L' := [.val (gR G (c + 1057)), .val (gI x1), .val (gL x2), .unset, .val (gL x4), .unset, .val (gI 1), .val (gL (2 - (x4.tmod 2))), .unset, .val (gI 0), .val (gL 1), .unset, .unset]) d_Ma_raise_73 (by decide) rfl ?_
            refine wp_iconst d_Ma_raise_75 ?_
            refine wp_istore (L' := [.val (gR G (c + 1057)), .val (gI x1), .val (gL x2), .unset, .val (gL x4), .unset, .val (gI 1), .val (gL (2 - (x4.tmod 2))), .unset, .val (gI 0), .val (gL 1), .unset, .val (gI 0)]) d_Ma_raise_76 (by decide) rfl ?_
            exact wp_md (wpt T (And.intro rfl (And.intro rfl (And.intro rfl (And.intro (gL_w _) (And.intro rfl (And.intro rfl (And.intro rfl True.intro))))))))
          · have T := T.2 h9
            refine wp_iconst d_Ma_raise_65 ?_
            refine wp_goto (tgt := 70) d_Ma_raise_66 (by decide) ?_
            refine wp_istore (L' := [.val (gR G (c + 1057)), .val (gI x1), .val (gL x2), .unset, .val (gL x4), .unset, .val (gI 1), .val (gL (2 - (x4.tmod 2))), .unset, .val (gI 1), .unset, .unset, .unset]) d_Ma_raise_70 (by decide) rfl ?_
            refine wp_lconst1 d_Ma_raise_72 ?_
            refine wp_lstore (L' := [.val (gR G (c + 1057)), .val (gI x1), .val (gL x2), .unset, .val (gL x4), .unset, .val (gI 1), .val (gL (2 - (x4.tmod 2))), .unset, .val (gI 1), .val (gL 1), .unset, .unset]) d_Ma_raise_73 (by decide) rfl ?_
            refine wp_iconst d_Ma_raise_75 ?_
            refine wp_istore (L' := [.val (gR G (c + 1057)), .val (gI x1), .val (gL x2), .unset, .val (gL x4), .unset, .val (gI 1), .val (gL (2 - (x4.tmod 2))), .unset, .val (gI 1), .val (gL 1), .unset, .val (gI 0)]) d_Ma_raise_76 (by decide) rfl ?_
            exact wp_md (wpt T (And.intro rfl (And.intro rfl (And.intro rfl (And.intro (gL_w _) (And.intro rfl (And.intro rfl (And.intro rfl True.intro))))))))
set_option maxHeartbeats 4000000 in
theorem w_Ma_raise_18 {l : Launch} {G : gG} {d : Nat} {X : gX} {M : gM} {k : gM → Prop} {c : Nat} (hX : glX X c) {x1 : Int} (hx1 : g32 x1) {x2 : Int} (hx2 : g64 x2) {x4 : Int} (hx4 : g64 x4)  (T : ((0 : Int) = 0 → (cL l G y_jMath_min_2 (gRm d) false [gL x4, gL 64] X M (fun v15 M14 => ((x4 < 0 → (wp l G y_Ma_raise (gRm (d + 1)) true (kkV X k) true 78 [.val (gR G (c + 1057)), .val (gI x1), .val (gL x2), .unset, .unset, .unset, .unset, .val (gL v15), .unset, .val (gI 0), .val (gL 1), .unset, .val (gI 0)] [] X M14 0 0)) ∧ (¬ x4 < 0 → (wp l G y_Ma_raise (gRm (d + 1)) true (kkV X k) true 78 [.val (gR G (c + 1057)), .val (gI x1), .val (gL x2), .unset, .unset, .unset, .unset, .val (gL v15), .unset, .val (gI 1), .val (gL 1), .unset, .val (gI 0)] [] X M14 0 0)))))) ∧ (¬ (0 : Int) = 0 → ((x4 ≤ 2 → (cL l G y_jMath_min_2 (gRm d) false [gL x4, gL 64] X M (fun v19 M18 => ((x4 < 0 → (wp l G y_Ma_raise (gRm (d + 1)) true (kkV X k) true 78 [.val (gR G (c + 1057)), .val (gI x1), .val (gL x2), .unset, .unset, .unset, .unset, .val (gL v19), .unset, .val (gI 0), .val (gL 1), .unset, .val (gI 0)] [] X M18 0 0)) ∧ (¬ x4 < 0 → (wp l G y_Ma_raise (gRm (d + 1)) true (kkV X k) true 78 [.val (gR G (c + 1057)), .val (gI x1), .val (gL x2), .unset, .unset, .unset, .unset, .val (gL v19), .unset, .val (gI 1), .val (gL 1), .unset, .val (gI 0)] [] X M18 0 0)))))) ∧ (¬ x4 ≤ 2 → ((x4 < 0 → (wp l G y_Ma_raise (gRm (d + 1)) true (kkV X k) true 78 [.val (gR G (c + 1057)), .val (gI x1), .val (gL x2), .unset, .unset, .unset, .unset, .val (gL (w64 (2 - (x4.tmod 2)))), .unset, .val (gI 0), .val (gL 1), .unset, .val (gI 0)] [] X M 0 0)) ∧ (¬ x4 < 0 → (wp l G y_Ma_raise (gRm (d + 1)) true (kkV X k) true 78 [.val (gR G (c + 1057)), .val (gI x1), .val (gL x2), .unset, .unset, .unset, .unset, .val (gL (w64 (2 - (x4.tmod 2)))), .unset, .val (gI 1), .val (gL 1), .unset, .val (gI 0)] [] X M 0 0))))))) : wp l G y_Ma_raise (gRm (d + 1)) true (kkV X k) true 18 [.val (gR G (c + 1057)), .val (gI x1), .val (gL x2), .unset, .val (gL x4), .unset, .unset, .unset, .unset, .unset, .unset, .unset, .unset] [] X M 0 0 := by
  refine wp_iconst d_Ma_raise_18 ?_
  refine wp_istore (L' := [.val (gR G (c + 1057)), .val (gI x1), .val (gL x2), .unset, .val (gL x4), .unset, .val (gI 0), .unset, .unset, .unset, .unset, .unset, .unset]) d_Ma_raise_19 (by decide) rfl ?_
  refine wp_iload d_Ma_raise_21 rfl ?_
  refine xz_eq (tgt := 48) d_Ma_raise_23 (by decide) (w32_id (g32_c (x := 0) rfl)) (fun h24 => ?_) (fun h24 => ?_)
  · have T := T.1 h24
    refine wp_lload d_Ma_raise_48 rfl ?_
    refine wp_ldc2 (n := 64) d_Ma_raise_50 c_Ma_243 rfl ?_
    refine xcS_L (md' := true) (As := [gL x4, gL 64]) (st := []) d_Ma_raise_53 ca_jMath_min_2 ml_Ma_245 sm_jMath_min_2 rfl (by decide) (by decide) rfl (fun _ => rfl) (fun _ => rfl) T (fun v15 M14 h16 T => ?_)
    refine wp_lstore (L' := [.val (gR G (c + 1057)), .val (gI x1), .val (gL x2), .unset, .val (gL x4), .unset, .val (gI 0), .val (gL v15), .unset, .unset, .unset, .unset, .unset]) d_Ma_raise_56 (by decide) rfl ?_
    refine wp_lload d_Ma_raise_58 rfl ?_
    refine wp_lconst0 d_Ma_raise_60 ?_
    refine xl_lt (tgt := 69) d_Ma_raise_61 d_Ma_raise_62 (by decide) (w64_id hx4) (w64_id (g64_c (x := 0) rfl)) (fun h17 => ?_) (fun h17 => ?_)
    · have T := T.1 h17
      refine wp_iconst d_Ma_raise_69 ?_
      refine wp_istore (L' := [.val (gR G (c + 1057)), .val (gI x1), .val (gL x2), .unset, .val (gL x4), .unset, .val (gI 0), .val (gL v15), .unset, .val (gI 0), .unset, .unset, .unset]) d_Ma_raise_70 (by decide) rfl ?_
      refine wp_lconst1 d_Ma_raise_72 ?_
      refine wp_lstore (L' := [.val (gR G (c + 1057)), .val (gI x1), .val (gL x2), .unset, .val (gL x4), .unset, .val (gI 0), .val (gL v15), .unset, .val (gI 0), .val (gL 1), .unset, .unset]) d_Ma_raise_73 (by decide) rfl ?_
      refine wp_iconst d_Ma_raise_75 ?_
      refine wp_istore (L' := [.val (gR G (c + 1057)), .val (gI x1), .val (gL x2), .unset, .val (gL x4), .unset, .val (gI 0), .val (gL v15), .unset, .val (gI 0), .val (gL 1), .unset, .val (gI 0)]) d_Ma_raise_76 (by decide) rfl ?_
      exact wp_md (wpt T (And.intro rfl (And.intro rfl (And.intro rfl (And.intro rfl (And.intro rfl (And.intro rfl (And.intro rfl True.intro))))))))
    · have T := T.2 h17
      refine wp_iconst d_Ma_raise_65 ?_
      refine wp_goto (tgt := 70) d_Ma_raise_66 (by decide) ?_
      refine wp_istore (L' := [.val (gR G (c + 1057)), .val (gI x1), .val (gL x2), .unset, .val (gL x4), .unset, .val (gI 0), .val (gL v15), .unset, .val (gI 1), .unset, .unset, .unset]) d_Ma_raise_70 (by decide) rfl ?_
      refine wp_lconst1 d_Ma_raise_72 ?_
      refine wp_lstore (L' := [.val (gR G (c + 1057)), .val (gI x1), .val (gL x2), .unset, .val (gL x4), .unset, .val (gI 0), .val (gL v15), .unset, .val (gI 1), .val (gL 1), .unset, .unset]) d_Ma_raise_73 (by decide) rfl ?_
      refine wp_iconst d_Ma_raise_75 ?_
      refine wp_istore (L' := [.val (gR G (c + 1057)), .val (gI x1), .val (gL x2), .unset, .val (gL x4), .unset, .val (gI 0), .val (gL v15), .unset, .val (gI 1), .val (gL 1), .unset, .val (gI 0)]) d_Ma_raise_76 (by decide) rfl ?_
      exact wp_md (wpt T (And.intro rfl (And.intro rfl (And.intro rfl (And.intro rfl (And.intro rfl (And.intro rfl (And.intro rfl True.intro))))))))
  · have T := T.2 h24
    refine wp_lload d_Ma_raise_26 rfl ?_
    refine wp_ldc2 (n := 2) d_Ma_raise_28 c_Ma_130 rfl ?_
    refine xl_le (tgt := 48) d_Ma_raise_31 d_Ma_raise_32 (by decide) (w64_id hx4) (w64_id (g64_c (x := 2) rfl)) (fun h23 => ?_) (fun h23 => ?_)
    · have T := T.1 h23
      refine wp_lload d_Ma_raise_48 rfl ?_
      refine wp_ldc2 (n := 64) d_Ma_raise_50 c_Ma_243 rfl ?_
      refine xcS_L (md' := true) (As := [gL x4, gL 64]) (st := []) d_Ma_raise_53 ca_jMath_min_2 ml_Ma_245 sm_jMath_min_2 rfl (by decide) (by decide) rfl (fun _ => rfl) (fun _ => rfl) T (fun v19 M18 h20 T => ?_)
      refine wp_lstore (L' := [.val (gR G (c + 1057)), .val (gI x1), .val (gL x2), .unset, .val (gL x4), .unset, .val (gI 0), .val (gL v19), .unset, .unset, .unset, .unset, .unset]) d_Ma_raise_56 (by decide) rfl ?_
      refine wp_lload d_Ma_raise_58 rfl ?_
      refine wp_lconst0 d_Ma_raise_60 ?_
      refine xl_lt (tgt := 69) d_Ma_raise_61 d_Ma_raise_62 (by decide) (w64_id hx4) (w64_id (g64_c (x := 0) rfl)) (fun h21 => ?_) (fun h21 => ?_)
      · have T := T.1 h21
        refine wp_iconst d_Ma_raise_69 ?_
        refine wp_istore (L' := [.val (gR G (c + 1057)), .val (gI x1), .val (gL x2), .unset, .val (gL x4), .unset, .val (gI 0), .val (gL v19), .unset, .val (gI 0), .unset, .unset, .unset]) d_Ma_raise_70 (by decide) rfl ?_
        refine wp_lconst1 d_Ma_raise_72 ?_
        refine wp_lstore (L' := [.val (gR G (c + 1057)), .val (gI x1), .val (gL x2), .unset, .val (gL x4), .unset, .val (gI 0), .val (gL v19), .unset, .val (gI 0), .val (gL 1), .unset, .unset]) d_Ma_raise_73 (by decide) rfl ?_
        refine wp_iconst d_Ma_raise_75 ?_
        refine wp_istore (L' := [.val (gR G (c + 1057)), .val (gI x1), .val (gL x2), .unset, .val (gL x4), .unset, .val (gI 0), .val (gL v19), .unset, .val (gI 0), .val (gL 1), .unset, .val (gI 0)]) d_Ma_raise_76 (by decide) rfl ?_
        exact wp_md (wpt T (And.intro rfl (And.intro rfl (And.intro rfl (And.intro rfl (And.intro rfl (And.intro rfl (And.intro rfl True.intro))))))))
      · have T := T.2 h21
        refine wp_iconst d_Ma_raise_65 ?_
        refine wp_goto (tgt := 70) d_Ma_raise_66 (by decide) ?_
        refine wp_istore (L' := [.val (gR G (c + 1057)), .val (gI x1), .val (gL x2), .unset, .val (gL x4), .unset, .val (gI 0), .val (gL v19), .unset, .val (gI 1), .unset, .unset, .unset]) d_Ma_raise_70 (by decide) rfl ?_
        refine wp_lconst1 d_Ma_raise_72 ?_
        refine wp_lstore (L' := [.val (gR G (c + 1057)), .val (gI x1), .val (gL x2), .unset, .val (gL x4), .unset, .val (gI 0), .val (gL v19), .unset, .val (gI 1), .val (gL 1), .unset, .unset]) d_Ma_raise_73 (by decide) rfl ?_
        refine wp_iconst d_Ma_raise_75 ?_
        refine wp_istore (L' := [.val (gR G (c + 1057)), .val (gI x1), .val (gL x2), .unset, .val (gL x4), .unset, .val (gI 0), .val (gL v19), .unset, .val (gI 1), .val (gL 1), .unset, .val (gI 0)]) d_Ma_raise_76 (by decide) rfl ?_
        exact wp_md (wpt T (And.intro rfl (And.intro rfl (And.intro rfl (And.intro rfl (And.intro rfl (And.intro rfl (And.intro rfl True.intro))))))))
    · have T := T.2 h23
      refine wp_ldc2 (n := 2) d_Ma_raise_35 c_Ma_130 rfl ?_
      refine wp_lload d_Ma_raise_38 rfl ?_
      refine wp_ldc2 (n := 2) d_Ma_raise_40 c_Ma_130 rfl ?_
      refine xlrem d_Ma_raise_43 (w64_id hx4) (w64_id (g64_c (x := 2) rfl)) (by decide) ?_
      refine wp_lsub d_Ma_raise_44 ?_
      refine wp_goto (tgt := 56) d_Ma_raise_45 (by decide) ?_
      refine wp_lstore (L' := [.val (gR G (c + 1057)), .val (gI x1), .val (gL x2), .unset, .val (gL x4), .unset, .val (gI 0), .val (gL (2 - (x4.tmod 2))), .unset, .unset, .unset, .unset, .unset]) d_Ma_raise_56 (by decide) rfl ?_
      refine wp_lload d_Ma_raise_58 rfl ?_
      refine wp_lconst0 d_Ma_raise_60 ?_
      refine xl_lt (tgt := 69) d_Ma_raise_61 d_Ma_raise_62 (by decide) (w64_id hx4) (w64_id (g64_c (x := 0) rfl)) (fun h22 => ?_) (fun h22 => ?_)
      · have T := T.1 h22
        refine wp_iconst d_Ma_raise_69 ?_
        refine wp_istore (L' := [.val (gR G (c + 1057)), .val (gI x1), .val (gL x2), .unset, .val (gL x4), .unset, .val (gI 0), .val (gL (2 - (x4.tmod 2))), .unset, .val (gI 0), .unset, .unset, .unset]) d_Ma_raise_70 (by decide) rfl ?_
        refine wp_lconst1 d_Ma_raise_72 ?_
        refine wp_lstore (L' := [.val (gR G (c + 1057)), .val (gI x1), .val (gL x2), .unset, .val (gL x4), .unset, .val (gI 0), .val (gL (2 - (x4.tmod 2))), .unset, .val (gI 0), .val (gL 1), .unset, .unset]) d_Ma_raise_73 (by decide) rfl ?_
        refine wp_iconst d_Ma_raise_75 ?_
        refine wp_istore (L' := [.val (gR G (c + 1057)), .val (gI x1), .val (gL x2), .unset, .val (gL x4), .unset, .val (gI 0), .val (gL (2 - (x4.tmod 2))), .unset, .val (gI 0), .val (gL 1), .unset, .val (gI 0)]) d_Ma_raise_76 (by decide) rfl ?_
        exact wp_md (wpt T (And.intro rfl (And.intro rfl (And.intro rfl (And.intro (gL_w _) (And.intro rfl (And.intro rfl (And.intro rfl True.intro))))))))
      · have T := T.2 h22
        refine wp_iconst d_Ma_raise_65 ?_
        refine wp_goto (tgt := 70) d_Ma_raise_66 (by decide) ?_
        refine wp_istore (L' := [.val (gR G (c + 1057)), .val (gI x1), .val (gL x2), .unset, .val (gL x4), .unset, .val (gI 0), .val (gL (2 - (x4.tmod 2))), .unset, .val (gI 1), .unset, .unset, .unset]) d_Ma_raise_70 (by decide) rfl ?_
        refine wp_lconst1 d_Ma_raise_72 ?_
        refine wp_lstore (L' := [.val (gR G (c + 1057)), .val (gI x1), .val (gL x2), .unset, .val (gL x4), .unset, .val (gI 0), .val (gL (2 - (x4.tmod 2))), .unset, .val (gI 1), .val (gL 1), .unset, .unset]) d_Ma_raise_73 (by decide) rfl ?_
        refine wp_iconst d_Ma_raise_75 ?_
        refine wp_istore (L' := [.val (gR G (c + 1057)), .val (gI x1), .val (gL x2), .unset, .val (gL x4), .unset, .val (gI 0), .val (gL (2 - (x4.tmod 2))), .unset, .val (gI 1), .val (gL 1), .unset, .val (gI 0)]) d_Ma_raise_76 (by decide) rfl ?_
        exact wp_md (wpt T (And.intro rfl (And.intro rfl (And.intro rfl (And.intro (gL_w _) (And.intro rfl (And.intro rfl (And.intro rfl True.intro))))))))
set_option maxHeartbeats 4000000 in
theorem w_Ma_raise_78 {l : Launch} {G : gG} {d : Nat} {X : gX} {M : gM} {k : gM → Prop} {c : Nat} (hX : glX X c) {x1 : Int} (hx1 : g32 x1) {x2 : Int} (hx2 : g64 x2) {x7 : Int} (hx7 : g64 x7) {x9 : Int} (hx9 : g32 x9) {x10 : Int} (hx10 : g64 x10) {x12 : Int} (hx12 : g32 x12)  (T : (x9 = 0 → (cV l G y_Ma_settle (gRm d) true [gR G (c + 1057), gI x1, gL x10, gI x9] X M (fun M25 => (k M25)))) ∧ (¬ x9 = 0 → ((x7 ≤ x12 → (cV l G y_Ma_settle (gRm d) true [gR G (c + 1057), gI x1, gL x10, gI x9] X M (fun M26 => (k M26)))) ∧ (¬ x7 ≤ x12 → (cZ l G y_Vl_timesFits (gRm d) false [gL x10, gL x2] X M (fun v28 M27 => (wp l G y_Ma_raise (gRm (d + 1)) true (kkV X k) true 78 [.val (gR G (c + 1057)), .val (gI x1), .val (gL x2), .unset, .unset, .unset, .unset, .val (gL x7), .unset, .val (gI v28), .val (gL (w64 (x10 * x2))), .unset, .val (gI (w32 (x12 + 1)))] [] X M27 0 0))))))) : wp l G y_Ma_raise (gRm (d + 1)) true (kkV X k) true 78 [.val (gR G (c + 1057)), .val (gI x1), .val (gL x2), .unset, .unset, .unset, .unset, .val (gL x7), .unset, .val (gI x9), .val (gL x10), .unset, .val (gI x12)] [] X M 0 0 := by
  refine wp_iload d_Ma_raise_78 rfl ?_
  refine xz_eq (tgt := 112) d_Ma_raise_80 (by decide) (w32_id hx9) (fun h31 => ?_) (fun h31 => ?_)
  · have T := T.1 h31
    refine wp_aload_n d_Ma_raise_112 rfl rfl (g_nz (gl_1 hX 1057)) ?_
    refine wp_iload_n d_Ma_raise_113 rfl rfl ?_
    refine wp_lload d_Ma_raise_114 rfl ?_
    refine wp_iload d_Ma_raise_116 rfl ?_
    refine xcV_V (md' := true) (As := [gI x1, gL x10, gI x9]) (st := []) d_Ma_raise_118 ca_Ma_settle ml_Ma_205 im_Ma_settle se_Ma_settle gc_Ma (gl_1 hX 1057) (gl_2 hX (a := 1057) (by decide)) (gl_s hX 37 rfl) rfl (by decide) (by decide) rfl (fun _ => rfl) (fun _ => rfl) T (fun M25 T => ?_)
    exact wp_return d_Ma_raise_121 rfl (fun _ => rfl) (Nat.zero_le _) (Nat.zero_le _) (kV_mk T)
  · have T := T.2 h31
    refine wp_iload d_Ma_raise_83 rfl ?_
    refine xi2l d_Ma_raise_85 (w32_id hx12) ?_
    refine wp_lload d_Ma_raise_86 rfl ?_
    refine xl_ge (tgt := 112) d_Ma_raise_88 d_Ma_raise_89 (by decide) (w64_id (g64_32 hx12)) (w64_id hx7) (fun h30 => ?_) (fun h30 => ?_)
    · have T := T.1 h30
      refine wp_aload_n d_Ma_raise_112 rfl rfl (g_nz (gl_1 hX 1057)) ?_
      refine wp_iload_n d_Ma_raise_113 rfl rfl ?_
      refine wp_lload d_Ma_raise_114 rfl ?_
      refine wp_iload d_Ma_raise_116 rfl ?_
      refine xcV_V (md' := true) (As := [gI x1, gL x10, gI x9]) (st := []) d_Ma_raise_118 ca_Ma_settle ml_Ma_205 im_Ma_settle se_Ma_settle gc_Ma (gl_1 hX 1057) (gl_2 hX (a := 1057) (by decide)) (gl_s hX 37 rfl) rfl (by decide) (by decide) rfl (fun _ => rfl) (fun _ => rfl) T (fun M26 T => ?_)
      exact wp_return d_Ma_raise_121 rfl (fun _ => rfl) (Nat.zero_le _) (Nat.zero_le _) (kV_mk T)
    · have T := T.2 h30
      refine wp_lload d_Ma_raise_92 rfl ?_
      refine wp_lload_n d_Ma_raise_94 rfl rfl ?_
      refine xcS_Z (md' := true) (As := [gL x10, gL x2]) (st := []) d_Ma_raise_95 ca_Vl_timesFits ml_Ma_209 sm_Vl_timesFits rfl (by decide) (by decide) rfl (fun _ => rfl) (fun _ => rfl) T (fun v28 M27 h29 T => ?_)
      refine wp_istore (L' := [.val (gR G (c + 1057)), .val (gI x1), .val (gL x2), .unset, .unset, .unset, .unset, .val (gL x7), .unset, .val (gI v28), .val (gL x10), .unset, .val (gI x12)]) d_Ma_raise_98 (by decide) rfl ?_
      refine wp_lload d_Ma_raise_100 rfl ?_
      refine wp_lload_n d_Ma_raise_102 rfl rfl ?_
      refine wp_lmul d_Ma_raise_103 ?_
      refine wp_lstore (L' := [.val (gR G (c + 1057)), .val (gI x1), .val (gL x2), .unset, .unset, .unset, .unset, .val (gL x7), .unset, .val (gI v28), .val (gL (x10 * x2)), .unset, .val (gI x12)]) d_Ma_raise_104 (by decide) rfl ?_
      refine wp_iinc (L' := [.val (gR G (c + 1057)), .val (gI x1), .val (gL x2), .unset, .unset, .unset, .unset, .val (gL x7), .unset, .val (gI v28), .val (gL (x10 * x2)), .unset, .val (gI (x12 + 1))]) d_Ma_raise_106 rfl (by decide) rfl ?_
      refine wp_goto (tgt := 78) d_Ma_raise_109 (by decide) ?_
      exact wp_md (wpt T (And.intro rfl (And.intro rfl (And.intro rfl (And.intro rfl (And.intro rfl (And.intro (gL_w _) (And.intro (gI_w _) True.intro))))))))
theorem e_Ma_raise {l : Launch} {G : gG} {d : Nat} {X : gX} {M : gM} {k : gM → Prop} {c : Nat} {x1 : Int} {x2 : Int} {x4 : Int} (T : wp l G y_Ma_raise (gRm (d + 1)) true (kkV X k) false 0 [.val (gR G (c + 1057)), .val (gI x1), .val (gL x2), .unset, .val (gL x4), .unset, .unset, .unset, .unset, .unset, .unset, .unset, .unset] [] X M 0 0) : cV l G y_Ma_raise (gRm (d + 1)) true [gR G (c + 1057), gI x1, gL x2, gL x4] X M k := cen_V (plainFor_of_name rfl) (by simp only [lg_sl_R, lg_sl_I, lg_sl_L, lg_sl_N, List.length_cons, List.length_nil]; decide) (by unfold gEn; simp only [lg_sl_R, lg_sl_I, lg_sl_L, lg_sl_N]; exact wpt T (And.intro rfl (And.intro rfl (And.intro rfl (And.intro rfl True.intro)))))
theorem d_Ma_join_0 : decode prog_6_method_18_code 0 = .ok (.aload_n 0, 1) := by decide +kernel
theorem d_Ma_join_1 : decode prog_6_method_18_code 1 = .ok (.getfield 14, 3) := by decide +kernel
theorem d_Ma_join_4 : decode prog_6_method_18_code 4 = .ok (.getfield 149, 3) := by decide +kernel
theorem d_Ma_join_7 : decode prog_6_method_18_code 7 = .ok (.iload_n 1, 1) := by decide +kernel
theorem d_Ma_join_8 : decode prog_6_method_18_code 8 = .ok (.laload, 1) := by decide +kernel
theorem d_Ma_join_9 : decode prog_6_method_18_code 9 = .ok (.l2i, 1) := by decide +kernel
theorem d_Ma_join_10 : decode prog_6_method_18_code 10 = .ok (.istore_n 2, 1) := by decide +kernel
theorem d_Ma_join_11 : decode prog_6_method_18_code 11 = .ok (.aload_n 0, 1) := by decide +kernel
theorem d_Ma_join_12 : decode prog_6_method_18_code 12 = .ok (.getfield 14, 3) := by decide +kernel
theorem d_Ma_join_15 : decode prog_6_method_18_code 15 = .ok (.getfield 149, 3) := by decide +kernel
theorem d_Ma_join_18 : decode prog_6_method_18_code 18 = .ok (.iload_n 1, 1) := by decide +kernel
theorem d_Ma_join_19 : decode prog_6_method_18_code 19 = .ok (.iconst 1, 1) := by decide +kernel
theorem d_Ma_join_20 : decode prog_6_method_18_code 20 = .ok (.iadd, 1) := by decide +kernel
theorem d_Ma_join_21 : decode prog_6_method_18_code 21 = .ok (.laload, 1) := by decide +kernel
theorem d_Ma_join_22 : decode prog_6_method_18_code 22 = .ok (.l2i, 1) := by decide +kernel
theorem d_Ma_join_23 : decode prog_6_method_18_code 23 = .ok (.istore_n 3, 1) := by decide +kernel
theorem d_Ma_join_24 : decode prog_6_method_18_code 24 = .ok (.iload_n 2, 1) := by decide +kernel
theorem d_Ma_join_25 : decode prog_6_method_18_code 25 = .ok (.iload_n 3, 1) := by decide +kernel
theorem d_Ma_join_26 : decode prog_6_method_18_code 26 = .ok (.iadd, 1) := by decide +kernel
theorem d_Ma_join_27 : decode prog_6_method_18_code 27 = .ok (.bipush 64, 2) := by decide +kernel
theorem d_Ma_join_29 : decode prog_6_method_18_code 29 = .ok (.if_icmp .le 16, 3) := by decide +kernel
theorem d_Ma_join_45 : decode prog_6_method_18_code 45 = .ok (.aload_n 0, 1) := by decide +kernel
theorem d_Ma_join_46 : decode prog_6_method_18_code 46 = .ok (.getfield 14, 3) := by decide +kernel
theorem d_Ma_join_49 : decode prog_6_method_18_code 49 = .ok (.getfield 269, 3) := by decide +kernel
theorem d_Ma_join_52 : decode prog_6_method_18_code 52 = .ok (.iload_n 1, 1) := by decide +kernel
theorem d_Ma_join_53 : decode prog_6_method_18_code 53 = .ok (.iconst 1, 1) := by decide +kernel
theorem d_Ma_join_54 : decode prog_6_method_18_code 54 = .ok (.iadd, 1) := by decide +kernel
theorem d_Ma_join_55 : decode prog_6_method_18_code 55 = .ok (.aaload, 1) := by decide +kernel
theorem d_Ma_join_56 : decode prog_6_method_18_code 56 = .ok (.iconst 0, 1) := by decide +kernel
theorem d_Ma_join_57 : decode prog_6_method_18_code 57 = .ok (.aload_n 0, 1) := by decide +kernel
theorem d_Ma_join_58 : decode prog_6_method_18_code 58 = .ok (.getfield 14, 3) := by decide +kernel
theorem d_Ma_join_61 : decode prog_6_method_18_code 61 = .ok (.getfield 269, 3) := by decide +kernel
theorem d_Ma_join_64 : decode prog_6_method_18_code 64 = .ok (.iload_n 1, 1) := by decide +kernel
theorem d_Ma_join_65 : decode prog_6_method_18_code 65 = .ok (.aaload, 1) := by decide +kernel
theorem d_Ma_join_66 : decode prog_6_method_18_code 66 = .ok (.iload_n 2, 1) := by decide +kernel
theorem d_Ma_join_67 : decode prog_6_method_18_code 67 = .ok (.iload_n 3, 1) := by decide +kernel
theorem d_Ma_join_68 : decode prog_6_method_18_code 68 = .ok (.invokestatic 273, 3) := by decide +kernel
theorem d_Ma_join_71 : decode prog_6_method_18_code 71 = .ok (.aload_n 0, 1) := by decide +kernel
theorem d_Ma_join_72 : decode prog_6_method_18_code 72 = .ok (.getfield 14, 3) := by decide +kernel
theorem d_Ma_join_75 : decode prog_6_method_18_code 75 = .ok (.getfield 149, 3) := by decide +kernel
theorem d_Ma_join_78 : decode prog_6_method_18_code 78 = .ok (.iload_n 1, 1) := by decide +kernel
theorem d_Ma_join_79 : decode prog_6_method_18_code 79 = .ok (.iload_n 2, 1) := by decide +kernel
theorem d_Ma_join_80 : decode prog_6_method_18_code 80 = .ok (.iload_n 3, 1) := by decide +kernel
theorem d_Ma_join_81 : decode prog_6_method_18_code 81 = .ok (.iadd, 1) := by decide +kernel
theorem d_Ma_join_82 : decode prog_6_method_18_code 82 = .ok (.i2l, 1) := by decide +kernel
theorem d_Ma_join_83 : decode prog_6_method_18_code 83 = .ok (.lastore, 1) := by decide +kernel
theorem d_Ma_join_84 : decode prog_6_method_18_code 84 = .ok (.return_, 1) := by decide +kernel
theorem d_Ma_join_32 : decode prog_6_method_18_code 32 = .ok (.aload_n 0, 1) := by decide +kernel
theorem d_Ma_join_33 : decode prog_6_method_18_code 33 = .ok (.getfield 14, 3) := by decide +kernel
theorem d_Ma_join_36 : decode prog_6_method_18_code 36 = .ok (.iload_n 1, 1) := by decide +kernel
theorem d_Ma_join_37 : decode prog_6_method_18_code 37 = .ok (.iconst 4, 1) := by decide +kernel
theorem d_Ma_join_38 : decode prog_6_method_18_code 38 = .ok (.ldc2_w 147, 3) := by decide +kernel
theorem d_Ma_join_41 : decode prog_6_method_18_code 41 = .ok (.invokevirtual 110, 3) := by decide +kernel
theorem d_Ma_join_44 : decode prog_6_method_18_code 44 = .ok (.return_, 1) := by decide +kernel
set_option maxHeartbeats 4000000 in
theorem w_Ma_join_0 {l : Launch} {G : gG} {d : Nat} {X : gX} {M : gM} {k : gM → Prop} {c : Nat} (hX : glX X c) {x1 : Int} (hx1 : g32 x1)  (T : ((0 : Int) ≤ x1 ∧ x1 < 104) ∧ (g64 (M ((c + 1058) + 2) (Int.toNat x1)) → (((0 : Int) ≤ x1 + 1 ∧ x1 + 1 < 104) ∧ (g64 (M ((c + 1058) + 2) (Int.toNat (x1 + 1))) → (((w32 ((M ((c + 1058) + 2) (Int.toNat x1)) + (M ((c + 1058) + 2) (Int.toNat (x1 + 1))))) ≤ 64 → (((0 : Int) ≤ x1 + 1 ∧ x1 + 1 < 104) ∧ (((0 : Int) ≤ x1 ∧ x1 < 104) ∧ (((0 : Int) ≤ (0 : Int) ∧ (0 : Int) ≤ (M ((c + 1058) + 2) (Int.toNat x1)) ∧ (0 : Int) ≤ (M ((c + 1058) + 2) (Int.toNat (x1 + 1))) ∧ (0 : Int) + (M ((c + 1058) + 2) (Int.toNat (x1 + 1))) ≤ 64 ∧ (M ((c + 1058) + 2) (Int.toNat x1)) + (M ((c + 1058) + 2) (Int.toNat (x1 + 1))) ≤ 64) ∧ (((0 : Int) ≤ x1 ∧ x1 < 104) ∧ (k (gUp (gCp M ((c + 1058) + 4 + Int.toNat x1) ((c + 1058) + 4 + Int.toNat (x1 + 1)) (Int.toNat 0) (Int.toNat (M ((c + 1058) + 2) (Int.toNat x1))) (Int.toNat (M ((c + 1058) + 2) (Int.toNat (x1 + 1))))) ((c + 1058) + 2) (Int.toNat x1) (w32 ((M ((c + 1058) + 2) (Int.toNat x1)) + (M ((c + 1058) + 2) (Int.toNat (x1 + 1)))))))))))) ∧ (¬ (w32 ((M ((c + 1058) + 2) (Int.toNat x1)) + (M ((c + 1058) + 2) (Int.toNat (x1 + 1))))) ≤ 64 → (cV l G y_Vl_set (gRm d) true [gR G (c + 1058), gI x1, gI 4, gL 4] X M (fun M5 => (k M5))))))))) : wp l G y_Ma_join (gRm (d + 1)) true (kkV X k) false 0 [.val (gR G (c + 1057)), .val (gI x1), .unset, .unset] [] X M 0 0 := by
  refine wp_aload_n d_Ma_join_0 rfl rfl (g_nz (gl_1 hX 1057)) ?_
  refine xgetR d_Ma_join_1 gc_Ma f_Ma_14.1 f_Ma_14.2.1 f_Ma_14.2.2.1 (gl_1 hX 1057) (gl_2 hX (a := 1057) (by decide)) (gl_s hX 37 rfl) f_Ma_14.2.2.2.2.1 (gl_f hX 42 rfl) ?_
  refine xgetR d_Ma_join_4 gc_Vl f_Ma_149.1 f_Ma_149.2.1 f_Ma_149.2.2.1 (gl_stk hX).1 (gv_2 (gl_stk hX)) (gl_stk hX).2.2.1 f_Ma_149.2.2.2.2.1 (gv_r2 (gl_stk hX)).1 ?_
  refine wp_iload_n d_Ma_join_7 rfl rfl ?_
  refine wp_laload d_Ma_join_8 (gv_r2 (gl_stk hX)).2.2.1 (gv_r2 (gl_stk hX)).2.2.2 (gv_r2 (gl_stk hX)).2.1 (g32_n T.1 (gv_n (gl_stk hX))) T.1.1 T.1.2 (fun h1 => ?_)
  have T := T.2 h1
  refine wp_l2i d_Ma_join_9 ?_
  refine wp_istore_n (L' := [.val (gR G (c + 1057)), .val (gI x1), .val (gI (M ((c + 1058) + 2) (Int.toNat x1))), .unset]) d_Ma_join_10 rfl (by decide) rfl ?_
  refine wp_aload_n d_Ma_join_11 rfl rfl (g_nz (gl_1 hX 1057)) ?_
  refine xgetR d_Ma_join_12 gc_Ma f_Ma_14.1 f_Ma_14.2.1 f_Ma_14.2.2.1 (gl_1 hX 1057) (gl_2 hX (a := 1057) (by decide)) (gl_s hX 37 rfl) f_Ma_14.2.2.2.2.1 (gl_f hX 42 rfl) ?_
  refine xgetR d_Ma_join_15 gc_Vl f_Ma_149.1 f_Ma_149.2.1 f_Ma_149.2.2.1 (gl_stk hX).1 (gv_2 (gl_stk hX)) (gl_stk hX).2.2.1 f_Ma_149.2.2.2.2.1 (gv_r2 (gl_stk hX)).1 ?_
  refine wp_iload_n d_Ma_join_18 rfl rfl ?_
  refine wp_iconst d_Ma_join_19 ?_
  refine wp_iadd d_Ma_join_20 ?_
  refine wp_laload d_Ma_join_21 (gv_r2 (gl_stk hX)).2.2.1 (gv_r2 (gl_stk hX)).2.2.2 (gv_r2 (gl_stk hX)).2.1 (g32_n T.1 (gv_n (gl_stk hX))) T.1.1 T.1.2 (fun h2 => ?_)
  have T := T.2 h2
  refine wp_l2i d_Ma_join_22 ?_
  refine wp_istore_n (L' := [.val (gR G (c + 1057)), .val (gI x1), .val (gI (M ((c + 1058) + 2) (Int.toNat x1))), .val (gI (M ((c + 1058) + 2) (Int.toNat (x1 + 1))))]) d_Ma_join_23 rfl (by decide) rfl ?_
  refine wp_iload_n d_Ma_join_24 rfl rfl ?_
  refine wp_iload_n d_Ma_join_25 rfl rfl ?_
  refine wp_iadd d_Ma_join_26 ?_
  refine wp_bipush d_Ma_join_27 ⟨by decide, by decide⟩ ?_
  refine xi_le (tgt := 45) d_Ma_join_29 (by decide) rfl (w32_id (g32_c (x := 64) rfl)) (fun h6 => ?_) (fun h6 => ?_)
  · have T := T.1 h6
    refine wp_aload_n d_Ma_join_45 rfl rfl (g_nz (gl_1 hX 1057)) ?_
    refine xgetR d_Ma_join_46 gc_Ma f_Ma_14.1 f_Ma_14.2.1 f_Ma_14.2.2.1 (gl_1 hX 1057) (gl_2 hX (a := 1057) (by decide)) (gl_s hX 37 rfl) f_Ma_14.2.2.2.2.1 (gl_f hX 42 rfl) ?_
    refine xgetR d_Ma_join_49 gc_Vl f_Ma_269.1 f_Ma_269.2.1 f_Ma_269.2.2.1 (gl_stk hX).1 (gv_2 (gl_stk hX)) (gl_stk hX).2.2.1 f_Ma_269.2.2.2.2.1 (gv_r3 (gl_stk hX)).1 ?_
    refine wp_iload_n d_Ma_join_52 rfl rfl ?_
    refine wp_iconst d_Ma_join_53 ?_
    refine wp_iadd d_Ma_join_54 ?_
    have h3 := T.1
    refine xaald d_Ma_join_55 (Or.inl rfl) (gv_r3 (gl_stk hX)).2.2.1 (gv_r3 (gl_stk hX)).2.2.2 (gv_r3 (gl_stk hX)).2.1 (g32_n h3 (gv_n (gl_stk hX))) h3.1 h3.2 (gv_row (gl_stk hX) h3).1 ?_
    have T := T.2
    refine wp_iconst d_Ma_join_56 ?_
    refine wp_aload_n d_Ma_join_57 rfl rfl (g_nz (gl_1 hX 1057)) ?_
    refine xgetR d_Ma_join_58 gc_Ma f_Ma_14.1 f_Ma_14.2.1 f_Ma_14.2.2.1 (gl_1 hX 1057) (gl_2 hX (a := 1057) (by decide)) (gl_s hX 37 rfl) f_Ma_14.2.2.2.2.1 (gl_f hX 42 rfl) ?_
    refine xgetR d_Ma_join_61 gc_Vl f_Ma_269.1 f_Ma_269.2.1 f_Ma_269.2.2.1 (gl_stk hX).1 (gv_2 (gl_stk hX)) (gl_stk hX).2.2.1 f_Ma_269.2.2.2.2.1 (gv_r3 (gl_stk hX)).1 ?_
    refine wp_iload_n d_Ma_join_64 rfl rfl ?_
    have h4 := T.1
    refine xaald d_Ma_join_65 (Or.inl rfl) (gv_r3 (gl_stk hX)).2.2.1 (gv_r3 (gl_stk hX)).2.2.2 (gv_r3 (gl_stk hX)).2.1 (g32_n h4 (gv_n (gl_stk hX))) h4.1 h4.2 (gv_row (gl_stk hX) h4).1 ?_
    have T := T.2
    refine wp_iload_n d_Ma_join_66 rfl rfl ?_
    refine wp_iload_n d_Ma_join_67 rfl rfl ?_
    refine wp_copy (a := (c + 1058) + 4 + Int.toNat x1) (a0 := (c + 1058) + 4 + Int.toNat (x1 + 1)) d_Ma_join_68 ml_Ma_273 na_arraycopy sm_arraycopy in_System (by decide) (gv_row (gl_stk hX) h3).2.2.1 (gv_row (gl_stk hX) h3).2.2.2 (gv_row (gl_stk hX) h3).2.1 (gv_row (gl_stk hX) h4).2.2.1 (gv_row (gl_stk hX) h4).2.2.2 (gv_row (gl_stk hX) h4).2.1 (by decide) (by decide) T.1 (g_cpfr d) (g_cplo d) ?_
    have T := T.2
    refine wp_aload_n d_Ma_join_71 rfl rfl (g_nz (gl_1 hX 1057)) ?_
    refine xgetR d_Ma_join_72 gc_Ma f_Ma_14.1 f_Ma_14.2.1 f_Ma_14.2.2.1 (gl_1 hX 1057) (gl_2 hX (a := 1057) (by decide)) (gl_s hX 37 rfl) f_Ma_14.2.2.2.2.1 (gl_f hX 42 rfl) ?_
    refine xgetR d_Ma_join_75 gc_Vl f_Ma_149.1 f_Ma_149.2.1 f_Ma_149.2.2.1 (gl_stk hX).1 (gv_2 (gl_stk hX)) (gl_stk hX).2.2.1 f_Ma_149.2.2.2.2.1 (gv_r2 (gl_stk hX)).1 ?_
    refine wp_iload_n d_Ma_join_78 rfl rfl ?_
    refine wp_iload_n d_Ma_join_79 rfl rfl ?_
    refine wp_iload_n d_Ma_join_80 rfl rfl ?_
    refine wp_iadd d_Ma_join_81 ?_
    refine xi2l d_Ma_join_82 rfl ?_
    refine xlast d_Ma_join_83 (gv_r2 (gl_stk hX)).2.2.1 (gv_r2 (gl_stk hX)).2.2.2 (gv_r2 (gl_stk hX)).2.1 (gv_n (gl_stk hX)) T.1 (w64_id (g64_32 (w32_ok _))) ?_
    have T := T.2
    exact wp_return d_Ma_join_84 rfl (fun _ => rfl) (Nat.zero_le _) (Nat.zero_le _) (kV_mk T)
  · have T := T.2 h6
    refine wp_aload_n d_Ma_join_32 rfl rfl (g_nz (gl_1 hX 1057)) ?_
    refine xgetR d_Ma_join_33 gc_Ma f_Ma_14.1 f_Ma_14.2.1 f_Ma_14.2.2.1 (gl_1 hX 1057) (gl_2 hX (a := 1057) (by decide)) (gl_s hX 37 rfl) f_Ma_14.2.2.2.2.1 (gl_f hX 42 rfl) ?_
    refine wp_iload_n d_Ma_join_36 rfl rfl ?_
    refine wp_iconst d_Ma_join_37 ?_
    refine wp_ldc2 (n := 4) d_Ma_join_38 c_Ma_147 rfl ?_
    refine xcV_V (md' := true) (As := [gI x1, gI 4, gL 4]) (st := []) d_Ma_join_41 ca_Vl_set ml_Ma_110 im_Vl_set se_Vl_set gc_Vl (gl_stk hX).1 (gv_2 (gl_stk hX)) (gl_stk hX).2.2.1 rfl (by decide) (by decide) rfl (fun _ => rfl) (fun _ => rfl) T (fun M5 T => ?_)
    exact wp_return d_Ma_join_44 rfl (fun _ => rfl) (Nat.zero_le _) (Nat.zero_le _) (kV_mk T)
theorem e_Ma_join {l : Launch} {G : gG} {d : Nat} {X : gX} {M : gM} {k : gM → Prop} {c : Nat} {x1 : Int} (T : wp l G y_Ma_join (gRm (d + 1)) true (kkV X k) false 0 [.val (gR G (c + 1057)), .val (gI x1), .unset, .unset] [] X M 0 0) : cV l G y_Ma_join (gRm (d + 1)) true [gR G (c + 1057), gI x1] X M k := cen_V (plainFor_of_name rfl) (by simp only [lg_sl_R, lg_sl_I, lg_sl_L, lg_sl_N, List.length_cons, List.length_nil]; decide) (by unfold gEn; simp only [lg_sl_R, lg_sl_I, lg_sl_L, lg_sl_N]; exact wpt T (And.intro rfl (And.intro rfl True.intro)))
theorem d_Ma_changeCase_0 : decode prog_6_method_19_code 0 = .ok (.aload_n 0, 1) := by decide +kernel
theorem d_Ma_changeCase_1 : decode prog_6_method_19_code 1 = .ok (.getfield 14, 3) := by decide +kernel
theorem d_Ma_changeCase_4 : decode prog_6_method_19_code 4 = .ok (.getfield 269, 3) := by decide +kernel
theorem d_Ma_changeCase_7 : decode prog_6_method_19_code 7 = .ok (.iload_n 1, 1) := by decide +kernel
theorem d_Ma_changeCase_8 : decode prog_6_method_19_code 8 = .ok (.aaload, 1) := by decide +kernel
theorem d_Ma_changeCase_9 : decode prog_6_method_19_code 9 = .ok (.astore 4, 2) := by decide +kernel
theorem d_Ma_changeCase_11 : decode prog_6_method_19_code 11 = .ok (.iconst 0, 1) := by decide +kernel
theorem d_Ma_changeCase_12 : decode prog_6_method_19_code 12 = .ok (.istore 5, 2) := by decide +kernel
theorem d_Ma_changeCase_14 : decode prog_6_method_19_code 14 = .ok (.iload 5, 2) := by decide +kernel
theorem d_Ma_changeCase_16 : decode prog_6_method_19_code 16 = .ok (.i2l, 1) := by decide +kernel
theorem d_Ma_changeCase_17 : decode prog_6_method_19_code 17 = .ok (.aload_n 0, 1) := by decide +kernel
theorem d_Ma_changeCase_18 : decode prog_6_method_19_code 18 = .ok (.getfield 14, 3) := by decide +kernel
theorem d_Ma_changeCase_21 : decode prog_6_method_19_code 21 = .ok (.getfield 149, 3) := by decide +kernel
theorem d_Ma_changeCase_24 : decode prog_6_method_19_code 24 = .ok (.iload_n 1, 1) := by decide +kernel
theorem d_Ma_changeCase_25 : decode prog_6_method_19_code 25 = .ok (.laload, 1) := by decide +kernel
theorem d_Ma_changeCase_26 : decode prog_6_method_19_code 26 = .ok (.lcmp, 1) := by decide +kernel
theorem d_Ma_changeCase_27 : decode prog_6_method_19_code 27 = .ok (.ifCond .ge 42, 3) := by decide +kernel
theorem d_Ma_changeCase_69 : decode prog_6_method_19_code 69 = .ok (.return_, 1) := by decide +kernel
theorem d_Ma_changeCase_30 : decode prog_6_method_19_code 30 = .ok (.aload 4, 2) := by decide +kernel
theorem d_Ma_changeCase_32 : decode prog_6_method_19_code 32 = .ok (.iload 5, 2) := by decide +kernel
theorem d_Ma_changeCase_34 : decode prog_6_method_19_code 34 = .ok (.baload, 1) := by decide +kernel
theorem d_Ma_changeCase_35 : decode prog_6_method_19_code 35 = .ok (.iload_n 2, 1) := by decide +kernel
theorem d_Ma_changeCase_36 : decode prog_6_method_19_code 36 = .ok (.if_icmp .lt 27, 3) := by decide +kernel
theorem d_Ma_changeCase_63 : decode prog_6_method_19_code 63 = .ok (.iinc 5 1, 3) := by decide +kernel
theorem d_Ma_changeCase_66 : decode prog_6_method_19_code 66 = .ok (.goto (-52), 3) := by decide +kernel
theorem d_Ma_changeCase_39 : decode prog_6_method_19_code 39 = .ok (.aload 4, 2) := by decide +kernel
theorem d_Ma_changeCase_41 : decode prog_6_method_19_code 41 = .ok (.iload 5, 2) := by decide +kernel
theorem d_Ma_changeCase_43 : decode prog_6_method_19_code 43 = .ok (.baload, 1) := by decide +kernel
theorem d_Ma_changeCase_44 : decode prog_6_method_19_code 44 = .ok (.iload_n 2, 1) := by decide +kernel
theorem d_Ma_changeCase_45 : decode prog_6_method_19_code 45 = .ok (.bipush 26, 2) := by decide +kernel
theorem d_Ma_changeCase_47 : decode prog_6_method_19_code 47 = .ok (.iadd, 1) := by decide +kernel
theorem d_Ma_changeCase_48 : decode prog_6_method_19_code 48 = .ok (.if_icmp .ge 15, 3) := by decide +kernel
theorem d_Ma_changeCase_51 : decode prog_6_method_19_code 51 = .ok (.aload 4, 2) := by decide +kernel
theorem d_Ma_changeCase_53 : decode prog_6_method_19_code 53 = .ok (.iload 5, 2) := by decide +kernel
theorem d_Ma_changeCase_55 : decode prog_6_method_19_code 55 = .ok (.dup2, 1) := by decide +kernel
theorem d_Ma_changeCase_56 : decode prog_6_method_19_code 56 = .ok (.baload, 1) := by decide +kernel
theorem d_Ma_changeCase_57 : decode prog_6_method_19_code 57 = .ok (.iload_n 3, 1) := by decide +kernel
theorem d_Ma_changeCase_58 : decode prog_6_method_19_code 58 = .ok (.iload_n 2, 1) := by decide +kernel
theorem d_Ma_changeCase_59 : decode prog_6_method_19_code 59 = .ok (.isub, 1) := by decide +kernel
theorem d_Ma_changeCase_60 : decode prog_6_method_19_code 60 = .ok (.iadd, 1) := by decide +kernel
theorem d_Ma_changeCase_61 : decode prog_6_method_19_code 61 = .ok (.i2b, 1) := by decide +kernel
theorem d_Ma_changeCase_62 : decode prog_6_method_19_code 62 = .ok (.bastore, 1) := by decide +kernel
set_option maxHeartbeats 4000000 in
theorem w_Ma_changeCase_0 {l : Launch} {G : gG} {d : Nat} {X : gX} {M : gM} {k : gM → Prop} {c : Nat} (hX : glX X c) {x1 : Int} (hx1 : g32 x1) {x2 : Int} (hx2 : g32 x2) {x3 : Int} (hx3 : g32 x3)  (T : ((0 : Int) ≤ x1 ∧ x1 < 104) ∧ (wp l G y_Ma_changeCase (gRm d) true (kkV X k) true 14 [.val (gR G (c + 1057)), .val (gI x1), .val (gI x2), .val (gI x3), .val (gR G ((c + 1058) + 4 + Int.toNat x1)), .val (gI 0)] [] X M 0 0)) : wp l G y_Ma_changeCase (gRm d) true (kkV X k) false 0 [.val (gR G (c + 1057)), .val (gI x1), .val (gI x2), .val (gI x3), .unset, .unset] [] X M 0 0 := by
  refine wp_aload_n d_Ma_changeCase_0 rfl rfl (g_nz (gl_1 hX 1057)) ?_
  refine xgetR d_Ma_changeCase_1 gc_Ma f_Ma_14.1 f_Ma_14.2.1 f_Ma_14.2.2.1 (gl_1 hX 1057) (gl_2 hX (a := 1057) (by decide)) (gl_s hX 37 rfl) f_Ma_14.2.2.2.2.1 (gl_f hX 42 rfl) ?_
  refine xgetR d_Ma_changeCase_4 gc_Vl f_Ma_269.1 f_Ma_269.2.1 f_Ma_269.2.2.1 (gl_stk hX).1 (gv_2 (gl_stk hX)) (gl_stk hX).2.2.1 f_Ma_269.2.2.2.2.1 (gv_r3 (gl_stk hX)).1 ?_
  refine wp_iload_n d_Ma_changeCase_7 rfl rfl ?_
  have h1 := T.1
  refine xaald d_Ma_changeCase_8 (Or.inl rfl) (gv_r3 (gl_stk hX)).2.2.1 (gv_r3 (gl_stk hX)).2.2.2 (gv_r3 (gl_stk hX)).2.1 (g32_n h1 (gv_n (gl_stk hX))) h1.1 h1.2 (gv_row (gl_stk hX) h1).1 ?_
  have T := T.2
  refine wp_astore (L' := [.val (gR G (c + 1057)), .val (gI x1), .val (gI x2), .val (gI x3), .val (gR G ((c + 1058) + 4 + Int.toNat x1)), .unset]) d_Ma_changeCase_9 (g_nz (gv_row (gl_stk hX) h1).2.2.1) (by decide) rfl ?_
  refine wp_iconst d_Ma_changeCase_11 ?_
  refine wp_istore (L' := [.val (gR G (c + 1057)), .val (gI x1), .val (gI x2), .val (gI x3), .val (gR G ((c + 1058) + 4 + Int.toNat x1)), .val (gI 0)]) d_Ma_changeCase_12 (by decide) (gS1_R rfl rfl) ?_
  exact wp_md (wpt T (And.intro rfl (And.intro rfl (And.intro rfl (And.intro rfl (And.intro rfl (And.intro rfl True.intro)))))))
set_option maxHeartbeats 4000000 in
theorem w_Ma_changeCase_14 {l : Launch} {G : gG} {d : Nat} {X : gX} {M : gM} {k : gM → Prop} {c : Nat} (hX : glX X c) {x1 : Int} (hx1 : g32 x1) {x2 : Int} (hx2 : g32 x2) {x3 : Int} (hx3 : g32 x3) {r4 : Nat} (hr4 : 1 ≤ r4 ∧ r4 ≤ X.1 ∧ X.2.1 r4 = (2, 64)) {x5 : Int} (hx5 : g32 x5)  (T : ((0 : Int) ≤ x1 ∧ x1 < 104) ∧ (g64 (M ((c + 1058) + 2) (Int.toNat x1)) → ((M ((c + 1058) + 2) (Int.toNat x1) ≤ x5 → (k M)) ∧ (¬ M ((c + 1058) + 2) (Int.toNat x1) ≤ x5 → (((0 : Int) ≤ x5 ∧ x5 < 64) ∧ ((-128 ≤ M r4 (Int.toNat x5) ∧ M r4 (Int.toNat x5) < 128) → ((M r4 (Int.toNat x5) < x2 → (wp l G y_Ma_changeCase (gRm d) true (kkV X k) true 14 [.val (gR G (c + 1057)), .val (gI x1), .val (gI x2), .val (gI x3), .val (gR G r4), .val (gI (w32 (x5 + 1)))] [] X M 0 0)) ∧ (¬ M r4 (Int.toNat x5) < x2 → (((0 : Int) ≤ x5 ∧ x5 < 64) ∧ ((-128 ≤ M r4 (Int.toNat x5) ∧ M r4 (Int.toNat x5) < 128) → (((w32 (x2 + 26)) ≤ M r4 (Int.toNat x5) → (wp l G y_Ma_changeCase (gRm d) true (kkV X k) true 14 [.val (gR G (c + 1057)), .val (gI x1), .val (gI x2), .val (gI x3), .val (gR G r4), .val (gI (w32 (x5 + 1)))] [] X M 0 0)) ∧ (¬ (w32 (x2 + 26)) ≤ M r4 (Int.toNat x5) → (((0 : Int) ≤ x5 ∧ x5 < 64) ∧ ((-128 ≤ M r4 (Int.toNat x5) ∧ M r4 (Int.toNat x5) < 128) → (((0 : Int) ≤ x5 ∧ x5 < 64) ∧ (wp l G y_Ma_changeCase (gRm d) true (kkV X k) true 14 [.val (gR G (c + 1057)), .val (gI x1), .val (gI x2), .val (gI x3), .val (gR G r4), .val (gI (w32 (x5 + 1)))] [] X (gUp M r4 (Int.toNat x5) (gByte (gByte ((M r4 (Int.toNat x5)) + (x3 - x2))))) 0 0)))))))))))))))) : wp l G y_Ma_changeCase (gRm d) true (kkV X k) true 14 [.val (gR G (c + 1057)), .val (gI x1), .val (gI x2), .val (gI x3), .val (gR G r4), .val (gI x5)] [] X M 0 0 := by
  refine wp_iload d_Ma_changeCase_14 rfl ?_
  refine xi2l d_Ma_changeCase_16 (w32_id hx5) ?_
  refine wp_aload_n d_Ma_changeCase_17 rfl rfl (g_nz (gl_1 hX 1057)) ?_
  refine xgetR d_Ma_changeCase_18 gc_Ma f_Ma_14.1 f_Ma_14.2.1 f_Ma_14.2.2.1 (gl_1 hX 1057) (gl_2 hX (a := 1057) (by decide)) (gl_s hX 37 rfl) f_Ma_14.2.2.2.2.1 (gl_f hX 42 rfl) ?_
  refine xgetR d_Ma_changeCase_21 gc_Vl f_Ma_149.1 f_Ma_149.2.1 f_Ma_149.2.2.1 (gl_stk hX).1 (gv_2 (gl_stk hX)) (gl_stk hX).2.2.1 f_Ma_149.2.2.2.2.1 (gv_r2 (gl_stk hX)).1 ?_
  refine wp_iload_n d_Ma_changeCase_24 rfl rfl ?_
  refine wp_laload d_Ma_changeCase_25 (gv_r2 (gl_stk hX)).2.2.1 (gv_r2 (gl_stk hX)).2.2.2 (gv_r2 (gl_stk hX)).2.1 (g32_n T.1 (gv_n (gl_stk hX))) T.1.1 T.1.2 (fun h2 => ?_)
  have T := T.2 h2
  refine xl_ge (tgt := 69) d_Ma_changeCase_26 d_Ma_changeCase_27 (by decide) (w64_id (g64_32 hx5)) (w64_id h2) (fun h8 => ?_) (fun h8 => ?_)
  · have T := T.1 h8
    exact wp_return d_Ma_changeCase_69 rfl (fun _ => rfl) (Nat.zero_le _) (Nat.zero_le _) (kV_mk T)
  · have T := T.2 h8
    refine wp_aload d_Ma_changeCase_30 rfl (g_nz hr4.1) ?_
    refine wp_iload d_Ma_changeCase_32 rfl ?_
    refine wp_baload d_Ma_changeCase_34 hr4.1 hr4.2.1 hr4.2.2 (g32_n T.1 (by decide)) T.1.1 T.1.2 (fun h3 => ?_)
    have T := T.2 h3
    refine wp_iload_n d_Ma_changeCase_35 rfl rfl ?_
    refine xi_lt (tgt := 63) d_Ma_changeCase_36 (by decide) (w32_id (g32_b h3)) (w32_id hx2) (fun h7 => ?_) (fun h7 => ?_)
    · have T := T.1 h7
      refine wp_iinc (L' := [.val (gR G (c + 1057)), .val (gI x1), .val (gI x2), .val (gI x3), .val (gR G r4), .val (gI (x5 + 1))]) d_Ma_changeCase_63 rfl (by decide) (gS1_R rfl rfl) ?_
      refine wp_goto (tgt := 14) d_Ma_changeCase_66 (by decide) ?_
      exact wp_md (wpt T (And.intro rfl (And.intro rfl (And.intro rfl (And.intro rfl (And.intro rfl (And.intro (gI_w _) True.intro)))))))
    · have T := T.2 h7
      refine wp_aload d_Ma_changeCase_39 rfl (g_nz hr4.1) ?_
      refine wp_iload d_Ma_changeCase_41 rfl ?_
      refine wp_baload d_Ma_changeCase_43 hr4.1 hr4.2.1 hr4.2.2 (g32_n T.1 (by decide)) T.1.1 T.1.2 (fun h4 => ?_)
      have T := T.2 h4
      refine wp_iload_n d_Ma_changeCase_44 rfl rfl ?_
      refine wp_bipush d_Ma_changeCase_45 ⟨by decide, by decide⟩ ?_
      refine wp_iadd d_Ma_changeCase_47 ?_
      refine xi_ge (tgt := 63) d_Ma_changeCase_48 (by decide) (w32_id (g32_b h4)) rfl (fun h6 => ?_) (fun h6 => ?_)
      · have T := T.1 h6
        refine wp_iinc (L' := [.val (gR G (c + 1057)), .val (gI x1), .val (gI x2), .val (gI x3), .val (gR G r4), .val (gI (x5 + 1))]) d_Ma_changeCase_63 rfl (by decide) (gS1_R rfl rfl) ?_
        refine wp_goto (tgt := 14) d_Ma_changeCase_66 (by decide) ?_
        exact wp_md (wpt T (And.intro rfl (And.intro rfl (And.intro rfl (And.intro rfl (And.intro rfl (And.intro (gI_w _) True.intro)))))))
      · have T := T.2 h6
        refine wp_aload d_Ma_changeCase_51 rfl (g_nz hr4.1) ?_
        refine wp_iload d_Ma_changeCase_53 rfl ?_
        refine wp_dup2 d_Ma_changeCase_55 (gI_cat _) (gR_cat _) ?_
        refine wp_baload d_Ma_changeCase_56 hr4.1 hr4.2.1 hr4.2.2 (g32_n T.1 (by decide)) T.1.1 T.1.2 (fun h5 => ?_)
        have T := T.2 h5
        refine wp_iload_n d_Ma_changeCase_57 rfl rfl ?_
        refine wp_iload_n d_Ma_changeCase_58 rfl rfl ?_
        refine wp_isub d_Ma_changeCase_59 ?_
        refine wp_iadd d_Ma_changeCase_60 ?_
        refine wp_i2b d_Ma_changeCase_61 ?_
        refine xbast d_Ma_changeCase_62 hr4.1 hr4.2.1 hr4.2.2 (by decide) T.1 ?_
        have T := T.2
        refine wp_iinc (L' := [.val (gR G (c + 1057)), .val (gI x1), .val (gI x2), .val (gI x3), .val (gR G r4), .val (gI (x5 + 1))]) d_Ma_changeCase_63 rfl (by decide) (gS1_R rfl rfl) ?_
        refine wp_goto (tgt := 14) d_Ma_changeCase_66 (by decide) ?_
        exact wp_md (wpt T (And.intro rfl (And.intro rfl (And.intro rfl (And.intro rfl (And.intro rfl (And.intro (gI_w _) True.intro)))))))
theorem e_Ma_changeCase {l : Launch} {G : gG} {d : Nat} {X : gX} {M : gM} {k : gM → Prop} {c : Nat} {x1 : Int} {x2 : Int} {x3 : Int} (T : wp l G y_Ma_changeCase (gRm d) true (kkV X k) false 0 [.val (gR G (c + 1057)), .val (gI x1), .val (gI x2), .val (gI x3), .unset, .unset] [] X M 0 0) : cV l G y_Ma_changeCase (gRm d) true [gR G (c + 1057), gI x1, gI x2, gI x3] X M k := cen_V (plainFor_of_name rfl) (by simp only [lg_sl_R, lg_sl_I, lg_sl_L, lg_sl_N, List.length_cons, List.length_nil]; decide) (by unfold gEn; simp only [lg_sl_R, lg_sl_I, lg_sl_L, lg_sl_N]; exact wpt T (And.intro rfl (And.intro rfl (And.intro rfl (And.intro rfl True.intro)))))
theorem d_Ma_cutOut_0 : decode prog_6_method_20_code 0 = .ok (.lload_n 2, 1) := by decide +kernel
theorem d_Ma_cutOut_1 : decode prog_6_method_20_code 1 = .ok (.lconst 0, 1) := by decide +kernel
theorem d_Ma_cutOut_2 : decode prog_6_method_20_code 2 = .ok (.lcmp, 1) := by decide +kernel
theorem d_Ma_cutOut_3 : decode prog_6_method_20_code 3 = .ok (.ifCond .lt 10, 3) := by decide +kernel
theorem d_Ma_cutOut_13 : decode prog_6_method_20_code 13 = .ok (.aload_n 0, 1) := by decide +kernel
theorem d_Ma_cutOut_14 : decode prog_6_method_20_code 14 = .ok (.getfield 14, 3) := by decide +kernel
theorem d_Ma_cutOut_17 : decode prog_6_method_20_code 17 = .ok (.iload_n 1, 1) := by decide +kernel
theorem d_Ma_cutOut_18 : decode prog_6_method_20_code 18 = .ok (.iconst 4, 1) := by decide +kernel
theorem d_Ma_cutOut_19 : decode prog_6_method_20_code 19 = .ok (.ldc2_w 147, 3) := by decide +kernel
theorem d_Ma_cutOut_22 : decode prog_6_method_20_code 22 = .ok (.invokevirtual 110, 3) := by decide +kernel
theorem d_Ma_cutOut_25 : decode prog_6_method_20_code 25 = .ok (.return_, 1) := by decide +kernel
theorem d_Ma_cutOut_6 : decode prog_6_method_20_code 6 = .ok (.lload 4, 2) := by decide +kernel
theorem d_Ma_cutOut_8 : decode prog_6_method_20_code 8 = .ok (.lconst 0, 1) := by decide +kernel
theorem d_Ma_cutOut_9 : decode prog_6_method_20_code 9 = .ok (.lcmp, 1) := by decide +kernel
theorem d_Ma_cutOut_10 : decode prog_6_method_20_code 10 = .ok (.ifCond .ge 16, 3) := by decide +kernel
theorem d_Ma_cutOut_26 : decode prog_6_method_20_code 26 = .ok (.lload_n 2, 1) := by decide +kernel
theorem d_Ma_cutOut_27 : decode prog_6_method_20_code 27 = .ok (.aload_n 0, 1) := by decide +kernel
theorem d_Ma_cutOut_28 : decode prog_6_method_20_code 28 = .ok (.getfield 14, 3) := by decide +kernel
theorem d_Ma_cutOut_31 : decode prog_6_method_20_code 31 = .ok (.getfield 149, 3) := by decide +kernel
theorem d_Ma_cutOut_34 : decode prog_6_method_20_code 34 = .ok (.iload_n 1, 1) := by decide +kernel
theorem d_Ma_cutOut_35 : decode prog_6_method_20_code 35 = .ok (.laload, 1) := by decide +kernel
theorem d_Ma_cutOut_36 : decode prog_6_method_20_code 36 = .ok (.invokestatic 245, 3) := by decide +kernel
theorem d_Ma_cutOut_39 : decode prog_6_method_20_code 39 = .ok (.l2i, 1) := by decide +kernel
theorem d_Ma_cutOut_40 : decode prog_6_method_20_code 40 = .ok (.istore 6, 2) := by decide +kernel
theorem d_Ma_cutOut_42 : decode prog_6_method_20_code 42 = .ok (.lload 4, 2) := by decide +kernel
theorem d_Ma_cutOut_44 : decode prog_6_method_20_code 44 = .ok (.aload_n 0, 1) := by decide +kernel
theorem d_Ma_cutOut_45 : decode prog_6_method_20_code 45 = .ok (.getfield 14, 3) := by decide +kernel
theorem d_Ma_cutOut_48 : decode prog_6_method_20_code 48 = .ok (.getfield 149, 3) := by decide +kernel
theorem d_Ma_cutOut_51 : decode prog_6_method_20_code 51 = .ok (.iload_n 1, 1) := by decide +kernel
theorem d_Ma_cutOut_52 : decode prog_6_method_20_code 52 = .ok (.laload, 1) := by decide +kernel
theorem d_Ma_cutOut_53 : decode prog_6_method_20_code 53 = .ok (.iload 6, 2) := by decide +kernel
theorem d_Ma_cutOut_55 : decode prog_6_method_20_code 55 = .ok (.i2l, 1) := by decide +kernel
theorem d_Ma_cutOut_56 : decode prog_6_method_20_code 56 = .ok (.lsub, 1) := by decide +kernel
theorem d_Ma_cutOut_57 : decode prog_6_method_20_code 57 = .ok (.invokestatic 245, 3) := by decide +kernel
theorem d_Ma_cutOut_60 : decode prog_6_method_20_code 60 = .ok (.l2i, 1) := by decide +kernel
theorem d_Ma_cutOut_61 : decode prog_6_method_20_code 61 = .ok (.istore 7, 2) := by decide +kernel
theorem d_Ma_cutOut_63 : decode prog_6_method_20_code 63 = .ok (.aload_n 0, 1) := by decide +kernel
theorem d_Ma_cutOut_64 : decode prog_6_method_20_code 64 = .ok (.getfield 14, 3) := by decide +kernel
theorem d_Ma_cutOut_67 : decode prog_6_method_20_code 67 = .ok (.iload_n 1, 1) := by decide +kernel
theorem d_Ma_cutOut_68 : decode prog_6_method_20_code 68 = .ok (.aload_n 0, 1) := by decide +kernel
theorem d_Ma_cutOut_69 : decode prog_6_method_20_code 69 = .ok (.getfield 14, 3) := by decide +kernel
theorem d_Ma_cutOut_72 : decode prog_6_method_20_code 72 = .ok (.getfield 269, 3) := by decide +kernel
theorem d_Ma_cutOut_75 : decode prog_6_method_20_code 75 = .ok (.iload_n 1, 1) := by decide +kernel
theorem d_Ma_cutOut_76 : decode prog_6_method_20_code 76 = .ok (.aaload, 1) := by decide +kernel
theorem d_Ma_cutOut_77 : decode prog_6_method_20_code 77 = .ok (.iload 6, 2) := by decide +kernel
theorem d_Ma_cutOut_79 : decode prog_6_method_20_code 79 = .ok (.iload 7, 2) := by decide +kernel
theorem d_Ma_cutOut_81 : decode prog_6_method_20_code 81 = .ok (.invokevirtual 119, 3) := by decide +kernel
theorem d_Ma_cutOut_84 : decode prog_6_method_20_code 84 = .ok (.return_, 1) := by decide +kernel
set_option maxHeartbeats 4000000 in
theorem w_Ma_cutOut_0 {l : Launch} {G : gG} {d : Nat} {X : gX} {M : gM} {k : gM → Prop} {c : Nat} (hX : glX X c) {x1 : Int} (hx1 : g32 x1) {x2 : Int} (hx2 : g64 x2) {x4 : Int} (hx4 : g64 x4)  (T : (x2 < 0 → (cV l G y_Vl_set (gRm d) true [gR G (c + 1058), gI x1, gI 4, gL 4] X M (fun M1 => (k M1)))) ∧ (¬ x2 < 0 → ((0 ≤ x4 → (((0 : Int) ≤ x1 ∧ x1 < 104) ∧ (g64 (M ((c + 1058) + 2) (Int.toNat x1)) → (cL l G y_jMath_min_2 (gRm d) false [gL x2, gL (M ((c + 1058) + 2) (Int.toNat x1))] X M (fun v4 M3 => (((0 : Int) ≤ x1 ∧ x1 < 104) ∧ (g64 (M3 ((c + 1058) + 2) (Int.toNat x1)) → (cL l G y_jMath_min_2 (gRm d) false [gL x4, gL ((M3 ((c + 1058) + 2) (Int.toNat x1)) - (w32 v4))] X M3 (fun v8 M7 => (((0 : Int) ≤ x1 ∧ x1 < 104) ∧ (cV l G y_Vl_setText (gRm d) true [gR G (c + 1058), gI x1, gR G ((c + 1058) + 4 + Int.toNat x1), gI v4, gI v8] X M7 (fun M11 => (k M11))))))))))))) ∧ (¬ 0 ≤ x4 → (cV l G y_Vl_set (gRm d) true [gR G (c + 1058), gI x1, gI 4, gL 4] X M (fun M12 => (k M12))))))) : wp l G y_Ma_cutOut (gRm (d + 1)) true (kkV X k) false 0 [.val (gR G (c + 1057)), .val (gI x1), .val (gL x2), .unset, .val (gL x4), .unset, .unset, .unset] [] X M 0 0 := by
  refine wp_lload_n d_Ma_cutOut_0 rfl rfl ?_
  refine wp_lconst0 d_Ma_cutOut_1 ?_
  refine xl_lt (tgt := 13) d_Ma_cutOut_2 d_Ma_cutOut_3 (by decide) (w64_id hx2) (w64_id (g64_c (x := 0) rfl)) (fun h14 => ?_) (fun h14 => ?_)
  · have T := T.1 h14
    refine wp_aload_n d_Ma_cutOut_13 rfl rfl (g_nz (gl_1 hX 1057)) ?_
    refine xgetR d_Ma_cutOut_14 gc_Ma f_Ma_14.1 f_Ma_14.2.1 f_Ma_14.2.2.1 (gl_1 hX 1057) (gl_2 hX (a := 1057) (by decide)) (gl_s hX 37 rfl) f_Ma_14.2.2.2.2.1 (gl_f hX 42 rfl) ?_
    refine wp_iload_n d_Ma_cutOut_17 rfl rfl ?_
    refine wp_iconst d_Ma_cutOut_18 ?_
    refine wp_ldc2 (n := 4) d_Ma_cutOut_19 c_Ma_147 rfl ?_
    refine xcV_V (md' := true) (As := [gI x1, gI 4, gL 4]) (st := []) d_Ma_cutOut_22 ca_Vl_set ml_Ma_110 im_Vl_set se_Vl_set gc_Vl (gl_stk hX).1 (gv_2 (gl_stk hX)) (gl_stk hX).2.2.1 rfl (by decide) (by decide) rfl (fun _ => rfl) (fun _ => rfl) T (fun M1 T => ?_)
    exact wp_return d_Ma_cutOut_25 rfl (fun _ => rfl) (Nat.zero_le _) (Nat.zero_le _) (kV_mk T)
  · have T := T.2 h14
    refine wp_lload d_Ma_cutOut_6 rfl ?_
    refine wp_lconst0 d_Ma_cutOut_8 ?_
    refine xl_ge (tgt := 26) d_Ma_cutOut_9 d_Ma_cutOut_10 (by decide) (w64_id hx4) (w64_id (g64_c (x := 0) rfl)) (fun h13 => ?_) (fun h13 => ?_)
    · have T := T.1 h13
      refine wp_lload_n d_Ma_cutOut_26 rfl rfl ?_
      refine wp_aload_n d_Ma_cutOut_27 rfl rfl (g_nz (gl_1 hX 1057)) ?_
      refine xgetR d_Ma_cutOut_28 gc_Ma f_Ma_14.1 f_Ma_14.2.1 f_Ma_14.2.2.1 (gl_1 hX 1057) (gl_2 hX (a := 1057) (by decide)) (gl_s hX 37 rfl) f_Ma_14.2.2.2.2.1 (gl_f hX 42 rfl) ?_
      refine xgetR d_Ma_cutOut_31 gc_Vl f_Ma_149.1 f_Ma_149.2.1 f_Ma_149.2.2.1 (gl_stk hX).1 (gv_2 (gl_stk hX)) (gl_stk hX).2.2.1 f_Ma_149.2.2.2.2.1 (gv_r2 (gl_stk hX)).1 ?_
      refine wp_iload_n d_Ma_cutOut_34 rfl rfl ?_
      refine wp_laload d_Ma_cutOut_35 (gv_r2 (gl_stk hX)).2.2.1 (gv_r2 (gl_stk hX)).2.2.2 (gv_r2 (gl_stk hX)).2.1 (g32_n T.1 (gv_n (gl_stk hX))) T.1.1 T.1.2 (fun h2 => ?_)
      have T := T.2 h2
      refine xcS_L (md' := false) (As := [gL x2, gL (M ((c + 1058) + 2) (Int.toNat x1))]) (st := []) d_Ma_cutOut_36 ca_jMath_min_2 ml_Ma_245 sm_jMath_min_2 rfl (by decide) (by decide) rfl id id T (fun v4 M3 h5 T => ?_)
      refine wp_l2i d_Ma_cutOut_39 ?_
      refine wp_istore (L' := [.val (gR G (c + 1057)), .val (gI x1), .val (gL x2), .unset, .val (gL x4), .unset, .val (gI v4), .unset]) d_Ma_cutOut_40 (by decide) rfl ?_
      refine wp_lload d_Ma_cutOut_42 rfl ?_
      refine wp_aload_n d_Ma_cutOut_44 rfl rfl (g_nz (gl_1 hX 1057)) ?_
      refine xgetR d_Ma_cutOut_45 gc_Ma f_Ma_14.1 f_Ma_14.2.1 f_Ma_14.2.2.1 (gl_1 hX 1057) (gl_2 hX (a := 1057) (by decide)) (gl_s hX 37 rfl) f_Ma_14.2.2.2.2.1 (gl_f hX 42 rfl) ?_
      refine xgetR d_Ma_cutOut_48 gc_Vl f_Ma_149.1 f_Ma_149.2.1 f_Ma_149.2.2.1 (gl_stk hX).1 (gv_2 (gl_stk hX)) (gl_stk hX).2.2.1 f_Ma_149.2.2.2.2.1 (gv_r2 (gl_stk hX)).1 ?_
      refine wp_iload_n d_Ma_cutOut_51 rfl rfl ?_
      refine wp_laload d_Ma_cutOut_52 (gv_r2 (gl_stk hX)).2.2.1 (gv_r2 (gl_stk hX)).2.2.2 (gv_r2 (gl_stk hX)).2.1 (g32_n T.1 (gv_n (gl_stk hX))) T.1.1 T.1.2 (fun h6 => ?_)
      have T := T.2 h6
      refine wp_iload d_Ma_cutOut_53 rfl ?_
      refine xi2l d_Ma_cutOut_55 rfl ?_
      refine wp_lsub d_Ma_cutOut_56 ?_
      refine xcS_L (md' := false) (As := [gL x4, gL ((M3 ((c + 1058) + 2) (Int.toNat x1)) - (w32 v4))]) (st := []) d_Ma_cutOut_57 ca_jMath_min_2 ml_Ma_245 sm_jMath_min_2 rfl (by decide) (by decide) rfl id id T (fun v8 M7 h9 T => ?_)
      refine wp_l2i d_Ma_cutOut_60 ?_
      refine wp_istore (L' := [.val (gR G (c + 1057)), .val (gI x1), .val (gL x2), .unset, .val (gL x4), .unset, .val (gI v4), .val (gI v8)]) d_Ma_cutOut_61 (by decide) rfl ?_
      refine wp_aload_n d_Ma_cutOut_63 rfl rfl (g_nz (gl_1 hX 1057)) ?_
      refine xgetR d_Ma_cutOut_64 gc_Ma f_Ma_14.1 f_Ma_14.2.1 f_Ma_14.2.2.1 (gl_1 hX 1057) (gl_2 hX (a := 1057) (by decide)) (gl_s hX 37 rfl) f_Ma_14.2.2.2.2.1 (gl_f hX 42 rfl) ?_
      refine wp_iload_n d_Ma_cutOut_67 rfl rfl ?_
      refine wp_aload_n d_Ma_cutOut_68 rfl rfl (g_nz (gl_1 hX 1057)) ?_
      refine xgetR d_Ma_cutOut_69 gc_Ma f_Ma_14.1 f_Ma_14.2.1 f_Ma_14.2.2.1 (gl_1 hX 1057) (gl_2 hX (a := 1057) (by decide)) (gl_s hX 37 rfl) f_Ma_14.2.2.2.2.1 (gl_f hX 42 rfl) ?_
      refine xgetR d_Ma_cutOut_72 gc_Vl f_Ma_269.1 f_Ma_269.2.1 f_Ma_269.2.2.1 (gl_stk hX).1 (gv_2 (gl_stk hX)) (gl_stk hX).2.2.1 f_Ma_269.2.2.2.2.1 (gv_r3 (gl_stk hX)).1 ?_
      refine wp_iload_n d_Ma_cutOut_75 rfl rfl ?_
      have h10 := T.1
      refine xaald d_Ma_cutOut_76 (Or.inl rfl) (gv_r3 (gl_stk hX)).2.2.1 (gv_r3 (gl_stk hX)).2.2.2 (gv_r3 (gl_stk hX)).2.1 (g32_n h10 (gv_n (gl_stk hX))) h10.1 h10.2 (gv_row (gl_stk hX) h10).1 ?_
      have T := T.2
      refine wp_iload d_Ma_cutOut_77 rfl ?_
      refine wp_iload d_Ma_cutOut_79 rfl ?_
      refine xcV_V (md' := true) (As := [gI x1, gR G ((c + 1058) + 4 + Int.toNat x1), gI v4, gI v8]) (st := []) d_Ma_cutOut_81 ca_Vl_setText ml_Ma_119 im_Vl_setText se_Vl_setText gc_Vl (gl_stk hX).1 (gv_2 (gl_stk hX)) (gl_stk hX).2.2.1 rfl (by decide) (by decide) rfl (fun _ => rfl) (fun _ => rfl) T (fun M11 T => ?_)
      exact wp_return d_Ma_cutOut_84 rfl (fun _ => rfl) (Nat.zero_le _) (Nat.zero_le _) (kV_mk T)
    · have T := T.2 h13
      refine wp_aload_n d_Ma_cutOut_13 rfl rfl (g_nz (gl_1 hX 1057)) ?_
      refine xgetR d_Ma_cutOut_14 gc_Ma f_Ma_14.1 f_Ma_14.2.1 f_Ma_14.2.2.1 (gl_1 hX 1057) (gl_2 hX (a := 1057) (by decide)) (gl_s hX 37 rfl) f_Ma_14.2.2.2.2.1 (gl_f hX 42 rfl) ?_
      refine wp_iload_n d_Ma_cutOut_17 rfl rfl ?_
      refine wp_iconst d_Ma_cutOut_18 ?_
      refine wp_ldc2 (n := 4) d_Ma_cutOut_19 c_Ma_147 rfl ?_
      refine xcV_V (md' := true) (As := [gI x1, gI 4, gL 4]) (st := []) d_Ma_cutOut_22 ca_Vl_set ml_Ma_110 im_Vl_set se_Vl_set gc_Vl (gl_stk hX).1 (gv_2 (gl_stk hX)) (gl_stk hX).2.2.1 rfl (by decide) (by decide) rfl (fun _ => rfl) (fun _ => rfl) T (fun M12 T => ?_)
      exact wp_return d_Ma_cutOut_25 rfl (fun _ => rfl) (Nat.zero_le _) (Nat.zero_le _) (kV_mk T)
theorem e_Ma_cutOut {l : Launch} {G : gG} {d : Nat} {X : gX} {M : gM} {k : gM → Prop} {c : Nat} {x1 : Int} {x2 : Int} {x4 : Int} (T : wp l G y_Ma_cutOut (gRm (d + 1)) true (kkV X k) false 0 [.val (gR G (c + 1057)), .val (gI x1), .val (gL x2), .unset, .val (gL x4), .unset, .unset, .unset] [] X M 0 0) : cV l G y_Ma_cutOut (gRm (d + 1)) true [gR G (c + 1057), gI x1, gL x2, gL x4] X M k := cen_V (plainFor_of_name rfl) (by simp only [lg_sl_R, lg_sl_I, lg_sl_L, lg_sl_N, List.length_cons, List.length_nil]; decide) (by unfold gEn; simp only [lg_sl_R, lg_sl_I, lg_sl_L, lg_sl_N]; exact wpt T (And.intro rfl (And.intro rfl (And.intro rfl (And.intro rfl True.intro)))))
theorem d_Ma_find_0 : decode prog_6_method_21_code 0 = .ok (.aload_n 0, 1) := by decide +kernel
theorem d_Ma_find_1 : decode prog_6_method_21_code 1 = .ok (.iload_n 1, 1) := by decide +kernel
theorem d_Ma_find_2 : decode prog_6_method_21_code 2 = .ok (.iload_n 1, 1) := by decide +kernel
theorem d_Ma_find_3 : decode prog_6_method_21_code 3 = .ok (.iconst 1, 1) := by decide +kernel
theorem d_Ma_find_4 : decode prog_6_method_21_code 4 = .ok (.iadd, 1) := by decide +kernel
theorem d_Ma_find_5 : decode prog_6_method_21_code 5 = .ok (.iconst 0, 1) := by decide +kernel
theorem d_Ma_find_6 : decode prog_6_method_21_code 6 = .ok (.invokevirtual 279, 3) := by decide +kernel
theorem d_Ma_find_9 : decode prog_6_method_21_code 9 = .ok (.istore_n 2, 1) := by decide +kernel
theorem d_Ma_find_10 : decode prog_6_method_21_code 10 = .ok (.iload_n 2, 1) := by decide +kernel
theorem d_Ma_find_11 : decode prog_6_method_21_code 11 = .ok (.ifCond .ge 18, 3) := by decide +kernel
theorem d_Ma_find_29 : decode prog_6_method_21_code 29 = .ok (.aload_n 0, 1) := by decide +kernel
theorem d_Ma_find_30 : decode prog_6_method_21_code 30 = .ok (.getfield 14, 3) := by decide +kernel
theorem d_Ma_find_33 : decode prog_6_method_21_code 33 = .ok (.iload_n 1, 1) := by decide +kernel
theorem d_Ma_find_34 : decode prog_6_method_21_code 34 = .ok (.iconst 1, 1) := by decide +kernel
theorem d_Ma_find_35 : decode prog_6_method_21_code 35 = .ok (.iload_n 2, 1) := by decide +kernel
theorem d_Ma_find_36 : decode prog_6_method_21_code 36 = .ok (.iconst 1, 1) := by decide +kernel
theorem d_Ma_find_37 : decode prog_6_method_21_code 37 = .ok (.iadd, 1) := by decide +kernel
theorem d_Ma_find_38 : decode prog_6_method_21_code 38 = .ok (.i2l, 1) := by decide +kernel
theorem d_Ma_find_39 : decode prog_6_method_21_code 39 = .ok (.invokevirtual 110, 3) := by decide +kernel
theorem d_Ma_find_42 : decode prog_6_method_21_code 42 = .ok (.return_, 1) := by decide +kernel
theorem d_Ma_find_14 : decode prog_6_method_21_code 14 = .ok (.aload_n 0, 1) := by decide +kernel
theorem d_Ma_find_15 : decode prog_6_method_21_code 15 = .ok (.getfield 14, 3) := by decide +kernel
theorem d_Ma_find_18 : decode prog_6_method_21_code 18 = .ok (.iload_n 1, 1) := by decide +kernel
theorem d_Ma_find_19 : decode prog_6_method_21_code 19 = .ok (.iconst 4, 1) := by decide +kernel
theorem d_Ma_find_20 : decode prog_6_method_21_code 20 = .ok (.ldc2_w 147, 3) := by decide +kernel
theorem d_Ma_find_23 : decode prog_6_method_21_code 23 = .ok (.invokevirtual 110, 3) := by decide +kernel
theorem d_Ma_find_26 : decode prog_6_method_21_code 26 = .ok (.goto 16, 3) := by decide +kernel
set_option maxHeartbeats 4000000 in
theorem w_Ma_find_0 {l : Launch} {G : gG} {d : Nat} {X : gX} {M : gM} {k : gM → Prop} {c : Nat} (hX : glX X c) {x1 : Int} (hx1 : g32 x1)  (T : cI l G y_Ma_placeOf (gRm d) false [gR G (c + 1057), gI x1, gI (x1 + 1), gI 0] X M (fun v2 M1 => ((0 ≤ v2 → (cV l G y_Vl_set (gRm d) true [gR G (c + 1058), gI x1, gI 1, gL (w32 (v2 + 1))] X M1 (fun M4 => (k M4)))) ∧ (¬ 0 ≤ v2 → (cV l G y_Vl_set (gRm d) true [gR G (c + 1058), gI x1, gI 4, gL 4] X M1 (fun M5 => (k M5))))))) : wp l G y_Ma_find (gRm (d + 1)) true (kkV X k) false 0 [.val (gR G (c + 1057)), .val (gI x1), .unset] [] X M 0 0 := by
  refine wp_aload_n d_Ma_find_0 rfl rfl (g_nz (gl_1 hX 1057)) ?_
  refine wp_iload_n d_Ma_find_1 rfl rfl ?_
  refine wp_iload_n d_Ma_find_2 rfl rfl ?_
  refine wp_iconst d_Ma_find_3 ?_
  refine wp_iadd d_Ma_find_4 ?_
  refine wp_iconst d_Ma_find_5 ?_
  refine xcV_I (md' := false) (As := [gI x1, gI (x1 + 1), gI 0]) (st := []) d_Ma_find_6 ca_Ma_placeOf ml_Ma_279 im_Ma_placeOf se_Ma_placeOf gc_Ma (gl_1 hX 1057) (gl_2 hX (a := 1057) (by decide)) (gl_s hX 37 rfl) rfl (by decide) (by decide) rfl id id T (fun v2 M1 h3 T => ?_)
  refine wp_istore_n (L' := [.val (gR G (c + 1057)), .val (gI x1), .val (gI v2)]) d_Ma_find_9 rfl (by decide) rfl ?_
  refine wp_iload_n d_Ma_find_10 rfl rfl ?_
  refine xz_ge (tgt := 29) d_Ma_find_11 (by decide) (w32_id h3) (fun h6 => ?_) (fun h6 => ?_)
  · have T := T.1 h6
    refine wp_aload_n d_Ma_find_29 rfl rfl (g_nz (gl_1 hX 1057)) ?_
    refine xgetR d_Ma_find_30 gc_Ma f_Ma_14.1 f_Ma_14.2.1 f_Ma_14.2.2.1 (gl_1 hX 1057) (gl_2 hX (a := 1057) (by decide)) (gl_s hX 37 rfl) f_Ma_14.2.2.2.2.1 (gl_f hX 42 rfl) ?_
    refine wp_iload_n d_Ma_find_33 rfl rfl ?_
    refine wp_iconst d_Ma_find_34 ?_
    refine wp_iload_n d_Ma_find_35 rfl rfl ?_
    refine wp_iconst d_Ma_find_36 ?_
    refine wp_iadd d_Ma_find_37 ?_
    refine xi2l d_Ma_find_38 rfl ?_
    refine xcV_V (md' := true) (As := [gI x1, gI 1, gL (w32 (v2 + 1))]) (st := []) d_Ma_find_39 ca_Vl_set ml_Ma_110 im_Vl_set se_Vl_set gc_Vl (gl_stk hX).1 (gv_2 (gl_stk hX)) (gl_stk hX).2.2.1 rfl (by decide) (by decide) rfl (fun _ => rfl) (fun _ => rfl) T (fun M4 T => ?_)
    exact wp_return d_Ma_find_42 rfl (fun _ => rfl) (Nat.zero_le _) (Nat.zero_le _) (kV_mk T)
  · have T := T.2 h6
    refine wp_aload_n d_Ma_find_14 rfl rfl (g_nz (gl_1 hX 1057)) ?_
    refine xgetR d_Ma_find_15 gc_Ma f_Ma_14.1 f_Ma_14.2.1 f_Ma_14.2.2.1 (gl_1 hX 1057) (gl_2 hX (a := 1057) (by decide)) (gl_s hX 37 rfl) f_Ma_14.2.2.2.2.1 (gl_f hX 42 rfl) ?_
    refine wp_iload_n d_Ma_find_18 rfl rfl ?_
    refine wp_iconst d_Ma_find_19 ?_
    refine wp_ldc2 (n := 4) d_Ma_find_20 c_Ma_147 rfl ?_
    refine xcV_V (md' := true) (As := [gI x1, gI 4, gL 4]) (st := []) d_Ma_find_23 ca_Vl_set ml_Ma_110 im_Vl_set se_Vl_set gc_Vl (gl_stk hX).1 (gv_2 (gl_stk hX)) (gl_stk hX).2.2.1 rfl (by decide) (by decide) rfl (fun _ => rfl) (fun _ => rfl) T (fun M5 T => ?_)
    refine wp_goto (tgt := 42) d_Ma_find_26 (by decide) ?_
    exact wp_return d_Ma_find_42 rfl (fun _ => rfl) (Nat.zero_le _) (Nat.zero_le _) (kV_mk T)
theorem e_Ma_find {l : Launch} {G : gG} {d : Nat} {X : gX} {M : gM} {k : gM → Prop} {c : Nat} {x1 : Int} (T : wp l G y_Ma_find (gRm (d + 1)) true (kkV X k) false 0 [.val (gR G (c + 1057)), .val (gI x1), .unset] [] X M 0 0) : cV l G y_Ma_find (gRm (d + 1)) true [gR G (c + 1057), gI x1] X M k := cen_V (plainFor_of_name rfl) (by simp only [lg_sl_R, lg_sl_I, lg_sl_L, lg_sl_N, List.length_cons, List.length_nil]; decide) (by unfold gEn; simp only [lg_sl_R, lg_sl_I, lg_sl_L, lg_sl_N]; exact wpt T (And.intro rfl (And.intro rfl True.intro)))
theorem d_Ma_placeOf_0 : decode prog_6_method_22_code 0 = .ok (.aload_n 0, 1) := by decide +kernel
theorem d_Ma_placeOf_1 : decode prog_6_method_22_code 1 = .ok (.getfield 14, 3) := by decide +kernel
theorem d_Ma_placeOf_4 : decode prog_6_method_22_code 4 = .ok (.getfield 269, 3) := by decide +kernel
theorem d_Ma_placeOf_7 : decode prog_6_method_22_code 7 = .ok (.iload_n 1, 1) := by decide +kernel
theorem d_Ma_placeOf_8 : decode prog_6_method_22_code 8 = .ok (.aaload, 1) := by decide +kernel
theorem d_Ma_placeOf_9 : decode prog_6_method_22_code 9 = .ok (.astore 4, 2) := by decide +kernel
theorem d_Ma_placeOf_11 : decode prog_6_method_22_code 11 = .ok (.aload_n 0, 1) := by decide +kernel
theorem d_Ma_placeOf_12 : decode prog_6_method_22_code 12 = .ok (.getfield 14, 3) := by decide +kernel
theorem d_Ma_placeOf_15 : decode prog_6_method_22_code 15 = .ok (.getfield 149, 3) := by decide +kernel
theorem d_Ma_placeOf_18 : decode prog_6_method_22_code 18 = .ok (.iload_n 1, 1) := by decide +kernel
theorem d_Ma_placeOf_19 : decode prog_6_method_22_code 19 = .ok (.laload, 1) := by decide +kernel
theorem d_Ma_placeOf_20 : decode prog_6_method_22_code 20 = .ok (.l2i, 1) := by decide +kernel
theorem d_Ma_placeOf_21 : decode prog_6_method_22_code 21 = .ok (.istore 5, 2) := by decide +kernel
theorem d_Ma_placeOf_23 : decode prog_6_method_22_code 23 = .ok (.iload_n 3, 1) := by decide +kernel
theorem d_Ma_placeOf_24 : decode prog_6_method_22_code 24 = .ok (.istore 6, 2) := by decide +kernel
theorem d_Ma_placeOf_26 : decode prog_6_method_22_code 26 = .ok (.iload 6, 2) := by decide +kernel
theorem d_Ma_placeOf_28 : decode prog_6_method_22_code 28 = .ok (.i2l, 1) := by decide +kernel
theorem d_Ma_placeOf_29 : decode prog_6_method_22_code 29 = .ok (.aload_n 0, 1) := by decide +kernel
theorem d_Ma_placeOf_30 : decode prog_6_method_22_code 30 = .ok (.getfield 14, 3) := by decide +kernel
theorem d_Ma_placeOf_33 : decode prog_6_method_22_code 33 = .ok (.getfield 149, 3) := by decide +kernel
theorem d_Ma_placeOf_36 : decode prog_6_method_22_code 36 = .ok (.iload_n 2, 1) := by decide +kernel
theorem d_Ma_placeOf_37 : decode prog_6_method_22_code 37 = .ok (.laload, 1) := by decide +kernel
theorem d_Ma_placeOf_38 : decode prog_6_method_22_code 38 = .ok (.iload 5, 2) := by decide +kernel
theorem d_Ma_placeOf_40 : decode prog_6_method_22_code 40 = .ok (.i2l, 1) := by decide +kernel
theorem d_Ma_placeOf_41 : decode prog_6_method_22_code 41 = .ok (.lsub, 1) := by decide +kernel
theorem d_Ma_placeOf_42 : decode prog_6_method_22_code 42 = .ok (.lcmp, 1) := by decide +kernel
theorem d_Ma_placeOf_43 : decode prog_6_method_22_code 43 = .ok (.ifCond .gt 58, 3) := by decide +kernel
theorem d_Ma_placeOf_101 : decode prog_6_method_22_code 101 = .ok (.iconst (-1), 1) := by decide +kernel
theorem d_Ma_placeOf_102 : decode prog_6_method_22_code 102 = .ok (.ireturn, 1) := by decide +kernel
theorem d_Ma_placeOf_46 : decode prog_6_method_22_code 46 = .ok (.iconst 0, 1) := by decide +kernel
theorem d_Ma_placeOf_47 : decode prog_6_method_22_code 47 = .ok (.istore 7, 2) := by decide +kernel
theorem d_Ma_placeOf_49 : decode prog_6_method_22_code 49 = .ok (.iload 7, 2) := by decide +kernel
theorem d_Ma_placeOf_51 : decode prog_6_method_22_code 51 = .ok (.iload 5, 2) := by decide +kernel
theorem d_Ma_placeOf_53 : decode prog_6_method_22_code 53 = .ok (.if_icmp .ge 32, 3) := by decide +kernel
theorem d_Ma_placeOf_85 : decode prog_6_method_22_code 85 = .ok (.iload 7, 2) := by decide +kernel
theorem d_Ma_placeOf_87 : decode prog_6_method_22_code 87 = .ok (.iload 5, 2) := by decide +kernel
theorem d_Ma_placeOf_89 : decode prog_6_method_22_code 89 = .ok (.if_icmp .ne 6, 3) := by decide +kernel
theorem d_Ma_placeOf_95 : decode prog_6_method_22_code 95 = .ok (.iinc 6 1, 3) := by decide +kernel
theorem d_Ma_placeOf_98 : decode prog_6_method_22_code 98 = .ok (.goto (-72), 3) := by decide +kernel
theorem d_Ma_placeOf_92 : decode prog_6_method_22_code 92 = .ok (.iload 6, 2) := by decide +kernel
theorem d_Ma_placeOf_94 : decode prog_6_method_22_code 94 = .ok (.ireturn, 1) := by decide +kernel
theorem d_Ma_placeOf_56 : decode prog_6_method_22_code 56 = .ok (.aload_n 0, 1) := by decide +kernel
theorem d_Ma_placeOf_57 : decode prog_6_method_22_code 57 = .ok (.getfield 14, 3) := by decide +kernel
theorem d_Ma_placeOf_60 : decode prog_6_method_22_code 60 = .ok (.getfield 269, 3) := by decide +kernel
theorem d_Ma_placeOf_63 : decode prog_6_method_22_code 63 = .ok (.iload_n 2, 1) := by decide +kernel
theorem d_Ma_placeOf_64 : decode prog_6_method_22_code 64 = .ok (.aaload, 1) := by decide +kernel
theorem d_Ma_placeOf_65 : decode prog_6_method_22_code 65 = .ok (.iload 6, 2) := by decide +kernel
theorem d_Ma_placeOf_67 : decode prog_6_method_22_code 67 = .ok (.iload 7, 2) := by decide +kernel
theorem d_Ma_placeOf_69 : decode prog_6_method_22_code 69 = .ok (.iadd, 1) := by decide +kernel
theorem d_Ma_placeOf_70 : decode prog_6_method_22_code 70 = .ok (.baload, 1) := by decide +kernel
theorem d_Ma_placeOf_71 : decode prog_6_method_22_code 71 = .ok (.aload 4, 2) := by decide +kernel
theorem d_Ma_placeOf_73 : decode prog_6_method_22_code 73 = .ok (.iload 7, 2) := by decide +kernel
theorem d_Ma_placeOf_75 : decode prog_6_method_22_code 75 = .ok (.baload, 1) := by decide +kernel
theorem d_Ma_placeOf_76 : decode prog_6_method_22_code 76 = .ok (.if_icmp .ne 9, 3) := by decide +kernel
theorem d_Ma_placeOf_79 : decode prog_6_method_22_code 79 = .ok (.iinc 7 1, 3) := by decide +kernel
theorem d_Ma_placeOf_82 : decode prog_6_method_22_code 82 = .ok (.goto (-33), 3) := by decide +kernel
set_option maxHeartbeats 4000000 in
theorem w_Ma_placeOf_0 {l : Launch} {G : gG} {d : Nat} {X : gX} {M : gM} {k : Int → gM → Prop} {c : Nat} (hX : glX X c) {x1 : Int} (hx1 : g32 x1) {x2 : Int} (hx2 : g32 x2) {x3 : Int} (hx3 : g32 x3)  (T : ((0 : Int) ≤ x1 ∧ x1 < 104) ∧ (((0 : Int) ≤ x1 ∧ x1 < 104) ∧ (g64 (M ((c + 1058) + 2) (Int.toNat x1)) → (wp l G y_Ma_placeOf (gRm d) false (kkI X k) false 26 [.val (gR G (c + 1057)), .unset, .val (gI x2), .unset, .val (gR G ((c + 1058) + 4 + Int.toNat x1)), .val (gI (w32 (M ((c + 1058) + 2) (Int.toNat x1)))), .val (gI x3), .unset] [] X M 0 0)))) : wp l G y_Ma_placeOf (gRm d) false (kkI X k) false 0 [.val (gR G (c + 1057)), .val (gI x1), .val (gI x2), .val (gI x3), .unset, .unset, .unset, .unset] [] X M 0 0 := by
  refine wp_aload_n d_Ma_placeOf_0 rfl rfl (g_nz (gl_1 hX 1057)) ?_
  refine xgetR d_Ma_placeOf_1 gc_Ma f_Ma_14.1 f_Ma_14.2.1 f_Ma_14.2.2.1 (gl_1 hX 1057) (gl_2 hX (a := 1057) (by decide)) (gl_s hX 37 rfl) f_Ma_14.2.2.2.2.1 (gl_f hX 42 rfl) ?_
  refine xgetR d_Ma_placeOf_4 gc_Vl f_Ma_269.1 f_Ma_269.2.1 f_Ma_269.2.2.1 (gl_stk hX).1 (gv_2 (gl_stk hX)) (gl_stk hX).2.2.1 f_Ma_269.2.2.2.2.1 (gv_r3 (gl_stk hX)).1 ?_
  refine wp_iload_n d_Ma_placeOf_7 rfl rfl ?_
  have h1 := T.1
  refine xaald d_Ma_placeOf_8 (Or.inl rfl) (gv_r3 (gl_stk hX)).2.2.1 (gv_r3 (gl_stk hX)).2.2.2 (gv_r3 (gl_stk hX)).2.1 (g32_n h1 (gv_n (gl_stk hX))) h1.1 h1.2 (gv_row (gl_stk hX) h1).1 ?_
  have T := T.2
  refine wp_astore (L' := [.val (gR G (c + 1057)), .val (gI x1), .val (gI x2), .val (gI x3), .val (gR G ((c + 1058) + 4 + Int.toNat x1)), .unset, .unset, .unset]) d_Ma_placeOf_9 (g_nz (gv_row (gl_stk hX) h1).2.2.1) (by decide) rfl ?_
  refine wp_aload_n d_Ma_placeOf_11 rfl rfl (g_nz (gl_1 hX 1057)) ?_
  refine xgetR d_Ma_placeOf_12 gc_Ma f_Ma_14.1 f_Ma_14.2.1 f_Ma_14.2.2.1 (gl_1 hX 1057) (gl_2 hX (a := 1057) (by decide)) (gl_s hX 37 rfl) f_Ma_14.2.2.2.2.1 (gl_f hX 42 rfl) ?_
  refine xgetR d_Ma_placeOf_15 gc_Vl f_Ma_149.1 f_Ma_149.2.1 f_Ma_149.2.2.1 (gl_stk hX).1 (gv_2 (gl_stk hX)) (gl_stk hX).2.2.1 f_Ma_149.2.2.2.2.1 (gv_r2 (gl_stk hX)).1 ?_
  refine wp_iload_n d_Ma_placeOf_18 rfl rfl ?_
  refine wp_laload d_Ma_placeOf_19 (gv_r2 (gl_stk hX)).2.2.1 (gv_r2 (gl_stk hX)).2.2.2 (gv_r2 (gl_stk hX)).2.1 (g32_n T.1 (gv_n (gl_stk hX))) T.1.1 T.1.2 (fun h2 => ?_)
  have T := T.2 h2
  refine wp_l2i d_Ma_placeOf_20 ?_
  refine wp_istore (L' := [.val (gR G (c + 1057)), .val (gI x1), .val (gI x2), .val (gI x3), .val (gR G ((c + 1058) + 4 + Int.toNat x1)), .val (gI (M ((c + 1058) + 2) (Int.toNat x1))), .unset, .unset]) d_Ma_placeOf_21 (by decide) (gS1_R rfl rfl) ?_
  refine wp_iload_n d_Ma_placeOf_23 rfl rfl ?_
  refine wp_istore (L' := [.val (gR G (c + 1057)), .val (gI x1), .val (gI x2), .val (gI x3), .val (gR G ((c + 1058) + 4 + Int.toNat x1)), .val (gI (M ((c + 1058) + 2) (Int.toNat x1))), .val (gI x3), .unset]) d_Ma_placeOf_24 (by decide) rfl ?_
  exact (wpt T (And.intro rfl (And.intro rfl (And.intro rfl (And.intro (gI_w _) (And.intro rfl True.intro))))))
set_option maxHeartbeats 4000000 in
theorem w_Ma_placeOf_26 {l : Launch} {G : gG} {d : Nat} {X : gX} {M : gM} {k : Int → gM → Prop} {c : Nat} (hX : glX X c) {x2 : Int} (hx2 : g32 x2) {r4 : Nat} (hr4 : 1 ≤ r4 ∧ r4 ≤ X.1 ∧ X.2.1 r4 = (2, 64)) {x5 : Int} (hx5 : g32 x5) {x6 : Int} (hx6 : g32 x6)  (T : ((0 : Int) ≤ x2 ∧ x2 < 104) ∧ (g64 (M ((c + 1058) + 2) (Int.toNat x2)) → (((w64 ((M ((c + 1058) + 2) (Int.toNat x2)) - x5)) < x6 → (k (-1) M)) ∧ (¬ (w64 ((M ((c + 1058) + 2) (Int.toNat x2)) - x5)) < x6 → (wp l G y_Ma_placeOf (gRm d) false (kkI X k) false 49 [.val (gR G (c + 1057)), .unset, .val (gI x2), .unset, .val (gR G r4), .val (gI x5), .val (gI x6), .val (gI 0)] [] X M 0 0))))) : wp l G y_Ma_placeOf (gRm d) false (kkI X k) false 26 [.val (gR G (c + 1057)), .unset, .val (gI x2), .unset, .val (gR G r4), .val (gI x5), .val (gI x6), .unset] [] X M 0 0 := by
  refine wp_iload d_Ma_placeOf_26 rfl ?_
  refine xi2l d_Ma_placeOf_28 (w32_id hx6) ?_
  refine wp_aload_n d_Ma_placeOf_29 rfl rfl (g_nz (gl_1 hX 1057)) ?_
  refine xgetR d_Ma_placeOf_30 gc_Ma f_Ma_14.1 f_Ma_14.2.1 f_Ma_14.2.2.1 (gl_1 hX 1057) (gl_2 hX (a := 1057) (by decide)) (gl_s hX 37 rfl) f_Ma_14.2.2.2.2.1 (gl_f hX 42 rfl) ?_
  refine xgetR d_Ma_placeOf_33 gc_Vl f_Ma_149.1 f_Ma_149.2.1 f_Ma_149.2.2.1 (gl_stk hX).1 (gv_2 (gl_stk hX)) (gl_stk hX).2.2.1 f_Ma_149.2.2.2.2.1 (gv_r2 (gl_stk hX)).1 ?_
  refine wp_iload_n d_Ma_placeOf_36 rfl rfl ?_
  refine wp_laload d_Ma_placeOf_37 (gv_r2 (gl_stk hX)).2.2.1 (gv_r2 (gl_stk hX)).2.2.2 (gv_r2 (gl_stk hX)).2.1 (g32_n T.1 (gv_n (gl_stk hX))) T.1.1 T.1.2 (fun h3 => ?_)
  have T := T.2 h3
  refine wp_iload d_Ma_placeOf_38 rfl ?_
  refine xi2l d_Ma_placeOf_40 (w32_id hx5) ?_
  refine wp_lsub d_Ma_placeOf_41 ?_
  refine xl_gt (tgt := 101) d_Ma_placeOf_42 d_Ma_placeOf_43 (by decide) (w64_id (g64_32 hx6)) rfl (fun h4 => ?_) (fun h4 => ?_)
  · have T := T.1 h4
    refine wp_iconst d_Ma_placeOf_101 ?_
    exact wp_ireturn d_Ma_placeOf_102 rfl id (Nat.zero_le _) (Nat.zero_le _) (kI_mk (g32_c (x := (-1)) rfl) T)
  · have T := T.2 h4
    refine wp_iconst d_Ma_placeOf_46 ?_
    refine wp_istore (L' := [.val (gR G (c + 1057)), .unset, .val (gI x2), .unset, .val (gR G r4), .val (gI x5), .val (gI x6), .val (gI 0)]) d_Ma_placeOf_47 (by decide) rfl ?_
    exact (wpt T (And.intro rfl (And.intro rfl (And.intro rfl (And.intro rfl (And.intro rfl (And.intro rfl True.intro)))))))
set_option maxHeartbeats 4000000 in
theorem w_Ma_placeOf_49 {l : Launch} {G : gG} {d : Nat} {X : gX} {M : gM} {k : Int → gM → Prop} {c : Nat} (hX : glX X c) {x2 : Int} (hx2 : g32 x2) {x5 : Int} (hx5 : g32 x5) {x6 : Int} (hx6 : g32 x6) {x7 : Int} (hx7 : g32 x7) {r4 : Nat} (hr4 : 1 ≤ r4 ∧ r4 ≤ X.1 ∧ X.2.1 r4 = (2, 64))  (T : (x5 ≤ x7 → ((¬ x7 = x5 → (wp l G y_Ma_placeOf (gRm d) false (kkI X k) false 26 [.val (gR G (c + 1057)), .unset, .val (gI x2), .unset, .val (gR G r4), .val (gI x5), .val (gI (w32 (x6 + 1))), .unset] [] X M 0 0)) ∧ (x7 = x5 → (k x6 M)))) ∧ (¬ x5 ≤ x7 → (((0 : Int) ≤ x2 ∧ x2 < 104) ∧ (((0 : Int) ≤ x6 + x7 ∧ x6 + x7 < 64) ∧ ((-128 ≤ M ((c + 1058) + 4 + Int.toNat x2) (Int.toNat (x6 + x7)) ∧ M ((c + 1058) + 4 + Int.toNat x2) (Int.toNat (x6 + x7)) < 128) → (((0 : Int) ≤ x7 ∧ x7 < 64) ∧ ((-128 ≤ M r4 (Int.toNat x7) ∧ M r4 (Int.toNat x7) < 128) → ((¬ M ((c + 1058) + 4 + Int.toNat x2) (Int.toNat (x6 + x7)) = M r4 (Int.toNat x7) → ((¬ x7 = x5 → (wp l G y_Ma_placeOf (gRm d) false (kkI X k) false 26 [.val (gR G (c + 1057)), .unset, .val (gI x2), .unset, .val (gR G r4), .val (gI x5), .val (gI (w32 (x6 + 1))), .unset] [] X M 0 0)) ∧ (x7 = x5 → (k x6 M)))) ∧ (M ((c + 1058) + 4 + Int.toNat x2) (Int.toNat (x6 + x7)) = M r4 (Int.toNat x7) → (wp l G y_Ma_placeOf (gRm d) false (kkI X k) false 49 [.val (gR G (c + 1057)), .unset, .val (gI x2), .unset, .val (gR G r4), .val (gI x5), .val (gI x6), .val (gI (w32 (x7 + 1)))] [] X M 0 0)))))))))) : wp l G y_Ma_placeOf (gRm d) false (kkI X k) false 49 [.val (gR G (c + 1057)), .unset, .val (gI x2), .unset, .val (gR G r4), .val (gI x5), .val (gI x6), .val (gI x7)] [] X M 0 0 := by
  refine wp_iload d_Ma_placeOf_49 rfl ?_
  refine wp_iload d_Ma_placeOf_51 rfl ?_
  refine xi_ge (tgt := 85) d_Ma_placeOf_53 (by decide) (w32_id hx7) (w32_id hx5) (fun h11 => ?_) (fun h11 => ?_)
  · have T := T.1 h11
    refine wp_iload d_Ma_placeOf_85 rfl ?_
    refine wp_iload d_Ma_placeOf_87 rfl ?_
    refine xi_ne (tgt := 95) d_Ma_placeOf_89 (by decide) (w32_id hx7) (w32_id hx5) (fun h5 => ?_) (fun h5 => ?_)
    · have T := T.1 h5
      refine wp_iinc (L' := [.val (gR G (c + 1057)), .unset, .val (gI x2), .unset, .val (gR G r4), .val (gI x5), .val (gI (x6 + 1)), .val (gI x7)]) d_Ma_placeOf_95 rfl (by decide) rfl ?_
      refine wp_goto (tgt := 26) d_Ma_placeOf_98 (by decide) ?_
      exact (wpt T (And.intro rfl (And.intro rfl (And.intro rfl (And.intro rfl (And.intro (gI_w _) True.intro))))))
    · have T := T.2 h5
      refine wp_iload d_Ma_placeOf_92 rfl ?_
      exact wp_ireturn d_Ma_placeOf_94 rfl id (Nat.zero_le _) (Nat.zero_le _) (kI_mk hx6 T)
  · have T := T.2 h11
    refine wp_aload_n d_Ma_placeOf_56 rfl rfl (g_nz (gl_1 hX 1057)) ?_
    refine xgetR d_Ma_placeOf_57 gc_Ma f_Ma_14.1 f_Ma_14.2.1 f_Ma_14.2.2.1 (gl_1 hX 1057) (gl_2 hX (a := 1057) (by decide)) (gl_s hX 37 rfl) f_Ma_14.2.2.2.2.1 (gl_f hX 42 rfl) ?_
    refine xgetR d_Ma_placeOf_60 gc_Vl f_Ma_269.1 f_Ma_269.2.1 f_Ma_269.2.2.1 (gl_stk hX).1 (gv_2 (gl_stk hX)) (gl_stk hX).2.2.1 f_Ma_269.2.2.2.2.1 (gv_r3 (gl_stk hX)).1 ?_
    refine wp_iload_n d_Ma_placeOf_63 rfl rfl ?_
    have h6 := T.1
    refine xaald d_Ma_placeOf_64 (Or.inl rfl) (gv_r3 (gl_stk hX)).2.2.1 (gv_r3 (gl_stk hX)).2.2.2 (gv_r3 (gl_stk hX)).2.1 (g32_n h6 (gv_n (gl_stk hX))) h6.1 h6.2 (gv_row (gl_stk hX) h6).1 ?_
    have T := T.2
    refine wp_iload d_Ma_placeOf_65 rfl ?_
    refine wp_iload d_Ma_placeOf_67 rfl ?_
    refine wp_iadd d_Ma_placeOf_69 ?_
    refine wp_baload d_Ma_placeOf_70 (gv_row (gl_stk hX) h6).2.2.1 (gv_row (gl_stk hX) h6).2.2.2 (gv_row (gl_stk hX) h6).2.1 (g32_n T.1 (by decide)) T.1.1 T.1.2 (fun h7 => ?_)
    have T := T.2 h7
    refine wp_aload d_Ma_placeOf_71 rfl (g_nz hr4.1) ?_
    refine wp_iload d_Ma_placeOf_73 rfl ?_
    refine wp_baload d_Ma_placeOf_75 hr4.1 hr4.2.1 hr4.2.2 (g32_n T.1 (by decide)) T.1.1 T.1.2 (fun h8 => ?_)
    have T := T.2 h8
    refine xi_ne (tgt := 85) d_Ma_placeOf_76 (by decide) (w32_id (g32_b h7)) (w32_id (g32_b h8)) (fun h10 => ?_) (fun h10 => ?_)
    · have T := T.1 h10
      refine wp_iload d_Ma_placeOf_85 rfl ?_
      refine wp_iload d_Ma_placeOf_87 rfl ?_
      refine xi_ne (tgt := 95) d_Ma_placeOf_89 (by decide) (w32_id hx7) (w32_id hx5) (fun h9 => ?_) (fun h9 => ?_)
      · have T := T.1 h9
        refine wp_iinc (L' := [.val (gR G (c + 1057)), .unset, .val (gI x2), .unset, .val (gR G r4), .val (gI x5), .val (gI (x6 + 1)), .val (gI x7)]) d_Ma_placeOf_95 rfl (by decide) rfl ?_
        refine wp_goto (tgt := 26) d_Ma_placeOf_98 (by decide) ?_
        exact (wpt T (And.intro rfl (And.intro rfl (And.intro rfl (And.intro rfl (And.intro (gI_w _) True.intro))))))
      · have T := T.2 h9
        refine wp_iload d_Ma_placeOf_92 rfl ?_
        exact wp_ireturn d_Ma_placeOf_94 rfl id (Nat.zero_le _) (Nat.zero_le _) (kI_mk hx6 T)
    · have T := T.2 h10
      refine wp_iinc (L' := [.val (gR G (c + 1057)), .unset, .val (gI x2), .unset, .val (gR G r4), .val (gI x5), .val (gI x6), .val (gI (x7 + 1))]) d_Ma_placeOf_79 rfl (by decide) rfl ?_
      refine wp_goto (tgt := 49) d_Ma_placeOf_82 (by decide) ?_
      exact (wpt T (And.intro rfl (And.intro rfl (And.intro rfl (And.intro rfl (And.intro rfl (And.intro (gI_w _) True.intro)))))))
theorem e_Ma_placeOf {l : Launch} {G : gG} {d : Nat} {X : gX} {M : gM} {k : Int → gM → Prop} {c : Nat} {x1 : Int} {x2 : Int} {x3 : Int} (T : wp l G y_Ma_placeOf (gRm d) false (kkI X k) false 0 [.val (gR G (c + 1057)), .val (gI x1), .val (gI x2), .val (gI x3), .unset, .unset, .unset, .unset] [] X M 0 0) : cI l G y_Ma_placeOf (gRm d) false [gR G (c + 1057), gI x1, gI x2, gI x3] X M k := cen_I (plainFor_of_name rfl) (by simp only [lg_sl_R, lg_sl_I, lg_sl_L, lg_sl_N, List.length_cons, List.length_nil]; decide) (by unfold gEn; simp only [lg_sl_R, lg_sl_I, lg_sl_L, lg_sl_N]; exact wpt T (And.intro rfl (And.intro rfl (And.intro rfl (And.intro rfl True.intro)))))
