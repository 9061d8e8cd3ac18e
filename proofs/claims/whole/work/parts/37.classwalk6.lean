/-! Walks of the class's methods, written by wip/whole/gen_class.py -/
theorem d_Ma_exchange_0 : decode prog_6_method_23_code 0 = .ok (.aload_n 0, 1) := by decide +kernel
theorem d_Ma_exchange_1 : decode prog_6_method_23_code 1 = .ok (.getfield 14, 3) := by decide +kernel
theorem d_Ma_exchange_4 : decode prog_6_method_23_code 4 = .ok (.getfield 149, 3) := by decide +kernel
theorem d_Ma_exchange_7 : decode prog_6_method_23_code 7 = .ok (.iload_n 1, 1) := by decide +kernel
theorem d_Ma_exchange_8 : decode prog_6_method_23_code 8 = .ok (.iconst 1, 1) := by decide +kernel
theorem d_Ma_exchange_9 : decode prog_6_method_23_code 9 = .ok (.iadd, 1) := by decide +kernel
theorem d_Ma_exchange_10 : decode prog_6_method_23_code 10 = .ok (.laload, 1) := by decide +kernel
theorem d_Ma_exchange_11 : decode prog_6_method_23_code 11 = .ok (.l2i, 1) := by decide +kernel
theorem d_Ma_exchange_12 : decode prog_6_method_23_code 12 = .ok (.istore_n 2, 1) := by decide +kernel
theorem d_Ma_exchange_13 : decode prog_6_method_23_code 13 = .ok (.aload_n 0, 1) := by decide +kernel
theorem d_Ma_exchange_14 : decode prog_6_method_23_code 14 = .ok (.getfield 14, 3) := by decide +kernel
theorem d_Ma_exchange_17 : decode prog_6_method_23_code 17 = .ok (.getfield 149, 3) := by decide +kernel
theorem d_Ma_exchange_20 : decode prog_6_method_23_code 20 = .ok (.iload_n 1, 1) := by decide +kernel
theorem d_Ma_exchange_21 : decode prog_6_method_23_code 21 = .ok (.iconst 2, 1) := by decide +kernel
theorem d_Ma_exchange_22 : decode prog_6_method_23_code 22 = .ok (.iadd, 1) := by decide +kernel
theorem d_Ma_exchange_23 : decode prog_6_method_23_code 23 = .ok (.laload, 1) := by decide +kernel
theorem d_Ma_exchange_24 : decode prog_6_method_23_code 24 = .ok (.l2i, 1) := by decide +kernel
theorem d_Ma_exchange_25 : decode prog_6_method_23_code 25 = .ok (.istore_n 3, 1) := by decide +kernel
theorem d_Ma_exchange_26 : decode prog_6_method_23_code 26 = .ok (.iconst 0, 1) := by decide +kernel
theorem d_Ma_exchange_27 : decode prog_6_method_23_code 27 = .ok (.istore 4, 2) := by decide +kernel
theorem d_Ma_exchange_29 : decode prog_6_method_23_code 29 = .ok (.iconst 0, 1) := by decide +kernel
theorem d_Ma_exchange_30 : decode prog_6_method_23_code 30 = .ok (.istore 5, 2) := by decide +kernel
theorem d_Ma_exchange_32 : decode prog_6_method_23_code 32 = .ok (.bipush 65, 2) := by decide +kernel
theorem d_Ma_exchange_34 : decode prog_6_method_23_code 34 = .ok (.istore 6, 2) := by decide +kernel
theorem d_Ma_exchange_36 : decode prog_6_method_23_code 36 = .ok (.iload 6, 2) := by decide +kernel
theorem d_Ma_exchange_38 : decode prog_6_method_23_code 38 = .ok (.ifCond .le 164, 3) := by decide +kernel
theorem d_Ma_exchange_202 : decode prog_6_method_23_code 202 = .ok (.aload_n 0, 1) := by decide +kernel
theorem d_Ma_exchange_203 : decode prog_6_method_23_code 203 = .ok (.getfield 14, 3) := by decide +kernel
theorem d_Ma_exchange_206 : decode prog_6_method_23_code 206 = .ok (.iload_n 1, 1) := by decide +kernel
theorem d_Ma_exchange_207 : decode prog_6_method_23_code 207 = .ok (.aload_n 0, 1) := by decide +kernel
theorem d_Ma_exchange_208 : decode prog_6_method_23_code 208 = .ok (.getfield 20, 3) := by decide +kernel
theorem d_Ma_exchange_211 : decode prog_6_method_23_code 211 = .ok (.iconst 0, 1) := by decide +kernel
theorem d_Ma_exchange_212 : decode prog_6_method_23_code 212 = .ok (.iload 4, 2) := by decide +kernel
theorem d_Ma_exchange_214 : decode prog_6_method_23_code 214 = .ok (.invokevirtual 119, 3) := by decide +kernel
theorem d_Ma_exchange_217 : decode prog_6_method_23_code 217 = .ok (.return_, 1) := by decide +kernel
theorem d_Ma_exchange_41 : decode prog_6_method_23_code 41 = .ok (.iload_n 2, 1) := by decide +kernel
theorem d_Ma_exchange_42 : decode prog_6_method_23_code 42 = .ok (.ifCond .ne 7, 3) := by decide +kernel
theorem d_Ma_exchange_49 : decode prog_6_method_23_code 49 = .ok (.aload_n 0, 1) := by decide +kernel
theorem d_Ma_exchange_50 : decode prog_6_method_23_code 50 = .ok (.iload_n 1, 1) := by decide +kernel
theorem d_Ma_exchange_51 : decode prog_6_method_23_code 51 = .ok (.iconst 1, 1) := by decide +kernel
theorem d_Ma_exchange_52 : decode prog_6_method_23_code 52 = .ok (.iadd, 1) := by decide +kernel
theorem d_Ma_exchange_53 : decode prog_6_method_23_code 53 = .ok (.iload_n 1, 1) := by decide +kernel
theorem d_Ma_exchange_54 : decode prog_6_method_23_code 54 = .ok (.iload 5, 2) := by decide +kernel
theorem d_Ma_exchange_56 : decode prog_6_method_23_code 56 = .ok (.invokevirtual 279, 3) := by decide +kernel
theorem d_Ma_exchange_45 : decode prog_6_method_23_code 45 = .ok (.iconst (-1), 1) := by decide +kernel
theorem d_Ma_exchange_46 : decode prog_6_method_23_code 46 = .ok (.goto 13, 3) := by decide +kernel
theorem d_Ma_exchange_59 : decode prog_6_method_23_code 59 = .ok (.istore 7, 2) := by decide +kernel
theorem d_Ma_exchange_61 : decode prog_6_method_23_code 61 = .ok (.iload 7, 2) := by decide +kernel
theorem d_Ma_exchange_63 : decode prog_6_method_23_code 63 = .ok (.ifCond .ge 16, 3) := by decide +kernel
theorem d_Ma_exchange_79 : decode prog_6_method_23_code 79 = .ok (.iload 7, 2) := by decide +kernel
theorem d_Ma_exchange_81 : decode prog_6_method_23_code 81 = .ok (.iload 5, 2) := by decide +kernel
theorem d_Ma_exchange_83 : decode prog_6_method_23_code 83 = .ok (.isub, 1) := by decide +kernel
theorem d_Ma_exchange_84 : decode prog_6_method_23_code 84 = .ok (.istore 8, 2) := by decide +kernel
theorem d_Ma_exchange_86 : decode prog_6_method_23_code 86 = .ok (.iload 7, 2) := by decide +kernel
theorem d_Ma_exchange_88 : decode prog_6_method_23_code 88 = .ok (.ifCond .ge 7, 3) := by decide +kernel
theorem d_Ma_exchange_95 : decode prog_6_method_23_code 95 = .ok (.iload_n 3, 1) := by decide +kernel
theorem d_Ma_exchange_96 : decode prog_6_method_23_code 96 = .ok (.istore 9, 2) := by decide +kernel
theorem d_Ma_exchange_98 : decode prog_6_method_23_code 98 = .ok (.iload 4, 2) := by decide +kernel
theorem d_Ma_exchange_100 : decode prog_6_method_23_code 100 = .ok (.iload 8, 2) := by decide +kernel
theorem d_Ma_exchange_102 : decode prog_6_method_23_code 102 = .ok (.iadd, 1) := by decide +kernel
theorem d_Ma_exchange_103 : decode prog_6_method_23_code 103 = .ok (.iload 9, 2) := by decide +kernel
theorem d_Ma_exchange_105 : decode prog_6_method_23_code 105 = .ok (.iadd, 1) := by decide +kernel
theorem d_Ma_exchange_106 : decode prog_6_method_23_code 106 = .ok (.bipush 64, 2) := by decide +kernel
theorem d_Ma_exchange_108 : decode prog_6_method_23_code 108 = .ok (.if_icmp .le 16, 3) := by decide +kernel
theorem d_Ma_exchange_124 : decode prog_6_method_23_code 124 = .ok (.aload_n 0, 1) := by decide +kernel
theorem d_Ma_exchange_125 : decode prog_6_method_23_code 125 = .ok (.getfield 14, 3) := by decide +kernel
theorem d_Ma_exchange_128 : decode prog_6_method_23_code 128 = .ok (.getfield 269, 3) := by decide +kernel
theorem d_Ma_exchange_131 : decode prog_6_method_23_code 131 = .ok (.iload_n 1, 1) := by decide +kernel
theorem d_Ma_exchange_132 : decode prog_6_method_23_code 132 = .ok (.aaload, 1) := by decide +kernel
theorem d_Ma_exchange_133 : decode prog_6_method_23_code 133 = .ok (.iload 5, 2) := by decide +kernel
theorem d_Ma_exchange_135 : decode prog_6_method_23_code 135 = .ok (.aload_n 0, 1) := by decide +kernel
theorem d_Ma_exchange_136 : decode prog_6_method_23_code 136 = .ok (.getfield 20, 3) := by decide +kernel
theorem d_Ma_exchange_139 : decode prog_6_method_23_code 139 = .ok (.iload 4, 2) := by decide +kernel
theorem d_Ma_exchange_141 : decode prog_6_method_23_code 141 = .ok (.iload 8, 2) := by decide +kernel
theorem d_Ma_exchange_143 : decode prog_6_method_23_code 143 = .ok (.invokestatic 273, 3) := by decide +kernel
theorem d_Ma_exchange_146 : decode prog_6_method_23_code 146 = .ok (.aload_n 0, 1) := by decide +kernel
theorem d_Ma_exchange_147 : decode prog_6_method_23_code 147 = .ok (.getfield 14, 3) := by decide +kernel
theorem d_Ma_exchange_150 : decode prog_6_method_23_code 150 = .ok (.getfield 269, 3) := by decide +kernel
theorem d_Ma_exchange_153 : decode prog_6_method_23_code 153 = .ok (.iload_n 1, 1) := by decide +kernel
theorem d_Ma_exchange_154 : decode prog_6_method_23_code 154 = .ok (.iconst 2, 1) := by decide +kernel
theorem d_Ma_exchange_155 : decode prog_6_method_23_code 155 = .ok (.iadd, 1) := by decide +kernel
theorem d_Ma_exchange_156 : decode prog_6_method_23_code 156 = .ok (.aaload, 1) := by decide +kernel
theorem d_Ma_exchange_157 : decode prog_6_method_23_code 157 = .ok (.iconst 0, 1) := by decide +kernel
theorem d_Ma_exchange_158 : decode prog_6_method_23_code 158 = .ok (.aload_n 0, 1) := by decide +kernel
theorem d_Ma_exchange_159 : decode prog_6_method_23_code 159 = .ok (.getfield 20, 3) := by decide +kernel
theorem d_Ma_exchange_162 : decode prog_6_method_23_code 162 = .ok (.iload 4, 2) := by decide +kernel
theorem d_Ma_exchange_164 : decode prog_6_method_23_code 164 = .ok (.iload 8, 2) := by decide +kernel
theorem d_Ma_exchange_166 : decode prog_6_method_23_code 166 = .ok (.iadd, 1) := by decide +kernel
theorem d_Ma_exchange_167 : decode prog_6_method_23_code 167 = .ok (.iload 9, 2) := by decide +kernel
theorem d_Ma_exchange_169 : decode prog_6_method_23_code 169 = .ok (.invokestatic 273, 3) := by decide +kernel
theorem d_Ma_exchange_172 : decode prog_6_method_23_code 172 = .ok (.iload 4, 2) := by decide +kernel
theorem d_Ma_exchange_174 : decode prog_6_method_23_code 174 = .ok (.iload 8, 2) := by decide +kernel
theorem d_Ma_exchange_176 : decode prog_6_method_23_code 176 = .ok (.iload 9, 2) := by decide +kernel
theorem d_Ma_exchange_178 : decode prog_6_method_23_code 178 = .ok (.iadd, 1) := by decide +kernel
theorem d_Ma_exchange_179 : decode prog_6_method_23_code 179 = .ok (.iadd, 1) := by decide +kernel
theorem d_Ma_exchange_180 : decode prog_6_method_23_code 180 = .ok (.istore 4, 2) := by decide +kernel
theorem d_Ma_exchange_182 : decode prog_6_method_23_code 182 = .ok (.iload 7, 2) := by decide +kernel
theorem d_Ma_exchange_184 : decode prog_6_method_23_code 184 = .ok (.ifCond .ge 6, 3) := by decide +kernel
theorem d_Ma_exchange_190 : decode prog_6_method_23_code 190 = .ok (.iload 7, 2) := by decide +kernel
theorem d_Ma_exchange_192 : decode prog_6_method_23_code 192 = .ok (.iload_n 2, 1) := by decide +kernel
theorem d_Ma_exchange_193 : decode prog_6_method_23_code 193 = .ok (.iadd, 1) := by decide +kernel
theorem d_Ma_exchange_194 : decode prog_6_method_23_code 194 = .ok (.istore 5, 2) := by decide +kernel
theorem d_Ma_exchange_196 : decode prog_6_method_23_code 196 = .ok (.iinc 6 (-1), 3) := by decide +kernel
theorem d_Ma_exchange_199 : decode prog_6_method_23_code 199 = .ok (.goto (-163), 3) := by decide +kernel
theorem d_Ma_exchange_187 : decode prog_6_method_23_code 187 = .ok (.goto 15, 3) := by decide +kernel
theorem d_Ma_exchange_111 : decode prog_6_method_23_code 111 = .ok (.aload_n 0, 1) := by decide +kernel
theorem d_Ma_exchange_112 : decode prog_6_method_23_code 112 = .ok (.getfield 14, 3) := by decide +kernel
theorem d_Ma_exchange_115 : decode prog_6_method_23_code 115 = .ok (.iload_n 1, 1) := by decide +kernel
theorem d_Ma_exchange_116 : decode prog_6_method_23_code 116 = .ok (.iconst 4, 1) := by decide +kernel
theorem d_Ma_exchange_117 : decode prog_6_method_23_code 117 = .ok (.ldc2_w 147, 3) := by decide +kernel
theorem d_Ma_exchange_120 : decode prog_6_method_23_code 120 = .ok (.invokevirtual 110, 3) := by decide +kernel
theorem d_Ma_exchange_123 : decode prog_6_method_23_code 123 = .ok (.return_, 1) := by decide +kernel
theorem d_Ma_exchange_91 : decode prog_6_method_23_code 91 = .ok (.iconst 0, 1) := by decide +kernel
theorem d_Ma_exchange_92 : decode prog_6_method_23_code 92 = .ok (.goto 4, 3) := by decide +kernel
theorem d_Ma_exchange_66 : decode prog_6_method_23_code 66 = .ok (.aload_n 0, 1) := by decide +kernel
theorem d_Ma_exchange_67 : decode prog_6_method_23_code 67 = .ok (.getfield 14, 3) := by decide +kernel
theorem d_Ma_exchange_70 : decode prog_6_method_23_code 70 = .ok (.getfield 149, 3) := by decide +kernel
theorem d_Ma_exchange_73 : decode prog_6_method_23_code 73 = .ok (.iload_n 1, 1) := by decide +kernel
theorem d_Ma_exchange_74 : decode prog_6_method_23_code 74 = .ok (.laload, 1) := by decide +kernel
theorem d_Ma_exchange_75 : decode prog_6_method_23_code 75 = .ok (.l2i, 1) := by decide +kernel
theorem d_Ma_exchange_76 : decode prog_6_method_23_code 76 = .ok (.goto 5, 3) := by decide +kernel
set_option maxHeartbeats 4000000 in
theorem w_Ma_exchange_0 {l : Launch} {G : gG} {d : Nat} {X : gX} {M : gM} {k : gM → Prop} {c : Nat} (hX : glX X c) {x1 : Int} (hx1 : g32 x1)  (T : ((0 : Int) ≤ x1 + 1 ∧ x1 + 1 < 104) ∧ (g64 (M ((c + 1058) + 2) (Int.toNat (x1 + 1))) → (((0 : Int) ≤ x1 + 2 ∧ x1 + 2 < 104) ∧ (g64 (M ((c + 1058) + 2) (Int.toNat (x1 + 2))) → (wp l G y_Ma_exchange (gRm (d + 1)) true (kkV X k) true 36 [.val (gR G (c + 1057)), .val (gI x1), .val (gI (w32 (M ((c + 1058) + 2) (Int.toNat (x1 + 1))))), .val (gI (w32 (M ((c + 1058) + 2) (Int.toNat (x1 + 2))))), .val (gI 0), .val (gI 0), .val (gI 65), .unset, .unset, .unset] [] X M 0 0))))) : wp l G y_Ma_exchange (gRm (d + 1)) true (kkV X k) false 0 [.val (gR G (c + 1057)), .val (gI x1), .unset, .unset, .unset, .unset, .unset, .unset, .unset, .unset] [] X M 0 0 := by
  refine wp_aload_n d_Ma_exchange_0 rfl rfl (g_nz (gl_1 hX 1057)) ?_
  refine xgetR d_Ma_exchange_1 gc_Ma f_Ma_14.1 f_Ma_14.2.1 f_Ma_14.2.2.1 (gl_1 hX 1057) (gl_2 hX (a := 1057) (by decide)) (gl_s hX 37 rfl) f_Ma_14.2.2.2.2.1 (gl_f hX 42 rfl) ?_
  refine xgetR d_Ma_exchange_4 gc_Vl f_Ma_149.1 f_Ma_149.2.1 f_Ma_149.2.2.1 (gl_stk hX).1 (gv_2 (gl_stk hX)) (gl_stk hX).2.2.1 f_Ma_149.2.2.2.2.1 (gv_r2 (gl_stk hX)).1 ?_
  refine wp_iload_n d_Ma_exchange_7 rfl rfl ?_
  refine wp_iconst d_Ma_exchange_8 ?_
  refine wp_iadd d_Ma_exchange_9 ?_
  refine wp_laload d_Ma_exchange_10 (gv_r2 (gl_stk hX)).2.2.1 (gv_r2 (gl_stk hX)).2.2.2 (gv_r2 (gl_stk hX)).2.1 (g32_n T.1 (gv_n (gl_stk hX))) T.1.1 T.1.2 (fun h1 => ?_)
  have T := T.2 h1
  refine wp_l2i d_Ma_exchange_11 ?_
  refine wp_istore_n (L' := [.val (gR G (c + 1057)), .val (gI x1), .val (gI (M ((c + 1058) + 2) (Int.toNat (x1 + 1)))), .unset, .unset, .unset, .unset, .unset, .unset, .unset]) d_Ma_exchange_12 rfl (by decide) rfl ?_
  refine wp_aload_n d_Ma_exchange_13 rfl rfl (g_nz (gl_1 hX 1057)) ?_
  refine xgetR d_Ma_exchange_14 gc_Ma f_Ma_14.1 f_Ma_14.2.1 f_Ma_14.2.2.1 (gl_1 hX 1057) (gl_2 hX (a := 1057) (by decide)) (gl_s hX 37 rfl) f_Ma_14.2.2.2.2.1 (gl_f hX 42 rfl) ?_
  refine xgetR d_Ma_exchange_17 gc_Vl f_Ma_149.1 f_Ma_149.2.1 f_Ma_149.2.2.1 (gl_stk hX).1 (gv_2 (gl_stk hX)) (gl_stk hX).2.2.1 f_Ma_149.2.2.2.2.1 (gv_r2 (gl_stk hX)).1 ?_
  refine wp_iload_n d_Ma_exchange_20 rfl rfl ?_
  refine wp_iconst d_Ma_exchange_21 ?_
  refine wp_iadd d_Ma_exchange_22 ?_
  refine wp_laload d_Ma_exchange_23 (gv_r2 (gl_stk hX)).2.2.1 (gv_r2 (gl_stk hX)).2.2.2 (gv_r2 (gl_stk hX)).2.1 (g32_n T.1 (gv_n (gl_stk hX))) T.1.1 T.1.2 (fun h2 => ?_)
  have T := T.2 h2
  refine wp_l2i d_Ma_exchange_24 ?_
  refine wp_istore_n (L' := [.val (gR G (c + 1057)), .val (gI x1), .val (gI (M ((c + 1058) + 2) (Int.toNat (x1 + 1)))), .val (gI (M ((c + 1058) + 2) (Int.toNat (x1 + 2)))), .unset, .unset, .unset, .unset, .unset, .unset]) d_Ma_exchange_25 rfl (by decide) rfl ?_
  refine wp_iconst d_Ma_exchange_26 ?_
  refine wp_istore (L' := [.val (gR G (c + 1057)), .val (gI x1), .val (gI (M ((c + 1058) + 2) (Int.toNat (x1 + 1)))), .val (gI (M ((c + 1058) + 2) (Int.toNat (x1 + 2)))), .val (gI 0), .unset, .unset, .unset, .unset, .unset]) d_Ma_exchange_27 (by decide) rfl ?_
  refine wp_iconst d_Ma_exchange_29 ?_
  refine wp_istore (L' := [.val (gR G (c + 1057)), .val (gI x1), .val (gI (M ((c + 1058) + 2) (Int.toNat (x1 + 1)))), .val (gI (M ((c + 1058) + 2) (Int.toNat (x1 + 2)))), .val (gI 0), .val (gI 0), .unset, .unset, .unset, .unset]) d_Ma_exchange_30 (by decide) rfl ?_
  refine wp_bipush d_Ma_exchange_32 ⟨by decide, by decide⟩ ?_
  refine wp_istore (L' := [.val (gR G (c + 1057)), .val (gI x1), .val (gI (M ((c + 1058) + 2) (Int.toNat (x1 + 1)))), .val (gI (M ((c + 1058) + 2) (Int.toNat (x1 + 2)))), .val (gI 0), .val (gI 0), .val (gI 65), .unset, .unset, .unset]) d_Ma_exchange_34 (by decide) rfl ?_
  exact wp_md (wpt T (And.intro rfl (And.intro rfl (And.intro (gI_w _) (And.intro (gI_w _) (And.intro rfl (And.intro rfl (And.intro rfl True.intro))))))))
set_option maxHeartbeats 4000000 in
theorem w_Ma_exchange_36 {l : Launch} {G : gG} {d : Nat} {X : gX} {M : gM} {k : gM → Prop} {c : Nat} (hX : glX X c) {x1 : Int} (hx1 : g32 x1) {x2 : Int} (hx2 : g32 x2) {x3 : Int} (hx3 : g32 x3) {x4 : Int} (hx4 : g32 x4) {x5 : Int} (hx5 : g32 x5) {x6 : Int} (hx6 : g32 x6)  (T : (x6 ≤ 0 → (cV l G y_Vl_setText (gRm d) true [gR G (c + 1058), gI x1, gR G (c + 1166), gI 0, gI x4] X M (fun M3 => (k M3)))) ∧ (¬ x6 ≤ 0 → ((¬ x2 = 0 → (cI l G y_Ma_placeOf (gRm d) false [gR G (c + 1057), gI (x1 + 1), gI x1, gI x5] X M (fun v5 M4 => (wp l G y_Ma_exchange (gRm (d + 1)) true (kkV X k) true 59 [.val (gR G (c + 1057)), .val (gI x1), .val (gI x2), .val (gI x3), .val (gI x4), .val (gI x5), .val (gI x6), .unset, .unset, .unset] [gI v5] X M4 0 0)))) ∧ (x2 = 0 → (wp l G y_Ma_exchange (gRm (d + 1)) true (kkV X k) true 59 [.val (gR G (c + 1057)), .val (gI x1), .val (gI x2), .val (gI x3), .val (gI x4), .val (gI x5), .val (gI x6), .unset, .unset, .unset] [gI (-1)] X M 0 0))))) : wp l G y_Ma_exchange (gRm (d + 1)) true (kkV X k) true 36 [.val (gR G (c + 1057)), .val (gI x1), .val (gI x2), .val (gI x3), .val (gI x4), .val (gI x5), .val (gI x6), .unset, .unset, .unset] [] X M 0 0 := by
  refine wp_iload d_Ma_exchange_36 rfl ?_
  refine xz_le (tgt := 202) d_Ma_exchange_38 (by decide) (w32_id hx6) (fun h8 => ?_) (fun h8 => ?_)
  · have T := T.1 h8
    refine wp_aload_n d_Ma_exchange_202 rfl rfl (g_nz (gl_1 hX 1057)) ?_
    refine xgetR d_Ma_exchange_203 gc_Ma f_Ma_14.1 f_Ma_14.2.1 f_Ma_14.2.2.1 (gl_1 hX 1057) (gl_2 hX (a := 1057) (by decide)) (gl_s hX 37 rfl) f_Ma_14.2.2.2.2.1 (gl_f hX 42 rfl) ?_
    refine wp_iload_n d_Ma_exchange_206 rfl rfl ?_
    refine wp_aload_n d_Ma_exchange_207 rfl rfl (g_nz (gl_1 hX 1057)) ?_
    refine xgetR d_Ma_exchange_208 gc_Ma f_Ma_20.1 f_Ma_20.2.1 f_Ma_20.2.2.1 (gl_1 hX 1057) (gl_2 hX (a := 1057) (by decide)) (gl_s hX 37 rfl) f_Ma_20.2.2.2.2.1 (gl_f hX 43 rfl) ?_
    refine wp_iconst d_Ma_exchange_211 ?_
    refine wp_iload d_Ma_exchange_212 rfl ?_
    refine xcV_V (md' := true) (As := [gI x1, gR G (c + 1166), gI 0, gI x4]) (st := []) d_Ma_exchange_214 ca_Vl_setText ml_Ma_119 im_Vl_setText se_Vl_setText gc_Vl (gl_stk hX).1 (gv_2 (gl_stk hX)) (gl_stk hX).2.2.1 rfl (by decide) (by decide) rfl (fun _ => rfl) (fun _ => rfl) T (fun M3 T => ?_)
    exact wp_return d_Ma_exchange_217 rfl (fun _ => rfl) (Nat.zero_le _) (Nat.zero_le _) (kV_mk T)
  · have T := T.2 h8
    refine wp_iload_n d_Ma_exchange_41 rfl rfl ?_
    refine xz_ne (tgt := 49) d_Ma_exchange_42 (by decide) (w32_id hx2) (fun h7 => ?_) (fun h7 => ?_)
    · have T := T.1 h7
      refine wp_aload_n d_Ma_exchange_49 rfl rfl (g_nz (gl_1 hX 1057)) ?_
      refine wp_iload_n d_Ma_exchange_50 rfl rfl ?_
      refine wp_iconst d_Ma_exchange_51 ?_
      refine wp_iadd d_Ma_exchange_52 ?_
      refine wp_iload_n d_Ma_exchange_53 rfl rfl ?_
      refine wp_iload d_Ma_exchange_54 rfl ?_
      refine xcV_I (md' := true) (As := [gI (x1 + 1), gI x1, gI x5]) (st := []) d_Ma_exchange_56 ca_Ma_placeOf ml_Ma_279 im_Ma_placeOf se_Ma_placeOf gc_Ma (gl_1 hX 1057) (gl_2 hX (a := 1057) (by decide)) (gl_s hX 37 rfl) rfl (by decide) (by decide) rfl (fun _ => rfl) (fun _ => rfl) T (fun v5 M4 h6 T => ?_)
      exact wp_md (wpt T (And.intro rfl (And.intro rfl (And.intro rfl (And.intro rfl (And.intro rfl (And.intro rfl (And.intro rfl True.intro))))))))
    · have T := T.2 h7
      refine wp_iconst d_Ma_exchange_45 ?_
      refine wp_goto (tgt := 59) d_Ma_exchange_46 (by decide) ?_
      exact wp_md (wpt T (And.intro rfl (And.intro rfl (And.intro rfl (And.intro rfl (And.intro rfl (And.intro rfl (And.intro rfl True.intro))))))))
set_option maxHeartbeats 4000000 in
theorem w_Ma_exchange_59 {l : Launch} {G : gG} {d : Nat} {X : gX} {M : gM} {k : gM → Prop} {c : Nat} (hX : glX X c) {x1 : Int} (hx1 : g32 x1) {x2 : Int} (hx2 : g32 x2) {x3 : Int} (hx3 : g32 x3) {x4 : Int} (hx4 : g32 x4) {x5 : Int} (hx5 : g32 x5) {x6 : Int} (hx6 : g32 x6) {s0 : Int} (hs0 : g32 s0)  (T : (0 ≤ s0 → ((0 ≤ s0 → (((w32 ((x4 + (s0 - x5)) + x3)) ≤ 64 → (((0 : Int) ≤ x1 ∧ x1 < 104) ∧ (((0 : Int) ≤ x5 ∧ (0 : Int) ≤ x4 ∧ (0 : Int) ≤ (s0 - x5) ∧ x5 + (s0 - x5) ≤ 64 ∧ x4 + (s0 - x5) ≤ 64) ∧ (((0 : Int) ≤ x1 + 2 ∧ x1 + 2 < 104) ∧ (((0 : Int) ≤ (0 : Int) ∧ (0 : Int) ≤ (x4 + (s0 - x5)) ∧ (0 : Int) ≤ x3 ∧ (0 : Int) + x3 ≤ 64 ∧ (x4 + (s0 - x5)) + x3 ≤ 64) ∧ ((0 ≤ s0 → (wp l G y_Ma_exchange (gRm (d + 1)) true (kkV X k) true 36 [.val (gR G (c + 1057)), .val (gI x1), .val (gI x2), .val (gI x3), .val (gI (w32 (x4 + ((s0 - x5) + x3)))), .val (gI (w32 (s0 + x2))), .val (gI (w32 (x6 + (-1)))), .unset, .unset, .unset] [] X (gCp (gCp M (c + 1166) ((c + 1058) + 4 + Int.toNat x1) (Int.toNat x5) (Int.toNat x4) (Int.toNat (s0 - x5))) (c + 1166) ((c + 1058) + 4 + Int.toNat (x1 + 2)) (Int.toNat 0) (Int.toNat (x4 + (s0 - x5))) (Int.toNat x3)) 0 0)) ∧ (¬ 0 ≤ s0 → (cV l G y_Vl_setText (gRm d) true [gR G (c + 1058), gI x1, gR G (c + 1166), gI 0, gI (x4 + ((s0 - x5) + x3))] X (gCp (gCp M (c + 1166) ((c + 1058) + 4 + Int.toNat x1) (Int.toNat x5) (Int.toNat x4) (Int.toNat (s0 - x5))) (c + 1166) ((c + 1058) + 4 + Int.toNat (x1 + 2)) (Int.toNat 0) (Int.toNat (x4 + (s0 - x5))) (Int.toNat x3)) (fun M11 => (k M11)))))))))) ∧ (¬ (w32 ((x4 + (s0 - x5)) + x3)) ≤ 64 → (cV l G y_Vl_set (gRm d) true [gR G (c + 1058), gI x1, gI 4, gL 4] X M (fun M13 => (k M13)))))) ∧ (¬ 0 ≤ s0 → (((w32 ((x4 + (s0 - x5)) + 0)) ≤ 64 → (((0 : Int) ≤ x1 ∧ x1 < 104) ∧ (((0 : Int) ≤ x5 ∧ (0 : Int) ≤ x4 ∧ (0 : Int) ≤ (s0 - x5) ∧ x5 + (s0 - x5) ≤ 64 ∧ x4 + (s0 - x5) ≤ 64) ∧ (((0 : Int) ≤ x1 + 2 ∧ x1 + 2 < 104) ∧ (((0 : Int) ≤ (0 : Int) ∧ (0 : Int) ≤ (x4 + (s0 - x5)) ∧ (0 : Int) ≤ (0 : Int) ∧ (0 : Int) + (0 : Int) ≤ 64 ∧ (x4 + (s0 - x5)) + (0 : Int) ≤ 64) ∧ ((0 ≤ s0 → (wp l G y_Ma_exchange (gRm (d + 1)) true (kkV X k) true 36 [.val (gR G (c + 1057)), .val (gI x1), .val (gI x2), .val (gI x3), .val (gI (w32 (x4 + ((s0 - x5) + 0)))), .val (gI (w32 (s0 + x2))), .val (gI (w32 (x6 + (-1)))), .unset, .unset, .unset] [] X (gCp (gCp M (c + 1166) ((c + 1058) + 4 + Int.toNat x1) (Int.toNat x5) (Int.toNat x4) (Int.toNat (s0 - x5))) (c + 1166) ((c + 1058) + 4 + Int.toNat (x1 + 2)) (Int.toNat 0) (Int.toNat (x4 + (s0 - x5))) (Int.toNat 0)) 0 0)) ∧ (¬ 0 ≤ s0 → (cV l G y_Vl_setText (gRm d) true [gR G (c + 1058), gI x1, gR G (c + 1166), gI 0, gI (x4 + ((s0 - x5) + 0))] X (gCp (gCp M (c + 1166) ((c + 1058) + 4 + Int.toNat x1) (Int.toNat x5) (Int.toNat x4) (Int.toNat (s0 - x5))) (c + 1166) ((c + 1058) + 4 + Int.toNat (x1 + 2)) (Int.toNat 0) (Int.toNat (x4 + (s0 - x5))) (Int.toNat 0)) (fun M17 => (k M17)))))))))) ∧ (¬ (w32 ((x4 + (s0 - x5)) + 0)) ≤ 64 → (cV l G y_Vl_set (gRm d) true [gR G (c + 1058), gI x1, gI 4, gL 4] X M (fun M19 => (k M19)))))))) ∧ (¬ 0 ≤ s0 → (((0 : Int) ≤ x1 ∧ x1 < 104) ∧ (g64 (M ((c + 1058) + 2) (Int.toNat x1)) → ((0 ≤ s0 → (((w32 ((x4 + ((M ((c + 1058) + 2) (Int.toNat x1)) - x5)) + x3)) ≤ 64 → (((0 : Int) ≤ x1 ∧ x1 < 104) ∧ (((0 : Int) ≤ x5 ∧ (0 : Int) ≤ x4 ∧ (0 : Int) ≤ ((M ((c + 1058) + 2) (Int.toNat x1)) - x5) ∧ x5 + ((M ((c + 1058) + 2) (Int.toNat x1)) - x5) ≤ 64 ∧ x4 + ((M ((c + 1058) + 2) (Int.toNat x1)) - x5) ≤ 64) ∧ (((0 : Int) ≤ x1 + 2 ∧ x1 + 2 < 104) ∧ (((0 : Int) ≤ (0 : Int) ∧ (0 : Int) ≤ (x4 + ((M ((c + 1058) + 2) (Int.toNat x1)) - x5)) ∧ (0 : Int) ≤ x3 ∧ (0 : Int) + x3 ≤ 64 ∧ (x4 + ((M ((c + 1058) + 2) (Int.toNat x1)) - x5)) + x3 ≤ 64) ∧ ((0 ≤ s0 → (wp l G y_Ma_exchange (gRm (d + 1)) true (kkV X k) true 36 [.val (gR G (c + 1057)), .val (gI x1), .val (gI x2), .val (gI x3), .val (gI (w32 (x4 + (((M ((c + 1058) + 2) (Int.toNat x1)) - x5) + x3)))), .val (gI (w32 (s0 + x2))), .val (gI (w32 (x6 + (-1)))), .unset, .unset, .unset] [] X (gCp (gCp M (c + 1166) ((c + 1058) + 4 + Int.toNat x1) (Int.toNat x5) (Int.toNat x4) (Int.toNat ((M ((c + 1058) + 2) (Int.toNat x1)) - x5))) (c + 1166) ((c + 1058) + 4 + Int.toNat (x1 + 2)) (Int.toNat 0) (Int.toNat (x4 + ((M ((c + 1058) + 2) (Int.toNat x1)) - x5))) (Int.toNat x3)) 0 0)) ∧ (¬ 0 ≤ s0 → (cV l G y_Vl_setText (gRm d) true [gR G (c + 1058), gI x1, gR G (c + 1166), gI 0, gI (x4 + (((M ((c + 1058) + 2) (Int.toNat x1)) - x5) + x3))] X (gCp (gCp M (c + 1166) ((c + 1058) + 4 + Int.toNat x1) (Int.toNat x5) (Int.toNat x4) (Int.toNat ((M ((c + 1058) + 2) (Int.toNat x1)) - x5))) (c + 1166) ((c + 1058) + 4 + Int.toNat (x1 + 2)) (Int.toNat 0) (Int.toNat (x4 + ((M ((c + 1058) + 2) (Int.toNat x1)) - x5))) (Int.toNat x3)) (fun M25 => (k M25)))))))))) ∧ (¬ (w32 ((x4 + ((M ((c + 1058) + 2) (Int.toNat x1)) - x5)) + x3)) ≤ 64 → (cV l G y_Vl_set (gRm d) true [gR G (c + 1058), gI x1, gI 4, gL 4] X M (fun M27 => (k M27)))))) ∧ (¬ 0 ≤ s0 → (((w32 ((x4 + ((M ((c + 1058) + 2) (Int.toNat x1)) - x5)) + 0)) ≤ 64 → (((0 : Int) ≤ x1 ∧ x1 < 104) ∧ (((0 : Int) ≤ x5 ∧ (0 : Int) ≤ x4 ∧ (0 : Int) ≤ ((M ((c + 1058) + 2) (Int.toNat x1)) - x5) ∧ x5 + ((M ((c + 1058) + 2) (Int.toNat x1)) - x5) ≤ 64 ∧ x4 + ((M ((c + 1058) + 2) (Int.toNat x1)) - x5) ≤ 64) ∧ (((0 : Int) ≤ x1 + 2 ∧ x1 + 2 < 104) ∧ (((0 : Int) ≤ (0 : Int) ∧ (0 : Int) ≤ (x4 + ((M ((c + 1058) + 2) (Int.toNat x1)) - x5)) ∧ (0 : Int) ≤ (0 : Int) ∧ (0 : Int) + (0 : Int) ≤ 64 ∧ (x4 + ((M ((c + 1058) + 2) (Int.toNat x1)) - x5)) + (0 : Int) ≤ 64) ∧ ((0 ≤ s0 → (wp l G y_Ma_exchange (gRm (d + 1)) true (kkV X k) true 36 [.val (gR G (c + 1057)), .val (gI x1), .val (gI x2), .val (gI x3), .val (gI (w32 (x4 + (((M ((c + 1058) + 2) (Int.toNat x1)) - x5) + 0)))), .val (gI (w32 (s0 + x2))), .val (gI (w32 (x6 + (-1)))), .unset, .unset, .unset] [] X (gCp (gCp M (c + 1166) ((c + 1058) + 4 + Int.toNat x1) (Int.toNat x5) (Int.toNat x4) (Int.toNat ((M ((c + 1058) + 2) (Int.toNat x1)) - x5))) (c + 1166) ((c + 1058) + 4 + Int.toNat (x1 + 2)) (Int.toNat 0) (Int.toNat (x4 + ((M ((c + 1058) + 2) (Int.toNat x1)) - x5))) (Int.toNat 0)) 0 0)) ∧ (¬ 0 ≤ s0 → (cV l G y_Vl_setText (gRm d) true [gR G (c + 1058), gI x1, gR G (c + 1166), gI 0, gI (x4 + (((M ((c + 1058) + 2) (Int.toNat x1)) - x5) + 0))] X (gCp (gCp M (c + 1166) ((c + 1058) + 4 + Int.toNat x1) (Int.toNat x5) (Int.toNat x4) (Int.toNat ((M ((c + 1058) + 2) (Int.toNat x1)) - x5))) (c + 1166) ((c + 1058) + 4 + Int.toNat (x1 + 2)) (Int.toNat 0) (Int.toNat (x4 + ((M ((c + 1058) + 2) (Int.toNat x1)) - x5))) (Int.toNat 0)) (fun M31 => (k M31)))))))))) ∧ (¬ (w32 ((x4 + ((M ((c + 1058) + 2) (Int.toNat x1)) - x5)) + 0)) ≤ 64 → (cV l G y_Vl_set (gRm d) true [gR G (c + 1058), gI x1, gI 4, gL 4] X M (fun M33 => (k M33))))))))))) : wp l G y_Ma_exchange (gRm (d + 1)) true (kkV X k) true 59 [.val (gR G (c + 1057)), .val (gI x1), .val (gI x2), .val (gI x3), .val (gI x4), .val (gI x5), .val (gI x6), .unset, .unset, .unset] [gI s0] X M 0 0 := by
  refine wp_istore (L' := [.val (gR G (c + 1057)), .val (gI x1), .val (gI x2), .val (gI x3), .val (gI x4), .val (gI x5), .val (gI x6), .val (gI s0), .unset, .unset]) d_Ma_exchange_59 (by decide) rfl ?_
  refine wp_iload d_Ma_exchange_61 rfl ?_
  refine xz_ge (tgt := 79) d_Ma_exchange_63 (by decide) (w32_id hs0) (fun h36 => ?_) (fun h36 => ?_)
  · have T := T.1 h36
    refine wp_iload d_Ma_exchange_79 rfl ?_
    refine wp_iload d_Ma_exchange_81 rfl ?_
    refine wp_isub d_Ma_exchange_83 ?_
    refine wp_istore (L' := [.val (gR G (c + 1057)), .val (gI x1), .val (gI x2), .val (gI x3), .val (gI x4), .val (gI x5), .val (gI x6), .val (gI s0), .val (gI (s0 - x5)), .unset]) d_Ma_exchange_84 (by decide) rfl ?_
    refine wp_iload d_Ma_exchange_86 rfl ?_
    refine xz_ge (tgt := 95) d_Ma_exchange_88 (by decide) (w32_id hs0) (fun h21 => ?_) (fun h21 => ?_)
    · have T := T.1 h21
      refine wp_iload_n d_Ma_exchange_95 rfl rfl ?_
      refine wp_istore (L' := [.val (gR G (c + 1057)), .val (gI x1), .val (gI x2), .val (gI x3), .val (gI x4), .val (gI x5), .val (gI x6), .val (gI s0), .val (gI (s0 - x5)), .val (gI x3)]) d_Ma_exchange_96 (by decide) rfl ?_
      refine wp_iload d_Ma_exchange_98 rfl ?_
      refine wp_iload d_Ma_exchange_100 rfl ?_
      refine wp_iadd d_Ma_exchange_102 ?_
      refine wp_iload d_Ma_exchange_103 rfl ?_
      refine wp_iadd d_Ma_exchange_105 ?_
      refine wp_bipush d_Ma_exchange_106 ⟨by decide, by decide⟩ ?_
      refine xi_le (tgt := 124) d_Ma_exchange_108 (by decide) rfl (w32_id (g32_c (x := 64) rfl)) (fun h14 => ?_) (fun h14 => ?_)
      · have T := T.1 h14
        refine wp_aload_n d_Ma_exchange_124 rfl rfl (g_nz (gl_1 hX 1057)) ?_
        refine xgetR d_Ma_exchange_125 gc_Ma f_Ma_14.1 f_Ma_14.2.1 f_Ma_14.2.2.1 (gl_1 hX 1057) (gl_2 hX (a := 1057) (by decide)) (gl_s hX 37 rfl) f_Ma_14.2.2.2.2.1 (gl_f hX 42 rfl) ?_
        refine xgetR d_Ma_exchange_128 gc_Vl f_Ma_269.1 f_Ma_269.2.1 f_Ma_269.2.2.1 (gl_stk hX).1 (gv_2 (gl_stk hX)) (gl_stk hX).2.2.1 f_Ma_269.2.2.2.2.1 (gv_r3 (gl_stk hX)).1 ?_
        refine wp_iload_n d_Ma_exchange_131 rfl rfl ?_
        have h9 := T.1
        refine xaald d_Ma_exchange_132 (Or.inl rfl) (gv_r3 (gl_stk hX)).2.2.1 (gv_r3 (gl_stk hX)).2.2.2 (gv_r3 (gl_stk hX)).2.1 (g32_n h9 (gv_n (gl_stk hX))) h9.1 h9.2 (gv_row (gl_stk hX) h9).1 ?_
        have T := T.2
        refine wp_iload d_Ma_exchange_133 rfl ?_
        refine wp_aload_n d_Ma_exchange_135 rfl rfl (g_nz (gl_1 hX 1057)) ?_
        refine xgetR d_Ma_exchange_136 gc_Ma f_Ma_20.1 f_Ma_20.2.1 f_Ma_20.2.2.1 (gl_1 hX 1057) (gl_2 hX (a := 1057) (by decide)) (gl_s hX 37 rfl) f_Ma_20.2.2.2.2.1 (gl_f hX 43 rfl) ?_
        refine wp_iload d_Ma_exchange_139 rfl ?_
        refine wp_iload d_Ma_exchange_141 rfl ?_
        refine wp_copy (a := c + 1166) (a0 := (c + 1058) + 4 + Int.toNat x1) d_Ma_exchange_143 ml_Ma_273 na_arraycopy sm_arraycopy in_System (by decide) (gv_row (gl_stk hX) h9).2.2.1 (gv_row (gl_stk hX) h9).2.2.2 (gv_row (gl_stk hX) h9).2.1 (gl_1 hX 1166) (gl_2 hX (a := 1166) (by decide)) (gl_s hX 38 rfl) (by decide) (by decide) T.1 (g_cpfr d) (g_cplo d) ?_
        have T := T.2
        refine wp_aload_n d_Ma_exchange_146 rfl rfl (g_nz (gl_1 hX 1057)) ?_
        refine xgetR d_Ma_exchange_147 gc_Ma f_Ma_14.1 f_Ma_14.2.1 f_Ma_14.2.2.1 (gl_1 hX 1057) (gl_2 hX (a := 1057) (by decide)) (gl_s hX 37 rfl) f_Ma_14.2.2.2.2.1 (gl_f hX 42 rfl) ?_
        refine xgetR d_Ma_exchange_150 gc_Vl f_Ma_269.1 f_Ma_269.2.1 f_Ma_269.2.2.1 (gl_stk hX).1 (gv_2 (gl_stk hX)) (gl_stk hX).2.2.1 f_Ma_269.2.2.2.2.1 (gv_r3 (gl_stk hX)).1 ?_
        refine wp_iload_n d_Ma_exchange_153 rfl rfl ?_
        refine wp_iconst d_Ma_exchange_154 ?_
        refine wp_iadd d_Ma_exchange_155 ?_
        have h10 := T.1
        refine xaald d_Ma_exchange_156 (Or.inl rfl) (gv_r3 (gl_stk hX)).2.2.1 (gv_r3 (gl_stk hX)).2.2.2 (gv_r3 (gl_stk hX)).2.1 (g32_n h10 (gv_n (gl_stk hX))) h10.1 h10.2 (gv_row (gl_stk hX) h10).1 ?_
        have T := T.2
        refine wp_iconst d_Ma_exchange_157 ?_
        refine wp_aload_n d_Ma_exchange_158 rfl rfl (g_nz (gl_1 hX 1057)) ?_
        refine xgetR d_Ma_exchange_159 gc_Ma f_Ma_20.1 f_Ma_20.2.1 f_Ma_20.2.2.1 (gl_1 hX 1057) (gl_2 hX (a := 1057) (by decide)) (gl_s hX 37 rfl) f_Ma_20.2.2.2.2.1 (gl_f hX 43 rfl) ?_
        refine wp_iload d_Ma_exchange_162 rfl ?_
        refine wp_iload d_Ma_exchange_164 rfl ?_
        refine wp_iadd d_Ma_exchange_166 ?_
        refine wp_iload d_Ma_exchange_167 rfl ?_
        refine wp_copy (a := c + 1166) (a0 := (c + 1058) + 4 + Int.toNat (x1 + 2)) d_Ma_exchange_169 ml_Ma_273 na_arraycopy sm_arraycopy in_System (by decide) (gv_row (gl_stk hX) h10).2.2.1 (gv_row (gl_stk hX) h10).2.2.2 (gv_row (gl_stk hX) h10).2.1 (gl_1 hX 1166) (gl_2 hX (a := 1166) (by decide)) (gl_s hX 38 rfl) (by decide) (by decide) T.1 (g_cpfr d) (g_cplo d) ?_
        have T := T.2
        refine wp_iload d_Ma_exchange_172 rfl ?_
        refine wp_iload d_Ma_exchange_174 rfl ?_
        refine wp_iload d_Ma_exchange_176 rfl ?_
        refine wp_iadd d_Ma_exchange_178 ?_
        refine wp_iadd d_Ma_exchange_179 ?_
        refine wp_istore (L' := [.val (gR G (c + 1057)), .val (gI x1), .val (gI x2), .val (gI x3), .val (gI (x4 + ((s0 - x5) + x3))), .val (gI x5), .val (gI x6), .val (gI s0), .val (gI (s0 - x5)), .val (gI x3)]) d_Ma_exchange_180 (by decide) rfl ?_
        refine wp_iload d_Ma_exchange_182 rfl ?_
        refine xz_ge (tgt := 190) d_Ma_exchange_184 (by decide) (w32_id hs0) (fun h12 => ?_) (fun h12 => ?_)
        · have T := T.1 h12
          refine wp_iload d_Ma_exchange_190 rfl ?_
          refine wp_iload_n d_Ma_exchange_192 rfl rfl ?_
          refine wp_iadd d_Ma_exchange_193 ?_
          refine wp_istore (L' := [.val (gR G (c + 1057)), .val (gI x1), .val (gI x2), .val (gI x3), .val (gI (x4 + ((s0 - x5) + x3))), .val (gI (s0 + x2)), .val (gI x6), .val (gI s0), .val (gI (s0 - x5)), .val (gI x3)]) d_Ma_exchange_194 (by decide) rfl ?_
          refine wp_iinc (L' := [.val (gR G (c + 1057)), .val (gI x1), .val (gI x2), .val (gI x3), .val (gI (x4 + ((s0 - x5) + x3))), .val (gI (s0 + x2)), .val (gI (x6 + (-1))), .val (gI s0), .val (gI (s0 - x5)), .val (gI x3)]) d_Ma_exchange_196 rfl (by decide) rfl ?_
          refine wp_goto (tgt := 36) d_Ma_exchange_199 (by decide) ?_
          exact wp_md (wpt T (And.intro rfl (And.intro rfl (And.intro rfl (And.intro rfl (And.intro (gI_w _) (And.intro (gI_w _) (And.intro (gI_w _) True.intro))))))))
        · have T := T.2 h12
          refine wp_goto (tgt := 202) d_Ma_exchange_187 (by decide) ?_
          refine wp_aload_n d_Ma_exchange_202 rfl rfl (g_nz (gl_1 hX 1057)) ?_
          refine xgetR d_Ma_exchange_203 gc_Ma f_Ma_14.1 f_Ma_14.2.1 f_Ma_14.2.2.1 (gl_1 hX 1057) (gl_2 hX (a := 1057) (by decide)) (gl_s hX 37 rfl) f_Ma_14.2.2.2.2.1 (gl_f hX 42 rfl) ?_
          refine wp_iload_n d_Ma_exchange_206 rfl rfl ?_
          refine wp_aload_n d_Ma_exchange_207 rfl rfl (g_nz (gl_1 hX 1057)) ?_
          refine xgetR d_Ma_exchange_208 gc_Ma f_Ma_20.1 f_Ma_20.2.1 f_Ma_20.2.2.1 (gl_1 hX 1057) (gl_2 hX (a := 1057) (by decide)) (gl_s hX 37 rfl) f_Ma_20.2.2.2.2.1 (gl_f hX 43 rfl) ?_
          refine wp_iconst d_Ma_exchange_211 ?_
          refine wp_iload d_Ma_exchange_212 rfl ?_
          refine xcV_V (md' := true) (As := [gI x1, gR G (c + 1166), gI 0, gI (x4 + ((s0 - x5) + x3))]) (st := []) d_Ma_exchange_214 ca_Vl_setText ml_Ma_119 im_Vl_setText se_Vl_setText gc_Vl (gl_stk hX).1 (gv_2 (gl_stk hX)) (gl_stk hX).2.2.1 rfl (by decide) (by decide) rfl (fun _ => rfl) (fun _ => rfl) T (fun M11 T => ?_)
          exact wp_return d_Ma_exchange_217 rfl (fun _ => rfl) (Nat.zero_le _) (Nat.zero_le _) (kV_mk T)
      · have T := T.2 h14
        refine wp_aload_n d_Ma_exchange_111 rfl rfl (g_nz (gl_1 hX 1057)) ?_
        refine xgetR d_Ma_exchange_112 gc_Ma f_Ma_14.1 f_Ma_14.2.1 f_Ma_14.2.2.1 (gl_1 hX 1057) (gl_2 hX (a := 1057) (by decide)) (gl_s hX 37 rfl) f_Ma_14.2.2.2.2.1 (gl_f hX 42 rfl) ?_
        refine wp_iload_n d_Ma_exchange_115 rfl rfl ?_
        refine wp_iconst d_Ma_exchange_116 ?_
        refine wp_ldc2 (n := 4) d_Ma_exchange_117 c_Ma_147 rfl ?_
        refine xcV_V (md' := true) (As := [gI x1, gI 4, gL 4]) (st := []) d_Ma_exchange_120 ca_Vl_set ml_Ma_110 im_Vl_set se_Vl_set gc_Vl (gl_stk hX).1 (gv_2 (gl_stk hX)) (gl_stk hX).2.2.1 rfl (by decide) (by decide) rfl (fun _ => rfl) (fun _ => rfl) T (fun M13 T => ?_)
        exact wp_return d_Ma_exchange_123 rfl (fun _ => rfl) (Nat.zero_le _) (Nat.zero_le _) (kV_mk T)
    · have T := T.2 h21
      refine wp_iconst d_Ma_exchange_91 ?_
      refine wp_goto (tgt := 96) d_Ma_exchange_92 (by decide) ?_
      refine wp_istore (L' := [.val (gR G (c + 1057)), .val (gI x1), .val (gI x2), .val (gI x3), .val (gI x4), .val (gI x5), .val (gI x6), .val (gI s0), .val (gI (s0 - x5)), .val (gI 0)]) d_Ma_exchange_96 (by decide) rfl ?_
      refine wp_iload d_Ma_exchange_98 rfl ?_
      refine wp_iload d_Ma_exchange_100 rfl ?_
      refine wp_iadd d_Ma_exchange_102 ?_
      refine wp_iload d_Ma_exchange_103 rfl ?_
      refine wp_iadd d_Ma_exchange_105 ?_
      refine wp_bipush d_Ma_exchange_106 ⟨by decide, by decide⟩ ?_
      refine xi_le (tgt := 124) d_Ma_exchange_108 (by decide) rfl (w32_id (g32_c (x := 64) rfl)) (fun h20 => ?_) (fun h20 => ?_)
      · have T := T.1 h20
        refine wp_aload_n d_Ma_exchange_124 rfl rfl (g_nz (gl_1 hX 1057)) ?_
        refine xgetR d_Ma_exchange_125 gc_Ma f_Ma_14.1 f_Ma_14.2.1 f_Ma_14.2.2.1 (gl_1 hX 1057) (gl_2 hX (a := 1057) (by decide)) (gl_s hX 37 rfl) f_Ma_14.2.2.2.2.1 (gl_f hX 42 rfl) ?_
        refine xgetR d_Ma_exchange_128 gc_Vl f_Ma_269.1 f_Ma_269.2.1 f_Ma_269.2.2.1 (gl_stk hX).1 (gv_2 (gl_stk hX)) (gl_stk hX).2.2.1 f_Ma_269.2.2.2.2.1 (gv_r3 (gl_stk hX)).1 ?_
        refine wp_iload_n d_Ma_exchange_131 rfl rfl ?_
        have h15 := T.1
        refine xaald d_Ma_exchange_132 (Or.inl rfl) (gv_r3 (gl_stk hX)).2.2.1 (gv_r3 (gl_stk hX)).2.2.2 (gv_r3 (gl_stk hX)).2.1 (g32_n h15 (gv_n (gl_stk hX))) h15.1 h15.2 (gv_row (gl_stk hX) h15).1 ?_
        have T := T.2
        refine wp_iload d_Ma_exchange_133 rfl ?_
        refine wp_aload_n d_Ma_exchange_135 rfl rfl (g_nz (gl_1 hX 1057)) ?_
        refine xgetR d_Ma_exchange_136 gc_Ma f_Ma_20.1 f_Ma_20.2.1 f_Ma_20.2.2.1 (gl_1 hX 1057) (gl_2 hX (a := 1057) (by decide)) (gl_s hX 37 rfl) f_Ma_20.2.2.2.2.1 (gl_f hX 43 rfl) ?_
        refine wp_iload d_Ma_exchange_139 rfl ?_
        refine wp_iload d_Ma_exchange_141 rfl ?_
        refine wp_copy (a := c + 1166) (a0 := (c + 1058) + 4 + Int.toNat x1) d_Ma_exchange_143 ml_Ma_273 na_arraycopy sm_arraycopy in_System (by decide) (gv_row (gl_stk hX) h15).2.2.1 (gv_row (gl_stk hX) h15).2.2.2 (gv_row (gl_stk hX) h15).2.1 (gl_1 hX 1166) (gl_2 hX (a := 1166) (by decide)) (gl_s hX 38 rfl) (by decide) (by decide) T.1 (g_cpfr d) (g_cplo d) ?_
        have T := T.2
        refine wp_aload_n d_Ma_exchange_146 rfl rfl (g_nz (gl_1 hX 1057)) ?_
        refine xgetR d_Ma_exchange_147 gc_Ma f_Ma_14.1 f_Ma_14.2.1 f_Ma_14.2.2.1 (gl_1 hX 1057) (gl_2 hX (a := 1057) (by decide)) (gl_s hX 37 rfl) f_Ma_14.2.2.2.2.1 (gl_f hX 42 rfl) ?_
        refine xgetR d_Ma_exchange_150 gc_Vl f_Ma_269.1 f_Ma_269.2.1 f_Ma_269.2.2.1 (gl_stk hX).1 (gv_2 (gl_stk hX)) (gl_stk hX).2.2.1 f_Ma_269.2.2.2.2.1 (gv_r3 (gl_stk hX)).1 ?_
        refine wp_iload_n d_Ma_exchange_153 rfl rfl ?_
        refine wp_iconst d_Ma_exchange_154 ?_
        refine wp_iadd d_Ma_exchange_155 ?_
        have h16 := T.1
        refine xaald d_Ma_exchange_156 (Or.inl rfl) (gv_r3 (gl_stk hX)).2.2.1 (gv_r3 (gl_stk hX)).2.2.2 (gv_r3 (gl_stk hX)).2.1 (g32_n h16 (gv_n (gl_stk hX))) h16.1 h16.2 (gv_row (gl_stk hX) h16).1 ?_
        have T := T.2
        refine wp_iconst d_Ma_exchange_157 ?_
        refine wp_aload_n d_Ma_exchange_158 rfl rfl (g_nz (gl_1 hX 1057)) ?_
        refine xgetR d_Ma_exchange_159 gc_Ma f_Ma_20.1 f_Ma_20.2.1 f_Ma_20.2.2.1 (gl_1 hX 1057) (gl_2 hX (a := 1057) (by decide)) (gl_s hX 37 rfl) f_Ma_20.2.2.2.2.1 (gl_f hX 43 rfl) ?_
        refine wp_iload d_Ma_exchange_162 rfl ?_
        refine wp_iload d_Ma_exchange_164 rfl ?_
        refine wp_iadd d_Ma_exchange_166 ?_
        refine wp_iload d_Ma_exchange_167 rfl ?_
        refine wp_copy (a := c + 1166) (a0 := (c + 1058) + 4 + Int.toNat (x1 + 2)) d_Ma_exchange_169 ml_Ma_273 na_arraycopy sm_arraycopy in_System (by decide) (gv_row (gl_stk hX) h16).2.2.1 (gv_row (gl_stk hX) h16).2.2.2 (gv_row (gl_stk hX) h16).2.1 (gl_1 hX 1166) (gl_2 hX (a := 1166) (by decide)) (gl_s hX 38 rfl) (by decide) (by decide) T.1 (g_cpfr d) (g_cplo d) ?_
        have T := T.2
        refine wp_iload d_Ma_exchange_172 rfl ?_
        refine wp_iload d_Ma_exchange_174 rfl ?_
        refine wp_iload d_Ma_exchange_176 rfl ?_
        refine wp_iadd d_Ma_exchange_178 ?_
        refine wp_iadd d_Ma_exchange_179 ?_
        refine wp_istore (L' := [.val (gR G (c + 1057)), .val (gI x1), .val (gI x2), .val (gI x3), .val (gI (x4 + ((s0 - x5) + 0))), .val (gI x5), .val (gI x6), .val (gI s0), .val (gI (s0 - x5)), .val (gI 0)]) d_Ma_exchange_180 (by decide) rfl ?_
        refine wp_iload d_Ma_exchange_182 rfl ?_
        refine xz_ge (tgt := 190) d_Ma_exchange_184 (by decide) (w32_id hs0) (fun h18 => ?_) (fun h18 => ?_)
        · have T := T.1 h18
          refine wp_iload d_Ma_exchange_190 rfl ?_
          refine wp_iload_n d_Ma_exchange_192 rfl rfl ?_
          refine wp_iadd d_Ma_exchange_193 ?_
          refine wp_istore (L' := [.val (gR G (c + 1057)), .val (gI x1), .val (gI x2), .val (gI x3), .val (gI (x4 + ((s0 - x5) + 0))), .val (gI (s0 + x2)), .val (gI x6), .val (gI s0), .val (gI (s0 - x5)), .val (gI 0)]) d_Ma_exchange_194 (by decide) rfl ?_
          refine wp_iinc (L' := [.val (gR G (c + 1057)), .val (gI x1), .val (gI x2), .val (gI x3), .val (gI (x4 + ((s0 - x5) + 0))), .val (gI (s0 + x2)), .val (gI (x6 + (-1))), .val (gI s0), .val (gI (s0 - x5)), .val (gI 0)]) d_Ma_exchange_196 rfl (by decide) rfl ?_
          refine wp_goto (tgt := 36) d_Ma_exchange_199 (by decide) ?_
          exact wp_md (wpt T (And.intro rfl (And.intro rfl (And.intro rfl (And.intro rfl (And.intro (gI_w _) (And.intro (gI_w _) (And.intro (gI_w _) True.intro))))))))
        · have T := T.2 h18
          refine wp_goto (tgt := 202) d_Ma_exchange_187 (by decide) ?_
          refine wp_aload_n d_Ma_exchange_202 rfl rfl (g_nz (gl_1 hX 1057)) ?_
          refine xgetR d_Ma_exchange_203 gc_Ma f_Ma_14.1 f_Ma_14.2.1 f_Ma_14.2.2.1 (gl_1 hX 1057) (gl_2 hX (a := 1057) (by decide)) (gl_s hX 37 rfl) f_Ma_14.2.2.2.2.1 (gl_f hX 42 rfl) ?_
          refine wp_iload_n d_Ma_exchange_206 rfl rfl ?_
          refine wp_aload_n d_Ma_exchange_207 rfl rfl (g_nz (gl_1 hX 1057)) ?_
          refine xgetR d_Ma_exchange_208 gc_Ma f_Ma_20.1 f_Ma_20.2.1 f_Ma_20.2.2.1 (gl_1 hX 1057) (gl_2 hX (a := 1057) (by decide)) (gl_s hX 37 rfl) f_Ma_20.2.2.2.2.1 (gl_f hX 43 rfl) ?_
          refine wp_iconst d_Ma_exchange_211 ?_
          refine wp_iload d_Ma_exchange_212 rfl ?_
          refine xcV_V (md' := true) (As := [gI x1, gR G (c + 1166), gI 0, gI (x4 + ((s0 - x5) + 0))]) (st := []) d_Ma_exchange_214 ca_Vl_setText ml_Ma_119 im_Vl_setText se_Vl_setText gc_Vl (gl_stk hX).1 (gv_2 (gl_stk hX)) (gl_stk hX).2.2.1 rfl (by decide) (by decide) rfl (fun _ => rfl) (fun _ => rfl) T (fun M17 T => ?_)
          exact wp_return d_Ma_exchange_217 rfl (fun _ => rfl) (Nat.zero_le _) (Nat.zero_le _) (kV_mk T)
      · have T := T.2 h20
        refine wp_aload_n d_Ma_exchange_111 rfl rfl (g_nz (gl_1 hX 1057)) ?_
        refine xgetR d_Ma_exchange_112 gc_Ma f_Ma_14.1 f_Ma_14.2.1 f_Ma_14.2.2.1 (gl_1 hX 1057) (gl_2 hX (a := 1057) (by decide)) (gl_s hX 37 rfl) f_Ma_14.2.2.2.2.1 (gl_f hX 42 rfl) ?_
        refine wp_iload_n d_Ma_exchange_115 rfl rfl ?_
        refine wp_iconst d_Ma_exchange_116 ?_
        refine wp_ldc2 (n := 4) d_Ma_exchange_117 c_Ma_147 rfl ?_
        refine xcV_V (md' := true) (As := [gI x1, gI 4, gL 4]) (st := []) d_Ma_exchange_120 ca_Vl_set ml_Ma_110 im_Vl_set se_Vl_set gc_Vl (gl_stk hX).1 (gv_2 (gl_stk hX)) (gl_stk hX).2.2.1 rfl (by decide) (by decide) rfl (fun _ => rfl) (fun _ => rfl) T (fun M19 T => ?_)
        exact wp_return d_Ma_exchange_123 rfl (fun _ => rfl) (Nat.zero_le _) (Nat.zero_le _) (kV_mk T)
  · have T := T.2 h36
    refine wp_aload_n d_Ma_exchange_66 rfl rfl (g_nz (gl_1 hX 1057)) ?_
    refine xgetR d_Ma_exchange_67 gc_Ma f_Ma_14.1 f_Ma_14.2.1 f_Ma_14.2.2.1 (gl_1 hX 1057) (gl_2 hX (a := 1057) (by decide)) (gl_s hX 37 rfl) f_Ma_14.2.2.2.2.1 (gl_f hX 42 rfl) ?_
    refine xgetR d_Ma_exchange_70 gc_Vl f_Ma_149.1 f_Ma_149.2.1 f_Ma_149.2.2.1 (gl_stk hX).1 (gv_2 (gl_stk hX)) (gl_stk hX).2.2.1 f_Ma_149.2.2.2.2.1 (gv_r2 (gl_stk hX)).1 ?_
    refine wp_iload_n d_Ma_exchange_73 rfl rfl ?_
    refine wp_laload d_Ma_exchange_74 (gv_r2 (gl_stk hX)).2.2.1 (gv_r2 (gl_stk hX)).2.2.2 (gv_r2 (gl_stk hX)).2.1 (g32_n T.1 (gv_n (gl_stk hX))) T.1.1 T.1.2 (fun h22 => ?_)
    have T := T.2 h22
    refine wp_l2i d_Ma_exchange_75 ?_
    refine wp_goto (tgt := 81) d_Ma_exchange_76 (by decide) ?_
    refine wp_iload d_Ma_exchange_81 rfl ?_
    refine wp_isub d_Ma_exchange_83 ?_
    refine wp_istore (L' := [.val (gR G (c + 1057)), .val (gI x1), .val (gI x2), .val (gI x3), .val (gI x4), .val (gI x5), .val (gI x6), .val (gI s0), .val (gI ((M ((c + 1058) + 2) (Int.toNat x1)) - x5)), .unset]) d_Ma_exchange_84 (by decide) rfl ?_
    refine wp_iload d_Ma_exchange_86 rfl ?_
    refine xz_ge (tgt := 95) d_Ma_exchange_88 (by decide) (w32_id hs0) (fun h35 => ?_) (fun h35 => ?_)
    · have T := T.1 h35
      refine wp_iload_n d_Ma_exchange_95 rfl rfl ?_
      refine wp_istore (L' := [.val (gR G (c + 1057)), .val (gI x1), .val (gI x2), .val (gI x3), .val (gI x4), .val (gI x5), .val (gI x6), .val (gI s0), .val (gI ((M ((c + 1058) + 2) (Int.toNat x1)) - x5)), .val (gI x3)]) d_Ma_exchange_96 (by decide) rfl ?_
      refine wp_iload d_Ma_exchange_98 rfl ?_
      refine wp_iload d_Ma_exchange_100 rfl ?_
      refine wp_iadd d_Ma_exchange_102 ?_
      refine wp_iload d_Ma_exchange_103 rfl ?_
      refine wp_iadd d_Ma_exchange_105 ?_
      refine wp_bipush d_Ma_exchange_106 ⟨by decide, by decide⟩ ?_
      refine xi_le (tgt := 124) d_Ma_exchange_108 (by decide) rfl (w32_id (g32_c (x := 64) rfl)) (fun h28 => ?_) (fun h28 => ?_)
      · have T := T.1 h28
        refine wp_aload_n d_Ma_exchange_124 rfl rfl (g_nz (gl_1 hX 1057)) ?_
        refine xgetR d_Ma_exchange_125 gc_Ma f_Ma_14.1 f_Ma_14.2.1 f_Ma_14.2.2.1 (gl_1 hX 1057) (gl_2 hX (a := 1057) (by decide)) (gl_s hX 37 rfl) f_Ma_14.2.2.2.2.1 (gl_f hX 42 rfl) ?_
        refine xgetR d_Ma_exchange_128 gc_Vl f_Ma_269.1 f_Ma_269.2.1 f_Ma_269.2.2.1 (gl_stk hX).1 (gv_2 (gl_stk hX)) (gl_stk hX).2.2.1 f_Ma_269.2.2.2.2.1 (gv_r3 (gl_stk hX)).1 ?_
        refine wp_iload_n d_Ma_exchange_131 rfl rfl ?_
        have h23 := T.1
        refine xaald d_Ma_exchange_132 (Or.inl rfl) (gv_r3 (gl_stk hX)).2.2.1 (gv_r3 (gl_stk hX)).2.2.2 (gv_r3 (gl_stk hX)).2.1 (g32_n h23 (gv_n (gl_stk hX))) h23.1 h23.2 (gv_row (gl_stk hX) h23).1 ?_
        have T := T.2
        refine wp_iload d_Ma_exchange_133 rfl ?_
        refine wp_aload_n d_Ma_exchange_135 rfl rfl (g_nz (gl_1 hX 1057)) ?_
        refine xgetR d_Ma_exchange_136 gc_Ma f_Ma_20.1 f_Ma_20.2.1 f_Ma_20.2.2.1 (gl_1 hX 1057) (gl_2 hX (a := 1057) (by decide)) (gl_s hX 37 rfl) f_Ma_20.2.2.2.2.1 (gl_f hX 43 rfl) ?_
        refine wp_iload d_Ma_exchange_139 rfl ?_
        refine wp_iload d_Ma_exchange_141 rfl ?_
        refine wp_copy (a := c + 1166) (a0 := (c + 1058) + 4 + Int.toNat x1) d_Ma_exchange_143 ml_Ma_273 na_arraycopy sm_arraycopy in_System (by decide) (gv_row (gl_stk hX) h23).2.2.1 (gv_row (gl_stk hX) h23).2.2.2 (gv_row (gl_stk hX) h23).2.1 (gl_1 hX 1166) (gl_2 hX (a := 1166) (by decide)) (gl_s hX 38 rfl) (by decide) (by decide) T.1 (g_cpfr d) (g_cplo d) ?_
        have T := T.2
        refine wp_aload_n d_Ma_exchange_146 rfl rfl (g_nz (gl_1 hX 1057)) ?_
        refine xgetR d_Ma_exchange_147 gc_Ma f_Ma_14.1 f_Ma_14.2.1 f_Ma_14.2.2.1 (gl_1 hX 1057) (gl_2 hX (a := 1057) (by decide)) (gl_s hX 37 rfl) f_Ma_14.2.2.2.2.1 (gl_f hX 42 rfl) ?_
        refine xgetR d_Ma_exchange_150 gc_Vl f_Ma_269.1 f_Ma_269.2.1 f_Ma_269.2.2.1 (gl_stk hX).1 (gv_2 (gl_stk hX)) (gl_stk hX).2.2.1 f_Ma_269.2.2.2.2.1 (gv_r3 (gl_stk hX)).1 ?_
        refine wp_iload_n d_Ma_exchange_153 rfl rfl ?_
        refine wp_iconst d_Ma_exchange_154 ?_
        refine wp_iadd d_Ma_exchange_155 ?_
        have h24 := T.1
        refine xaald d_Ma_exchange_156 (Or.inl rfl) (gv_r3 (gl_stk hX)).2.2.1 (gv_r3 (gl_stk hX)).2.2.2 (gv_r3 (gl_stk hX)).2.1 (g32_n h24 (gv_n (gl_stk hX))) h24.1 h24.2 (gv_row (gl_stk hX) h24).1 ?_
        have T := T.2
        refine wp_iconst d_Ma_exchange_157 ?_
        refine wp_aload_n d_Ma_exchange_158 rfl rfl (g_nz (gl_1 hX 1057)) ?_
        refine xgetR d_Ma_exchange_159 gc_Ma f_Ma_20.1 f_Ma_20.2.1 f_Ma_20.2.2.1 (gl_1 hX 1057) (gl_2 hX (a := 1057) (by decide)) (gl_s hX 37 rfl) f_Ma_20.2.2.2.2.1 (gl_f hX 43 rfl) ?_
        refine wp_iload d_Ma_exchange_162 rfl ?_
        refine wp_iload d_Ma_exchange_164 rfl ?_
        refine wp_iadd d_Ma_exchange_166 ?_
        refine wp_iload d_Ma_exchange_167 rfl ?_
        refine wp_copy (a := c + 1166) (a0 := (c + 1058) + 4 + Int.toNat (x1 + 2)) d_Ma_exchange_169 ml_Ma_273 na_arraycopy sm_arraycopy in_System (by decide) (gv_row (gl_stk hX) h24).2.2.1 (gv_row (gl_stk hX) h24).2.2.2 (gv_row (gl_stk hX) h24).2.1 (gl_1 hX 1166) (gl_2 hX (a := 1166) (by decide)) (gl_s hX 38 rfl) (by decide) (by decide) T.1 (g_cpfr d) (g_cplo d) ?_
        have T := T.2
        refine wp_iload d_Ma_exchange_172 rfl ?_
        refine wp_iload d_Ma_exchange_174 rfl ?_
        refine wp_iload d_Ma_exchange_176 rfl ?_
        refine wp_iadd d_Ma_exchange_178 ?_
        refine wp_iadd d_Ma_exchange_179 ?_
        refine wp_istore (L' := [.val (gR G (c + 1057)), .val (gI x1), .val (gI x2), .val (gI x3), .val (gI (x4 + (((M ((c + 1058) + 2) (Int.toNat x1)) - x5) + x3))), .val (gI x5), .val (gI x6), .val (gI s0), .val (gI ((M ((c + 1058) + 2) (Int.toNat x1)) - x5)), .val (gI x3)]) d_Ma_exchange_180 (by decide) rfl ?_
        refine wp_iload d_Ma_exchange_182 rfl ?_
        refine xz_ge (tgt := 190) d_Ma_exchange_184 (by decide) (w32_id hs0) (fun h26 => ?_) (fun h26 => ?_)
        · have T := T.1 h26
          refine wp_iload d_Ma_exchange_190 rfl ?_
          refine wp_iload_n d_Ma_exchange_192 rfl rfl ?_
          refine wp_iadd d_Ma_exchange_193 ?_
          refine wp_istore (L' := [.val (gR G (c + 1057)), .val (gI x1), .val (gI x2), .val (gI x3), .val (gI (x4 + (((M ((c + 1058) + 2) (Int.toNat x1)) - x5) + x3))), .val (gI (s0 + x2)), .val (gI x6), .val (gI s0), .val (gI ((M ((c + 1058) + 2) (Int.toNat x1)) - x5)), .val (gI x3)]) d_Ma_exchange_194 (by decide) rfl ?_
          refine wp_iinc (L' := [.val (gR G (c + 1057)), .val (gI x1), .val (gI x2), .val (gI x3), .val (gI (x4 + (((M ((c + 1058) + 2) (Int.toNat x1)) - x5) + x3))), .val (gI (s0 + x2)), .val (gI (x6 + (-1))), .val (gI s0), .val (gI ((M ((c + 1058) + 2) (Int.toNat x1)) - x5)), .val (gI x3)]) d_Ma_exchange_196 rfl (by decide) rfl ?_
          refine wp_goto (tgt := 36) d_Ma_exchange_199 (by decide) ?_
          exact wp_md (wpt T (And.intro rfl (And.intro rfl (And.intro rfl (And.intro rfl (And.intro (gI_w _) (And.intro (gI_w _) (And.intro (gI_w _) True.intro))))))))
        · have T := T.2 h26
          refine wp_goto (tgt := 202) d_Ma_exchange_187 (by decide) ?_
          refine wp_aload_n d_Ma_exchange_202 rfl rfl (g_nz (gl_1 hX 1057)) ?_
          refine xgetR d_Ma_exchange_203 gc_Ma f_Ma_14.1 f_Ma_14.2.1 f_Ma_14.2.2.1 (gl_1 hX 1057) (gl_2 hX (a := 1057) (by decide)) (gl_s hX 37 rfl) f_Ma_14.2.2.2.2.1 (gl_f hX 42 rfl) ?_
          refine wp_iload_n d_Ma_exchange_206 rfl rfl ?_
          refine wp_aload_n d_Ma_exchange_207 rfl rfl (g_nz (gl_1 hX 1057)) ?_
          refine xgetR d_Ma_exchange_208 gc_Ma f_Ma_20.1 f_Ma_20.2.1 f_Ma_20.2.2.1 (gl_1 hX 1057) (gl_2 hX (a := 1057) (by decide)) (gl_s hX 37 rfl) f_Ma_20.2.2.2.2.1 (gl_f hX 43 rfl) ?_
          refine wp_iconst d_Ma_exchange_211 ?_
          refine wp_iload d_Ma_exchange_212 rfl ?_
          refine xcV_V (md' := true) (As := [gI x1, gR G (c + 1166), gI 0, gI (x4 + (((M ((c + 1058) + 2) (Int.toNat x1)) - x5) + x3))]) (st := []) d_Ma_exchange_214 ca_Vl_setText ml_Ma_119 im_Vl_setText se_Vl_setText gc_Vl (gl_stk hX).1 (gv_2 (gl_stk hX)) (gl_stk hX).2.2.1 rfl (by decide) (by decide) rfl (fun _ => rfl) (fun _ => rfl) T (fun M25 T => ?_)
          exact wp_return d_Ma_exchange_217 rfl (fun _ => rfl) (Nat.zero_le _) (Nat.zero_le _) (kV_mk T)
      · have T := T.2 h28
        refine wp_aload_n d_Ma_exchange_111 rfl rfl (g_nz (gl_1 hX 1057)) ?_
        refine xgetR d_Ma_exchange_112 gc_Ma f_Ma_14.1 f_Ma_14.2.1 f_Ma_14.2.2.1 (gl_1 hX 1057) (gl_2 hX (a := 1057) (by decide)) (gl_s hX 37 rfl) f_Ma_14.2.2.2.2.1 (gl_f hX 42 rfl) ?_
        refine wp_iload_n d_Ma_exchange_115 rfl rfl ?_
        refine wp_iconst d_Ma_exchange_116 ?_
        refine wp_ldc2 (n := 4) d_Ma_exchange_117 c_Ma_147 rfl ?_
        refine xcV_V (md' := true) (As := [gI x1, gI 4, gL 4]) (st := []) d_Ma_exchange_120 ca_Vl_set ml_Ma_110 im_Vl_set se_Vl_set gc_Vl (gl_stk hX).1 (gv_2 (gl_stk hX)) (gl_stk hX).2.2.1 rfl (by decide) (by decide) rfl (fun _ => rfl) (fun _ => rfl) T (fun M27 T => ?_)
        exact wp_return d_Ma_exchange_123 rfl (fun _ => rfl) (Nat.zero_le _) (Nat.zero_le _) (kV_mk T)
    · have T := T.2 h35
      refine wp_iconst d_Ma_exchange_91 ?_
      refine wp_goto (tgt := 96) d_Ma_exchange_92 (by decide) ?_
      refine wp_istore (L' := [.val (gR G (c + 1057)), .val (gI x1), .val (gI x2), .val (gI x3), .val (gI x4), .val (gI x5), .val (gI x6), .val (gI s0), .val (gI ((M ((c + 1058) + 2) (Int.toNat x1)) - x5)), .val (gI 0)]) d_Ma_exchange_96 (by decide) rfl ?_
      refine wp_iload d_Ma_exchange_98 rfl ?_
      refine wp_iload d_Ma_exchange_100 rfl ?_
      refine wp_iadd d_Ma_exchange_102 ?_
      refine wp_iload d_Ma_exchange_103 rfl ?_
      refine wp_iadd d_Ma_exchange_105 ?_
      refine wp_bipush d_Ma_exchange_106 ⟨by decide, by decide⟩ ?_
      refine xi_le (tgt := 124) d_Ma_exchange_108 (by decide) rfl (w32_id (g32_c (x := 64) rfl)) (fun h34 => ?_) (fun h34 => ?_)
      · have T := T.1 h34
        refine wp_aload_n d_Ma_exchange_124 rfl rfl (g_nz (gl_1 hX 1057)) ?_
        refine xgetR d_Ma_exchange_125 gc_Ma f_Ma_14.1 f_Ma_14.2.1 f_Ma_14.2.2.1 (gl_1 hX 1057) (gl_2 hX (a := 1057) (by decide)) (gl_s hX 37 rfl) f_Ma_14.2.2.2.2.1 (gl_f hX 42 rfl) ?_
        refine xgetR d_Ma_exchange_128 gc_Vl f_Ma_269.1 f_Ma_269.2.1 f_Ma_269.2.2.1 (gl_stk hX).1 (gv_2 (gl_stk hX)) (gl_stk hX).2.2.1 f_Ma_269.2.2.2.2.1 (gv_r3 (gl_stk hX)).1 ?_
        refine wp_iload_n d_Ma_exchange_131 rfl rfl ?_
        have h29 := T.1
        refine xaald d_Ma_exchange_132 (Or.inl rfl) (gv_r3 (gl_stk hX)).2.2.1 (gv_r3 (gl_stk hX)).2.2.2 (gv_r3 (gl_stk hX)).2.1 (g32_n h29 (gv_n (gl_stk hX))) h29.1 h29.2 (gv_row (gl_stk hX) h29).1 ?_
        have T := T.2
        refine wp_iload d_Ma_exchange_133 rfl ?_
        refine wp_aload_n d_Ma_exchange_135 rfl rfl (g_nz (gl_1 hX 1057)) ?_
        refine xgetR d_Ma_exchange_136 gc_Ma f_Ma_20.1 f_Ma_20.2.1 f_Ma_20.2.2.1 (gl_1 hX 1057) (gl_2 hX (a := 1057) (by decide)) (gl_s hX 37 rfl) f_Ma_20.2.2.2.2.1 (gl_f hX 43 rfl) ?_
        refine wp_iload d_Ma_exchange_139 rfl ?_
        refine wp_iload d_Ma_exchange_141 rfl ?_
        refine wp_copy (a := c + 1166) (a0 := (c + 1058) + 4 + Int.toNat x1) d_Ma_exchange_143 ml_Ma_273 na_arraycopy sm_arraycopy in_System (by decide) (gv_row (gl_stk hX) h29).2.2.1 (gv_row (gl_stk hX) h29).2.2.2 (gv_row (gl_stk hX) h29).2.1 (gl_1 hX 1166) (gl_2 hX (a := 1166) (by decide)) (gl_s hX 38 rfl) (by decide) (by decide) T.1 (g_cpfr d) (g_cplo d) ?_
        have T := T.2
        refine wp_aload_n d_Ma_exchange_146 rfl rfl (g_nz (gl_1 hX 1057)) ?_
        refine xgetR d_Ma_exchange_147 gc_Ma f_Ma_14.1 f_Ma_14.2.1 f_Ma_14.2.2.1 (gl_1 hX 1057) (gl_2 hX (a := 1057) (by decide)) (gl_s hX 37 rfl) f_Ma_14.2.2.2.2.1 (gl_f hX 42 rfl) ?_
        refine xgetR d_Ma_exchange_150 gc_Vl f_Ma_269.1 f_Ma_269.2.1 f_Ma_269.2.2.1 (gl_stk hX).1 (gv_2 (gl_stk hX)) (gl_stk hX).2.2.1 f_Ma_269.2.2.2.2.1 (gv_r3 (gl_stk hX)).1 ?_
        refine wp_iload_n d_Ma_exchange_153 rfl rfl ?_
        refine wp_iconst d_Ma_exchange_154 ?_
        refine wp_iadd d_Ma_exchange_155 ?_
        have h30 := T.1
        refine xaald d_Ma_exchange_156 (Or.inl rfl) (gv_r3 (gl_stk hX)).2.2.1 (gv_r3 (gl_stk hX)).2.2.2 (gv_r3 (gl_stk hX)).2.1 (g32_n h30 (gv_n (gl_stk hX))) h30.1 h30.2 (gv_row (gl_stk hX) h30).1 ?_
        have T := T.2
        refine wp_iconst d_Ma_exchange_157 ?_
        refine wp_aload_n d_Ma_exchange_158 rfl rfl (g_nz (gl_1 hX 1057)) ?_
        refine xgetR d_Ma_exchange_159 gc_Ma f_Ma_20.1 f_Ma_20.2.1 f_Ma_20.2.2.1 (gl_1 hX 1057) (gl_2 hX (a := 1057) (by decide)) (gl_s hX 37 rfl) f_Ma_20.2.2.2.2.1 (gl_f hX 43 rfl) ?_
        refine wp_iload d_Ma_exchange_162 rfl ?_
        refine wp_iload d_Ma_exchange_164 rfl ?_
        refine wp_iadd d_Ma_exchange_166 ?_
        refine wp_iload d_Ma_exchange_167 rfl ?_
        refine wp_copy (a := c + 1166) (a0 := (c + 1058) + 4 + Int.toNat (x1 + 2)) d_Ma_exchange_169 ml_Ma_273 na_arraycopy sm_arraycopy in_System (by decide) (gv_row (gl_stk hX) h30).2.2.1 (gv_row (gl_stk hX) h30).2.2.2 (gv_row (gl_stk hX) h30).2.1 (gl_1 hX 1166) (gl_2 hX (a := 1166) (by decide)) (gl_s hX 38 rfl) (by decide) (by decide) T.1 (g_cpfr d) (g_cplo d) ?_
        have T := T.2
        refine wp_iload d_Ma_exchange_172 rfl ?_
        refine wp_iload d_Ma_exchange_174 rfl ?_
        refine wp_iload d_Ma_exchange_176 rfl ?_
        refine wp_iadd d_Ma_exchange_178 ?_
        refine wp_iadd d_Ma_exchange_179 ?_
        refine wp_istore (L' := [.val (gR G (c + 1057)), .val (gI x1), .val (gI x2), .val (gI x3), .val (gI (x4 + (((M ((c + 1058) + 2) (Int.toNat x1)) - x5) + 0))), .val (gI x5), .val (gI x6), .val (gI s0), .val (gI ((M ((c + 1058) + 2) (Int.toNat x1)) - x5)), .val (gI 0)]) d_Ma_exchange_180 (by decide) rfl ?_
        refine wp_iload d_Ma_exchange_182 rfl ?_
        refine xz_ge (tgt := 190) d_Ma_exchange_184 (by decide) (w32_id hs0) (fun h32 => ?_) (fun h32 => ?_)
        · have T := T.1 h32
          refine wp_iload d_Ma_exchange_190 rfl ?_
          refine wp_iload_n d_Ma_exchange_192 rfl rfl ?_
          refine wp_iadd d_Ma_exchange_193 ?_
          refine wp_istore (L' := [.val (gR G (c + 1057)), .val (gI x1), .val (gI x2), .val (gI x3), .val (gI (x4 + (((M ((c + 1058) + 2) (Int.toNat x1)) - x5) + 0))), .val (gI (s0 + x2)), .val (gI x6), .val (gI s0), .val (gI ((M ((c + 1058) + 2) (Int.toNat x1)) - x5)), .val (gI 0)]) d_Ma_exchange_194 (by decide) rfl ?_
          refine wp_iinc (L' := [.val (gR G (c + 1057)), .val (gI x1), .val (gI x2), .val (gI x3), .val (gI (x4 + (((M ((c + 1058) + 2) (Int.toNat x1)) - x5) + 0))), .val (gI (s0 + x2)), .val (gI (x6 + (-1))), .val (gI s0), .val (gI ((M ((c + 1058) + 2) (Int.toNat x1)) - x5)), .val (gI 0)]) d_Ma_exchange_196 rfl (by decide) rfl ?_
          refine wp_goto (tgt := 36) d_Ma_exchange_199 (by decide) ?_
          exact wp_md (wpt T (And.intro rfl (And.intro rfl (And.intro rfl (And.intro rfl (And.intro (gI_w _) (And.intro (gI_w _) (And.intro (gI_w _) True.intro))))))))
        · have T := T.2 h32
          refine wp_goto (tgt := 202) d_Ma_exchange_187 (by decide) ?_
          refine wp_aload_n d_Ma_exchange_202 rfl rfl (g_nz (gl_1 hX 1057)) ?_
          refine xgetR d_Ma_exchange_203 gc_Ma f_Ma_14.1 f_Ma_14.2.1 f_Ma_14.2.2.1 (gl_1 hX 1057) (gl_2 hX (a := 1057) (by decide)) (gl_s hX 37 rfl) f_Ma_14.2.2.2.2.1 (gl_f hX 42 rfl) ?_
          refine wp_iload_n d_Ma_exchange_206 rfl rfl ?_
          refine wp_aload_n d_Ma_exchange_207 rfl rfl (g_nz (gl_1 hX 1057)) ?_
          refine xgetR d_Ma_exchange_208 gc_Ma f_Ma_20.1 f_Ma_20.2.1 f_Ma_20.2.2.1 (gl_1 hX 1057) (gl_2 hX (a := 1057) (by decide)) (gl_s hX 37 rfl) f_Ma_20.2.2.2.2.1 (gl_f hX 43 rfl) ?_
          refine wp_iconst d_Ma_exchange_211 ?_
          refine wp_iload d_Ma_exchange_212 rfl ?_
          refine xcV_V (md' := true) (As := [gI x1, gR G (c + 1166), gI 0, gI (x4 + (((M ((c + 1058) + 2) (Int.toNat x1)) - x5) + 0))]) (st := []) d_Ma_exchange_214 ca_Vl_setText ml_Ma_119 im_Vl_setText se_Vl_setText gc_Vl (gl_stk hX).1 (gv_2 (gl_stk hX)) (gl_stk hX).2.2.1 rfl (by decide) (by decide) rfl (fun _ => rfl) (fun _ => rfl) T (fun M31 T => ?_)
          exact wp_return d_Ma_exchange_217 rfl (fun _ => rfl) (Nat.zero_le _) (Nat.zero_le _) (kV_mk T)
      · have T := T.2 h34
        refine wp_aload_n d_Ma_exchange_111 rfl rfl (g_nz (gl_1 hX 1057)) ?_
        refine xgetR d_Ma_exchange_112 gc_Ma f_Ma_14.1 f_Ma_14.2.1 f_Ma_14.2.2.1 (gl_1 hX 1057) (gl_2 hX (a := 1057) (by decide)) (gl_s hX 37 rfl) f_Ma_14.2.2.2.2.1 (gl_f hX 42 rfl) ?_
        refine wp_iload_n d_Ma_exchange_115 rfl rfl ?_
        refine wp_iconst d_Ma_exchange_116 ?_
        refine wp_ldc2 (n := 4) d_Ma_exchange_117 c_Ma_147 rfl ?_
        refine xcV_V (md' := true) (As := [gI x1, gI 4, gL 4]) (st := []) d_Ma_exchange_120 ca_Vl_set ml_Ma_110 im_Vl_set se_Vl_set gc_Vl (gl_stk hX).1 (gv_2 (gl_stk hX)) (gl_stk hX).2.2.1 rfl (by decide) (by decide) rfl (fun _ => rfl) (fun _ => rfl) T (fun M33 T => ?_)
        exact wp_return d_Ma_exchange_123 rfl (fun _ => rfl) (Nat.zero_le _) (Nat.zero_le _) (kV_mk T)
theorem e_Ma_exchange {l : Launch} {G : gG} {d : Nat} {X : gX} {M : gM} {k : gM → Prop} {c : Nat} {x1 : Int} (T : wp l G y_Ma_exchange (gRm (d + 1)) true (kkV X k) false 0 [.val (gR G (c + 1057)), .val (gI x1), .unset, .unset, .unset, .unset, .unset, .unset, .unset, .unset] [] X M 0 0) : cV l G y_Ma_exchange (gRm (d + 1)) true [gR G (c + 1057), gI x1] X M k := cen_V (plainFor_of_name rfl) (by simp only [lg_sl_R, lg_sl_I, lg_sl_L, lg_sl_N, List.length_cons, List.length_nil]; decide) (by unfold gEn; simp only [lg_sl_R, lg_sl_I, lg_sl_L, lg_sl_N]; exact wpt T (And.intro rfl (And.intro rfl True.intro)))
theorem d_Or_arrange_0 : decode prog_7_method_2_code 0 = .ok (.iconst 0, 1) := by decide +kernel
theorem d_Or_arrange_1 : decode prog_7_method_2_code 1 = .ok (.istore_n 3, 1) := by decide +kernel
theorem d_Or_arrange_2 : decode prog_7_method_2_code 2 = .ok (.iload_n 3, 1) := by decide +kernel
theorem d_Or_arrange_3 : decode prog_7_method_2_code 3 = .ok (.aload_n 1, 1) := by decide +kernel
theorem d_Or_arrange_4 : decode prog_7_method_2_code 4 = .ok (.getfield 45, 3) := by decide +kernel
theorem d_Or_arrange_7 : decode prog_7_method_2_code 7 = .ok (.bipush 7, 2) := by decide +kernel
theorem d_Or_arrange_9 : decode prog_7_method_2_code 9 = .ok (.imul, 1) := by decide +kernel
theorem d_Or_arrange_10 : decode prog_7_method_2_code 10 = .ok (.if_icmp .ge 16, 3) := by decide +kernel
theorem d_Or_arrange_26 : decode prog_7_method_2_code 26 = .ok (.iconst 0, 1) := by decide +kernel
theorem d_Or_arrange_27 : decode prog_7_method_2_code 27 = .ok (.istore_n 3, 1) := by decide +kernel
theorem d_Or_arrange_13 : decode prog_7_method_2_code 13 = .ok (.aload_n 0, 1) := by decide +kernel
theorem d_Or_arrange_14 : decode prog_7_method_2_code 14 = .ok (.getfield 11, 3) := by decide +kernel
theorem d_Or_arrange_17 : decode prog_7_method_2_code 17 = .ok (.iload_n 3, 1) := by decide +kernel
theorem d_Or_arrange_18 : decode prog_7_method_2_code 18 = .ok (.lconst 0, 1) := by decide +kernel
theorem d_Or_arrange_19 : decode prog_7_method_2_code 19 = .ok (.lastore, 1) := by decide +kernel
theorem d_Or_arrange_20 : decode prog_7_method_2_code 20 = .ok (.iinc 3 1, 3) := by decide +kernel
theorem d_Or_arrange_23 : decode prog_7_method_2_code 23 = .ok (.goto (-21), 3) := by decide +kernel
theorem d_Or_arrange_28 : decode prog_7_method_2_code 28 = .ok (.iload_n 3, 1) := by decide +kernel
theorem d_Or_arrange_29 : decode prog_7_method_2_code 29 = .ok (.aload_n 1, 1) := by decide +kernel
theorem d_Or_arrange_30 : decode prog_7_method_2_code 30 = .ok (.getfield 45, 3) := by decide +kernel
theorem d_Or_arrange_33 : decode prog_7_method_2_code 33 = .ok (.if_icmp .ge 23, 3) := by decide +kernel
theorem d_Or_arrange_56 : decode prog_7_method_2_code 56 = .ok (.aload_n 0, 1) := by decide +kernel
theorem d_Or_arrange_57 : decode prog_7_method_2_code 57 = .ok (.iconst 0, 1) := by decide +kernel
theorem d_Or_arrange_58 : decode prog_7_method_2_code 58 = .ok (.putfield 55, 3) := by decide +kernel
theorem d_Or_arrange_61 : decode prog_7_method_2_code 61 = .ok (.aload_n 0, 1) := by decide +kernel
theorem d_Or_arrange_62 : decode prog_7_method_2_code 62 = .ok (.iconst 0, 1) := by decide +kernel
theorem d_Or_arrange_63 : decode prog_7_method_2_code 63 = .ok (.putfield 58, 3) := by decide +kernel
theorem d_Or_arrange_66 : decode prog_7_method_2_code 66 = .ok (.iconst 0, 1) := by decide +kernel
theorem d_Or_arrange_67 : decode prog_7_method_2_code 67 = .ok (.istore_n 3, 1) := by decide +kernel
theorem d_Or_arrange_36 : decode prog_7_method_2_code 36 = .ok (.aload_n 0, 1) := by decide +kernel
theorem d_Or_arrange_37 : decode prog_7_method_2_code 37 = .ok (.aload_n 1, 1) := by decide +kernel
theorem d_Or_arrange_38 : decode prog_7_method_2_code 38 = .ok (.aload_n 2, 1) := by decide +kernel
theorem d_Or_arrange_39 : decode prog_7_method_2_code 39 = .ok (.iload_n 3, 1) := by decide +kernel
theorem d_Or_arrange_40 : decode prog_7_method_2_code 40 = .ok (.invokevirtual 51, 3) := by decide +kernel
theorem d_Or_arrange_43 : decode prog_7_method_2_code 43 = .ok (.aload_n 0, 1) := by decide +kernel
theorem d_Or_arrange_44 : decode prog_7_method_2_code 44 = .ok (.getfield 23, 3) := by decide +kernel
theorem d_Or_arrange_47 : decode prog_7_method_2_code 47 = .ok (.iload_n 3, 1) := by decide +kernel
theorem d_Or_arrange_48 : decode prog_7_method_2_code 48 = .ok (.iconst 0, 1) := by decide +kernel
theorem d_Or_arrange_49 : decode prog_7_method_2_code 49 = .ok (.iastore, 1) := by decide +kernel
theorem d_Or_arrange_50 : decode prog_7_method_2_code 50 = .ok (.iinc 3 1, 3) := by decide +kernel
theorem d_Or_arrange_53 : decode prog_7_method_2_code 53 = .ok (.goto (-25), 3) := by decide +kernel
theorem d_Or_arrange_68 : decode prog_7_method_2_code 68 = .ok (.iload_n 3, 1) := by decide +kernel
theorem d_Or_arrange_69 : decode prog_7_method_2_code 69 = .ok (.aload_n 1, 1) := by decide +kernel
theorem d_Or_arrange_70 : decode prog_7_method_2_code 70 = .ok (.getfield 45, 3) := by decide +kernel
theorem d_Or_arrange_73 : decode prog_7_method_2_code 73 = .ok (.if_icmp .ge 23, 3) := by decide +kernel
theorem d_Or_arrange_96 : decode prog_7_method_2_code 96 = .ok (.return_, 1) := by decide +kernel
theorem d_Or_arrange_76 : decode prog_7_method_2_code 76 = .ok (.aload_n 0, 1) := by decide +kernel
theorem d_Or_arrange_77 : decode prog_7_method_2_code 77 = .ok (.getfield 23, 3) := by decide +kernel
theorem d_Or_arrange_80 : decode prog_7_method_2_code 80 = .ok (.iload_n 3, 1) := by decide +kernel
theorem d_Or_arrange_81 : decode prog_7_method_2_code 81 = .ok (.iaload, 1) := by decide +kernel
theorem d_Or_arrange_82 : decode prog_7_method_2_code 82 = .ok (.ifCond .ne 8, 3) := by decide +kernel
theorem d_Or_arrange_90 : decode prog_7_method_2_code 90 = .ok (.iinc 3 1, 3) := by decide +kernel
theorem d_Or_arrange_93 : decode prog_7_method_2_code 93 = .ok (.goto (-25), 3) := by decide +kernel
theorem d_Or_arrange_85 : decode prog_7_method_2_code 85 = .ok (.aload_n 0, 1) := by decide +kernel
theorem d_Or_arrange_86 : decode prog_7_method_2_code 86 = .ok (.iload_n 3, 1) := by decide +kernel
theorem d_Or_arrange_87 : decode prog_7_method_2_code 87 = .ok (.invokevirtual 61, 3) := by decide +kernel
set_option maxHeartbeats 4000000 in
theorem w_Or_arrange_0 {l : Launch} {G : gG} {d : Nat} {X : gX} {M : gM} {k : gM → Prop} {c : Nat} (hX : glX X c) {r1 : Nat} (hr1 : gsX X r1) {r2 n2 : Nat} (hr2 : 1 ≤ r2 ∧ r2 ≤ X.1 ∧ X.2.1 r2 = (0, n2) ∧ n2 ≤ 2147483647)  (T : wp l G y_Or_arrange (gRm (d + 1)) true (kkV X k) true 2 [.val (gR G (c + 1047)), .val (gR G r1), .val (gR G r2), .val (gI 0)] [] X M 0 0) : wp l G y_Or_arrange (gRm (d + 1)) true (kkV X k) false 0 [.val (gR G (c + 1047)), .val (gR G r1), .val (gR G r2), .unset] [] X M 0 0 := by
  refine wp_iconst d_Or_arrange_0 ?_
  refine wp_istore_n (L' := [.val (gR G (c + 1047)), .val (gR G r1), .val (gR G r2), .val (gI 0)]) d_Or_arrange_1 rfl (by decide) (gS1_R rfl rfl) ?_
  exact wp_md (wpt T (And.intro rfl (And.intro rfl (And.intro rfl (And.intro rfl True.intro)))))
set_option maxHeartbeats 4000000 in
theorem w_Or_arrange_2 {l : Launch} {G : gG} {d : Nat} {X : gX} {M : gM} {k : gM → Prop} {c : Nat} (hX : glX X c) {x3 : Int} (hx3 : g32 x3) {r1 : Nat} (hr1 : gsX X r1) {r2 n2 : Nat} (hr2 : 1 ≤ r2 ∧ r2 ≤ X.1 ∧ X.2.1 r2 = (0, n2) ∧ n2 ≤ 2147483647)  (T : g32 (M r1 0) → (((w32 ((M r1 0) * 7)) ≤ x3 → (wp l G y_Or_arrange (gRm (d + 1)) true (kkV X k) true 28 [.val (gR G (c + 1047)), .val (gR G r1), .val (gR G r2), .val (gI 0)] [] X M 0 0)) ∧ (¬ (w32 ((M r1 0) * 7)) ≤ x3 → (((0 : Int) ≤ x3 ∧ x3 < 2800) ∧ (wp l G y_Or_arrange (gRm (d + 1)) true (kkV X k) true 2 [.val (gR G (c + 1047)), .val (gR G r1), .val (gR G r2), .val (gI (w32 (x3 + 1)))] [] X (gUp M (c + 1048) (Int.toNat x3) 0) 0 0))))) : wp l G y_Or_arrange (gRm (d + 1)) true (kkV X k) true 2 [.val (gR G (c + 1047)), .val (gR G r1), .val (gR G r2), .val (gI x3)] [] X M 0 0 := by
  refine wp_iload_n d_Or_arrange_2 rfl rfl ?_
  refine wp_aload_n d_Or_arrange_3 rfl rfl (g_nz hr1.1) ?_
  refine xgetI d_Or_arrange_4 gc_St f_Or_45.1 f_Or_45.2.1 f_Or_45.2.2.1 hr1.1 (gs_2 hr1) hr1.2.2.1 f_Or_45.2.2.2.2.1 (fun h1 => ?_)
  have T := T h1
  refine wp_bipush d_Or_arrange_7 ⟨by decide, by decide⟩ ?_
  refine wp_imul d_Or_arrange_9 ?_
  refine xi_ge (tgt := 26) d_Or_arrange_10 (by decide) (w32_id hx3) rfl (fun h2 => ?_) (fun h2 => ?_)
  · have T := T.1 h2
    refine wp_iconst d_Or_arrange_26 ?_
    refine wp_istore_n (L' := [.val (gR G (c + 1047)), .val (gR G r1), .val (gR G r2), .val (gI 0)]) d_Or_arrange_27 rfl (by decide) (gS1_R rfl rfl) ?_
    exact wp_md (wpt T (And.intro rfl (And.intro rfl (And.intro rfl (And.intro rfl True.intro)))))
  · have T := T.2 h2
    refine wp_aload_n d_Or_arrange_13 rfl rfl (g_nz (gl_1 hX 1047)) ?_
    refine xgetR d_Or_arrange_14 gc_Or f_Or_11.1 f_Or_11.2.1 f_Or_11.2.2.1 (gl_1 hX 1047) (gl_2 hX (a := 1047) (by decide)) (gl_s hX 27 rfl) f_Or_11.2.2.2.2.1 (gl_f hX 31 rfl) ?_
    refine wp_iload_n d_Or_arrange_17 rfl rfl ?_
    refine wp_lconst0 d_Or_arrange_18 ?_
    refine xlast d_Or_arrange_19 (gl_1 hX 1048) (gl_2 hX (a := 1048) (by decide)) (gl_s hX 28 rfl) (by decide) T.1 (w64_id (g64_c (x := 0) rfl)) ?_
    have T := T.2
    refine wp_iinc (L' := [.val (gR G (c + 1047)), .val (gR G r1), .val (gR G r2), .val (gI (x3 + 1))]) d_Or_arrange_20 rfl (by decide) (gS1_R rfl rfl) ?_
    refine wp_goto (tgt := 2) d_Or_arrange_23 (by decide) ?_
    exact wp_md (wpt T (And.intro rfl (And.intro rfl (And.intro rfl (And.intro (gI_w _) True.intro)))))
set_option maxHeartbeats 4000000 in
theorem w_Or_arrange_28 {l : Launch} {G : gG} {d : Nat} {X : gX} {M : gM} {k : gM → Prop} {c : Nat} (hX : glX X c) {x3 : Int} (hx3 : g32 x3) {r1 : Nat} (hr1 : gsX X r1) {r2 n2 : Nat} (hr2 : 1 ≤ r2 ∧ r2 ≤ X.1 ∧ X.2.1 r2 = (0, n2) ∧ n2 ≤ 2147483647)  (T : g32 (M r1 0) → ((M r1 0 ≤ x3 → (wp l G y_Or_arrange (gRm (d + 1)) true (kkV X k) true 68 [.val (gR G (c + 1047)), .val (gR G r1), .unset, .val (gI 0)] [] X (gUp (gUp M (c + 1047) 10 0) (c + 1047) 12 0) 0 0)) ∧ (¬ M r1 0 ≤ x3 → (cV l G y_Or_markReads (gRm d) true [gR G (c + 1047), gR G r1, gR G r2, gI x3] X M (fun M4 => (((0 : Int) ≤ x3 ∧ x3 < 400) ∧ (wp l G y_Or_arrange (gRm (d + 1)) true (kkV X k) true 28 [.val (gR G (c + 1047)), .val (gR G r1), .val (gR G r2), .val (gI (w32 (x3 + 1)))] [] X (gUp M4 (c + 1051) (Int.toNat x3) 0) 0 0))))))) : wp l G y_Or_arrange (gRm (d + 1)) true (kkV X k) true 28 [.val (gR G (c + 1047)), .val (gR G r1), .val (gR G r2), .val (gI x3)] [] X M 0 0 := by
  refine wp_iload_n d_Or_arrange_28 rfl rfl ?_
  refine wp_aload_n d_Or_arrange_29 rfl rfl (g_nz hr1.1) ?_
  refine xgetI d_Or_arrange_30 gc_St f_Or_45.1 f_Or_45.2.1 f_Or_45.2.2.1 hr1.1 (gs_2 hr1) hr1.2.2.1 f_Or_45.2.2.2.2.1 (fun h3 => ?_)
  have T := T h3
  refine xi_ge (tgt := 56) d_Or_arrange_33 (by decide) (w32_id hx3) (w32_id h3) (fun h5 => ?_) (fun h5 => ?_)
  · have T := T.1 h5
    refine wp_aload_n d_Or_arrange_56 rfl rfl (g_nz (gl_1 hX 1047)) ?_
    refine wp_iconst d_Or_arrange_57 ?_
    refine xputI d_Or_arrange_58 gc_Or f_Or_55.1 f_Or_55.2.1 f_Or_55.2.2.1 (gl_1 hX 1047) (gl_2 hX (a := 1047) (by decide)) (gl_s hX 27 rfl) f_Or_55.2.2.2.1 f_Or_55.2.2.2.2.1 f_Or_55.2.2.2.2.2 (w32_id (g32_c (x := 0) rfl)) ?_
    refine wp_aload_n d_Or_arrange_61 rfl rfl (g_nz (gl_1 hX 1047)) ?_
    refine wp_iconst d_Or_arrange_62 ?_
    refine xputI d_Or_arrange_63 gc_Or f_Or_58.1 f_Or_58.2.1 f_Or_58.2.2.1 (gl_1 hX 1047) (gl_2 hX (a := 1047) (by decide)) (gl_s hX 27 rfl) f_Or_58.2.2.2.1 f_Or_58.2.2.2.2.1 f_Or_58.2.2.2.2.2 (w32_id (g32_c (x := 0) rfl)) ?_
    refine wp_iconst d_Or_arrange_66 ?_
    refine wp_istore_n (L' := [.val (gR G (c + 1047)), .val (gR G r1), .val (gR G r2), .val (gI 0)]) d_Or_arrange_67 rfl (by decide) (gS1_R rfl rfl) ?_
    exact wp_md (wpt T (And.intro rfl (And.intro rfl (And.intro rfl True.intro))))
  · have T := T.2 h5
    refine wp_aload_n d_Or_arrange_36 rfl rfl (g_nz (gl_1 hX 1047)) ?_
    refine wp_aload_n d_Or_arrange_37 rfl rfl (g_nz hr1.1) ?_
    refine wp_aload_n d_Or_arrange_38 rfl rfl (g_nz hr2.1) ?_
    refine wp_iload_n d_Or_arrange_39 rfl rfl ?_
    refine xcV_V (md' := true) (As := [gR G r1, gR G r2, gI x3]) (st := []) d_Or_arrange_40 ca_Or_markReads ml_Or_51 im_Or_markReads se_Or_markReads gc_Or (gl_1 hX 1047) (gl_2 hX (a := 1047) (by decide)) (gl_s hX 27 rfl) rfl (by decide) (by decide) rfl (fun _ => rfl) (fun _ => rfl) T (fun M4 T => ?_)
    refine wp_aload_n d_Or_arrange_43 rfl rfl (g_nz (gl_1 hX 1047)) ?_
    refine xgetR d_Or_arrange_44 gc_Or f_Or_23.1 f_Or_23.2.1 f_Or_23.2.2.1 (gl_1 hX 1047) (gl_2 hX (a := 1047) (by decide)) (gl_s hX 27 rfl) f_Or_23.2.2.2.2.1 (gl_f hX 34 rfl) ?_
    refine wp_iload_n d_Or_arrange_47 rfl rfl ?_
    refine wp_iconst d_Or_arrange_48 ?_
    refine xiast d_Or_arrange_49 (gl_1 hX 1051) (gl_2 hX (a := 1051) (by decide)) (gl_s hX 31 rfl) (by decide) T.1 (w32_id (g32_c (x := 0) rfl)) ?_
    have T := T.2
    refine wp_iinc (L' := [.val (gR G (c + 1047)), .val (gR G r1), .val (gR G r2), .val (gI (x3 + 1))]) d_Or_arrange_50 rfl (by decide) (gS1_R rfl rfl) ?_
    refine wp_goto (tgt := 28) d_Or_arrange_53 (by decide) ?_
    exact wp_md (wpt T (And.intro rfl (And.intro rfl (And.intro rfl (And.intro (gI_w _) True.intro)))))
set_option maxHeartbeats 4000000 in
theorem w_Or_arrange_68 {l : Launch} {G : gG} {d : Nat} {X : gX} {M : gM} {k : gM → Prop} {c : Nat} (hX : glX X c) {x3 : Int} (hx3 : g32 x3) {r1 : Nat} (hr1 : gsX X r1)  (T : g32 (M r1 0) → ((M r1 0 ≤ x3 → (k M)) ∧ (¬ M r1 0 ≤ x3 → (((0 : Int) ≤ x3 ∧ x3 < 400) ∧ (g32 (M (c + 1051) (Int.toNat x3)) → ((¬ M (c + 1051) (Int.toNat x3) = 0 → (wp l G y_Or_arrange (gRm (d + 1)) true (kkV X k) true 68 [.val (gR G (c + 1047)), .val (gR G r1), .unset, .val (gI (w32 (x3 + 1)))] [] X M 0 0)) ∧ (M (c + 1051) (Int.toNat x3) = 0 → (cV l G y_Or_search (gRm d) true [gR G (c + 1047), gI x3] X M (fun M8 => (wp l G y_Or_arrange (gRm (d + 1)) true (kkV X k) true 68 [.val (gR G (c + 1047)), .val (gR G r1), .unset, .val (gI (w32 (x3 + 1)))] [] X M8 0 0)))))))))) : wp l G y_Or_arrange (gRm (d + 1)) true (kkV X k) true 68 [.val (gR G (c + 1047)), .val (gR G r1), .unset, .val (gI x3)] [] X M 0 0 := by
  refine wp_iload_n d_Or_arrange_68 rfl rfl ?_
  refine wp_aload_n d_Or_arrange_69 rfl rfl (g_nz hr1.1) ?_
  refine xgetI d_Or_arrange_70 gc_St f_Or_45.1 f_Or_45.2.1 f_Or_45.2.2.1 hr1.1 (gs_2 hr1) hr1.2.2.1 f_Or_45.2.2.2.2.1 (fun h6 => ?_)
  have T := T h6
  refine xi_ge (tgt := 96) d_Or_arrange_73 (by decide) (w32_id hx3) (w32_id h6) (fun h10 => ?_) (fun h10 => ?_)
  · have T := T.1 h10
    exact wp_return d_Or_arrange_96 rfl (fun _ => rfl) (Nat.zero_le _) (Nat.zero_le _) (kV_mk T)
  · have T := T.2 h10
    refine wp_aload_n d_Or_arrange_76 rfl rfl (g_nz (gl_1 hX 1047)) ?_
    refine xgetR d_Or_arrange_77 gc_Or f_Or_23.1 f_Or_23.2.1 f_Or_23.2.2.1 (gl_1 hX 1047) (gl_2 hX (a := 1047) (by decide)) (gl_s hX 27 rfl) f_Or_23.2.2.2.2.1 (gl_f hX 34 rfl) ?_
    refine wp_iload_n d_Or_arrange_80 rfl rfl ?_
    refine wp_iaload d_Or_arrange_81 (gl_1 hX 1051) (gl_2 hX (a := 1051) (by decide)) (gl_s hX 31 rfl) (g32_n T.1 (by decide)) T.1.1 T.1.2 (fun h7 => ?_)
    have T := T.2 h7
    refine xz_ne (tgt := 90) d_Or_arrange_82 (by decide) (w32_id h7) (fun h9 => ?_) (fun h9 => ?_)
    · have T := T.1 h9
      refine wp_iinc (L' := [.val (gR G (c + 1047)), .val (gR G r1), .unset, .val (gI (x3 + 1))]) d_Or_arrange_90 rfl (by decide) rfl ?_
      refine wp_goto (tgt := 68) d_Or_arrange_93 (by decide) ?_
      exact wp_md (wpt T (And.intro rfl (And.intro rfl (And.intro (gI_w _) True.intro))))
    · have T := T.2 h9
      refine wp_aload_n d_Or_arrange_85 rfl rfl (g_nz (gl_1 hX 1047)) ?_
      refine wp_iload_n d_Or_arrange_86 rfl rfl ?_
      refine xcV_V (md' := true) (As := [gI x3]) (st := []) d_Or_arrange_87 ca_Or_search ml_Or_61 im_Or_search se_Or_search gc_Or (gl_1 hX 1047) (gl_2 hX (a := 1047) (by decide)) (gl_s hX 27 rfl) rfl (by decide) (by decide) rfl (fun _ => rfl) (fun _ => rfl) T (fun M8 T => ?_)
      refine wp_iinc (L' := [.val (gR G (c + 1047)), .val (gR G r1), .unset, .val (gI (x3 + 1))]) d_Or_arrange_90 rfl (by decide) rfl ?_
      refine wp_goto (tgt := 68) d_Or_arrange_93 (by decide) ?_
      exact wp_md (wpt T (And.intro rfl (And.intro rfl (And.intro (gI_w _) True.intro))))
theorem e_Or_arrange {l : Launch} {G : gG} {d : Nat} {X : gX} {M : gM} {k : gM → Prop} {c : Nat} {r1 : Nat} {r2 : Nat} (T : wp l G y_Or_arrange (gRm (d + 1)) true (kkV X k) false 0 [.val (gR G (c + 1047)), .val (gR G r1), .val (gR G r2), .unset] [] X M 0 0) : cV l G y_Or_arrange (gRm (d + 1)) true [gR G (c + 1047), gR G r1, gR G r2] X M k := cen_V (plainFor_of_name rfl) (by simp only [lg_sl_R, lg_sl_I, lg_sl_L, lg_sl_N, List.length_cons, List.length_nil]; decide) (by unfold gEn; simp only [lg_sl_R, lg_sl_I, lg_sl_L, lg_sl_N]; exact wpt T (And.intro rfl (And.intro rfl (And.intro rfl True.intro))))
theorem d_Or_markReads_0 : decode prog_7_method_3_code 0 = .ok (.aload_n 0, 1) := by decide +kernel
theorem d_Or_markReads_1 : decode prog_7_method_3_code 1 = .ok (.getfield 41, 3) := by decide +kernel
theorem d_Or_markReads_4 : decode prog_7_method_3_code 4 = .ok (.getfield 65, 3) := by decide +kernel
theorem d_Or_markReads_7 : decode prog_7_method_3_code 7 = .ok (.aload_n 1, 1) := by decide +kernel
theorem d_Or_markReads_8 : decode prog_7_method_3_code 8 = .ok (.getfield 70, 3) := by decide +kernel
theorem d_Or_markReads_11 : decode prog_7_method_3_code 11 = .ok (.iload_n 3, 1) := by decide +kernel
theorem d_Or_markReads_12 : decode prog_7_method_3_code 12 = .ok (.iaload, 1) := by decide +kernel
theorem d_Or_markReads_13 : decode prog_7_method_3_code 13 = .ok (.iaload, 1) := by decide +kernel
theorem d_Or_markReads_14 : decode prog_7_method_3_code 14 = .ok (.aload_n 1, 1) := by decide +kernel
theorem d_Or_markReads_15 : decode prog_7_method_3_code 15 = .ok (.getfield 73, 3) := by decide +kernel
theorem d_Or_markReads_18 : decode prog_7_method_3_code 18 = .ok (.iload_n 3, 1) := by decide +kernel
theorem d_Or_markReads_19 : decode prog_7_method_3_code 19 = .ok (.iaload, 1) := by decide +kernel
theorem d_Or_markReads_20 : decode prog_7_method_3_code 20 = .ok (.isub, 1) := by decide +kernel
theorem d_Or_markReads_21 : decode prog_7_method_3_code 21 = .ok (.istore 4, 2) := by decide +kernel
theorem d_Or_markReads_23 : decode prog_7_method_3_code 23 = .ok (.aload_n 1, 1) := by decide +kernel
theorem d_Or_markReads_24 : decode prog_7_method_3_code 24 = .ok (.getfield 73, 3) := by decide +kernel
theorem d_Or_markReads_27 : decode prog_7_method_3_code 27 = .ok (.iload_n 3, 1) := by decide +kernel
theorem d_Or_markReads_28 : decode prog_7_method_3_code 28 = .ok (.iaload, 1) := by decide +kernel
theorem d_Or_markReads_29 : decode prog_7_method_3_code 29 = .ok (.istore 5, 2) := by decide +kernel
theorem d_Or_markReads_31 : decode prog_7_method_3_code 31 = .ok (.iload 5, 2) := by decide +kernel
theorem d_Or_markReads_33 : decode prog_7_method_3_code 33 = .ok (.aload_n 1, 1) := by decide +kernel
theorem d_Or_markReads_34 : decode prog_7_method_3_code 34 = .ok (.getfield 73, 3) := by decide +kernel
theorem d_Or_markReads_37 : decode prog_7_method_3_code 37 = .ok (.iload_n 3, 1) := by decide +kernel
theorem d_Or_markReads_38 : decode prog_7_method_3_code 38 = .ok (.iconst 1, 1) := by decide +kernel
theorem d_Or_markReads_39 : decode prog_7_method_3_code 39 = .ok (.iadd, 1) := by decide +kernel
theorem d_Or_markReads_40 : decode prog_7_method_3_code 40 = .ok (.iaload, 1) := by decide +kernel
theorem d_Or_markReads_41 : decode prog_7_method_3_code 41 = .ok (.if_icmp .ge 77, 3) := by decide +kernel
theorem d_Or_markReads_118 : decode prog_7_method_3_code 118 = .ok (.return_, 1) := by decide +kernel
theorem d_Or_markReads_44 : decode prog_7_method_3_code 44 = .ok (.aload_n 1, 1) := by decide +kernel
theorem d_Or_markReads_45 : decode prog_7_method_3_code 45 = .ok (.getfield 76, 3) := by decide +kernel
theorem d_Or_markReads_48 : decode prog_7_method_3_code 48 = .ok (.iload 5, 2) := by decide +kernel
theorem d_Or_markReads_50 : decode prog_7_method_3_code 50 = .ok (.iaload, 1) := by decide +kernel
theorem d_Or_markReads_51 : decode prog_7_method_3_code 51 = .ok (.istore 6, 2) := by decide +kernel
theorem d_Or_markReads_53 : decode prog_7_method_3_code 53 = .ok (.iload 6, 2) := by decide +kernel
theorem d_Or_markReads_55 : decode prog_7_method_3_code 55 = .ok (.iconst (-1), 1) := by decide +kernel
theorem d_Or_markReads_56 : decode prog_7_method_3_code 56 = .ok (.if_icmp .eq 41, 3) := by decide +kernel
theorem d_Or_markReads_97 : decode prog_7_method_3_code 97 = .ok (.iload 6, 2) := by decide +kernel
theorem d_Or_markReads_99 : decode prog_7_method_3_code 99 = .ok (.iconst (-1), 1) := by decide +kernel
theorem d_Or_markReads_100 : decode prog_7_method_3_code 100 = .ok (.if_icmp .eq 12, 3) := by decide +kernel
theorem d_Or_markReads_112 : decode prog_7_method_3_code 112 = .ok (.iinc 5 1, 3) := by decide +kernel
theorem d_Or_markReads_115 : decode prog_7_method_3_code 115 = .ok (.goto (-84), 3) := by decide +kernel
theorem d_Or_markReads_103 : decode prog_7_method_3_code 103 = .ok (.aload_n 0, 1) := by decide +kernel
theorem d_Or_markReads_104 : decode prog_7_method_3_code 104 = .ok (.iload_n 3, 1) := by decide +kernel
theorem d_Or_markReads_105 : decode prog_7_method_3_code 105 = .ok (.aload_n 2, 1) := by decide +kernel
theorem d_Or_markReads_106 : decode prog_7_method_3_code 106 = .ok (.iload 6, 2) := by decide +kernel
theorem d_Or_markReads_108 : decode prog_7_method_3_code 108 = .ok (.iaload, 1) := by decide +kernel
theorem d_Or_markReads_109 : decode prog_7_method_3_code 109 = .ok (.invokevirtual 86, 3) := by decide +kernel
theorem d_Or_markReads_59 : decode prog_7_method_3_code 59 = .ok (.aload_n 0, 1) := by decide +kernel
theorem d_Or_markReads_60 : decode prog_7_method_3_code 60 = .ok (.getfield 41, 3) := by decide +kernel
theorem d_Or_markReads_63 : decode prog_7_method_3_code 63 = .ok (.getfield 79, 3) := by decide +kernel
theorem d_Or_markReads_66 : decode prog_7_method_3_code 66 = .ok (.iload 4, 2) := by decide +kernel
theorem d_Or_markReads_68 : decode prog_7_method_3_code 68 = .ok (.iload 5, 2) := by decide +kernel
theorem d_Or_markReads_70 : decode prog_7_method_3_code 70 = .ok (.iadd, 1) := by decide +kernel
theorem d_Or_markReads_71 : decode prog_7_method_3_code 71 = .ok (.iaload, 1) := by decide +kernel
theorem d_Or_markReads_72 : decode prog_7_method_3_code 72 = .ok (.iconst 4, 1) := by decide +kernel
theorem d_Or_markReads_73 : decode prog_7_method_3_code 73 = .ok (.iand, 1) := by decide +kernel
theorem d_Or_markReads_74 : decode prog_7_method_3_code 74 = .ok (.ifCond .eq 23, 3) := by decide +kernel
theorem d_Or_markReads_77 : decode prog_7_method_3_code 77 = .ok (.aload_n 0, 1) := by decide +kernel
theorem d_Or_markReads_78 : decode prog_7_method_3_code 78 = .ok (.iload_n 3, 1) := by decide +kernel
theorem d_Or_markReads_79 : decode prog_7_method_3_code 79 = .ok (.aload_n 2, 1) := by decide +kernel
theorem d_Or_markReads_80 : decode prog_7_method_3_code 80 = .ok (.iload 6, 2) := by decide +kernel
theorem d_Or_markReads_82 : decode prog_7_method_3_code 82 = .ok (.aload_n 1, 1) := by decide +kernel
theorem d_Or_markReads_83 : decode prog_7_method_3_code 83 = .ok (.getfield 76, 3) := by decide +kernel
theorem d_Or_markReads_86 : decode prog_7_method_3_code 86 = .ok (.iload 5, 2) := by decide +kernel
theorem d_Or_markReads_88 : decode prog_7_method_3_code 88 = .ok (.iconst 1, 1) := by decide +kernel
theorem d_Or_markReads_89 : decode prog_7_method_3_code 89 = .ok (.iadd, 1) := by decide +kernel
theorem d_Or_markReads_90 : decode prog_7_method_3_code 90 = .ok (.iaload, 1) := by decide +kernel
theorem d_Or_markReads_91 : decode prog_7_method_3_code 91 = .ok (.invokevirtual 82, 3) := by decide +kernel
theorem d_Or_markReads_94 : decode prog_7_method_3_code 94 = .ok (.goto 18, 3) := by decide +kernel
set_option maxHeartbeats 4000000 in
theorem w_Or_markReads_0 {l : Launch} {G : gG} {d : Nat} {X : gX} {M : gM} {k : gM → Prop} {c : Nat} (hX : glX X c) {r1 : Nat} (hr1 : gsX X r1) {r2 n2 : Nat} (hr2 : 1 ≤ r2 ∧ r2 ≤ X.1 ∧ X.2.1 r2 = (0, n2) ∧ n2 ≤ 2147483647) {x3 : Int} (hx3 : g32 x3)  (T : ((0 : Int) ≤ x3 ∧ x3 < 400) ∧ (g32 (M (r1 + 2) (Int.toNat x3)) → (((0 : Int) ≤ M (r1 + 2) (Int.toNat x3) ∧ M (r1 + 2) (Int.toNat x3) < 513) ∧ (g32 (M (c + 6) (Int.toNat (M (r1 + 2) (Int.toNat x3)))) → (((0 : Int) ≤ x3 ∧ x3 < 401) ∧ (g32 (M (r1 + 3) (Int.toNat x3)) → (((0 : Int) ≤ x3 ∧ x3 < 401) ∧ (g32 (M (r1 + 3) (Int.toNat x3)) → (wp l G y_Or_markReads (gRm (d + 1)) true (kkV X k) true 31 [.val (gR G (c + 1047)), .val (gR G r1), .val (gR G r2), .val (gI x3), .val (gI (w32 ((M (c + 6) (Int.toNat (M (r1 + 2) (Int.toNat x3)))) - (M (r1 + 3) (Int.toNat x3))))), .val (gI (M (r1 + 3) (Int.toNat x3))), .unset] [] X M 0 0))))))))) : wp l G y_Or_markReads (gRm (d + 1)) true (kkV X k) false 0 [.val (gR G (c + 1047)), .val (gR G r1), .val (gR G r2), .val (gI x3), .unset, .unset, .unset] [] X M 0 0 := by
  refine wp_aload_n d_Or_markReads_0 rfl rfl (g_nz (gl_1 hX 1047)) ?_
  refine xgetR d_Or_markReads_1 gc_Or f_Or_41.1 f_Or_41.2.1 f_Or_41.2.2.1 (gl_1 hX 1047) (gl_2 hX (a := 1047) (by decide)) (gl_s hX 27 rfl) f_Or_41.2.2.2.2.1 (gl_f hX 40 rfl) ?_
  refine xgetR d_Or_markReads_4 gc_Cn f_Or_65.1 f_Or_65.2.1 f_Or_65.2.2.1 (gl_1 hX 2) (gl_2 hX (a := 2) (by decide)) (gl_s hX 2 rfl) f_Or_65.2.2.2.2.1 (gl_f hX 5 rfl) ?_
  refine wp_aload_n d_Or_markReads_7 rfl rfl (g_nz hr1.1) ?_
  refine xgetR d_Or_markReads_8 gc_St f_Or_70.1 f_Or_70.2.1 f_Or_70.2.2.1 hr1.1 (gs_2 hr1) hr1.2.2.1 f_Or_70.2.2.2.2.1 (gs_r hr1 1 rfl).1 ?_
  refine wp_iload_n d_Or_markReads_11 rfl rfl ?_
  refine wp_iaload d_Or_markReads_12 (gs_r hr1 1 rfl).2.2.1 (gs_r hr1 1 rfl).2.2.2 (gs_r hr1 1 rfl).2.1 (g32_n T.1 (by decide)) T.1.1 T.1.2 (fun h1 => ?_)
  have T := T.2 h1
  refine wp_iaload d_Or_markReads_13 (gl_1 hX 6) (gl_2 hX (a := 6) (by decide)) (gl_s hX 6 rfl) (g32_n T.1 (by decide)) T.1.1 T.1.2 (fun h2 => ?_)
  have T := T.2 h2
  refine wp_aload_n d_Or_markReads_14 rfl rfl (g_nz hr1.1) ?_
  refine xgetR d_Or_markReads_15 gc_St f_Or_73.1 f_Or_73.2.1 f_Or_73.2.2.1 hr1.1 (gs_2 hr1) hr1.2.2.1 f_Or_73.2.2.2.2.1 (gs_r hr1 2 rfl).1 ?_
  refine wp_iload_n d_Or_markReads_18 rfl rfl ?_
  refine wp_iaload d_Or_markReads_19 (gs_r hr1 2 rfl).2.2.1 (gs_r hr1 2 rfl).2.2.2 (gs_r hr1 2 rfl).2.1 (g32_n T.1 (by decide)) T.1.1 T.1.2 (fun h3 => ?_)
  have T := T.2 h3
  refine wp_isub d_Or_markReads_20 ?_
  refine wp_istore (L' := [.val (gR G (c + 1047)), .val (gR G r1), .val (gR G r2), .val (gI x3), .val (gI ((M (c + 6) (Int.toNat (M (r1 + 2) (Int.toNat x3)))) - (M (r1 + 3) (Int.toNat x3)))), .unset, .unset]) d_Or_markReads_21 (by decide) rfl ?_
  refine wp_aload_n d_Or_markReads_23 rfl rfl (g_nz hr1.1) ?_
  refine xgetR d_Or_markReads_24 gc_St f_Or_73.1 f_Or_73.2.1 f_Or_73.2.2.1 hr1.1 (gs_2 hr1) hr1.2.2.1 f_Or_73.2.2.2.2.1 (gs_r hr1 2 rfl).1 ?_
  refine wp_iload_n d_Or_markReads_27 rfl rfl ?_
  refine wp_iaload d_Or_markReads_28 (gs_r hr1 2 rfl).2.2.1 (gs_r hr1 2 rfl).2.2.2 (gs_r hr1 2 rfl).2.1 (g32_n T.1 (by decide)) T.1.1 T.1.2 (fun h4 => ?_)
  have T := T.2 h4
  refine wp_istore (L' := [.val (gR G (c + 1047)), .val (gR G r1), .val (gR G r2), .val (gI x3), .val (gI ((M (c + 6) (Int.toNat (M (r1 + 2) (Int.toNat x3)))) - (M (r1 + 3) (Int.toNat x3)))), .val (gI (M (r1 + 3) (Int.toNat x3))), .unset]) d_Or_markReads_29 (by decide) rfl ?_
  exact wp_md (wpt T (And.intro rfl (And.intro rfl (And.intro rfl (And.intro rfl (And.intro (gI_w _) (And.intro rfl True.intro)))))))
set_option maxHeartbeats 4000000 in
theorem w_Or_markReads_31 {l : Launch} {G : gG} {d : Nat} {X : gX} {M : gM} {k : gM → Prop} {c : Nat} (hX : glX X c) {x3 : Int} (hx3 : g32 x3) {x4 : Int} (hx4 : g32 x4) {x5 : Int} (hx5 : g32 x5) {r1 : Nat} (hr1 : gsX X r1) {r2 n2 : Nat} (hr2 : 1 ≤ r2 ∧ r2 ≤ X.1 ∧ X.2.1 r2 = (0, n2) ∧ n2 ≤ 2147483647)  (T : ((0 : Int) ≤ x3 + 1 ∧ x3 + 1 < 401) ∧ (g32 (M (r1 + 3) (Int.toNat (x3 + 1))) → ((M (r1 + 3) (Int.toNat (x3 + 1)) ≤ x5 → (k M)) ∧ (¬ M (r1 + 3) (Int.toNat (x3 + 1)) ≤ x5 → (((0 : Int) ≤ x5 ∧ x5 < 20000) ∧ (g32 (M (r1 + 4) (Int.toNat x5)) → ((M (r1 + 4) (Int.toNat x5) = (-1) → ((M (r1 + 4) (Int.toNat x5) = (-1) → (wp l G y_Or_markReads (gRm (d + 1)) true (kkV X k) true 31 [.val (gR G (c + 1047)), .val (gR G r1), .val (gR G r2), .val (gI x3), .val (gI x4), .val (gI (w32 (x5 + 1))), .unset] [] X M 0 0)) ∧ (¬ M (r1 + 4) (Int.toNat x5) = (-1) → (((0 : Int) ≤ M (r1 + 4) (Int.toNat x5) ∧ M (r1 + 4) (Int.toNat x5) < (n2 : Int)) ∧ (g32 (M r2 (Int.toNat (M (r1 + 4) (Int.toNat x5)))) → (cV l G y_Or_mark (gRm d) true [gR G (c + 1047), gI x3, gI (M r2 (Int.toNat (M (r1 + 4) (Int.toNat x5))))] X M (fun M8 => (wp l G y_Or_markReads (gRm (d + 1)) true (kkV X k) true 31 [.val (gR G (c + 1047)), .val (gR G r1), .val (gR G r2), .val (gI x3), .val (gI x4), .val (gI (w32 (x5 + 1))), .unset] [] X M8 0 0)))))))) ∧ (¬ M (r1 + 4) (Int.toNat x5) = (-1) → (((0 : Int) ≤ x4 + x5 ∧ x4 + x5 < 10480) ∧ (g32 (M (c + 12) (Int.toNat (x4 + x5))) → ((gAnd (M (c + 12) (Int.toNat (x4 + x5))) 4 = 0 → ((M (r1 + 4) (Int.toNat x5) = (-1) → (wp l G y_Or_markReads (gRm (d + 1)) true (kkV X k) true 31 [.val (gR G (c + 1047)), .val (gR G r1), .val (gR G r2), .val (gI x3), .val (gI x4), .val (gI (w32 (x5 + 1))), .unset] [] X M 0 0)) ∧ (¬ M (r1 + 4) (Int.toNat x5) = (-1) → (((0 : Int) ≤ M (r1 + 4) (Int.toNat x5) ∧ M (r1 + 4) (Int.toNat x5) < (n2 : Int)) ∧ (g32 (M r2 (Int.toNat (M (r1 + 4) (Int.toNat x5)))) → (cV l G y_Or_mark (gRm d) true [gR G (c + 1047), gI x3, gI (M r2 (Int.toNat (M (r1 + 4) (Int.toNat x5))))] X M (fun M12 => (wp l G y_Or_markReads (gRm (d + 1)) true (kkV X k) true 31 [.val (gR G (c + 1047)), .val (gR G r1), .val (gR G r2), .val (gI x3), .val (gI x4), .val (gI (w32 (x5 + 1))), .unset] [] X M12 0 0)))))))) ∧ (¬ gAnd (M (c + 12) (Int.toNat (x4 + x5))) 4 = 0 → (((0 : Int) ≤ x5 + 1 ∧ x5 + 1 < 20000) ∧ (g32 (M (r1 + 4) (Int.toNat (x5 + 1))) → (cV l G y_Or_markRange (gRm d) true [gR G (c + 1047), gI x3, gR G r2, gI (M (r1 + 4) (Int.toNat x5)), gI (M (r1 + 4) (Int.toNat (x5 + 1)))] X M (fun M15 => (wp l G y_Or_markReads (gRm (d + 1)) true (kkV X k) true 31 [.val (gR G (c + 1047)), .val (gR G r1), .val (gR G r2), .val (gI x3), .val (gI x4), .val (gI (w32 (x5 + 1))), .unset] [] X M15 0 0))))))))))))))))) : wp l G y_Or_markReads (gRm (d + 1)) true (kkV X k) true 31 [.val (gR G (c + 1047)), .val (gR G r1), .val (gR G r2), .val (gI x3), .val (gI x4), .val (gI x5), .unset] [] X M 0 0 := by
  refine wp_iload d_Or_markReads_31 rfl ?_
  refine wp_aload_n d_Or_markReads_33 rfl rfl (g_nz hr1.1) ?_
  refine xgetR d_Or_markReads_34 gc_St f_Or_73.1 f_Or_73.2.1 f_Or_73.2.2.1 hr1.1 (gs_2 hr1) hr1.2.2.1 f_Or_73.2.2.2.2.1 (gs_r hr1 2 rfl).1 ?_
  refine wp_iload_n d_Or_markReads_37 rfl rfl ?_
  refine wp_iconst d_Or_markReads_38 ?_
  refine wp_iadd d_Or_markReads_39 ?_
  refine wp_iaload d_Or_markReads_40 (gs_r hr1 2 rfl).2.2.1 (gs_r hr1 2 rfl).2.2.2 (gs_r hr1 2 rfl).2.1 (g32_n T.1 (by decide)) T.1.1 T.1.2 (fun h5 => ?_)
  have T := T.2 h5
  refine xi_ge (tgt := 118) d_Or_markReads_41 (by decide) (w32_id hx5) (w32_id h5) (fun h18 => ?_) (fun h18 => ?_)
  · have T := T.1 h18
    exact wp_return d_Or_markReads_118 rfl (fun _ => rfl) (Nat.zero_le _) (Nat.zero_le _) (kV_mk T)
  · have T := T.2 h18
    refine wp_aload_n d_Or_markReads_44 rfl rfl (g_nz hr1.1) ?_
    refine xgetR d_Or_markReads_45 gc_St f_Or_76.1 f_Or_76.2.1 f_Or_76.2.2.1 hr1.1 (gs_2 hr1) hr1.2.2.1 f_Or_76.2.2.2.2.1 (gs_r hr1 3 rfl).1 ?_
    refine wp_iload d_Or_markReads_48 rfl ?_
    refine wp_iaload d_Or_markReads_50 (gs_r hr1 3 rfl).2.2.1 (gs_r hr1 3 rfl).2.2.2 (gs_r hr1 3 rfl).2.1 (g32_n T.1 (by decide)) T.1.1 T.1.2 (fun h6 => ?_)
    have T := T.2 h6
    refine wp_istore (L' := [.val (gR G (c + 1047)), .val (gR G r1), .val (gR G r2), .val (gI x3), .val (gI x4), .val (gI x5), .val (gI (M (r1 + 4) (Int.toNat x5)))]) d_Or_markReads_51 (by decide) rfl ?_
    refine wp_iload d_Or_markReads_53 rfl ?_
    refine wp_iconst d_Or_markReads_55 ?_
    refine xi_eq (tgt := 97) d_Or_markReads_56 (by decide) (w32_id h6) (w32_id (g32_c (x := (-1)) rfl)) (fun h17 => ?_) (fun h17 => ?_)
    · have T := T.1 h17
      refine wp_iload d_Or_markReads_97 rfl ?_
      refine wp_iconst d_Or_markReads_99 ?_
      refine xi_eq (tgt := 112) d_Or_markReads_100 (by decide) (w32_id h6) (w32_id (g32_c (x := (-1)) rfl)) (fun h9 => ?_) (fun h9 => ?_)
      · have T := T.1 h9
        refine wp_iinc (L' := [.val (gR G (c + 1047)), .val (gR G r1), .val (gR G r2), .val (gI x3), .val (gI x4), .val (gI (x5 + 1)), .val (gI (M (r1 + 4) (Int.toNat x5)))]) d_Or_markReads_112 rfl (by decide) rfl ?_
        refine wp_goto (tgt := 31) d_Or_markReads_115 (by decide) ?_
        exact wp_md (wpt T (And.intro rfl (And.intro rfl (And.intro rfl (And.intro rfl (And.intro rfl (And.intro (gI_w _) True.intro)))))))
      · have T := T.2 h9
        refine wp_aload_n d_Or_markReads_103 rfl rfl (g_nz (gl_1 hX 1047)) ?_
        refine wp_iload_n d_Or_markReads_104 rfl rfl ?_
        refine wp_aload_n d_Or_markReads_105 rfl rfl (g_nz hr2.1) ?_
        refine wp_iload d_Or_markReads_106 rfl ?_
        refine wp_iaload d_Or_markReads_108 hr2.1 hr2.2.1 hr2.2.2.1 (g32_n T.1 (Nat.le_succ_of_le hr2.2.2.2)) T.1.1 T.1.2 (fun h7 => ?_)
        have T := T.2 h7
        refine xcV_V (md' := true) (As := [gI x3, gI (M r2 (Int.toNat (M (r1 + 4) (Int.toNat x5))))]) (st := []) d_Or_markReads_109 ca_Or_mark ml_Or_86 im_Or_mark se_Or_mark gc_Or (gl_1 hX 1047) (gl_2 hX (a := 1047) (by decide)) (gl_s hX 27 rfl) rfl (by decide) (by decide) rfl (fun _ => rfl) (fun _ => rfl) T (fun M8 T => ?_)
        refine wp_iinc (L' := [.val (gR G (c + 1047)), .val (gR G r1), .val (gR G r2), .val (gI x3), .val (gI x4), .val (gI (x5 + 1)), .val (gI (M (r1 + 4) (Int.toNat x5)))]) d_Or_markReads_112 rfl (by decide) rfl ?_
        refine wp_goto (tgt := 31) d_Or_markReads_115 (by decide) ?_
        exact wp_md (wpt T (And.intro rfl (And.intro rfl (And.intro rfl (And.intro rfl (And.intro rfl (And.intro (gI_w _) True.intro)))))))
    · have T := T.2 h17
      refine wp_aload_n d_Or_markReads_59 rfl rfl (g_nz (gl_1 hX 1047)) ?_
      refine xgetR d_Or_markReads_60 gc_Or f_Or_41.1 f_Or_41.2.1 f_Or_41.2.2.1 (gl_1 hX 1047) (gl_2 hX (a := 1047) (by decide)) (gl_s hX 27 rfl) f_Or_41.2.2.2.2.1 (gl_f hX 40 rfl) ?_
      refine xgetR d_Or_markReads_63 gc_Cn f_Or_79.1 f_Or_79.2.1 f_Or_79.2.2.1 (gl_1 hX 2) (gl_2 hX (a := 2) (by decide)) (gl_s hX 2 rfl) f_Or_79.2.2.2.2.1 (gl_f hX 11 rfl) ?_
      refine wp_iload d_Or_markReads_66 rfl ?_
      refine wp_iload d_Or_markReads_68 rfl ?_
      refine wp_iadd d_Or_markReads_70 ?_
      refine wp_iaload d_Or_markReads_71 (gl_1 hX 12) (gl_2 hX (a := 12) (by decide)) (gl_s hX 12 rfl) (g32_n T.1 (by decide)) T.1.1 T.1.2 (fun h10 => ?_)
      have T := T.2 h10
      refine wp_iconst d_Or_markReads_72 ?_
      refine wp_iand d_Or_markReads_73 ?_
      refine xz_eq (tgt := 97) d_Or_markReads_74 (by decide) (w32_id (gAnd_ok _ _)) (fun h16 => ?_) (fun h16 => ?_)
      · have T := T.1 h16
        refine wp_iload d_Or_markReads_97 rfl ?_
        refine wp_iconst d_Or_markReads_99 ?_
        refine xi_eq (tgt := 112) d_Or_markReads_100 (by decide) (w32_id h6) (w32_id (g32_c (x := (-1)) rfl)) (fun h13 => ?_) (fun h13 => ?_)
        · have T := T.1 h13
          refine wp_iinc (L' := [.val (gR G (c + 1047)), .val (gR G r1), .val (gR G r2), .val (gI x3), .val (gI x4), .val (gI (x5 + 1)), .val (gI (M (r1 + 4) (Int.toNat x5)))]) d_Or_markReads_112 rfl (by decide) rfl ?_
          refine wp_goto (tgt := 31) d_Or_markReads_115 (by decide) ?_
          exact wp_md (wpt T (And.intro rfl (And.intro rfl (And.intro rfl (And.intro rfl (And.intro rfl (And.intro (gI_w _) True.intro)))))))
        · have T := T.2 h13
          refine wp_aload_n d_Or_markReads_103 rfl rfl (g_nz (gl_1 hX 1047)) ?_
          refine wp_iload_n d_Or_markReads_104 rfl rfl ?_
          refine wp_aload_n d_Or_markReads_105 rfl rfl (g_nz hr2.1) ?_
          refine wp_iload d_Or_markReads_106 rfl ?_
          refine wp_iaload d_Or_markReads_108 hr2.1 hr2.2.1 hr2.2.2.1 (g32_n T.1 (Nat.le_succ_of_le hr2.2.2.2)) T.1.1 T.1.2 (fun h11 => ?_)
          have T := T.2 h11
          refine xcV_V (md' := true) (As := [gI x3, gI (M r2 (Int.toNat (M (r1 + 4) (Int.toNat x5))))]) (st := []) d_Or_markReads_109 ca_Or_mark ml_Or_86 im_Or_mark se_Or_mark gc_Or (gl_1 hX 1047) (gl_2 hX (a := 1047) (by decide)) (gl_s hX 27 rfl) rfl (by decide) (by decide) rfl (fun _ => rfl) (fun _ => rfl) T (fun M12 T => ?_)
          refine wp_iinc (L' := [.val (gR G (c + 1047)), .val (gR G r1), .val (gR G r2), .val (gI x3), .val (gI x4), .val (gI (x5 + 1)), .val (gI (M (r1 + 4) (Int.toNat x5)))]) d_Or_markReads_112 rfl (by decide) rfl ?_
          refine wp_goto (tgt := 31) d_Or_markReads_115 (by decide) ?_
          exact wp_md (wpt T (And.intro rfl (And.intro rfl (And.intro rfl (And.intro rfl (And.intro rfl (And.intro (gI_w _) True.intro)))))))
      · have T := T.2 h16
        refine wp_aload_n d_Or_markReads_77 rfl rfl (g_nz (gl_1 hX 1047)) ?_
        refine wp_iload_n d_Or_markReads_78 rfl rfl ?_
        refine wp_aload_n d_Or_markReads_79 rfl rfl (g_nz hr2.1) ?_
        refine wp_iload d_Or_markReads_80 rfl ?_
        refine wp_aload_n d_Or_markReads_82 rfl rfl (g_nz hr1.1) ?_
        refine xgetR d_Or_markReads_83 gc_St f_Or_76.1 f_Or_76.2.1 f_Or_76.2.2.1 hr1.1 (gs_2 hr1) hr1.2.2.1 f_Or_76.2.2.2.2.1 (gs_r hr1 3 rfl).1 ?_
        refine wp_iload d_Or_markReads_86 rfl ?_
        refine wp_iconst d_Or_markReads_88 ?_
        refine wp_iadd d_Or_markReads_89 ?_
        refine wp_iaload d_Or_markReads_90 (gs_r hr1 3 rfl).2.2.1 (gs_r hr1 3 rfl).2.2.2 (gs_r hr1 3 rfl).2.1 (g32_n T.1 (by decide)) T.1.1 T.1.2 (fun h14 => ?_)
        have T := T.2 h14
        refine xcV_V (md' := true) (As := [gI x3, gR G r2, gI (M (r1 + 4) (Int.toNat x5)), gI (M (r1 + 4) (Int.toNat (x5 + 1)))]) (st := []) d_Or_markReads_91 ca_Or_markRange ml_Or_82 im_Or_markRange se_Or_markRange gc_Or (gl_1 hX 1047) (gl_2 hX (a := 1047) (by decide)) (gl_s hX 27 rfl) rfl (by decide) (by decide) rfl (fun _ => rfl) (fun _ => rfl) T (fun M15 T => ?_)
        refine wp_goto (tgt := 112) d_Or_markReads_94 (by decide) ?_
        refine wp_iinc (L' := [.val (gR G (c + 1047)), .val (gR G r1), .val (gR G r2), .val (gI x3), .val (gI x4), .val (gI (x5 + 1)), .val (gI (M (r1 + 4) (Int.toNat x5)))]) d_Or_markReads_112 rfl (by decide) rfl ?_
        refine wp_goto (tgt := 31) d_Or_markReads_115 (by decide) ?_
        exact wp_md (wpt T (And.intro rfl (And.intro rfl (And.intro rfl (And.intro rfl (And.intro rfl (And.intro (gI_w _) True.intro)))))))
theorem e_Or_markReads {l : Launch} {G : gG} {d : Nat} {X : gX} {M : gM} {k : gM → Prop} {c : Nat} {r1 : Nat} {r2 : Nat} {x3 : Int} (T : wp l G y_Or_markReads (gRm (d + 1)) true (kkV X k) false 0 [.val (gR G (c + 1047)), .val (gR G r1), .val (gR G r2), .val (gI x3), .unset, .unset, .unset] [] X M 0 0) : cV l G y_Or_markReads (gRm (d + 1)) true [gR G (c + 1047), gR G r1, gR G r2, gI x3] X M k := cen_V (plainFor_of_name rfl) (by simp only [lg_sl_R, lg_sl_I, lg_sl_L, lg_sl_N, List.length_cons, List.length_nil]; decide) (by unfold gEn; simp only [lg_sl_R, lg_sl_I, lg_sl_L, lg_sl_N]; exact wpt T (And.intro rfl (And.intro rfl (And.intro rfl (And.intro rfl True.intro)))))
theorem d_Or_markRange_0 : decode prog_7_method_4_code 0 = .ok (.iload_n 3, 1) := by decide +kernel
theorem d_Or_markRange_1 : decode prog_7_method_4_code 1 = .ok (.bipush 26, 2) := by decide +kernel
theorem d_Or_markRange_3 : decode prog_7_method_4_code 3 = .ok (.irem, 1) := by decide +kernel
theorem d_Or_markRange_4 : decode prog_7_method_4_code 4 = .ok (.iload 4, 2) := by decide +kernel
theorem d_Or_markRange_6 : decode prog_7_method_4_code 6 = .ok (.bipush 26, 2) := by decide +kernel
theorem d_Or_markRange_8 : decode prog_7_method_4_code 8 = .ok (.irem, 1) := by decide +kernel
theorem d_Or_markRange_9 : decode prog_7_method_4_code 9 = .ok (.invokestatic 90, 3) := by decide +kernel
theorem d_Or_markRange_12 : decode prog_7_method_4_code 12 = .ok (.istore 5, 2) := by decide +kernel
theorem d_Or_markRange_14 : decode prog_7_method_4_code 14 = .ok (.iload_n 3, 1) := by decide +kernel
theorem d_Or_markRange_15 : decode prog_7_method_4_code 15 = .ok (.bipush 26, 2) := by decide +kernel
theorem d_Or_markRange_17 : decode prog_7_method_4_code 17 = .ok (.irem, 1) := by decide +kernel
theorem d_Or_markRange_18 : decode prog_7_method_4_code 18 = .ok (.iload 4, 2) := by decide +kernel
theorem d_Or_markRange_20 : decode prog_7_method_4_code 20 = .ok (.bipush 26, 2) := by decide +kernel
theorem d_Or_markRange_22 : decode prog_7_method_4_code 22 = .ok (.irem, 1) := by decide +kernel
theorem d_Or_markRange_23 : decode prog_7_method_4_code 23 = .ok (.invokestatic 96, 3) := by decide +kernel
theorem d_Or_markRange_26 : decode prog_7_method_4_code 26 = .ok (.istore 6, 2) := by decide +kernel
theorem d_Or_markRange_28 : decode prog_7_method_4_code 28 = .ok (.iload_n 3, 1) := by decide +kernel
theorem d_Or_markRange_29 : decode prog_7_method_4_code 29 = .ok (.bipush 26, 2) := by decide +kernel
theorem d_Or_markRange_31 : decode prog_7_method_4_code 31 = .ok (.idiv, 1) := by decide +kernel
theorem d_Or_markRange_32 : decode prog_7_method_4_code 32 = .ok (.iload 4, 2) := by decide +kernel
theorem d_Or_markRange_34 : decode prog_7_method_4_code 34 = .ok (.bipush 26, 2) := by decide +kernel
theorem d_Or_markRange_36 : decode prog_7_method_4_code 36 = .ok (.idiv, 1) := by decide +kernel
theorem d_Or_markRange_37 : decode prog_7_method_4_code 37 = .ok (.invokestatic 96, 3) := by decide +kernel
theorem d_Or_markRange_40 : decode prog_7_method_4_code 40 = .ok (.istore 7, 2) := by decide +kernel
theorem d_Or_markRange_42 : decode prog_7_method_4_code 42 = .ok (.iload_n 3, 1) := by decide +kernel
theorem d_Or_markRange_43 : decode prog_7_method_4_code 43 = .ok (.bipush 26, 2) := by decide +kernel
theorem d_Or_markRange_45 : decode prog_7_method_4_code 45 = .ok (.idiv, 1) := by decide +kernel
theorem d_Or_markRange_46 : decode prog_7_method_4_code 46 = .ok (.iload 4, 2) := by decide +kernel
theorem d_Or_markRange_48 : decode prog_7_method_4_code 48 = .ok (.bipush 26, 2) := by decide +kernel
theorem d_Or_markRange_50 : decode prog_7_method_4_code 50 = .ok (.idiv, 1) := by decide +kernel
theorem d_Or_markRange_51 : decode prog_7_method_4_code 51 = .ok (.invokestatic 90, 3) := by decide +kernel
theorem d_Or_markRange_54 : decode prog_7_method_4_code 54 = .ok (.istore 8, 2) := by decide +kernel
theorem d_Or_markRange_56 : decode prog_7_method_4_code 56 = .ok (.iload 8, 2) := by decide +kernel
theorem d_Or_markRange_58 : decode prog_7_method_4_code 58 = .ok (.iload 7, 2) := by decide +kernel
theorem d_Or_markRange_60 : decode prog_7_method_4_code 60 = .ok (.if_icmp .gt 40, 3) := by decide +kernel
theorem d_Or_markRange_100 : decode prog_7_method_4_code 100 = .ok (.return_, 1) := by decide +kernel
theorem d_Or_markRange_63 : decode prog_7_method_4_code 63 = .ok (.iload 5, 2) := by decide +kernel
theorem d_Or_markRange_65 : decode prog_7_method_4_code 65 = .ok (.istore 9, 2) := by decide +kernel
theorem d_Or_markRange_67 : decode prog_7_method_4_code 67 = .ok (.iload 9, 2) := by decide +kernel
theorem d_Or_markRange_69 : decode prog_7_method_4_code 69 = .ok (.iload 6, 2) := by decide +kernel
theorem d_Or_markRange_71 : decode prog_7_method_4_code 71 = .ok (.if_icmp .gt 23, 3) := by decide +kernel
theorem d_Or_markRange_94 : decode prog_7_method_4_code 94 = .ok (.iinc 8 1, 3) := by decide +kernel
theorem d_Or_markRange_97 : decode prog_7_method_4_code 97 = .ok (.goto (-41), 3) := by decide +kernel
theorem d_Or_markRange_74 : decode prog_7_method_4_code 74 = .ok (.aload_n 0, 1) := by decide +kernel
theorem d_Or_markRange_75 : decode prog_7_method_4_code 75 = .ok (.iload_n 1, 1) := by decide +kernel
theorem d_Or_markRange_76 : decode prog_7_method_4_code 76 = .ok (.aload_n 2, 1) := by decide +kernel
theorem d_Or_markRange_77 : decode prog_7_method_4_code 77 = .ok (.iload 9, 2) := by decide +kernel
theorem d_Or_markRange_79 : decode prog_7_method_4_code 79 = .ok (.iload 8, 2) := by decide +kernel
theorem d_Or_markRange_81 : decode prog_7_method_4_code 81 = .ok (.invokestatic 99, 3) := by decide +kernel
theorem d_Or_markRange_84 : decode prog_7_method_4_code 84 = .ok (.iaload, 1) := by decide +kernel
theorem d_Or_markRange_85 : decode prog_7_method_4_code 85 = .ok (.invokevirtual 86, 3) := by decide +kernel
theorem d_Or_markRange_88 : decode prog_7_method_4_code 88 = .ok (.iinc 9 1, 3) := by decide +kernel
theorem d_Or_markRange_91 : decode prog_7_method_4_code 91 = .ok (.goto (-24), 3) := by decide +kernel
set_option maxHeartbeats 4000000 in
theorem w_Or_markRange_0 {l : Launch} {G : gG} {d : Nat} {X : gX} {M : gM} {k : gM → Prop} {c : Nat} (hX : glX X c) {x1 : Int} (hx1 : g32 x1) {r2 n2 : Nat} (hr2 : 1 ≤ r2 ∧ r2 ≤ X.1 ∧ X.2.1 r2 = (0, n2) ∧ n2 ≤ 2147483647) {x3 : Int} (hx3 : g32 x3) {x4 : Int} (hx4 : g32 x4)  (T : cI l G y_jMath_min (gRm d) false [gI (x3.tmod 26), gI (x4.tmod 26)] X M (fun v2 M1 => (cI l G y_jMath_max (gRm d) false [gI (x3.tmod 26), gI (x4.tmod 26)] X M1 (fun v5 M4 => (cI l G y_jMath_max (gRm d) false [gI (x3.tdiv 26), gI (x4.tdiv 26)] X M4 (fun v8 M7 => (cI l G y_jMath_min (gRm d) false [gI (x3.tdiv 26), gI (x4.tdiv 26)] X M7 (fun v11 M10 => (wp l G y_Or_markRange (gRm (d + 1)) true (kkV X k) true 56 [.val (gR G (c + 1047)), .val (gI x1), .val (gR G r2), .unset, .unset, .val (gI v2), .val (gI v5), .val (gI v8), .val (gI v11), .unset] [] X M10 0 0))))))))) : wp l G y_Or_markRange (gRm (d + 1)) true (kkV X k) false 0 [.val (gR G (c + 1047)), .val (gI x1), .val (gR G r2), .val (gI x3), .val (gI x4), .unset, .unset, .unset, .unset, .unset] [] X M 0 0 := by
  refine wp_iload_n d_Or_markRange_0 rfl rfl ?_
  refine wp_bipush d_Or_markRange_1 ⟨by decide, by decide⟩ ?_
  refine xirem d_Or_markRange_3 (w32_id hx3) (w32_id (g32_c (x := 26) rfl)) (by decide) ?_
  refine wp_iload d_Or_markRange_4 rfl ?_
  refine wp_bipush d_Or_markRange_6 ⟨by decide, by decide⟩ ?_
  refine xirem d_Or_markRange_8 (w32_id hx4) (w32_id (g32_c (x := 26) rfl)) (by decide) ?_
  refine xcS_I (md' := false) (As := [gI (x3.tmod 26), gI (x4.tmod 26)]) (st := []) d_Or_markRange_9 ca_jMath_min ml_Or_90 sm_jMath_min rfl (by decide) (by decide) rfl id id T (fun v2 M1 h3 T => ?_)
  refine wp_istore (L' := [.val (gR G (c + 1047)), .val (gI x1), .val (gR G r2), .val (gI x3), .val (gI x4), .val (gI v2), .unset, .unset, .unset, .unset]) d_Or_markRange_12 (by decide) rfl ?_
  refine wp_iload_n d_Or_markRange_14 rfl rfl ?_
  refine wp_bipush d_Or_markRange_15 ⟨by decide, by decide⟩ ?_
  refine xirem d_Or_markRange_17 (w32_id hx3) (w32_id (g32_c (x := 26) rfl)) (by decide) ?_
  refine wp_iload d_Or_markRange_18 rfl ?_
  refine wp_bipush d_Or_markRange_20 ⟨by decide, by decide⟩ ?_
  refine xirem d_Or_markRange_22 (w32_id hx4) (w32_id (g32_c (x := 26) rfl)) (by decide) ?_
  refine xcS_I (md' := false) (As := [gI (x3.tmod 26), gI (x4.tmod 26)]) (st := []) d_Or_markRange_23 ca_jMath_max ml_Or_96 sm_jMath_max rfl (by decide) (by decide) rfl id id T (fun v5 M4 h6 T => ?_)
  refine wp_istore (L' := [.val (gR G (c + 1047)), .val (gI x1), .val (gR G r2), .val (gI x3), .val (gI x4), .val (gI v2), .val (gI v5), .unset, .unset, .unset]) d_Or_markRange_26 (by decide) rfl ?_
  refine wp_iload_n d_Or_markRange_28 rfl rfl ?_
  refine wp_bipush d_Or_markRange_29 ⟨by decide, by decide⟩ ?_
  refine xidiv d_Or_markRange_31 (w32_id hx3) (w32_id (g32_c (x := 26) rfl)) (by decide) ?_
  refine wp_iload d_Or_markRange_32 rfl ?_
  refine wp_bipush d_Or_markRange_34 ⟨by decide, by decide⟩ ?_
  refine xidiv d_Or_markRange_36 (w32_id hx4) (w32_id (g32_c (x := 26) rfl)) (by decide) ?_
  refine xcS_I (md' := false) (As := [gI (x3.tdiv 26), gI (x4.tdiv 26)]) (st := []) d_Or_markRange_37 ca_jMath_max ml_Or_96 sm_jMath_max rfl (by decide) (by decide) rfl id id T (fun v8 M7 h9 T => ?_)
  refine wp_istore (L' := [.val (gR G (c + 1047)), .val (gI x1), .val (gR G r2), .val (gI x3), .val (gI x4), .val (gI v2), .val (gI v5), .val (gI v8), .unset, .unset]) d_Or_markRange_40 (by decide) rfl ?_
  refine wp_iload_n d_Or_markRange_42 rfl rfl ?_
  refine wp_bipush d_Or_markRange_43 ⟨by decide, by decide⟩ ?_
  refine xidiv d_Or_markRange_45 (w32_id hx3) (w32_id (g32_c (x := 26) rfl)) (by decide) ?_
  refine wp_iload d_Or_markRange_46 rfl ?_
  refine wp_bipush d_Or_markRange_48 ⟨by decide, by decide⟩ ?_
  refine xidiv d_Or_markRange_50 (w32_id hx4) (w32_id (g32_c (x := 26) rfl)) (by decide) ?_
  refine xcS_I (md' := false) (As := [gI (x3.tdiv 26), gI (x4.tdiv 26)]) (st := []) d_Or_markRange_51 ca_jMath_min ml_Or_90 sm_jMath_min rfl (by decide) (by decide) rfl id id T (fun v11 M10 h12 T => ?_)
  refine wp_istore (L' := [.val (gR G (c + 1047)), .val (gI x1), .val (gR G r2), .val (gI x3), .val (gI x4), .val (gI v2), .val (gI v5), .val (gI v8), .val (gI v11), .unset]) d_Or_markRange_54 (by decide) rfl ?_
  exact wp_md (wpt T (And.intro rfl (And.intro rfl (And.intro rfl (And.intro rfl (And.intro rfl (And.intro rfl (And.intro rfl True.intro))))))))
set_option maxHeartbeats 4000000 in
theorem w_Or_markRange_56 {l : Launch} {G : gG} {d : Nat} {X : gX} {M : gM} {k : gM → Prop} {c : Nat} (hX : glX X c) {x1 : Int} (hx1 : g32 x1) {x5 : Int} (hx5 : g32 x5) {x6 : Int} (hx6 : g32 x6) {x7 : Int} (hx7 : g32 x7) {x8 : Int} (hx8 : g32 x8) {r2 n2 : Nat} (hr2 : 1 ≤ r2 ∧ r2 ≤ X.1 ∧ X.2.1 r2 = (0, n2) ∧ n2 ≤ 2147483647)  (T : (x7 < x8 → (k M)) ∧ (¬ x7 < x8 → (wp l G y_Or_markRange (gRm (d + 1)) true (kkV X k) true 67 [.val (gR G (c + 1047)), .val (gI x1), .val (gR G r2), .unset, .unset, .val (gI x5), .val (gI x6), .val (gI x7), .val (gI x8), .val (gI x5)] [] X M 0 0))) : wp l G y_Or_markRange (gRm (d + 1)) true (kkV X k) true 56 [.val (gR G (c + 1047)), .val (gI x1), .val (gR G r2), .unset, .unset, .val (gI x5), .val (gI x6), .val (gI x7), .val (gI x8), .unset] [] X M 0 0 := by
  refine wp_iload d_Or_markRange_56 rfl ?_
  refine wp_iload d_Or_markRange_58 rfl ?_
  refine xi_gt (tgt := 100) d_Or_markRange_60 (by decide) (w32_id hx8) (w32_id hx7) (fun h13 => ?_) (fun h13 => ?_)
  · have T := T.1 h13
    exact wp_return d_Or_markRange_100 rfl (fun _ => rfl) (Nat.zero_le _) (Nat.zero_le _) (kV_mk T)
  · have T := T.2 h13
    refine wp_iload d_Or_markRange_63 rfl ?_
    refine wp_istore (L' := [.val (gR G (c + 1047)), .val (gI x1), .val (gR G r2), .unset, .unset, .val (gI x5), .val (gI x6), .val (gI x7), .val (gI x8), .val (gI x5)]) d_Or_markRange_65 (by decide) rfl ?_
    exact wp_md (wpt T (And.intro rfl (And.intro rfl (And.intro rfl (And.intro rfl (And.intro rfl (And.intro rfl (And.intro rfl (And.intro rfl True.intro)))))))))
set_option maxHeartbeats 4000000 in
theorem w_Or_markRange_67 {l : Launch} {G : gG} {d : Nat} {X : gX} {M : gM} {k : gM → Prop} {c : Nat} (hX : glX X c) {x1 : Int} (hx1 : g32 x1) {x5 : Int} (hx5 : g32 x5) {x6 : Int} (hx6 : g32 x6) {x7 : Int} (hx7 : g32 x7) {x8 : Int} (hx8 : g32 x8) {x9 : Int} (hx9 : g32 x9) {r2 n2 : Nat} (hr2 : 1 ≤ r2 ∧ r2 ≤ X.1 ∧ X.2.1 r2 = (0, n2) ∧ n2 ≤ 2147483647)  (T : (x6 < x9 → (wp l G y_Or_markRange (gRm (d + 1)) true (kkV X k) true 56 [.val (gR G (c + 1047)), .val (gI x1), .val (gR G r2), .unset, .unset, .val (gI x5), .val (gI x6), .val (gI x7), .val (gI (w32 (x8 + 1))), .unset] [] X M 0 0)) ∧ (¬ x6 < x9 → (cI l G y_GL_place (gRm d) false [gI x9, gI x8] X M (fun v15 M14 => (((0 : Int) ≤ v15 ∧ v15 < (n2 : Int)) ∧ (g32 (M14 r2 (Int.toNat v15)) → (cV l G y_Or_mark (gRm d) true [gR G (c + 1047), gI x1, gI (M14 r2 (Int.toNat v15))] X M14 (fun M18 => (wp l G y_Or_markRange (gRm (d + 1)) true (kkV X k) true 67 [.val (gR G (c + 1047)), .val (gI x1), .val (gR G r2), .unset, .unset, .val (gI x5), .val (gI x6), .val (gI x7), .val (gI x8), .val (gI (w32 (x9 + 1)))] [] X M18 0 0))))))))) : wp l G y_Or_markRange (gRm (d + 1)) true (kkV X k) true 67 [.val (gR G (c + 1047)), .val (gI x1), .val (gR G r2), .unset, .unset, .val (gI x5), .val (gI x6), .val (gI x7), .val (gI x8), .val (gI x9)] [] X M 0 0 := by
  refine wp_iload d_Or_markRange_67 rfl ?_
  refine wp_iload d_Or_markRange_69 rfl ?_
  refine xi_gt (tgt := 94) d_Or_markRange_71 (by decide) (w32_id hx9) (w32_id hx6) (fun h19 => ?_) (fun h19 => ?_)
  · have T := T.1 h19
    refine wp_iinc (L' := [.val (gR G (c + 1047)), .val (gI x1), .val (gR G r2), .unset, .unset, .val (gI x5), .val (gI x6), .val (gI x7), .val (gI (x8 + 1)), .val (gI x9)]) d_Or_markRange_94 rfl (by decide) rfl ?_
    refine wp_goto (tgt := 56) d_Or_markRange_97 (by decide) ?_
    exact wp_md (wpt T (And.intro rfl (And.intro rfl (And.intro rfl (And.intro rfl (And.intro rfl (And.intro rfl (And.intro (gI_w _) True.intro))))))))
  · have T := T.2 h19
    refine wp_aload_n d_Or_markRange_74 rfl rfl (g_nz (gl_1 hX 1047)) ?_
    refine wp_iload_n d_Or_markRange_75 rfl rfl ?_
    refine wp_aload_n d_Or_markRange_76 rfl rfl (g_nz hr2.1) ?_
    refine wp_iload d_Or_markRange_77 rfl ?_
    refine wp_iload d_Or_markRange_79 rfl ?_
    refine xcN_I (md' := true) (As := [gI x9, gI x8]) (st := [gR G r2, gI x1, gR G (c + 1047)]) d_Or_markRange_81 ca_GL_place ml_Or_99 sm_GL_place rfl (by decide) (by simp only [List.map, gR_cat, gI_cat, gL_cat, List.sum_cons, List.sum_nil]; decide) rfl (fun _ => rfl) (fun _ => rfl) T (fun v15 M14 h16 T => ?_)
    refine wp_iaload d_Or_markRange_84 hr2.1 hr2.2.1 hr2.2.2.1 (g32_n T.1 (Nat.le_succ_of_le hr2.2.2.2)) T.1.1 T.1.2 (fun h17 => ?_)
    have T := T.2 h17
    refine xcV_V (md' := true) (As := [gI x1, gI (M14 r2 (Int.toNat v15))]) (st := []) d_Or_markRange_85 ca_Or_mark ml_Or_86 im_Or_mark se_Or_mark gc_Or (gl_1 hX 1047) (gl_2 hX (a := 1047) (by decide)) (gl_s hX 27 rfl) rfl (by decide) (by decide) rfl (fun _ => rfl) (fun _ => rfl) T (fun M18 T => ?_)
    refine wp_iinc (L' := [.val (gR G (c + 1047)), .val (gI x1), .val (gR G r2), .unset, .unset, .val (gI x5), .val (gI x6), .val (gI x7), .val (gI x8), .val (gI (x9 + 1))]) d_Or_markRange_88 rfl (by decide) rfl ?_
    refine wp_goto (tgt := 67) d_Or_markRange_91 (by decide) ?_
    exact wp_md (wpt T (And.intro rfl (And.intro rfl (And.intro rfl (And.intro rfl (And.intro rfl (And.intro rfl (And.intro rfl (And.intro (gI_w _) True.intro)))))))))
theorem e_Or_markRange {l : Launch} {G : gG} {d : Nat} {X : gX} {M : gM} {k : gM → Prop} {c : Nat} {x1 : Int} {r2 : Nat} {x3 : Int} {x4 : Int} (T : wp l G y_Or_markRange (gRm (d + 1)) true (kkV X k) false 0 [.val (gR G (c + 1047)), .val (gI x1), .val (gR G r2), .val (gI x3), .val (gI x4), .unset, .unset, .unset, .unset, .unset] [] X M 0 0) : cV l G y_Or_markRange (gRm (d + 1)) true [gR G (c + 1047), gI x1, gR G r2, gI x3, gI x4] X M k := cen_V (plainFor_of_name rfl) (by simp only [lg_sl_R, lg_sl_I, lg_sl_L, lg_sl_N, List.length_cons, List.length_nil]; decide) (by unfold gEn; simp only [lg_sl_R, lg_sl_I, lg_sl_L, lg_sl_N]; exact wpt T (And.intro rfl (And.intro rfl (And.intro rfl (And.intro rfl (And.intro rfl True.intro))))))
theorem d_Or_mark_0 : decode prog_7_method_5_code 0 = .ok (.iload_n 2, 1) := by decide +kernel
theorem d_Or_mark_1 : decode prog_7_method_5_code 1 = .ok (.sipush 400, 3) := by decide +kernel
theorem d_Or_mark_4 : decode prog_7_method_5_code 4 = .ok (.if_icmp .eq 26, 3) := by decide +kernel
theorem d_Or_mark_30 : decode prog_7_method_5_code 30 = .ok (.return_, 1) := by decide +kernel
theorem d_Or_mark_7 : decode prog_7_method_5_code 7 = .ok (.aload_n 0, 1) := by decide +kernel
theorem d_Or_mark_8 : decode prog_7_method_5_code 8 = .ok (.getfield 11, 3) := by decide +kernel
theorem d_Or_mark_11 : decode prog_7_method_5_code 11 = .ok (.iload_n 1, 1) := by decide +kernel
theorem d_Or_mark_12 : decode prog_7_method_5_code 12 = .ok (.bipush 7, 2) := by decide +kernel
theorem d_Or_mark_14 : decode prog_7_method_5_code 14 = .ok (.imul, 1) := by decide +kernel
theorem d_Or_mark_15 : decode prog_7_method_5_code 15 = .ok (.iload_n 2, 1) := by decide +kernel
theorem d_Or_mark_16 : decode prog_7_method_5_code 16 = .ok (.bipush 6, 2) := by decide +kernel
theorem d_Or_mark_18 : decode prog_7_method_5_code 18 = .ok (.ishr, 1) := by decide +kernel
theorem d_Or_mark_19 : decode prog_7_method_5_code 19 = .ok (.iadd, 1) := by decide +kernel
theorem d_Or_mark_20 : decode prog_7_method_5_code 20 = .ok (.dup2, 1) := by decide +kernel
theorem d_Or_mark_21 : decode prog_7_method_5_code 21 = .ok (.laload, 1) := by decide +kernel
theorem d_Or_mark_22 : decode prog_7_method_5_code 22 = .ok (.lconst 1, 1) := by decide +kernel
theorem d_Or_mark_23 : decode prog_7_method_5_code 23 = .ok (.iload_n 2, 1) := by decide +kernel
theorem d_Or_mark_24 : decode prog_7_method_5_code 24 = .ok (.bipush 63, 2) := by decide +kernel
theorem d_Or_mark_26 : decode prog_7_method_5_code 26 = .ok (.iand, 1) := by decide +kernel
theorem d_Or_mark_27 : decode prog_7_method_5_code 27 = .ok (.lshl, 1) := by decide +kernel
theorem d_Or_mark_28 : decode prog_7_method_5_code 28 = .ok (.lor, 1) := by decide +kernel
theorem d_Or_mark_29 : decode prog_7_method_5_code 29 = .ok (.lastore, 1) := by decide +kernel
set_option maxHeartbeats 4000000 in
theorem w_Or_mark_0 {l : Launch} {G : gG} {d : Nat} {X : gX} {M : gM} {k : gM → Prop} {c : Nat} (hX : glX X c) {x1 : Int} (hx1 : g32 x1) {x2 : Int} (hx2 : g32 x2)  (T : (x2 = 400 → (k M)) ∧ (¬ x2 = 400 → (((0 : Int) ≤ (x1 * 7) + (gShr x2 6) ∧ (x1 * 7) + (gShr x2 6) < 2800) ∧ (g64 (M (c + 1048) (Int.toNat ((x1 * 7) + (gShr x2 6)))) → (((0 : Int) ≤ (x1 * 7) + (gShr x2 6) ∧ (x1 * 7) + (gShr x2 6) < 2800) ∧ (k (gUp M (c + 1048) (Int.toNat ((x1 * 7) + (gShr x2 6))) (gLor (M (c + 1048) (Int.toNat ((x1 * 7) + (gShr x2 6)))) (gLshl 1 (gAnd x2 63)))))))))) : wp l G y_Or_mark (gRm d) true (kkV X k) false 0 [.val (gR G (c + 1047)), .val (gI x1), .val (gI x2)] [] X M 0 0 := by
  refine wp_iload_n d_Or_mark_0 rfl rfl ?_
  refine wp_sipush d_Or_mark_1 ⟨by decide, by decide⟩ ?_
  refine xi_eq (tgt := 30) d_Or_mark_4 (by decide) (w32_id hx2) (w32_id (g32_c (x := 400) rfl)) (fun h2 => ?_) (fun h2 => ?_)
  · have T := T.1 h2
    exact wp_return d_Or_mark_30 rfl (fun _ => rfl) (Nat.zero_le _) (Nat.zero_le _) (kV_mk T)
  · have T := T.2 h2
    refine wp_aload_n d_Or_mark_7 rfl rfl (g_nz (gl_1 hX 1047)) ?_
    refine xgetR d_Or_mark_8 gc_Or f_Or_11.1 f_Or_11.2.1 f_Or_11.2.2.1 (gl_1 hX 1047) (gl_2 hX (a := 1047) (by decide)) (gl_s hX 27 rfl) f_Or_11.2.2.2.2.1 (gl_f hX 31 rfl) ?_
    refine wp_iload_n d_Or_mark_11 rfl rfl ?_
    refine wp_bipush d_Or_mark_12 ⟨by decide, by decide⟩ ?_
    refine wp_imul d_Or_mark_14 ?_
    refine wp_iload_n d_Or_mark_15 rfl rfl ?_
    refine wp_bipush d_Or_mark_16 ⟨by decide, by decide⟩ ?_
    refine wp_ishr d_Or_mark_18 ?_
    refine wp_iadd d_Or_mark_19 ?_
    refine wp_dup2 d_Or_mark_20 (gI_cat _) (gR_cat _) ?_
    refine wp_laload d_Or_mark_21 (gl_1 hX 1048) (gl_2 hX (a := 1048) (by decide)) (gl_s hX 28 rfl) (g32_n T.1 (by decide)) T.1.1 T.1.2 (fun h1 => ?_)
    have T := T.2 h1
    refine wp_lconst1 d_Or_mark_22 ?_
    refine wp_iload_n d_Or_mark_23 rfl rfl ?_
    refine wp_bipush d_Or_mark_24 ⟨by decide, by decide⟩ ?_
    refine wp_iand d_Or_mark_26 ?_
    refine wp_lshl d_Or_mark_27 ?_
    refine wp_lor d_Or_mark_28 ?_
    refine xlast d_Or_mark_29 (gl_1 hX 1048) (gl_2 hX (a := 1048) (by decide)) (gl_s hX 28 rfl) (by decide) T.1 (w64_id (gLor_ok _ _)) ?_
    have T := T.2
    exact wp_return d_Or_mark_30 rfl (fun _ => rfl) (Nat.zero_le _) (Nat.zero_le _) (kV_mk T)
theorem e_Or_mark {l : Launch} {G : gG} {d : Nat} {X : gX} {M : gM} {k : gM → Prop} {c : Nat} {x1 : Int} {x2 : Int} (T : wp l G y_Or_mark (gRm d) true (kkV X k) false 0 [.val (gR G (c + 1047)), .val (gI x1), .val (gI x2)] [] X M 0 0) : cV l G y_Or_mark (gRm d) true [gR G (c + 1047), gI x1, gI x2] X M k := cen_V (plainFor_of_name rfl) (by simp only [lg_sl_R, lg_sl_I, lg_sl_L, lg_sl_N, List.length_cons, List.length_nil]; decide) (by unfold gEn; simp only [lg_sl_R, lg_sl_I, lg_sl_L, lg_sl_N]; exact wpt T (And.intro rfl (And.intro rfl (And.intro rfl True.intro))))
theorem d_Or_search_0 : decode prog_7_method_6_code 0 = .ok (.iconst 1, 1) := by decide +kernel
theorem d_Or_search_1 : decode prog_7_method_6_code 1 = .ok (.istore_n 2, 1) := by decide +kernel
theorem d_Or_search_2 : decode prog_7_method_6_code 2 = .ok (.aload_n 0, 1) := by decide +kernel
theorem d_Or_search_3 : decode prog_7_method_6_code 3 = .ok (.getfield 35, 3) := by decide +kernel
theorem d_Or_search_6 : decode prog_7_method_6_code 6 = .ok (.iconst 0, 1) := by decide +kernel
theorem d_Or_search_7 : decode prog_7_method_6_code 7 = .ok (.iload_n 1, 1) := by decide +kernel
theorem d_Or_search_8 : decode prog_7_method_6_code 8 = .ok (.iastore, 1) := by decide +kernel
theorem d_Or_search_9 : decode prog_7_method_6_code 9 = .ok (.aload_n 0, 1) := by decide +kernel
theorem d_Or_search_10 : decode prog_7_method_6_code 10 = .ok (.iload_n 1, 1) := by decide +kernel
theorem d_Or_search_11 : decode prog_7_method_6_code 11 = .ok (.invokevirtual 102, 3) := by decide +kernel
theorem d_Or_search_14 : decode prog_7_method_6_code 14 = .ok (.ldc 105, 2) := by decide +kernel
theorem d_Or_search_16 : decode prog_7_method_6_code 16 = .ok (.istore_n 3, 1) := by decide +kernel
theorem d_Or_search_17 : decode prog_7_method_6_code 17 = .ok (.iload_n 3, 1) := by decide +kernel
theorem d_Or_search_18 : decode prog_7_method_6_code 18 = .ok (.ifCond .le 127, 3) := by decide +kernel
theorem d_Or_search_145 : decode prog_7_method_6_code 145 = .ok (.return_, 1) := by decide +kernel
theorem d_Or_search_21 : decode prog_7_method_6_code 21 = .ok (.iload_n 2, 1) := by decide +kernel
theorem d_Or_search_22 : decode prog_7_method_6_code 22 = .ok (.ifCond .le 123, 3) := by decide +kernel
theorem d_Or_search_25 : decode prog_7_method_6_code 25 = .ok (.aload_n 0, 1) := by decide +kernel
theorem d_Or_search_26 : decode prog_7_method_6_code 26 = .ok (.getfield 35, 3) := by decide +kernel
theorem d_Or_search_29 : decode prog_7_method_6_code 29 = .ok (.iload_n 2, 1) := by decide +kernel
theorem d_Or_search_30 : decode prog_7_method_6_code 30 = .ok (.iconst 1, 1) := by decide +kernel
theorem d_Or_search_31 : decode prog_7_method_6_code 31 = .ok (.isub, 1) := by decide +kernel
theorem d_Or_search_32 : decode prog_7_method_6_code 32 = .ok (.iaload, 1) := by decide +kernel
theorem d_Or_search_33 : decode prog_7_method_6_code 33 = .ok (.istore 4, 2) := by decide +kernel
theorem d_Or_search_35 : decode prog_7_method_6_code 35 = .ok (.aload_n 0, 1) := by decide +kernel
theorem d_Or_search_36 : decode prog_7_method_6_code 36 = .ok (.iload 4, 2) := by decide +kernel
theorem d_Or_search_38 : decode prog_7_method_6_code 38 = .ok (.invokevirtual 106, 3) := by decide +kernel
theorem d_Or_search_41 : decode prog_7_method_6_code 41 = .ok (.istore 5, 2) := by decide +kernel
theorem d_Or_search_43 : decode prog_7_method_6_code 43 = .ok (.iload 5, 2) := by decide +kernel
theorem d_Or_search_45 : decode prog_7_method_6_code 45 = .ok (.sipush 400, 3) := by decide +kernel
theorem d_Or_search_48 : decode prog_7_method_6_code 48 = .ok (.if_icmp .ne 38, 3) := by decide +kernel
theorem d_Or_search_86 : decode prog_7_method_6_code 86 = .ok (.aload_n 0, 1) := by decide +kernel
theorem d_Or_search_87 : decode prog_7_method_6_code 87 = .ok (.getfield 23, 3) := by decide +kernel
theorem d_Or_search_90 : decode prog_7_method_6_code 90 = .ok (.iload 5, 2) := by decide +kernel
theorem d_Or_search_92 : decode prog_7_method_6_code 92 = .ok (.iaload, 1) := by decide +kernel
theorem d_Or_search_93 : decode prog_7_method_6_code 93 = .ok (.ifCond .ne 23, 3) := by decide +kernel
theorem d_Or_search_116 : decode prog_7_method_6_code 116 = .ok (.aload_n 0, 1) := by decide +kernel
theorem d_Or_search_117 : decode prog_7_method_6_code 117 = .ok (.getfield 32, 3) := by decide +kernel
theorem d_Or_search_120 : decode prog_7_method_6_code 120 = .ok (.iload 5, 2) := by decide +kernel
theorem d_Or_search_122 : decode prog_7_method_6_code 122 = .ok (.baload, 1) := by decide +kernel
theorem d_Or_search_123 : decode prog_7_method_6_code 123 = .ok (.ifCond .eq 16, 3) := by decide +kernel
theorem d_Or_search_139 : decode prog_7_method_6_code 139 = .ok (.iinc 3 (-1), 3) := by decide +kernel
theorem d_Or_search_142 : decode prog_7_method_6_code 142 = .ok (.goto (-125), 3) := by decide +kernel
theorem d_Or_search_126 : decode prog_7_method_6_code 126 = .ok (.aload_n 0, 1) := by decide +kernel
theorem d_Or_search_127 : decode prog_7_method_6_code 127 = .ok (.iload 4, 2) := by decide +kernel
theorem d_Or_search_129 : decode prog_7_method_6_code 129 = .ok (.aload_n 0, 1) := by decide +kernel
theorem d_Or_search_130 : decode prog_7_method_6_code 130 = .ok (.getfield 23, 3) := by decide +kernel
theorem d_Or_search_133 : decode prog_7_method_6_code 133 = .ok (.iload 5, 2) := by decide +kernel
theorem d_Or_search_135 : decode prog_7_method_6_code 135 = .ok (.iaload, 1) := by decide +kernel
theorem d_Or_search_136 : decode prog_7_method_6_code 136 = .ok (.invokevirtual 113, 3) := by decide +kernel
theorem d_Or_search_96 : decode prog_7_method_6_code 96 = .ok (.aload_n 0, 1) := by decide +kernel
theorem d_Or_search_97 : decode prog_7_method_6_code 97 = .ok (.iload 5, 2) := by decide +kernel
theorem d_Or_search_99 : decode prog_7_method_6_code 99 = .ok (.invokevirtual 102, 3) := by decide +kernel
theorem d_Or_search_102 : decode prog_7_method_6_code 102 = .ok (.aload_n 0, 1) := by decide +kernel
theorem d_Or_search_103 : decode prog_7_method_6_code 103 = .ok (.getfield 35, 3) := by decide +kernel
theorem d_Or_search_106 : decode prog_7_method_6_code 106 = .ok (.iload_n 2, 1) := by decide +kernel
theorem d_Or_search_107 : decode prog_7_method_6_code 107 = .ok (.iload 5, 2) := by decide +kernel
theorem d_Or_search_109 : decode prog_7_method_6_code 109 = .ok (.iastore, 1) := by decide +kernel
theorem d_Or_search_110 : decode prog_7_method_6_code 110 = .ok (.iinc 2 1, 3) := by decide +kernel
theorem d_Or_search_113 : decode prog_7_method_6_code 113 = .ok (.goto 26, 3) := by decide +kernel
theorem d_Or_search_51 : decode prog_7_method_6_code 51 = .ok (.aload_n 0, 1) := by decide +kernel
theorem d_Or_search_52 : decode prog_7_method_6_code 52 = .ok (.iload 4, 2) := by decide +kernel
theorem d_Or_search_54 : decode prog_7_method_6_code 54 = .ok (.invokevirtual 110, 3) := by decide +kernel
theorem d_Or_search_57 : decode prog_7_method_6_code 57 = .ok (.iinc 2 (-1), 3) := by decide +kernel
theorem d_Or_search_60 : decode prog_7_method_6_code 60 = .ok (.iload_n 2, 1) := by decide +kernel
theorem d_Or_search_61 : decode prog_7_method_6_code 61 = .ok (.ifCond .le 78, 3) := by decide +kernel
theorem d_Or_search_64 : decode prog_7_method_6_code 64 = .ok (.aload_n 0, 1) := by decide +kernel
theorem d_Or_search_65 : decode prog_7_method_6_code 65 = .ok (.aload_n 0, 1) := by decide +kernel
theorem d_Or_search_66 : decode prog_7_method_6_code 66 = .ok (.getfield 35, 3) := by decide +kernel
theorem d_Or_search_69 : decode prog_7_method_6_code 69 = .ok (.iload_n 2, 1) := by decide +kernel
theorem d_Or_search_70 : decode prog_7_method_6_code 70 = .ok (.iconst 1, 1) := by decide +kernel
theorem d_Or_search_71 : decode prog_7_method_6_code 71 = .ok (.isub, 1) := by decide +kernel
theorem d_Or_search_72 : decode prog_7_method_6_code 72 = .ok (.iaload, 1) := by decide +kernel
theorem d_Or_search_73 : decode prog_7_method_6_code 73 = .ok (.aload_n 0, 1) := by decide +kernel
theorem d_Or_search_74 : decode prog_7_method_6_code 74 = .ok (.getfield 26, 3) := by decide +kernel
theorem d_Or_search_77 : decode prog_7_method_6_code 77 = .ok (.iload 4, 2) := by decide +kernel
theorem d_Or_search_79 : decode prog_7_method_6_code 79 = .ok (.iaload, 1) := by decide +kernel
theorem d_Or_search_80 : decode prog_7_method_6_code 80 = .ok (.invokevirtual 113, 3) := by decide +kernel
theorem d_Or_search_83 : decode prog_7_method_6_code 83 = .ok (.goto 56, 3) := by decide +kernel
set_option maxHeartbeats 4000000 in
theorem w_Or_search_0 {l : Launch} {G : gG} {d : Nat} {X : gX} {M : gM} {k : gM → Prop} {c : Nat} (hX : glX X c) {x1 : Int} (hx1 : g32 x1)  (T : ((0 : Int) ≤ (0 : Int) ∧ (0 : Int) < 400) ∧ (cV l G y_Or_meet (gRm d) true [gR G (c + 1047), gI x1] X (gUp M (c + 1055) (Int.toNat 0) x1) (fun M1 => (wp l G y_Or_search (gRm (d + 1)) true (kkV X k) true 17 [.val (gR G (c + 1047)), .unset, .val (gI 1), .val (gI 160800), .unset, .unset] [] X M1 0 0)))) : wp l G y_Or_search (gRm (d + 1)) true (kkV X k) false 0 [.val (gR G (c + 1047)), .val (gI x1), .unset, .unset, .unset, .unset] [] X M 0 0 := by
  refine wp_iconst d_Or_search_0 ?_
  refine wp_istore_n (L' := [.val (gR G (c + 1047)), .val (gI x1), .val (gI 1), .unset, .unset, .unset]) d_Or_search_1 rfl (by decide) rfl ?_
  refine wp_aload_n d_Or_search_2 rfl rfl (g_nz (gl_1 hX 1047)) ?_
  refine xgetR d_Or_search_3 gc_Or f_Or_35.1 f_Or_35.2.1 f_Or_35.2.2.1 (gl_1 hX 1047) (gl_2 hX (a := 1047) (by decide)) (gl_s hX 27 rfl) f_Or_35.2.2.2.2.1 (gl_f hX 38 rfl) ?_
  refine wp_iconst d_Or_search_6 ?_
  refine wp_iload_n d_Or_search_7 rfl rfl ?_
  refine xiast d_Or_search_8 (gl_1 hX 1055) (gl_2 hX (a := 1055) (by decide)) (gl_s hX 35 rfl) (by decide) T.1 (w32_id hx1) ?_
  have T := T.2
  refine wp_aload_n d_Or_search_9 rfl rfl (g_nz (gl_1 hX 1047)) ?_
  refine wp_iload_n d_Or_search_10 rfl rfl ?_
  refine xcV_V (md' := true) (As := [gI x1]) (st := []) d_Or_search_11 ca_Or_meet ml_Or_102 im_Or_meet se_Or_meet gc_Or (gl_1 hX 1047) (gl_2 hX (a := 1047) (by decide)) (gl_s hX 27 rfl) rfl (by decide) (by decide) rfl (fun _ => rfl) (fun _ => rfl) T (fun M1 T => ?_)
  refine wp_ldc (n := 160800) d_Or_search_14 c_Or_105 rfl ?_
  refine wp_istore_n (L' := [.val (gR G (c + 1047)), .val (gI x1), .val (gI 1), .val (gI 160800), .unset, .unset]) d_Or_search_16 rfl (by decide) rfl ?_
  exact wp_md (wpt T (And.intro rfl (And.intro rfl (And.intro rfl True.intro))))
set_option maxHeartbeats 4000000 in
theorem w_Or_search_17 {l : Launch} {G : gG} {d : Nat} {X : gX} {M : gM} {k : gM → Prop} {c : Nat} (hX : glX X c) {x2 : Int} (hx2 : g32 x2) {x3 : Int} (hx3 : g32 x3)  (T : (x3 ≤ 0 → (k M)) ∧ (¬ x3 ≤ 0 → ((x2 ≤ 0 → (k M)) ∧ (¬ x2 ≤ 0 → (((0 : Int) ≤ x2 - 1 ∧ x2 - 1 < 400) ∧ (g32 (M (c + 1055) (Int.toNat (x2 - 1))) → (cI l G y_Or_takeRead (gRm d) true [gR G (c + 1047), gI (M (c + 1055) (Int.toNat (x2 - 1)))] X M (fun v4 M3 => ((¬ v4 = 400 → (((0 : Int) ≤ v4 ∧ v4 < 400) ∧ (g32 (M3 (c + 1051) (Int.toNat v4)) → ((¬ M3 (c + 1051) (Int.toNat v4) = 0 → (((0 : Int) ≤ v4 ∧ v4 < 400) ∧ ((0 ≤ M3 (c + 1054) (Int.toNat v4) ∧ M3 (c + 1054) (Int.toNat v4) ≤ 1) → ((M3 (c + 1054) (Int.toNat v4) = 0 → (wp l G y_Or_search (gRm (d + 1)) true (kkV X k) true 17 [.val (gR G (c + 1047)), .unset, .val (gI x2), .val (gI (w32 (x3 + (-1)))), .unset, .unset] [] X M3 0 0)) ∧ (¬ M3 (c + 1054) (Int.toNat v4) = 0 → (((0 : Int) ≤ v4 ∧ v4 < 400) ∧ (g32 (M3 (c + 1051) (Int.toNat v4)) → (cV l G y_Or_leadBack (gRm d) true [gR G (c + 1047), gI (M (c + 1055) (Int.toNat (x2 - 1))), gI (M3 (c + 1051) (Int.toNat v4))] X M3 (fun M9 => (wp l G y_Or_search (gRm (d + 1)) true (kkV X k) true 17 [.val (gR G (c + 1047)), .unset, .val (gI x2), .val (gI (w32 (x3 + (-1)))), .unset, .unset] [] X M9 0 0)))))))))) ∧ (M3 (c + 1051) (Int.toNat v4) = 0 → (cV l G y_Or_meet (gRm d) true [gR G (c + 1047), gI v4] X M3 (fun M11 => (((0 : Int) ≤ x2 ∧ x2 < 400) ∧ (wp l G y_Or_search (gRm (d + 1)) true (kkV X k) true 17 [.val (gR G (c + 1047)), .unset, .val (gI (w32 (x2 + 1))), .val (gI (w32 (x3 + (-1)))), .unset, .unset] [] X (gUp M11 (c + 1055) (Int.toNat x2) v4) 0 0))))))))) ∧ (v4 = 400 → (cV l G y_Or_leave (gRm d) true [gR G (c + 1047), gI (M (c + 1055) (Int.toNat (x2 - 1)))] X M3 (fun M13 => (((w32 (x2 + (-1))) ≤ 0 → (wp l G y_Or_search (gRm (d + 1)) true (kkV X k) true 17 [.val (gR G (c + 1047)), .unset, .val (gI (w32 (x2 + (-1)))), .val (gI (w32 (x3 + (-1)))), .unset, .unset] [] X M13 0 0)) ∧ (¬ (w32 (x2 + (-1))) ≤ 0 → (((0 : Int) ≤ (x2 + (-1)) - 1 ∧ (x2 + (-1)) - 1 < 400) ∧ (g32 (M13 (c + 1055) (Int.toNat ((x2 + (-1)) - 1))) → (((0 : Int) ≤ M (c + 1055) (Int.toNat (x2 - 1)) ∧ M (c + 1055) (Int.toNat (x2 - 1)) < 400) ∧ (g32 (M13 (c + 1052) (Int.toNat (M (c + 1055) (Int.toNat (x2 - 1))))) → (cV l G y_Or_leadBack (gRm d) true [gR G (c + 1047), gI (M13 (c + 1055) (Int.toNat ((x2 + (-1)) - 1))), gI (M13 (c + 1052) (Int.toNat (M (c + 1055) (Int.toNat (x2 - 1)))))] X M13 (fun M16 => (wp l G y_Or_search (gRm (d + 1)) true (kkV X k) true 17 [.val (gR G (c + 1047)), .unset, .val (gI (w32 (x2 + (-1)))), .val (gI (w32 (x3 + (-1)))), .unset, .unset] [] X M16 0 0))))))))))))))))))))) : wp l G y_Or_search (gRm (d + 1)) true (kkV X k) true 17 [.val (gR G (c + 1047)), .unset, .val (gI x2), .val (gI x3), .unset, .unset] [] X M 0 0 := by
  refine wp_iload_n d_Or_search_17 rfl rfl ?_
  refine xz_le (tgt := 145) d_Or_search_18 (by decide) (w32_id hx3) (fun h20 => ?_) (fun h20 => ?_)
  · have T := T.1 h20
    exact wp_return d_Or_search_145 rfl (fun _ => rfl) (Nat.zero_le _) (Nat.zero_le _) (kV_mk T)
  · have T := T.2 h20
    refine wp_iload_n d_Or_search_21 rfl rfl ?_
    refine xz_le (tgt := 145) d_Or_search_22 (by decide) (w32_id hx2) (fun h19 => ?_) (fun h19 => ?_)
    · have T := T.1 h19
      exact wp_return d_Or_search_145 rfl (fun _ => rfl) (Nat.zero_le _) (Nat.zero_le _) (kV_mk T)
    · have T := T.2 h19
      refine wp_aload_n d_Or_search_25 rfl rfl (g_nz (gl_1 hX 1047)) ?_
      refine xgetR d_Or_search_26 gc_Or f_Or_35.1 f_Or_35.2.1 f_Or_35.2.2.1 (gl_1 hX 1047) (gl_2 hX (a := 1047) (by decide)) (gl_s hX 27 rfl) f_Or_35.2.2.2.2.1 (gl_f hX 38 rfl) ?_
      refine wp_iload_n d_Or_search_29 rfl rfl ?_
      refine wp_iconst d_Or_search_30 ?_
      refine wp_isub d_Or_search_31 ?_
      refine wp_iaload d_Or_search_32 (gl_1 hX 1055) (gl_2 hX (a := 1055) (by decide)) (gl_s hX 35 rfl) (g32_n T.1 (by decide)) T.1.1 T.1.2 (fun h2 => ?_)
      have T := T.2 h2
      refine wp_istore (L' := [.val (gR G (c + 1047)), .unset, .val (gI x2), .val (gI x3), .val (gI (M (c + 1055) (Int.toNat (x2 - 1)))), .unset]) d_Or_search_33 (by decide) rfl ?_
      refine wp_aload_n d_Or_search_35 rfl rfl (g_nz (gl_1 hX 1047)) ?_
      refine wp_iload d_Or_search_36 rfl ?_
      refine xcV_I (md' := true) (As := [gI (M (c + 1055) (Int.toNat (x2 - 1)))]) (st := []) d_Or_search_38 ca_Or_takeRead ml_Or_106 im_Or_takeRead se_Or_takeRead gc_Or (gl_1 hX 1047) (gl_2 hX (a := 1047) (by decide)) (gl_s hX 27 rfl) rfl (by decide) (by decide) rfl (fun _ => rfl) (fun _ => rfl) T (fun v4 M3 h5 T => ?_)
      refine wp_istore (L' := [.val (gR G (c + 1047)), .unset, .val (gI x2), .val (gI x3), .val (gI (M (c + 1055) (Int.toNat (x2 - 1)))), .val (gI v4)]) d_Or_search_41 (by decide) rfl ?_
      refine wp_iload d_Or_search_43 rfl ?_
      refine wp_sipush d_Or_search_45 ⟨by decide, by decide⟩ ?_
      refine xi_ne (tgt := 86) d_Or_search_48 (by decide) (w32_id h5) (w32_id (g32_c (x := 400) rfl)) (fun h18 => ?_) (fun h18 => ?_)
      · have T := T.1 h18
        refine wp_aload_n d_Or_search_86 rfl rfl (g_nz (gl_1 hX 1047)) ?_
        refine xgetR d_Or_search_87 gc_Or f_Or_23.1 f_Or_23.2.1 f_Or_23.2.2.1 (gl_1 hX 1047) (gl_2 hX (a := 1047) (by decide)) (gl_s hX 27 rfl) f_Or_23.2.2.2.2.1 (gl_f hX 34 rfl) ?_
        refine wp_iload d_Or_search_90 rfl ?_
        refine wp_iaload d_Or_search_92 (gl_1 hX 1051) (gl_2 hX (a := 1051) (by decide)) (gl_s hX 31 rfl) (g32_n T.1 (by decide)) T.1.1 T.1.2 (fun h6 => ?_)
        have T := T.2 h6
        refine xz_ne (tgt := 116) d_Or_search_93 (by decide) (w32_id h6) (fun h12 => ?_) (fun h12 => ?_)
        · have T := T.1 h12
          refine wp_aload_n d_Or_search_116 rfl rfl (g_nz (gl_1 hX 1047)) ?_
          refine xgetR d_Or_search_117 gc_Or f_Or_32.1 f_Or_32.2.1 f_Or_32.2.2.1 (gl_1 hX 1047) (gl_2 hX (a := 1047) (by decide)) (gl_s hX 27 rfl) f_Or_32.2.2.2.2.1 (gl_f hX 37 rfl) ?_
          refine wp_iload d_Or_search_120 rfl ?_
          refine wp_zaload d_Or_search_122 (gl_1 hX 1054) (gl_2 hX (a := 1054) (by decide)) (gl_s hX 34 rfl) (g32_n T.1 (by decide)) T.1.1 T.1.2 (fun h7 => ?_)
          have T := T.2 h7
          refine xz_eq (tgt := 139) d_Or_search_123 (by decide) (w32_id (g32_z h7)) (fun h10 => ?_) (fun h10 => ?_)
          · have T := T.1 h10
            refine wp_iinc (L' := [.val (gR G (c + 1047)), .unset, .val (gI x2), .val (gI (x3 + (-1))), .val (gI (M (c + 1055) (Int.toNat (x2 - 1)))), .val (gI v4)]) d_Or_search_139 rfl (by decide) rfl ?_
            refine wp_goto (tgt := 17) d_Or_search_142 (by decide) ?_
            exact wp_md (wpt T (And.intro rfl (And.intro rfl (And.intro (gI_w _) True.intro))))
          · have T := T.2 h10
            refine wp_aload_n d_Or_search_126 rfl rfl (g_nz (gl_1 hX 1047)) ?_
            refine wp_iload d_Or_search_127 rfl ?_
            refine wp_aload_n d_Or_search_129 rfl rfl (g_nz (gl_1 hX 1047)) ?_
            refine xgetR d_Or_search_130 gc_Or f_Or_23.1 f_Or_23.2.1 f_Or_23.2.2.1 (gl_1 hX 1047) (gl_2 hX (a := 1047) (by decide)) (gl_s hX 27 rfl) f_Or_23.2.2.2.2.1 (gl_f hX 34 rfl) ?_
            refine wp_iload d_Or_search_133 rfl ?_
            refine wp_iaload d_Or_search_135 (gl_1 hX 1051) (gl_2 hX (a := 1051) (by decide)) (gl_s hX 31 rfl) (g32_n T.1 (by decide)) T.1.1 T.1.2 (fun h8 => ?_)
            have T := T.2 h8
            refine xcV_V (md' := true) (As := [gI (M (c + 1055) (Int.toNat (x2 - 1))), gI (M3 (c + 1051) (Int.toNat v4))]) (st := []) d_Or_search_136 ca_Or_leadBack ml_Or_113 im_Or_leadBack se_Or_leadBack gc_Or (gl_1 hX 1047) (gl_2 hX (a := 1047) (by decide)) (gl_s hX 27 rfl) rfl (by decide) (by decide) rfl (fun _ => rfl) (fun _ => rfl) T (fun M9 T => ?_)
            refine wp_iinc (L' := [.val (gR G (c + 1047)), .unset, .val (gI x2), .val (gI (x3 + (-1))), .val (gI (M (c + 1055) (Int.toNat (x2 - 1)))), .val (gI v4)]) d_Or_search_139 rfl (by decide) rfl ?_
            refine wp_goto (tgt := 17) d_Or_search_142 (by decide) ?_
            exact wp_md (wpt T (And.intro rfl (And.intro rfl (And.intro (gI_w _) True.intro))))
        · have T := T.2 h12
          refine wp_aload_n d_Or_search_96 rfl rfl (g_nz (gl_1 hX 1047)) ?_
          refine wp_iload d_Or_search_97 rfl ?_
          refine xcV_V (md' := true) (As := [gI v4]) (st := []) d_Or_search_99 ca_Or_meet ml_Or_102 im_Or_meet se_Or_meet gc_Or (gl_1 hX 1047) (gl_2 hX (a := 1047) (by decide)) (gl_s hX 27 rfl) rfl (by decide) (by decide) rfl (fun _ => rfl) (fun _ => rfl) T (fun M11 T => ?_)
          refine wp_aload_n d_Or_search_102 rfl rfl (g_nz (gl_1 hX 1047)) ?_
          refine xgetR d_Or_search_103 gc_Or f_Or_35.1 f_Or_35.2.1 f_Or_35.2.2.1 (gl_1 hX 1047) (gl_2 hX (a := 1047) (by decide)) (gl_s hX 27 rfl) f_Or_35.2.2.2.2.1 (gl_f hX 38 rfl) ?_
          refine wp_iload_n d_Or_search_106 rfl rfl ?_
          refine wp_iload d_Or_search_107 rfl ?_
          refine xiast d_Or_search_109 (gl_1 hX 1055) (gl_2 hX (a := 1055) (by decide)) (gl_s hX 35 rfl) (by decide) T.1 (w32_id h5) ?_
          have T := T.2
          refine wp_iinc (L' := [.val (gR G (c + 1047)), .unset, .val (gI (x2 + 1)), .val (gI x3), .val (gI (M (c + 1055) (Int.toNat (x2 - 1)))), .val (gI v4)]) d_Or_search_110 rfl (by decide) rfl ?_
          refine wp_goto (tgt := 139) d_Or_search_113 (by decide) ?_
          refine wp_iinc (L' := [.val (gR G (c + 1047)), .unset, .val (gI (x2 + 1)), .val (gI (x3 + (-1))), .val (gI (M (c + 1055) (Int.toNat (x2 - 1)))), .val (gI v4)]) d_Or_search_139 rfl (by decide) rfl ?_
          refine wp_goto (tgt := 17) d_Or_search_142 (by decide) ?_
          exact wp_md (wpt T (And.intro rfl (And.intro (gI_w _) (And.intro (gI_w _) True.intro))))
      · have T := T.2 h18
        refine wp_aload_n d_Or_search_51 rfl rfl (g_nz (gl_1 hX 1047)) ?_
        refine wp_iload d_Or_search_52 rfl ?_
        refine xcV_V (md' := true) (As := [gI (M (c + 1055) (Int.toNat (x2 - 1)))]) (st := []) d_Or_search_54 ca_Or_leave ml_Or_110 im_Or_leave se_Or_leave gc_Or (gl_1 hX 1047) (gl_2 hX (a := 1047) (by decide)) (gl_s hX 27 rfl) rfl (by decide) (by decide) rfl (fun _ => rfl) (fun _ => rfl) T (fun M13 T => ?_)
        refine wp_iinc (L' := [.val (gR G (c + 1047)), .unset, .val (gI (x2 + (-1))), .val (gI x3), .val (gI (M (c + 1055) (Int.toNat (x2 - 1)))), .val (gI v4)]) d_Or_search_57 rfl (by decide) rfl ?_
        refine wp_iload_n d_Or_search_60 rfl rfl ?_
        refine xz_le (tgt := 139) d_Or_search_61 (by decide) rfl (fun h17 => ?_) (fun h17 => ?_)
        · have T := T.1 h17
          refine wp_iinc (L' := [.val (gR G (c + 1047)), .unset, .val (gI (x2 + (-1))), .val (gI (x3 + (-1))), .val (gI (M (c + 1055) (Int.toNat (x2 - 1)))), .val (gI v4)]) d_Or_search_139 rfl (by decide) rfl ?_
          refine wp_goto (tgt := 17) d_Or_search_142 (by decide) ?_
          exact wp_md (wpt T (And.intro rfl (And.intro (gI_w _) (And.intro (gI_w _) True.intro))))
        · have T := T.2 h17
          refine wp_aload_n d_Or_search_64 rfl rfl (g_nz (gl_1 hX 1047)) ?_
          refine wp_aload_n d_Or_search_65 rfl rfl (g_nz (gl_1 hX 1047)) ?_
          refine xgetR d_Or_search_66 gc_Or f_Or_35.1 f_Or_35.2.1 f_Or_35.2.2.1 (gl_1 hX 1047) (gl_2 hX (a := 1047) (by decide)) (gl_s hX 27 rfl) f_Or_35.2.2.2.2.1 (gl_f hX 38 rfl) ?_
          refine wp_iload_n d_Or_search_69 rfl rfl ?_
          refine wp_iconst d_Or_search_70 ?_
          refine wp_isub d_Or_search_71 ?_
          refine wp_iaload d_Or_search_72 (gl_1 hX 1055) (gl_2 hX (a := 1055) (by decide)) (gl_s hX 35 rfl) (g32_n T.1 (by decide)) T.1.1 T.1.2 (fun h14 => ?_)
          have T := T.2 h14
          refine wp_aload_n d_Or_search_73 rfl rfl (g_nz (gl_1 hX 1047)) ?_
          refine xgetR d_Or_search_74 gc_Or f_Or_26.1 f_Or_26.2.1 f_Or_26.2.2.1 (gl_1 hX 1047) (gl_2 hX (a := 1047) (by decide)) (gl_s hX 27 rfl) f_Or_26.2.2.2.2.1 (gl_f hX 35 rfl) ?_
          refine wp_iload d_Or_search_77 rfl ?_
          refine wp_iaload d_Or_search_79 (gl_1 hX 1052) (gl_2 hX (a := 1052) (by decide)) (gl_s hX 32 rfl) (g32_n T.1 (by decide)) T.1.1 T.1.2 (fun h15 => ?_)
          have T := T.2 h15
          refine xcV_V (md' := true) (As := [gI (M13 (c + 1055) (Int.toNat ((x2 + (-1)) - 1))), gI (M13 (c + 1052) (Int.toNat (M (c + 1055) (Int.toNat (x2 - 1)))))]) (st := []) d_Or_search_80 ca_Or_leadBack ml_Or_113 im_Or_leadBack se_Or_leadBack gc_Or (gl_1 hX 1047) (gl_2 hX (a := 1047) (by decide)) (gl_s hX 27 rfl) rfl (by decide) (by decide) rfl (fun _ => rfl) (fun _ => rfl) T (fun M16 T => ?_)
          refine wp_goto (tgt := 139) d_Or_search_83 (by decide) ?_
          refine wp_iinc (L' := [.val (gR G (c + 1047)), .unset, .val (gI (x2 + (-1))), .val (gI (x3 + (-1))), .val (gI (M (c + 1055) (Int.toNat (x2 - 1)))), .val (gI v4)]) d_Or_search_139 rfl (by decide) rfl ?_
          refine wp_goto (tgt := 17) d_Or_search_142 (by decide) ?_
          exact wp_md (wpt T (And.intro rfl (And.intro (gI_w _) (And.intro (gI_w _) True.intro))))
theorem e_Or_search {l : Launch} {G : gG} {d : Nat} {X : gX} {M : gM} {k : gM → Prop} {c : Nat} {x1 : Int} (T : wp l G y_Or_search (gRm (d + 1)) true (kkV X k) false 0 [.val (gR G (c + 1047)), .val (gI x1), .unset, .unset, .unset, .unset] [] X M 0 0) : cV l G y_Or_search (gRm (d + 1)) true [gR G (c + 1047), gI x1] X M k := cen_V (plainFor_of_name rfl) (by simp only [lg_sl_R, lg_sl_I, lg_sl_L, lg_sl_N, List.length_cons, List.length_nil]; decide) (by unfold gEn; simp only [lg_sl_R, lg_sl_I, lg_sl_L, lg_sl_N]; exact wpt T (And.intro rfl (And.intro rfl True.intro)))
theorem d_Or_meet_0 : decode prog_7_method_7_code 0 = .ok (.aload_n 0, 1) := by decide +kernel
theorem d_Or_meet_1 : decode prog_7_method_7_code 1 = .ok (.dup, 1) := by decide +kernel
theorem d_Or_meet_2 : decode prog_7_method_7_code 2 = .ok (.getfield 55, 3) := by decide +kernel
theorem d_Or_meet_5 : decode prog_7_method_7_code 5 = .ok (.iconst 1, 1) := by decide +kernel
theorem d_Or_meet_6 : decode prog_7_method_7_code 6 = .ok (.iadd, 1) := by decide +kernel
theorem d_Or_meet_7 : decode prog_7_method_7_code 7 = .ok (.putfield 55, 3) := by decide +kernel
theorem d_Or_meet_10 : decode prog_7_method_7_code 10 = .ok (.aload_n 0, 1) := by decide +kernel
theorem d_Or_meet_11 : decode prog_7_method_7_code 11 = .ok (.getfield 23, 3) := by decide +kernel
theorem d_Or_meet_14 : decode prog_7_method_7_code 14 = .ok (.iload_n 1, 1) := by decide +kernel
theorem d_Or_meet_15 : decode prog_7_method_7_code 15 = .ok (.aload_n 0, 1) := by decide +kernel
theorem d_Or_meet_16 : decode prog_7_method_7_code 16 = .ok (.getfield 55, 3) := by decide +kernel
theorem d_Or_meet_19 : decode prog_7_method_7_code 19 = .ok (.iastore, 1) := by decide +kernel
theorem d_Or_meet_20 : decode prog_7_method_7_code 20 = .ok (.aload_n 0, 1) := by decide +kernel
theorem d_Or_meet_21 : decode prog_7_method_7_code 21 = .ok (.getfield 26, 3) := by decide +kernel
theorem d_Or_meet_24 : decode prog_7_method_7_code 24 = .ok (.iload_n 1, 1) := by decide +kernel
theorem d_Or_meet_25 : decode prog_7_method_7_code 25 = .ok (.aload_n 0, 1) := by decide +kernel
theorem d_Or_meet_26 : decode prog_7_method_7_code 26 = .ok (.getfield 55, 3) := by decide +kernel
theorem d_Or_meet_29 : decode prog_7_method_7_code 29 = .ok (.iastore, 1) := by decide +kernel
theorem d_Or_meet_30 : decode prog_7_method_7_code 30 = .ok (.aload_n 0, 1) := by decide +kernel
theorem d_Or_meet_31 : decode prog_7_method_7_code 31 = .ok (.getfield 38, 3) := by decide +kernel
theorem d_Or_meet_34 : decode prog_7_method_7_code 34 = .ok (.iload_n 1, 1) := by decide +kernel
theorem d_Or_meet_35 : decode prog_7_method_7_code 35 = .ok (.iconst 0, 1) := by decide +kernel
theorem d_Or_meet_36 : decode prog_7_method_7_code 36 = .ok (.iastore, 1) := by decide +kernel
theorem d_Or_meet_37 : decode prog_7_method_7_code 37 = .ok (.aload_n 0, 1) := by decide +kernel
theorem d_Or_meet_38 : decode prog_7_method_7_code 38 = .ok (.getfield 29, 3) := by decide +kernel
theorem d_Or_meet_41 : decode prog_7_method_7_code 41 = .ok (.aload_n 0, 1) := by decide +kernel
theorem d_Or_meet_42 : decode prog_7_method_7_code 42 = .ok (.getfield 116, 3) := by decide +kernel
theorem d_Or_meet_45 : decode prog_7_method_7_code 45 = .ok (.iload_n 1, 1) := by decide +kernel
theorem d_Or_meet_46 : decode prog_7_method_7_code 46 = .ok (.iastore, 1) := by decide +kernel
theorem d_Or_meet_47 : decode prog_7_method_7_code 47 = .ok (.aload_n 0, 1) := by decide +kernel
theorem d_Or_meet_48 : decode prog_7_method_7_code 48 = .ok (.getfield 32, 3) := by decide +kernel
theorem d_Or_meet_51 : decode prog_7_method_7_code 51 = .ok (.iload_n 1, 1) := by decide +kernel
theorem d_Or_meet_52 : decode prog_7_method_7_code 52 = .ok (.iconst 1, 1) := by decide +kernel
theorem d_Or_meet_53 : decode prog_7_method_7_code 53 = .ok (.bastore, 1) := by decide +kernel
theorem d_Or_meet_54 : decode prog_7_method_7_code 54 = .ok (.aload_n 0, 1) := by decide +kernel
theorem d_Or_meet_55 : decode prog_7_method_7_code 55 = .ok (.dup, 1) := by decide +kernel
theorem d_Or_meet_56 : decode prog_7_method_7_code 56 = .ok (.getfield 116, 3) := by decide +kernel
theorem d_Or_meet_59 : decode prog_7_method_7_code 59 = .ok (.iconst 1, 1) := by decide +kernel
theorem d_Or_meet_60 : decode prog_7_method_7_code 60 = .ok (.iadd, 1) := by decide +kernel
theorem d_Or_meet_61 : decode prog_7_method_7_code 61 = .ok (.putfield 116, 3) := by decide +kernel
theorem d_Or_meet_64 : decode prog_7_method_7_code 64 = .ok (.return_, 1) := by decide +kernel
set_option maxHeartbeats 4000000 in
theorem w_Or_meet_0 {l : Launch} {G : gG} {d : Nat} {X : gX} {M : gM} {k : gM → Prop} {c : Nat} (hX : glX X c) {x1 : Int} (hx1 : g32 x1)  (T : g32 (M (c + 1047) 10) → (g32 ((gUp M (c + 1047) 10 (w32 ((M (c + 1047) 10) + 1))) (c + 1047) 10) → (((0 : Int) ≤ x1 ∧ x1 < 400) ∧ (g32 ((gUp (gUp M (c + 1047) 10 (w32 ((M (c + 1047) 10) + 1))) (c + 1051) (Int.toNat x1) ((gUp M (c + 1047) 10 (w32 ((M (c + 1047) 10) + 1))) (c + 1047) 10)) (c + 1047) 10) → (((0 : Int) ≤ x1 ∧ x1 < 400) ∧ (((0 : Int) ≤ x1 ∧ x1 < 400) ∧ (g32 ((gUp (gUp (gUp (gUp M (c + 1047) 10 (w32 ((M (c + 1047) 10) + 1))) (c + 1051) (Int.toNat x1) ((gUp M (c + 1047) 10 (w32 ((M (c + 1047) 10) + 1))) (c + 1047) 10)) (c + 1052) (Int.toNat x1) ((gUp (gUp M (c + 1047) 10 (w32 ((M (c + 1047) 10) + 1))) (c + 1051) (Int.toNat x1) ((gUp M (c + 1047) 10 (w32 ((M (c + 1047) 10) + 1))) (c + 1047) 10)) (c + 1047) 10)) (c + 1056) (Int.toNat x1) 0) (c + 1047) 11) → (((0 : Int) ≤ (gUp (gUp (gUp (gUp M (c + 1047) 10 (w32 ((M (c + 1047) 10) + 1))) (c + 1051) (Int.toNat x1) ((gUp M (c + 1047) 10 (w32 ((M (c + 1047) 10) + 1))) (c + 1047) 10)) (c + 1052) (Int.toNat x1) ((gUp (gUp M (c + 1047) 10 (w32 ((M (c + 1047) 10) + 1))) (c + 1051) (Int.toNat x1) ((gUp M (c + 1047) 10 (w32 ((M (c + 1047) 10) + 1))) (c + 1047) 10)) (c + 1047) 10)) (c + 1056) (Int.toNat x1) 0) (c + 1047) 11 ∧ (gUp (gUp (gUp (gUp M (c + 1047) 10 (w32 ((M (c + 1047) 10) + 1))) (c + 1051) (Int.toNat x1) ((gUp M (c + 1047) 10 (w32 ((M (c + 1047) 10) + 1))) (c + 1047) 10)) (c + 1052) (Int.toNat x1) ((gUp (gUp M (c + 1047) 10 (w32 ((M (c + 1047) 10) + 1))) (c + 1051) (Int.toNat x1) ((gUp M (c + 1047) 10 (w32 ((M (c + 1047) 10) + 1))) (c + 1047) 10)) (c + 1047) 10)) (c + 1056) (Int.toNat x1) 0) (c + 1047) 11 < 400) ∧ (((0 : Int) ≤ x1 ∧ x1 < 400) ∧ (g32 ((gUp (gUp (gUp (gUp (gUp (gUp M (c + 1047) 10 (w32 ((M (c + 1047) 10) + 1))) (c + 1051) (Int.toNat x1) ((gUp M (c + 1047) 10 (w32 ((M (c + 1047) 10) + 1))) (c + 1047) 10)) (c + 1052) (Int.toNat x1) ((gUp (gUp M (c + 1047) 10 (w32 ((M (c + 1047) 10) + 1))) (c + 1051) (Int.toNat x1) ((gUp M (c + 1047) 10 (w32 ((M (c + 1047) 10) + 1))) (c + 1047) 10)) (c + 1047) 10)) (c + 1056) (Int.toNat x1) 0) (c + 1053) (Int.toNat ((gUp (gUp (gUp (gUp M (c + 1047) 10 (w32 ((M (c + 1047) 10) + 1))) (c + 1051) (Int.toNat x1) ((gUp M (c + 1047) 10 (w32 ((M (c + 1047) 10) + 1))) (c + 1047) 10)) (c + 1052) (Int.toNat x1) ((gUp (gUp M (c + 1047) 10 (w32 ((M (c + 1047) 10) + 1))) (c + 1051) (Int.toNat x1) ((gUp M (c + 1047) 10 (w32 ((M (c + 1047) 10) + 1))) (c + 1047) 10)) (c + 1047) 10)) (c + 1056) (Int.toNat x1) 0) (c + 1047) 11)) x1) (c + 1054) (Int.toNat x1) 1) (c + 1047) 11) → (k (gUp (gUp (gUp (gUp (gUp (gUp (gUp M (c + 1047) 10 (w32 ((M (c + 1047) 10) + 1))) (c + 1051) (Int.toNat x1) ((gUp M (c + 1047) 10 (w32 ((M (c + 1047) 10) + 1))) (c + 1047) 10)) (c + 1052) (Int.toNat x1) ((gUp (gUp M (c + 1047) 10 (w32 ((M (c + 1047) 10) + 1))) (c + 1051) (Int.toNat x1) ((gUp M (c + 1047) 10 (w32 ((M (c + 1047) 10) + 1))) (c + 1047) 10)) (c + 1047) 10)) (c + 1056) (Int.toNat x1) 0) (c + 1053) (Int.toNat ((gUp (gUp (gUp (gUp M (c + 1047) 10 (w32 ((M (c + 1047) 10) + 1))) (c + 1051) (Int.toNat x1) ((gUp M (c + 1047) 10 (w32 ((M (c + 1047) 10) + 1))) (c + 1047) 10)) (c + 1052) (Int.toNat x1) ((gUp (gUp M (c + 1047) 10 (w32 ((M (c + 1047) 10) + 1))) (c + 1051) (Int.toNat x1) ((gUp M (c + 1047) 10 (w32 ((M (c + 1047) 10) + 1))) (c + 1047) 10)) (c + 1047) 10)) (c + 1056) (Int.toNat x1) 0) (c + 1047) 11)) x1) (c + 1054) (Int.toNat x1) 1) (c + 1047) 11 (w32 (((gUp (gUp (gUp (gUp (gUp (gUp M (c + 1047) 10 (w32 ((M (c + 1047) 10) + 1))) (c + 1051) (Int.toNat x1) ((gUp M (c + 1047) 10 (w32 ((M (c + 1047) 10) + 1))) (c + 1047) 10)) (c + 1052) (Int.toNat x1) ((gUp (gUp M (c + 1047) 10 (w32 ((M (c + 1047) 10) + 1))) (c + 1051) (Int.toNat x1) ((gUp M (c + 1047) 10 (w32 ((M (c + 1047) 10) + 1))) (c + 1047) 10)) (c + 1047) 10)) (c + 1056) (Int.toNat x1) 0) (c + 1053) (Int.toNat ((gUp (gUp (gUp (gUp M (c + 1047) 10 (w32 ((M (c + 1047) 10) + 1))) (c + 1051) (Int.toNat x1) ((gUp M (c + 1047) 10 (w32 ((M (c + 1047) 10) + 1))) (c + 1047) 10)) (c + 1052) (Int.toNat x1) ((gUp (gUp M (c + 1047) 10 (w32 ((M (c + 1047) 10) + 1))) (c + 1051) (Int.toNat x1) ((gUp M (c + 1047) 10 (w32 ((M (c + 1047) 10) + 1))) (c + 1047) 10)) (c + 1047) 10)) (c + 1056) (Int.toNat x1) 0) (c + 1047) 11)) x1) (c + 1054) (Int.toNat x1) 1) (c + 1047) 11) + 1)))))))))))))) : wp l G y_Or_meet (gRm d) true (kkV X k) false 0 [.val (gR G (c + 1047)), .val (gI x1)] [] X M 0 0 := by
  refine wp_aload_n d_Or_meet_0 rfl rfl (g_nz (gl_1 hX 1047)) ?_
  refine wp_dup d_Or_meet_1 (gR_cat _) ?_
  refine xgetI d_Or_meet_2 gc_Or f_Or_55.1 f_Or_55.2.1 f_Or_55.2.2.1 (gl_1 hX 1047) (gl_2 hX (a := 1047) (by decide)) (gl_s hX 27 rfl) f_Or_55.2.2.2.2.1 (fun h1 => ?_)
  have T := T h1
  refine wp_iconst d_Or_meet_5 ?_
  refine wp_iadd d_Or_meet_6 ?_
  refine xputI d_Or_meet_7 gc_Or f_Or_55.1 f_Or_55.2.1 f_Or_55.2.2.1 (gl_1 hX 1047) (gl_2 hX (a := 1047) (by decide)) (gl_s hX 27 rfl) f_Or_55.2.2.2.1 f_Or_55.2.2.2.2.1 f_Or_55.2.2.2.2.2 rfl ?_
  refine wp_aload_n d_Or_meet_10 rfl rfl (g_nz (gl_1 hX 1047)) ?_
  refine xgetR d_Or_meet_11 gc_Or f_Or_23.1 f_Or_23.2.1 f_Or_23.2.2.1 (gl_1 hX 1047) (gl_2 hX (a := 1047) (by decide)) (gl_s hX 27 rfl) f_Or_23.2.2.2.2.1 (gl_f hX 34 rfl) ?_
  refine wp_iload_n d_Or_meet_14 rfl rfl ?_
  refine wp_aload_n d_Or_meet_15 rfl rfl (g_nz (gl_1 hX 1047)) ?_
  refine xgetI d_Or_meet_16 gc_Or f_Or_55.1 f_Or_55.2.1 f_Or_55.2.2.1 (gl_1 hX 1047) (gl_2 hX (a := 1047) (by decide)) (gl_s hX 27 rfl) f_Or_55.2.2.2.2.1 (fun h2 => ?_)
  have T := T h2
  refine xiast d_Or_meet_19 (gl_1 hX 1051) (gl_2 hX (a := 1051) (by decide)) (gl_s hX 31 rfl) (by decide) T.1 (w32_id h2) ?_
  have T := T.2
  refine wp_aload_n d_Or_meet_20 rfl rfl (g_nz (gl_1 hX 1047)) ?_
  refine xgetR d_Or_meet_21 gc_Or f_Or_26.1 f_Or_26.2.1 f_Or_26.2.2.1 (gl_1 hX 1047) (gl_2 hX (a := 1047) (by decide)) (gl_s hX 27 rfl) f_Or_26.2.2.2.2.1 (gl_f hX 35 rfl) ?_
  refine wp_iload_n d_Or_meet_24 rfl rfl ?_
  refine wp_aload_n d_Or_meet_25 rfl rfl (g_nz (gl_1 hX 1047)) ?_
  refine xgetI d_Or_meet_26 gc_Or f_Or_55.1 f_Or_55.2.1 f_Or_55.2.2.1 (gl_1 hX 1047) (gl_2 hX (a := 1047) (by decide)) (gl_s hX 27 rfl) f_Or_55.2.2.2.2.1 (fun h3 => ?_)
  have T := T h3
  refine xiast d_Or_meet_29 (gl_1 hX 1052) (gl_2 hX (a := 1052) (by decide)) (gl_s hX 32 rfl) (by decide) T.1 (w32_id h3) ?_
  have T := T.2
  refine wp_aload_n d_Or_meet_30 rfl rfl (g_nz (gl_1 hX 1047)) ?_
  refine xgetR d_Or_meet_31 gc_Or f_Or_38.1 f_Or_38.2.1 f_Or_38.2.2.1 (gl_1 hX 1047) (gl_2 hX (a := 1047) (by decide)) (gl_s hX 27 rfl) f_Or_38.2.2.2.2.1 (gl_f hX 39 rfl) ?_
  refine wp_iload_n d_Or_meet_34 rfl rfl ?_
  refine wp_iconst d_Or_meet_35 ?_
  refine xiast d_Or_meet_36 (gl_1 hX 1056) (gl_2 hX (a := 1056) (by decide)) (gl_s hX 36 rfl) (by decide) T.1 (w32_id (g32_c (x := 0) rfl)) ?_
  have T := T.2
  refine wp_aload_n d_Or_meet_37 rfl rfl (g_nz (gl_1 hX 1047)) ?_
  refine xgetR d_Or_meet_38 gc_Or f_Or_29.1 f_Or_29.2.1 f_Or_29.2.2.1 (gl_1 hX 1047) (gl_2 hX (a := 1047) (by decide)) (gl_s hX 27 rfl) f_Or_29.2.2.2.2.1 (gl_f hX 36 rfl) ?_
  refine wp_aload_n d_Or_meet_41 rfl rfl (g_nz (gl_1 hX 1047)) ?_
  refine xgetI d_Or_meet_42 gc_Or f_Or_116.1 f_Or_116.2.1 f_Or_116.2.2.1 (gl_1 hX 1047) (gl_2 hX (a := 1047) (by decide)) (gl_s hX 27 rfl) f_Or_116.2.2.2.2.1 (fun h4 => ?_)
  have T := T h4
  refine wp_iload_n d_Or_meet_45 rfl rfl ?_
  refine xiast d_Or_meet_46 (gl_1 hX 1053) (gl_2 hX (a := 1053) (by decide)) (gl_s hX 33 rfl) (by decide) T.1 (w32_id hx1) ?_
  have T := T.2
  refine wp_aload_n d_Or_meet_47 rfl rfl (g_nz (gl_1 hX 1047)) ?_
  refine xgetR d_Or_meet_48 gc_Or f_Or_32.1 f_Or_32.2.1 f_Or_32.2.2.1 (gl_1 hX 1047) (gl_2 hX (a := 1047) (by decide)) (gl_s hX 27 rfl) f_Or_32.2.2.2.2.1 (gl_f hX 37 rfl) ?_
  refine wp_iload_n d_Or_meet_51 rfl rfl ?_
  refine wp_iconst d_Or_meet_52 ?_
  refine xzast d_Or_meet_53 (gl_1 hX 1054) (gl_2 hX (a := 1054) (by decide)) (gl_s hX 34 rfl) (by decide) T.1 (⟨by decide, by decide⟩ : (0 : Int) ≤ 1 ∧ (1 : Int) ≤ 1) ?_
  have T := T.2
  refine wp_aload_n d_Or_meet_54 rfl rfl (g_nz (gl_1 hX 1047)) ?_
  refine wp_dup d_Or_meet_55 (gR_cat _) ?_
  refine xgetI d_Or_meet_56 gc_Or f_Or_116.1 f_Or_116.2.1 f_Or_116.2.2.1 (gl_1 hX 1047) (gl_2 hX (a := 1047) (by decide)) (gl_s hX 27 rfl) f_Or_116.2.2.2.2.1 (fun h5 => ?_)
  have T := T h5
  refine wp_iconst d_Or_meet_59 ?_
  refine wp_iadd d_Or_meet_60 ?_
  refine xputI d_Or_meet_61 gc_Or f_Or_116.1 f_Or_116.2.1 f_Or_116.2.2.1 (gl_1 hX 1047) (gl_2 hX (a := 1047) (by decide)) (gl_s hX 27 rfl) f_Or_116.2.2.2.1 f_Or_116.2.2.2.2.1 f_Or_116.2.2.2.2.2 rfl ?_
  exact wp_return d_Or_meet_64 rfl (fun _ => rfl) (Nat.zero_le _) (Nat.zero_le _) (kV_mk T)
theorem e_Or_meet {l : Launch} {G : gG} {d : Nat} {X : gX} {M : gM} {k : gM → Prop} {c : Nat} {x1 : Int} (T : wp l G y_Or_meet (gRm d) true (kkV X k) false 0 [.val (gR G (c + 1047)), .val (gI x1)] [] X M 0 0) : cV l G y_Or_meet (gRm d) true [gR G (c + 1047), gI x1] X M k := cen_V (plainFor_of_name rfl) (by simp only [lg_sl_R, lg_sl_I, lg_sl_L, lg_sl_N, List.length_cons, List.length_nil]; decide) (by unfold gEn; simp only [lg_sl_R, lg_sl_I, lg_sl_L, lg_sl_N]; exact wpt T (And.intro rfl (And.intro rfl True.intro)))
theorem d_Or_leadBack_0 : decode prog_7_method_8_code 0 = .ok (.aload_n 0, 1) := by decide +kernel
theorem d_Or_leadBack_1 : decode prog_7_method_8_code 1 = .ok (.getfield 26, 3) := by decide +kernel
theorem d_Or_leadBack_4 : decode prog_7_method_8_code 4 = .ok (.iload_n 1, 1) := by decide +kernel
theorem d_Or_leadBack_5 : decode prog_7_method_8_code 5 = .ok (.aload_n 0, 1) := by decide +kernel
theorem d_Or_leadBack_6 : decode prog_7_method_8_code 6 = .ok (.getfield 26, 3) := by decide +kernel
theorem d_Or_leadBack_9 : decode prog_7_method_8_code 9 = .ok (.iload_n 1, 1) := by decide +kernel
theorem d_Or_leadBack_10 : decode prog_7_method_8_code 10 = .ok (.iaload, 1) := by decide +kernel
theorem d_Or_leadBack_11 : decode prog_7_method_8_code 11 = .ok (.iload_n 2, 1) := by decide +kernel
theorem d_Or_leadBack_12 : decode prog_7_method_8_code 12 = .ok (.invokestatic 90, 3) := by decide +kernel
theorem d_Or_leadBack_15 : decode prog_7_method_8_code 15 = .ok (.iastore, 1) := by decide +kernel
theorem d_Or_leadBack_16 : decode prog_7_method_8_code 16 = .ok (.return_, 1) := by decide +kernel
set_option maxHeartbeats 4000000 in
theorem w_Or_leadBack_0 {l : Launch} {G : gG} {d : Nat} {X : gX} {M : gM} {k : gM → Prop} {c : Nat} (hX : glX X c) {x1 : Int} (hx1 : g32 x1) {x2 : Int} (hx2 : g32 x2)  (T : ((0 : Int) ≤ x1 ∧ x1 < 400) ∧ (g32 (M (c + 1052) (Int.toNat x1)) → (cI l G y_jMath_min (gRm d) false [gI (M (c + 1052) (Int.toNat x1)), gI x2] X M (fun v3 M2 => (((0 : Int) ≤ x1 ∧ x1 < 400) ∧ (k (gUp M2 (c + 1052) (Int.toNat x1) v3))))))) : wp l G y_Or_leadBack (gRm (d + 1)) true (kkV X k) false 0 [.val (gR G (c + 1047)), .val (gI x1), .val (gI x2)] [] X M 0 0 := by
  refine wp_aload_n d_Or_leadBack_0 rfl rfl (g_nz (gl_1 hX 1047)) ?_
  refine xgetR d_Or_leadBack_1 gc_Or f_Or_26.1 f_Or_26.2.1 f_Or_26.2.2.1 (gl_1 hX 1047) (gl_2 hX (a := 1047) (by decide)) (gl_s hX 27 rfl) f_Or_26.2.2.2.2.1 (gl_f hX 35 rfl) ?_
  refine wp_iload_n d_Or_leadBack_4 rfl rfl ?_
  refine wp_aload_n d_Or_leadBack_5 rfl rfl (g_nz (gl_1 hX 1047)) ?_
  refine xgetR d_Or_leadBack_6 gc_Or f_Or_26.1 f_Or_26.2.1 f_Or_26.2.2.1 (gl_1 hX 1047) (gl_2 hX (a := 1047) (by decide)) (gl_s hX 27 rfl) f_Or_26.2.2.2.2.1 (gl_f hX 35 rfl) ?_
  refine wp_iload_n d_Or_leadBack_9 rfl rfl ?_
  refine wp_iaload d_Or_leadBack_10 (gl_1 hX 1052) (gl_2 hX (a := 1052) (by decide)) (gl_s hX 32 rfl) (g32_n T.1 (by decide)) T.1.1 T.1.2 (fun h1 => ?_)
  have T := T.2 h1
  refine wp_iload_n d_Or_leadBack_11 rfl rfl ?_
  refine xcS_I (md' := false) (As := [gI (M (c + 1052) (Int.toNat x1)), gI x2]) (st := [gI x1, gR G (c + 1052)]) d_Or_leadBack_12 ca_jMath_min ml_Or_90 sm_jMath_min rfl (by decide) (by simp only [List.map, gR_cat, gI_cat, gL_cat, List.sum_cons, List.sum_nil]; decide) rfl id id T (fun v3 M2 h4 T => ?_)
  refine xiast d_Or_leadBack_15 (gl_1 hX 1052) (gl_2 hX (a := 1052) (by decide)) (gl_s hX 32 rfl) (by decide) T.1 (w32_id h4) ?_
  have T := T.2
  exact wp_return d_Or_leadBack_16 rfl (fun _ => rfl) (Nat.zero_le _) (Nat.zero_le _) (kV_mk T)
theorem e_Or_leadBack {l : Launch} {G : gG} {d : Nat} {X : gX} {M : gM} {k : gM → Prop} {c : Nat} {x1 : Int} {x2 : Int} (T : wp l G y_Or_leadBack (gRm (d + 1)) true (kkV X k) false 0 [.val (gR G (c + 1047)), .val (gI x1), .val (gI x2)] [] X M 0 0) : cV l G y_Or_leadBack (gRm (d + 1)) true [gR G (c + 1047), gI x1, gI x2] X M k := cen_V (plainFor_of_name rfl) (by simp only [lg_sl_R, lg_sl_I, lg_sl_L, lg_sl_N, List.length_cons, List.length_nil]; decide) (by unfold gEn; simp only [lg_sl_R, lg_sl_I, lg_sl_L, lg_sl_N]; exact wpt T (And.intro rfl (And.intro rfl (And.intro rfl True.intro))))
